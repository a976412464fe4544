/-! finite sums of naturals, stores of naturals -/
def mc_up (f : Nat → Nat) (k x : Nat) : Nat → Nat := fun j => if j = k then x else f j
theorem mc_us {f : Nat → Nat} {k x : Nat} : mc_up f k x k = x := if_pos rfl
theorem mc_un {f : Nat → Nat} {k j x : Nat} (h : j ≠ k) : mc_up f k x j = f j := if_neg h
theorem mc_upI (f : Nat → Nat) (k x : Nat) : upd (fun j => nI (f j)) k (nI x) = fun j => nI (mc_up f k x j) := by
  funext j
  by_cases h : j = k
  · rw [h, pk_us, mc_us]
  · rw [pk_un h, mc_un h]
def mc_sm (f : Nat → Nat) : Nat → Nat
  | 0 => 0
  | n + 1 => mc_sm f n + f n
theorem mc_sm_s (f : Nat → Nat) (n : Nat) : mc_sm f (n + 1) = mc_sm f n + f n := rfl
theorem mc_sm_congr {f g : Nat → Nat} : ∀ n, (∀ i, i < n → f i = g i) → mc_sm f n = mc_sm g n := by
  intro n
  induction n with
  | zero => intro _; rfl
  | succ n ih =>
    intro h
    rw [mc_sm_s, mc_sm_s, ih (fun i hi => h i (by omega)), h n (by omega)]
theorem mc_sm_le {f g : Nat → Nat} : ∀ n, (∀ i, i < n → f i ≤ g i) → mc_sm f n ≤ mc_sm g n := by
  intro n
  induction n with
  | zero => intro _; exact Nat.le_refl _
  | succ n ih =>
    intro h
    have h1 := ih (fun i hi => h i (by omega))
    have h2 := h n (by omega)
    rw [mc_sm_s, mc_sm_s]
    omega
theorem mc_sm_add (f g : Nat → Nat) : ∀ n, mc_sm (fun i => f i + g i) n = mc_sm f n + mc_sm g n := by
  intro n
  induction n with
  | zero => rfl
  | succ n ih =>
    rw [mc_sm_s, mc_sm_s, mc_sm_s, ih]
    omega
theorem mc_sm_c (c : Nat) : ∀ n, mc_sm (fun _ => c) n = c * n := by
  intro n
  induction n with
  | zero => rfl
  | succ n ih =>
    rw [mc_sm_s, ih, Nat.mul_succ]
theorem mc_sm_mul (c : Nat) (f : Nat → Nat) : ∀ n, mc_sm (fun i => c * f i) n = c * mc_sm f n := by
  intro n
  induction n with
  | zero => rfl
  | succ n ih =>
    rw [mc_sm_s, mc_sm_s, ih, Nat.mul_add]
theorem mc_sm_0 {f : Nat → Nat} (n : Nat) (h : ∀ i, i < n → f i = 0) : mc_sm f n = 0 := by
  rw [mc_sm_congr (g := fun _ => 0) n h, mc_sm_c, Nat.zero_mul]
theorem mc_sm_bd {f : Nat → Nat} (c n : Nat) (h : ∀ i, i < n → f i ≤ c) : mc_sm f n ≤ c * n := by
  rw [← mc_sm_c c n]
  exact mc_sm_le n h
theorem mc_sm_mono {f : Nat → Nat} {m : Nat} : ∀ n, m ≤ n → mc_sm f m ≤ mc_sm f n := by
  intro n
  induction n with
  | zero => intro h; have e : m = 0 := by omega
            rw [e]; exact Nat.le_refl _
  | succ n ih =>
    intro h
    by_cases e : m = n + 1
    · rw [e]; exact Nat.le_refl _
    · have := ih (by omega)
      rw [mc_sm_s]
      omega
theorem mc_sm_ge {f : Nat → Nat} {k n : Nat} (h : k < n) : f k ≤ mc_sm f n := by
  have h1 := mc_sm_mono (f := f) (m := k + 1) n h
  rw [mc_sm_s] at h1
  omega
/-- one point more -/
theorem mc_sm_pt {f g : Nat → Nat} {k x : Nat} : ∀ n, k < n → g k = f k + x → (∀ i, i < n → i ≠ k → g i = f i) → mc_sm g n = mc_sm f n + x := by
  intro n
  induction n with
  | zero => intro h; omega
  | succ n ih =>
    intro hk e h
    rw [mc_sm_s, mc_sm_s]
    by_cases hn : k = n
    · have e2 : g n = f n + x := by rw [← hn]; exact e
      rw [mc_sm_congr (f := g) (g := f) n (fun i hi => h i (by omega) (by omega)), e2]
      omega
    · rw [ih (by omega) e (fun i hi hne => h i (by omega) hne), h n (by omega) (by omega)]
      omega
/-- all but one point are 0 -/
theorem mc_sm_one {f : Nat → Nat} {k c : Nat} : ∀ n, (∀ i, i < n → i ≠ k → f i = 0) → (k < n → f k ≤ c) → mc_sm f n ≤ c := by
  intro n
  induction n with
  | zero => intro _ _; exact Nat.zero_le _
  | succ n ih =>
    intro h hk
    rw [mc_sm_s]
    by_cases hn : n = k
    · have h0 : mc_sm f n = 0 := mc_sm_0 n (fun i hi => h i (by omega) (by omega))
      have h1 := hk (by omega)
      rw [← hn] at h1
      omega
    · have h1 := ih (fun i hi hne => h i (by omega) hne) (fun hh => hk (by omega))
      have h2 := h n (by omega) hn
      omega
theorem mc_sm_swap (g : Nat → Nat → Nat) (m : Nat) : ∀ n, mc_sm (fun p => mc_sm (g p) n) m = mc_sm (fun s => mc_sm (fun p => g p s) m) n := by
  intro n
  induction n with
  | zero =>
    exact mc_sm_0 m (fun _ _ => rfl)
  | succ n ih =>
    rw [mc_sm_s, ← ih, ← mc_sm_add]
    exact mc_sm_congr m (fun _ _ => rfl)
/-- an injection of the first c numbers into the first m has c ≤ m -/
theorem mc_inj : ∀ (m c : Nat) (L : Nat → Nat), (∀ i, i < c → L i < m) → (∀ i j, i < j → j < c → L i ≠ L j) → c ≤ m := by
  intro m
  induction m with
  | zero =>
    intro c L h _
    by_cases hc : c = 0
    · omega
    · have := h 0 (by omega); omega
  | succ m ih =>
    intro c L h hd
    by_cases hc : c = 0
    · omega
    by_cases hx : ∃ i, i < c ∧ L i = m
    · obtain ⟨i, hi, ei⟩ := hx
      have := ih (c - 1) (fun j => if j < i then L j else L (j + 1)) (by
        intro j hj
        show (if j < i then L j else L (j + 1)) < m
        by_cases hji : j < i
        · rw [if_pos hji]
          have h1 := h j (by omega)
          have h2 := hd j i hji hi
          omega
        · rw [if_neg hji]
          have h1 := h (j + 1) (by omega)
          have h2 := hd i (j + 1) (by omega) (by omega)
          omega) (by
        intro j k hjk hk
        show (if j < i then L j else L (j + 1)) ≠ (if k < i then L k else L (k + 1))
        by_cases hji : j < i
        · rw [if_pos hji]
          by_cases hki : k < i
          · rw [if_pos hki]; exact hd j k hjk (by omega)
          · rw [if_neg hki]; exact hd j (k + 1) (by omega) (by omega)
        · rw [if_neg hji, if_neg (by omega)]
          exact hd (j + 1) (k + 1) (by omega) (by omega))
      omega
    · have := ih c L (fun i hi => by
        have h1 := h i hi
        have h2 : L i ≠ m := fun e => hx ⟨i, hi, e⟩
        omega) hd
      omega
