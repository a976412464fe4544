section
/-! finite sums of naturals, stores of naturals -/
def mc_up (f : Nat → Nat) (k x : Nat) : Nat → Nat := fun j => if j = k then x else f j
theorem mc_us {f : Nat → Nat} {k x : Nat} : mc_up f k x k = x := if_pos rfl
theorem mc_un {f : Nat → Nat} {k j x : Nat} (h : j ≠ k) : mc_up f k x j = f j := if_neg h
theorem mc_upI (f : Nat → Nat) (k x : Nat) : upd (fun j => nI (f j)) k (nI x) = fun j => nI (mc_up f k x j) := by
  funext j
  by_cases h : j = k
  · rw [h, pk_us, mc_us]
  · rw [pk_un h, mc_un h]
def mc_sm (f : Nat → Nat) : Nat → Nat
  | 0 => 0
  | n + 1 => mc_sm f n + f n
theorem mc_sm_s (f : Nat → Nat) (n : Nat) : mc_sm f (n + 1) = mc_sm f n + f n := rfl
theorem mc_sm_congr {f g : Nat → Nat} : ∀ n, (∀ i, i < n → f i = g i) → mc_sm f n = mc_sm g n := by
  intro n
  induction n with
  | zero => intro _; rfl
  | succ n ih =>
    intro h
    rw [mc_sm_s, mc_sm_s, ih (fun i hi => h i (by omega)), h n (by omega)]
theorem mc_sm_le {f g : Nat → Nat} : ∀ n, (∀ i, i < n → f i ≤ g i) → mc_sm f n ≤ mc_sm g n := by
  intro n
  induction n with
  | zero => intro _; exact Nat.le_refl _
  | succ n ih =>
    intro h
    have h1 := ih (fun i hi => h i (by omega))
    have h2 := h n (by omega)
    rw [mc_sm_s, mc_sm_s]
    omega
theorem mc_sm_add (f g : Nat → Nat) : ∀ n, mc_sm (fun i => f i + g i) n = mc_sm f n + mc_sm g n := by
  intro n
  induction n with
  | zero => rfl
  | succ n ih =>
    rw [mc_sm_s, mc_sm_s, mc_sm_s, ih]
    omega
theorem mc_sm_c (c : Nat) : ∀ n, mc_sm (fun _ => c) n = c * n := by
  intro n
  induction n with
  | zero => rfl
  | succ n ih =>
    rw [mc_sm_s, ih, Nat.mul_succ]
theorem mc_sm_mul (c : Nat) (f : Nat → Nat) : ∀ n, mc_sm (fun i => c * f i) n = c * mc_sm f n := by
  intro n
  induction n with
  | zero => rfl
  | succ n ih =>
    rw [mc_sm_s, mc_sm_s, ih, Nat.mul_add]
theorem mc_sm_0 {f : Nat → Nat} (n : Nat) (h : ∀ i, i < n → f i = 0) : mc_sm f n = 0 := by
  rw [mc_sm_congr (g := fun _ => 0) n h, mc_sm_c, Nat.zero_mul]
theorem mc_sm_bd {f : Nat → Nat} (c n : Nat) (h : ∀ i, i < n → f i ≤ c) : mc_sm f n ≤ c * n := by
  rw [← mc_sm_c c n]
  exact mc_sm_le n h
theorem mc_sm_mono {f : Nat → Nat} {m : Nat} : ∀ n, m ≤ n → mc_sm f m ≤ mc_sm f n := by
  intro n
  induction n with
  | zero => intro h; have e : m = 0 := by omega
            rw [e]; exact Nat.le_refl _
  | succ n ih =>
    intro h
    by_cases e : m = n + 1
    · rw [e]; exact Nat.le_refl _
    · have := ih (by omega)
      rw [mc_sm_s]
      omega
theorem mc_sm_ge {f : Nat → Nat} {k n : Nat} (h : k < n) : f k ≤ mc_sm f n := by
  have h1 := mc_sm_mono (f := f) (m := k + 1) n h
  rw [mc_sm_s] at h1
  omega
/-- one point more -/
theorem mc_sm_pt {f g : Nat → Nat} {k x : Nat} : ∀ n, k < n → g k = f k + x → (∀ i, i < n → i ≠ k → g i = f i) → mc_sm g n = mc_sm f n + x := by
  intro n
  induction n with
  | zero => intro h; omega
  | succ n ih =>
    intro hk e h
    rw [mc_sm_s, mc_sm_s]
    by_cases hn : k = n
    · have e2 : g n = f n + x := by rw [← hn]; exact e
      rw [mc_sm_congr (f := g) (g := f) n (fun i hi => h i (by omega) (by omega)), e2]
      omega
    · rw [ih (by omega) e (fun i hi hne => h i (by omega) hne), h n (by omega) (by omega)]
      omega
/-- all but one point are 0 -/
theorem mc_sm_one {f : Nat → Nat} {k c : Nat} : ∀ n, (∀ i, i < n → i ≠ k → f i = 0) → (k < n → f k ≤ c) → mc_sm f n ≤ c := by
  intro n
  induction n with
  | zero => intro _ _; exact Nat.zero_le _
  | succ n ih =>
    intro h hk
    rw [mc_sm_s]
    by_cases hn : n = k
    · have h0 : mc_sm f n = 0 := mc_sm_0 n (fun i hi => h i (by omega) (by omega))
      have h1 := hk (by omega)
      rw [← hn] at h1
      omega
    · have h1 := ih (fun i hi hne => h i (by omega) hne) (fun hh => hk (by omega))
      have h2 := h n (by omega) hn
      omega
theorem mc_sm_swap (g : Nat → Nat → Nat) (m : Nat) : ∀ n, mc_sm (fun p => mc_sm (g p) n) m = mc_sm (fun s => mc_sm (fun p => g p s) m) n := by
  intro n
  induction n with
  | zero =>
    exact mc_sm_0 m (fun _ _ => rfl)
  | succ n ih =>
    rw [mc_sm_s, ← ih, ← mc_sm_add]
    exact mc_sm_congr m (fun _ _ => rfl)
/-- an injection of the first c numbers into the first m has c ≤ m -/
theorem mc_inj : ∀ (m c : Nat) (L : Nat → Nat), (∀ i, i < c → L i < m) → (∀ i j, i < j → j < c → L i ≠ L j) → c ≤ m := by
  intro m
  induction m with
  | zero =>
    intro c L h _
    by_cases hc : c = 0
    · omega
    · have := h 0 (by omega); omega
  | succ m ih =>
    intro c L h hd
    by_cases hc : c = 0
    · omega
    by_cases hx : ∃ i, i < c ∧ L i = m
    · obtain ⟨i, hi, ei⟩ := hx
      have := ih (c - 1) (fun j => if j < i then L j else L (j + 1)) (by
        intro j hj
        show (if j < i then L j else L (j + 1)) < m
        by_cases hji : j < i
        · rw [if_pos hji]
          have h1 := h j (by omega)
          have h2 := hd j i hji hi
          omega
        · rw [if_neg hji]
          have h1 := h (j + 1) (by omega)
          have h2 := hd i (j + 1) (by omega) (by omega)
          omega) (by
        intro j k hjk hk
        show (if j < i then L j else L (j + 1)) ≠ (if k < i then L k else L (k + 1))
        by_cases hji : j < i
        · rw [if_pos hji]
          by_cases hki : k < i
          · rw [if_pos hki]; exact hd j k hjk (by omega)
          · rw [if_neg hki]; exact hd j (k + 1) (by omega) (by omega)
        · rw [if_neg hji, if_neg (by omega)]
          exact hd (j + 1) (k + 1) (by omega) (by omega))
      omega
    · have := ih c L (fun i hi => by
        have h1 := h i hi
        have h2 : L i ≠ m := fun e => hx ⟨i, hi, e⟩
        omega) hd
      omega
end
section
/-! the picture: slots s < 30 with serial sr, start st, size sz, pointer count pc -/
section
variable {mk : Nat} {sr st sz pc S P R W : Nat → Nat}
def mc_w (st sz : Nat → Nat) (p s : Nat) : Nat := if 1000 + 8 * p ≤ st s ∧ st s < 1000 + 8 * p + 8 then sz s else 0
def mc_wo (st sz : Nat → Nat) (p : Nat) : Nat := mc_sm (mc_w st sz p) 30
theorem mc_w_t {p s : Nat} (h : 1000 + 8 * p ≤ st s ∧ st s < 1000 + 8 * p + 8) : mc_w st sz p s = sz s := if_pos h
theorem mc_w_f {p s : Nat} (h : ¬ (1000 + 8 * p ≤ st s ∧ st s < 1000 + 8 * p + 8)) : mc_w st sz p s = 0 := if_neg h
theorem mc_w_le (st sz : Nat → Nat) (p s : Nat) : mc_w st sz p s ≤ sz s := by
  by_cases h : 1000 + 8 * p ≤ st s ∧ st s < 1000 + 8 * p + 8
  · rw [mc_w_t h]; exact Nat.le_refl _
  · rw [mc_w_f h]; exact Nat.zero_le _
theorem mc_wo_le (st sz : Nat → Nat) (p : Nat) : mc_wo st sz p ≤ mc_sm sz 30 := mc_sm_le 30 (fun s _ => mc_w_le st sz p s)
theorem mc_wo_sum (st sz : Nat → Nat) (m : Nat) : mc_sm (fun p => mc_wo st sz p) m ≤ mc_sm sz 30 := by
  have e : mc_sm (fun p => mc_wo st sz p) m = mc_sm (fun s => mc_sm (fun p => mc_w st sz p s) m) 30 := mc_sm_swap (fun p s => mc_w st sz p s) m 30
  rw [e]
  refine mc_sm_le 30 (fun s _ => ?_)
  refine mc_sm_one (k := (st s - 1000) / 8) m (fun p _ hp => ?_) (fun _ => mc_w_le st sz _ s)
  exact mc_w_f (fun h => hp (by omega))
def mc_Slot (mk : Nat) (sr st sz pc : Nat → Nat) : Prop :=
  ∀ s, s < 30 → st s ≤ 1255 ∧ sz s ≤ 4 ∧ (0 < sz s → 2 ≤ sz s ∧ 1000 ≤ st s ∧ (st s - 1000) % 8 + sz s ≤ 8 ∧ 1 ≤ sr s ∧ sr s ≤ mk ∧ pc s < sz s)
def mc_Dis (sr st sz : Nat → Nat) : Prop :=
  ∀ s t, s < 30 → t < 30 → s ≠ t → 0 < sz s → 0 < sz t → sr s ≠ sr t ∧ (st s + sz s ≤ st t ∨ st t + sz t ≤ st s)
def mc_Fill (st sz : Nat → Nat) : Prop :=
  ∀ s, s < 30 → 0 < sz s → (st s - 1000) % 8 + sz s ≤ mc_wo st sz ((st s - 1000) / 8)
def mc_XS (sr st sz pc S P R W : Nat → Nat) : Prop :=
  ∀ s, s < 30 → 0 < sz s → S (sr s) = st s ∧ P (sr s) = pc s ∧ R (sr s) + pc s + 1 = sz s ∧ ∀ j, j < sz s → W (st s - 1000 + j) = sr s
def mc_XW (sr st sz W : Nat → Nat) : Prop :=
  ∀ i, i < 256 → W i = 0 ∨ ∃ s, s < 30 ∧ 0 < sz s ∧ W i = sr s ∧ st s ≤ 1000 + i ∧ 1000 + i < st s + sz s
def mc_XZ (sr sz S : Nat → Nat) : Prop := ∀ v, S v = 0 ∨ ∃ s, s < 30 ∧ 0 < sz s ∧ v = sr s
def mc_LC (sr st sz pc : Nat → Nat) (s k : Nat) (c w : Int32) : Prop :=
  (k < pc s → (c = 0 ∧ w = 0) ∨ ∃ t, t < 30 ∧ 0 < sz t ∧ c = nI (sr t) ∧ w = nI (st t)) ∧ (pc s ≤ k → w = c)
def mc_CG (st sz : Nat → Nat) (Q : Nat → Nat → Int32 → Prop) (words : Nat → Int32) : Prop :=
  ∀ s, s < 30 → 0 < sz s → ∀ k, k + 1 < sz s → Q s k (words (st s - 1000 + 1 + k))
def mc_th (st sz : Nat → Nat) (op p : Nat) : Nat := if 0 < mc_wo st sz p ∧ mc_wo st sz p < 5 ∧ p ≠ op then 1 else 0
def mc_Thin (st sz : Nat → Nat) (op : Nat) : Prop := mc_sm (mc_th st sz op) 32 ≤ 8
def mc_G (mk lim op : Nat) (sr st sz pc : Nat → Nat) (cell words : Nat → Int32) (S P R W O : Nat → Nat) (U : Nat) : Prop :=
  mc_Slot mk sr st sz pc ∧ mc_Dis sr st sz ∧ mc_Fill st sz ∧ mc_XS sr st sz pc S P R W ∧ mc_XW sr st sz W ∧ mc_XZ sr sz S ∧
  mc_CG st sz (fun s k w => mc_LC sr st sz pc s k (cell (3 * s + k)) w) words ∧ (P 0 = 0 ∧ R 0 = 0) ∧
  (∀ p, p < 32 → O p = mc_wo st sz p) ∧ mc_Thin st sz op ∧ U = mc_sm sz 30 ∧ U ≤ lim ∧ lim ≤ 60 ∧ op ≤ 32 ∧ mk ≤ 4095
def mc_At (sr st sz W : Nat → Nat) (w : Int32) (s : Nat) : Prop :=
  s < 30 ∧ 0 < sz s ∧ ∃ i, i < 256 ∧ w = nI (1000 + i) ∧ st s ≤ 1000 + i ∧ 1000 + i < st s + sz s ∧ W i = sr s
def mc_No (st sz W : Nat → Nat) (w : Int32) : Prop :=
  (∀ i, i < 256 → w = nI (1000 + i) → W i = 0) ∧ ∀ s, s < 30 → ¬ (nI (st s) ≤ w ∧ w < nI (st s + sz s))
theorem mc_own (hS : mc_Slot mk sr st sz pc) (hX : mc_XS sr st sz pc S P R W) (hW : mc_XW sr st sz W) (w : Int32) :
    (∃ s, mc_At sr st sz W w s) ∨ mc_No st sz W w := by
  by_cases h0 : w < 0
  · right
    refine ⟨fun i hi e => ?_, fun s hs hc => ?_⟩
    · rw [e] at h0
      exact absurd h0 (nI_pos (by omega))
    · have h1 := (hS s hs).1
      exact absurd (Int32.lt_of_le_of_lt hc.1 h0) (nI_pos (by omega))
  · obtain ⟨j, hj, rfl⟩ := nI_of h0
    by_cases hc : ∃ s, s < 30 ∧ st s ≤ j ∧ j < st s + sz s
    · left
      obtain ⟨s, hs, h1, h2⟩ := hc
      have hz : 0 < sz s := by omega
      obtain ⟨a1, a2, a3⟩ := hS s hs
      obtain ⟨b1, b2, b3, b4, b5, b6⟩ := a3 hz
      refine ⟨s, hs, hz, j - 1000, by omega, congrArg nI (by omega), by omega, by omega, ?_⟩
      rw [← (hX s hs hz).2.2.2 (j - st s) (by omega)]
      exact congrArg W (by omega)
    · right
      refine ⟨fun i hi e => ?_, fun s hs hcc => ?_⟩
      · have e2 := (nI_eq hj (by omega)).mp e
        rcases hW i hi with h | ⟨s, hs, hz, _, h1, h2⟩
        · exact h
        · exact absurd ⟨s, hs, by omega, by omega⟩ hc
      · have b := (hS s hs).1
        have b2 := (hS s hs).2.1
        have h1 := (nI_leI (by omega) hj).mp hcc.1
        have h2 := (nI_ltI hj (by omega)).mp hcc.2
        exact hc ⟨s, hs, h1, h2⟩
theorem mc_At_u (hD : mc_Dis sr st sz) {w : Int32} {s t : Nat} (hs : mc_At sr st sz W w s) (ht : mc_At sr st sz W w t) : s = t := by
  obtain ⟨a1, a2, i, hi, rfl, a3, a4, a5⟩ := hs
  obtain ⟨b1, b2, j, hj, e, b3, b4, b5⟩ := ht
  have e2 := (nI_eq (by omega) (by omega)).mp e
  by_cases h : s = t
  · exact h
  · have := (hD s t a1 b1 h a2 b2).2
    omega
/-- an address within slot s -/
theorem mc_At_i (hX : mc_XS sr st sz pc S P R W) (hS : mc_Slot mk sr st sz pc) {s a : Nat} (hs : s < 30) (h1 : st s ≤ a) (h2 : a < st s + sz s) : mc_At sr st sz W (nI a) s := by
  have hz : 0 < sz s := by omega
  obtain ⟨a1, a2, a3⟩ := hS s hs
  obtain ⟨b1, b2, b3, b4, b5, b6⟩ := a3 hz
  refine ⟨hs, hz, a - 1000, by omega, congrArg nI (by omega), by omega, by omega, ?_⟩
  rw [← (hX s hs hz).2.2.2 (a - st s) (by omega)]
  exact congrArg W (by omega)
theorem mc_No_0 (hS : mc_Slot mk sr st sz pc) : mc_No st sz W 0 := by
  refine ⟨fun i hi e => ?_, fun s hs hc => ?_⟩
  · rw [← nI_0] at e
    have := (nI_eq (by omega) (by omega)).mp e
    omega
  · obtain ⟨a1, a2, a3⟩ := hS s hs
    rw [← nI_0, nI_leI (by omega) (by omega), nI_ltI (by omega) (by omega)] at hc
    have := a3 (by omega)
    omega
/-- the finder: the slot that covers address a, or 30 -/
def mc_fd (st sz : Nat → Nat) (a : Nat) : Nat → Nat
  | 0 => 30
  | n + 1 => if st n ≤ a ∧ a < st n + sz n then n else mc_fd st sz a n
theorem mc_fd_spec (st sz : Nat → Nat) (a : Nat) : ∀ n, n ≤ 30 →
    (mc_fd st sz a n < n ∧ st (mc_fd st sz a n) ≤ a ∧ a < st (mc_fd st sz a n) + sz (mc_fd st sz a n)) ∨
    (mc_fd st sz a n = 30 ∧ ∀ s, s < n → ¬ (st s ≤ a ∧ a < st s + sz s)) := by
  intro n
  induction n with
  | zero => intro _; exact Or.inr ⟨rfl, fun s hs => by omega⟩
  | succ n ih =>
    intro hn
    by_cases h : st n ≤ a ∧ a < st n + sz n
    · have e : mc_fd st sz a (n + 1) = n := if_pos h
      rw [e]
      exact Or.inl ⟨by omega, h.1, h.2⟩
    · have e : mc_fd st sz a (n + 1) = mc_fd st sz a n := if_neg h
      rw [e]
      rcases ih (by omega) with h1 | h1
      · exact Or.inl ⟨by omega, h1.2⟩
      · refine Or.inr ⟨h1.1, fun s hs => ?_⟩
        by_cases hsn : s = n
        · rw [hsn]; exact h
        · exact h1.2 s (by omega)
theorem mc_fd_at (hD : mc_Dis sr st sz) {s a : Nat} (hs : s < 30) (h1 : st s ≤ a) (h2 : a < st s + sz s) : mc_fd st sz a 30 = s := by
  rcases mc_fd_spec st sz a 30 (by omega) with h | h
  · by_cases e : mc_fd st sz a 30 = s
    · exact e
    · have := (hD _ s h.1 hs e (by omega) (by omega)).2
      omega
  · exact absurd ⟨h1, h2⟩ (h.2 s hs)
theorem mc_fd_no {a : Nat} (h : ∀ s, s < 30 → ¬ (st s ≤ a ∧ a < st s + sz s)) : mc_fd st sz a 30 = 30 := by
  rcases mc_fd_spec st sz a 30 (by omega) with h1 | h1
  · exact absurd h1.2 (h _ h1.1)
  · exact h1.1
theorem mc_fd_le (st sz : Nat → Nat) (a : Nat) : mc_fd st sz a 30 ≤ 30 := by
  rcases mc_fd_spec st sz a 30 (by omega) with h1 | h1 <;> omega
/-- writes into one field -/
theorem mc_CG_upd {Q Q' : Nat → Nat → Int32 → Prop} {words : Nat → Int32} (hS : mc_Slot mk sr st sz pc) (hD : mc_Dis sr st sz) (h : mc_CG st sz Q words)
    {s k : Nat} (hs : s < 30) (hk : k + 1 < sz s) (x : Int32) (hx : Q' s k x) (ho : ∀ s' k' y, s' < 30 → k' + 1 < sz s' → (s' ≠ s ∨ k' ≠ k) → Q s' k' y → Q' s' k' y) :
    mc_CG st sz Q' (upd words (st s - 1000 + 1 + k) x) := by
  intro t ht hz j hj
  obtain ⟨_, _, c3⟩ := hS s hs
  obtain ⟨_, _, d3⟩ := hS t ht
  have c := c3 (by omega)
  have d := d3 hz
  by_cases hst : t = s
  · by_cases hjk : j = k
    · rw [hst, hjk, pk_us]; exact hx
    · rw [pk_un (by rw [hst]; omega)]
      exact ho t j _ ht hj (Or.inr hjk) (h t ht hz j hj)
  · have hd := (hD t s ht hs hst hz (by omega)).2
    rw [pk_un (by omega)]
    exact ho t j _ ht hj (Or.inl hst) (h t ht hz j hj)
theorem mc_CG_mono {Q Q' : Nat → Nat → Int32 → Prop} {words : Nat → Int32} (h : mc_CG st sz Q words) (ho : ∀ s k y, s < 30 → k + 1 < sz s → Q s k y → Q' s k y) : mc_CG st sz Q' words :=
  fun s hs hz k hk => ho s k _ hs hk (h s hs hz k hk)
end
end
section
/-! lists of slots: a function and a length -/
section
variable {sz : Nat → Nat} {l : (Nat → Nat) × Nat} {s t : Nat}
def mc_in (l : (Nat → Nat) × Nat) (s : Nat) : Prop := ∃ i, i < l.2 ∧ l.1 i = s
noncomputable def mc_ad (l : (Nat → Nat) × Nat) (s : Nat) : (Nat → Nat) × Nat :=
  @ite _ (s < 30 ∧ ¬ mc_in l s) (Classical.propDecidable _) (mc_up l.1 l.2 s, l.2 + 1) l
def mc_LG (sz : Nat → Nat) (l : (Nat → Nat) × Nat) : Prop :=
  (∀ i, i < l.2 → l.1 i < 30 ∧ 0 < sz (l.1 i)) ∧ (∀ i j, i < j → j < l.2 → l.1 i ≠ l.1 j)
theorem mc_ad_new (hs : s < 30) (hn : ¬ mc_in l s) : mc_ad l s = (mc_up l.1 l.2 s, l.2 + 1) := if_pos ⟨hs, hn⟩
theorem mc_ad_old (h : ¬ (s < 30 ∧ ¬ mc_in l s)) : mc_ad l s = l := if_neg h
theorem mc_ad_isin (h : mc_in l s) : mc_ad l s = l := mc_ad_old (fun z => z.2 h)
theorem mc_ad_30 : mc_ad l 30 = l := mc_ad_old (fun z => absurd z.1 (by omega))
theorem mc_LG_le (h : mc_LG sz l) : l.2 ≤ 30 := mc_inj 30 l.2 l.1 (fun i hi => (h.1 i hi).1) h.2
theorem mc_ad_LG (h : mc_LG sz l) (hz : s < 30 → 0 < sz s) : mc_LG sz (mc_ad l s) := by
  by_cases c : s < 30 ∧ ¬ mc_in l s
  · rw [mc_ad_new c.1 c.2]
    constructor
    · intro i hi
      have hi : i < l.2 + 1 := hi
      show mc_up l.1 l.2 s i < 30 ∧ 0 < sz (mc_up l.1 l.2 s i)
      by_cases e : i = l.2
      · rw [e, mc_us]; exact ⟨c.1, hz c.1⟩
      · rw [mc_un e]; exact h.1 i (by omega)
    · intro i j hij hj
      have hj : j < l.2 + 1 := hj
      show mc_up l.1 l.2 s i ≠ mc_up l.1 l.2 s j
      by_cases e : j = l.2
      · rw [e, mc_us, mc_un (by omega)]
        intro z
        exact c.2 ⟨i, by omega, z⟩
      · rw [mc_un e, mc_un (by omega)]; exact h.2 i j hij (by omega)
  · rw [mc_ad_old c]; exact h
theorem mc_ad_in : mc_in (mc_ad l s) t ↔ mc_in l t ∨ (t = s ∧ s < 30) := by
  by_cases c : s < 30 ∧ ¬ mc_in l s
  · rw [mc_ad_new c.1 c.2]
    constructor
    · rintro ⟨i, hi, e⟩
      have hi : i < l.2 + 1 := hi
      have e : mc_up l.1 l.2 s i = t := e
      by_cases ei : i = l.2
      · rw [ei, mc_us] at e; exact Or.inr ⟨e.symm, c.1⟩
      · rw [mc_un ei] at e; exact Or.inl ⟨i, by omega, e⟩
    · rintro (⟨i, hi, e⟩ | ⟨e, _⟩)
      · refine ⟨i, Nat.lt_succ_of_lt hi, ?_⟩
        show mc_up l.1 l.2 s i = t
        rw [mc_un (by omega)]; exact e
      · refine ⟨l.2, Nat.lt_succ_self _, ?_⟩
        show mc_up l.1 l.2 s l.2 = t
        rw [mc_us]; exact e.symm
  · rw [mc_ad_old c]
    constructor
    · exact Or.inl
    · rintro (h | ⟨e, hs⟩)
      · exact h
      · rw [e]
        exact Classical.byContradiction (fun z => c ⟨hs, z⟩)
theorem mc_ad_pre (l : (Nat → Nat) × Nat) (s : Nat) : l.2 ≤ (mc_ad l s).2 ∧ ∀ i, i < l.2 → (mc_ad l s).1 i = l.1 i := by
  by_cases c : s < 30 ∧ ¬ mc_in l s
  · rw [mc_ad_new c.1 c.2]
    exact ⟨Nat.le_succ _, fun i hi => mc_un (by omega)⟩
  · rw [mc_ad_old c]
    exact ⟨Nat.le_refl _, fun _ _ => rfl⟩
theorem mc_LG_lt (h : mc_LG sz l) (hs : s < 30) (hz : 0 < sz s) (hn : ¬ mc_in l s) : l.2 < 30 := by
  have h1 := mc_LG_le (mc_ad_LG (s := s) h (fun _ => hz))
  rw [mc_ad_new hs hn] at h1
  exact h1
/-- the objects on pinned pages, in the order of addresses -/
noncomputable def mc_pl (pn fd : Nat → Nat) : Nat → (Nat → Nat) × Nat
  | 0 => (fun _ => 0, 0)
  | a + 1 => if pn (a / 8) = 1 then mc_ad (mc_pl pn fd a) (fd (1000 + a)) else mc_pl pn fd a
theorem mc_pl_t {pn fd : Nat → Nat} {a : Nat} (h : pn (a / 8) = 1) : mc_pl pn fd (a + 1) = mc_ad (mc_pl pn fd a) (fd (1000 + a)) := if_pos h
theorem mc_pl_f {pn fd : Nat → Nat} {a : Nat} (h : ¬ pn (a / 8) = 1) : mc_pl pn fd (a + 1) = mc_pl pn fd a := if_neg h
theorem mc_pl_skip {pn fd : Nat → Nat} {p : Nat} (h : ¬ pn p = 1) : ∀ j, j ≤ 8 → mc_pl pn fd (8 * p + j) = mc_pl pn fd (8 * p) := by
  intro j
  induction j with
  | zero => intro _; rfl
  | succ j ih =>
    intro hj
    have e : (8 * p + j) / 8 = p := by omega
    show mc_pl pn fd (8 * p + j + 1) = _
    rw [mc_pl_f (by rw [e]; exact h)]
    exact ih (by omega)
theorem mc_pl_LG {pn fd : Nat → Nat} (hf : ∀ a, fd a < 30 → 0 < sz (fd a)) : ∀ n, mc_LG sz (mc_pl pn fd n) := by
  intro n
  induction n with
  | zero => exact ⟨fun i hi => absurd hi (Nat.not_lt_zero i), fun i j _ hj => absurd hj (Nat.not_lt_zero j)⟩
  | succ n ih =>
    by_cases h : pn (n / 8) = 1
    · rw [mc_pl_t h]; exact mc_ad_LG ih (hf _)
    · rw [mc_pl_f h]; exact ih
theorem mc_pl_in {pn fd : Nat → Nat} : ∀ n, mc_in (mc_pl pn fd n) s ↔ s < 30 ∧ ∃ a, a < n ∧ pn (a / 8) = 1 ∧ fd (1000 + a) = s := by
  intro n
  induction n with
  | zero =>
    constructor
    · rintro ⟨i, hi, _⟩; exact absurd hi (Nat.not_lt_zero i)
    · rintro ⟨_, a, ha, _⟩; exact absurd ha (Nat.not_lt_zero a)
  | succ n ih =>
    by_cases h : pn (n / 8) = 1
    · rw [mc_pl_t h, mc_ad_in, ih]
      constructor
      · rintro (⟨h1, a, ha, h2⟩ | ⟨h1, h2⟩)
        · exact ⟨h1, a, by omega, h2⟩
        · rw [h1]; exact ⟨h2, n, by omega, h, rfl⟩
      · rintro ⟨h1, a, ha, h2, h3⟩
        by_cases e : a = n
        · rw [e] at h3
          exact Or.inr ⟨h3.symm, by rw [h3]; exact h1⟩
        · exact Or.inl ⟨h1, a, by omega, h2, h3⟩
    · rw [mc_pl_f h, ih]
      constructor
      · rintro ⟨h1, a, ha, h2⟩
        exact ⟨h1, a, by omega, h2⟩
      · rintro ⟨h1, a, ha, h2, h3⟩
        by_cases e : a = n
        · rw [e] at h2; exact absurd h2 h
        · exact ⟨h1, a, by omega, h2, h3⟩
/-- reach: the pointers of one object, then the whole list -/
noncomputable def mc_ri (tg : Nat → Nat → Nat) (s : Nat) (l : (Nat → Nat) × Nat) : Nat → (Nat → Nat) × Nat
  | 0 => l
  | k + 1 => mc_ad (mc_ri tg s l k) (tg s k)
noncomputable def mc_ro (tg : Nat → Nat → Nat) (pc : Nat → Nat) (l : (Nat → Nat) × Nat) : Nat → (Nat → Nat) × Nat
  | 0 => l
  | a + 1 => if a < (mc_ro tg pc l a).2 then mc_ri tg ((mc_ro tg pc l a).1 a) (mc_ro tg pc l a) (pc ((mc_ro tg pc l a).1 a)) else mc_ro tg pc l a
section
variable {tg : Nat → Nat → Nat} {pc : Nat → Nat}
theorem mc_ri_s (tg : Nat → Nat → Nat) (s : Nat) (l : (Nat → Nat) × Nat) (k : Nat) : mc_ri tg s l (k + 1) = mc_ad (mc_ri tg s l k) (tg s k) := rfl
theorem mc_ro_t {a : Nat} (h : a < (mc_ro tg pc l a).2) : mc_ro tg pc l (a + 1) = mc_ri tg ((mc_ro tg pc l a).1 a) (mc_ro tg pc l a) (pc ((mc_ro tg pc l a).1 a)) := if_pos h
theorem mc_ro_f {a : Nat} (h : ¬ a < (mc_ro tg pc l a).2) : mc_ro tg pc l (a + 1) = mc_ro tg pc l a := if_neg h
theorem mc_ri_LG (h : mc_LG sz l) (ht : ∀ s k, tg s k < 30 → 0 < sz (tg s k)) (s : Nat) : ∀ k, mc_LG sz (mc_ri tg s l k) := by
  intro k
  induction k with
  | zero => exact h
  | succ k ih => rw [mc_ri_s]; exact mc_ad_LG ih (ht s k)
theorem mc_ri_pre (tg : Nat → Nat → Nat) (s : Nat) (l : (Nat → Nat) × Nat) : ∀ k, l.2 ≤ (mc_ri tg s l k).2 ∧ ∀ i, i < l.2 → (mc_ri tg s l k).1 i = l.1 i := by
  intro k
  induction k with
  | zero => exact ⟨Nat.le_refl _, fun _ _ => rfl⟩
  | succ k ih =>
    rw [mc_ri_s]
    have h := mc_ad_pre (mc_ri tg s l k) (tg s k)
    refine ⟨Nat.le_trans ih.1 h.1, fun i hi => ?_⟩
    rw [h.2 i (Nat.lt_of_lt_of_le hi ih.1), ih.2 i hi]
theorem mc_ri_in (s : Nat) : ∀ k, (∀ t, mc_in l t → mc_in (mc_ri tg s l k) t) ∧ ∀ j, j < k → tg s j < 30 → mc_in (mc_ri tg s l k) (tg s j) := by
  intro k
  induction k with
  | zero => exact ⟨fun _ h => h, fun j hj => by omega⟩
  | succ k ih =>
    rw [mc_ri_s]
    refine ⟨fun t h => mc_ad_in.mpr (Or.inl (ih.1 t h)), fun j hj h => ?_⟩
    by_cases e : j = k
    · rw [e] at h ⊢; exact mc_ad_in.mpr (Or.inr ⟨rfl, h⟩)
    · exact mc_ad_in.mpr (Or.inl (ih.2 j (by omega) h))
theorem mc_ro_LG (h : mc_LG sz l) (ht : ∀ s k, tg s k < 30 → 0 < sz (tg s k)) : ∀ a, mc_LG sz (mc_ro tg pc l a) := by
  intro a
  induction a with
  | zero => exact h
  | succ a ih =>
    by_cases c : a < (mc_ro tg pc l a).2
    · rw [mc_ro_t c]; exact mc_ri_LG ih ht _ _
    · rw [mc_ro_f c]; exact ih
theorem mc_ro_pre1 (tg : Nat → Nat → Nat) (pc : Nat → Nat) (l : (Nat → Nat) × Nat) (a : Nat) : (mc_ro tg pc l a).2 ≤ (mc_ro tg pc l (a + 1)).2 ∧ ∀ i, i < (mc_ro tg pc l a).2 → (mc_ro tg pc l (a + 1)).1 i = (mc_ro tg pc l a).1 i := by
  by_cases c : a < (mc_ro tg pc l a).2
  · rw [mc_ro_t c]; exact mc_ri_pre _ _ _ _
  · rw [mc_ro_f c]; exact ⟨Nat.le_refl _, fun _ _ => rfl⟩
theorem mc_ro_pre (tg : Nat → Nat → Nat) (pc : Nat → Nat) (l : (Nat → Nat) × Nat) : ∀ a, l.2 ≤ (mc_ro tg pc l a).2 ∧ ∀ i, i < l.2 → (mc_ro tg pc l a).1 i = l.1 i := by
  intro a
  induction a with
  | zero => exact ⟨Nat.le_refl _, fun _ _ => rfl⟩
  | succ a ih =>
    have h := mc_ro_pre1 tg pc l a
    refine ⟨Nat.le_trans ih.1 h.1, fun i hi => ?_⟩
    rw [h.2 i (Nat.lt_of_lt_of_le hi ih.1), ih.2 i hi]
theorem mc_ro_stop {a : Nat} (h : (mc_ro tg pc l a).2 ≤ a) : ∀ j, mc_ro tg pc l (a + j) = mc_ro tg pc l a := by
  intro j
  induction j with
  | zero => rfl
  | succ j ih =>
    show mc_ro tg pc l (a + j + 1) = _
    rw [mc_ro_f (by rw [ih]; omega)]
    exact ih
theorem mc_ro_closed : ∀ a i, i < a → i < (mc_ro tg pc l a).2 → ∀ k, k < pc ((mc_ro tg pc l a).1 i) → tg ((mc_ro tg pc l a).1 i) k < 30 → mc_in (mc_ro tg pc l a) (tg ((mc_ro tg pc l a).1 i) k) := by
  intro a
  induction a with
  | zero => intro i hi; omega
  | succ a ih =>
    intro i hi h2 k hk ht
    by_cases c : a < (mc_ro tg pc l a).2
    · have hp := mc_ri_pre tg ((mc_ro tg pc l a).1 a) (mc_ro tg pc l a) (pc ((mc_ro tg pc l a).1 a))
      have hn := mc_ri_in (tg := tg) (l := mc_ro tg pc l a) ((mc_ro tg pc l a).1 a) (pc ((mc_ro tg pc l a).1 a))
      rw [mc_ro_t c] at h2 hk ht ⊢
      have hil : i < (mc_ro tg pc l a).2 := by omega
      rw [hp.2 i hil] at hk ht ⊢
      by_cases e : i = a
      · rw [e] at hk ht ⊢
        exact hn.2 k hk ht
      · exact hn.1 _ (ih i (by omega) hil k hk ht)
    · rw [mc_ro_f c] at h2 hk ht ⊢
      exact ih i (by omega) h2 k hk ht
end
end
end
section
/-! the picture when an object is placed -/
section
variable {mk : Nat} {sr st sz pc S P R W O : Nat → Nat}
theorem mc_sep {x n p w m : Nat} (h0 : 1000 ≤ x) (h1 : (x - 1000) % 8 + n ≤ 8) (h2 : w + m ≤ 8) (h3 : (x - 1000) / 8 = p → (x - 1000) % 8 + n ≤ w) :
    x + n ≤ 1000 + 8 * p + w ∨ 1000 + 8 * p + w + m ≤ x := by
  by_cases h : (x - 1000) / 8 = p
  · have := h3 h
    omega
  · omega
theorem mc_w_cg {st sz st' sz' : Nat → Nat} {p s : Nat} (h1 : st' s = st s) (h2 : sz' s = sz s) : mc_w st' sz' p s = mc_w st sz p s := by
  unfold mc_w
  rw [h1, h2]
theorem mc_sm_pos {f : Nat → Nat} {n : Nat} (h : 0 < mc_sm f n) : ∃ i, i < n ∧ 0 < f i := by
  by_cases c : ∃ i, i < n ∧ 0 < f i
  · exact c
  · have := mc_sm_0 (f := f) n (fun i hi => by
      by_cases z : f i = 0
      · exact z
      · exact absurd ⟨i, hi, by omega⟩ c)
    omega
theorem mc_wo_2 (hS : mc_Slot mk sr st sz pc) {p : Nat} (h : mc_wo st sz p ≠ 0) : 2 ≤ mc_wo st sz p := by
  obtain ⟨s, hs, h1⟩ := mc_sm_pos (f := mc_w st sz p) (n := 30) (Nat.pos_of_ne_zero h)
  have h2 := mc_w_le st sz p s
  have h3 : mc_w st sz p s ≤ mc_wo st sz p := mc_sm_ge (f := mc_w st sz p) hs
  by_cases c : 1000 + 8 * p ≤ st s ∧ st s < 1000 + 8 * p + 8
  · rw [mc_w_t c] at h3
    have := (hS s hs).2.2 (by omega)
    omega
  · rw [mc_w_f c] at h1
    omega
/-- the page of a live slot is in use -/
theorem mc_wo_pos (hS : mc_Slot mk sr st sz pc) {s : Nat} (hs : s < 30) (hz : 0 < sz s) : mc_wo st sz ((st s - 1000) / 8) ≠ 0 := by
  have h := (hS s hs).2.2 hz
  have h3 : mc_w st sz ((st s - 1000) / 8) s ≤ mc_wo st sz ((st s - 1000) / 8) := mc_sm_ge (f := mc_w st sz ((st s - 1000) / 8)) hs
  rw [mc_w_t (by omega)] at h3
  omega
theorem mc_free0 (hS : mc_Slot mk sr st sz pc) (hU : mc_sm sz 30 ≤ 60) : ∃ p, p < 32 ∧ mc_wo st sz p = 0 := by
  by_cases c : ∃ p, p < 32 ∧ mc_wo st sz p = 0
  · exact c
  · have h1 := mc_sm_le (f := fun _ => 2) (g := fun p => mc_wo st sz p) 32 (fun p hp => mc_wo_2 hS (fun z => c ⟨p, hp, z⟩))
    rw [mc_sm_c] at h1
    have h2 := mc_wo_sum st sz 32
    omega
/-- a free page in the middle of a collection: O0 are the words before, f those now -/
theorem mc_free1 {O0 f th : Nat → Nat} {op : Nat} (h1 : mc_sm O0 32 ≤ 60) (h2 : mc_sm f 32 ≤ 60) (h3 : mc_sm th 32 ≤ 8)
    (h : ∀ p, p < 32 → 5 ≤ O0 p + f p + 3 * th p + (if p = op then 3 else 0)) : False := by
  have a := mc_sm_le (f := fun _ => 5) (g := fun p => O0 p + f p + 3 * th p + (if p = op then 3 else 0)) 32 h
  rw [mc_sm_c, mc_sm_add (fun p => O0 p + f p + 3 * th p) (fun p => if p = op then 3 else 0), mc_sm_add (fun p => O0 p + f p) (fun p => 3 * th p), mc_sm_add O0 f, mc_sm_mul] at a
  have b : mc_sm (fun p => if p = op then 3 else 0) 32 ≤ 3 := mc_sm_one (k := op) 32 (fun i _ hi => if_neg hi) (fun _ => by
    show (if op = op then 3 else 0) ≤ 3
    rw [if_pos rfl]; exact Nat.le_refl _)
  omega
/-- a free slot -/
theorem mc_slot0 (hS : mc_Slot mk sr st sz pc) (hU : mc_sm sz 30 < 60) : ∃ s, s < 30 ∧ sz s = 0 := by
  by_cases c : ∃ s, s < 30 ∧ sz s = 0
  · exact c
  · have h1 := mc_sm_le (f := fun _ => 2) (g := sz) 30 (fun s hs => by
      have h0 : sz s ≠ 0 := fun z => c ⟨s, hs, z⟩
      have := (hS s hs).2.2 (by omega)
      exact this.1)
    rw [mc_sm_c] at h1
    omega
section
variable {lim op U s need np nr p w a : Nat} {cell words cell' words' : Nat → Int32} {W' : Nat → Nat}
theorem mc_wo_new (hs : s < 30) (hz : sz s = 0) (hwp : mc_wo st sz p = w) (ha : 1000 + 8 * p + w = a) (hw : w + need ≤ 8) (hn : 0 < need) :
    mc_wo (mc_up st s a) (mc_up sz s need) p = w + need ∧
    ∀ q, q ≠ p → mc_wo (mc_up st s a) (mc_up sz s need) q = mc_wo st sz q := by
  have hz0 : ∀ q, mc_w st sz q s = 0 := fun q => by have := mc_w_le st sz q s; omega
  constructor
  · rw [← hwp]
    refine mc_sm_pt (k := s) 30 hs ?_ (fun i _ hi => mc_w_cg (mc_un hi) (mc_un hi))
    rw [mc_w_t (by rw [mc_us]; omega), mc_us, hz0]; omega
  · intro q hq
    refine mc_sm_congr 30 (fun i _ => ?_)
    by_cases e : i = s
    · rw [e, hz0, mc_w_f (by rw [mc_us]; omega)]
    · exact mc_w_cg (mc_un e) (mc_un e)
theorem mc_alloc (hG : mc_G mk lim op sr st sz pc cell words S P R W O U) (hs : s < 30) (hz : sz s = 0)
    (hn : 1 + np + nr = need) (hn2 : 2 ≤ need) (hn4 : need ≤ 4) (hU : U + need ≤ lim) (hm : mk < 4095) (hp : p < 32) (hwp : mc_wo st sz p = w) (ha : 1000 + 8 * p + w = a) (hw : w + need ≤ 8)
    (hop : p = op ∨ (w = 0 ∧ (op = 32 ∨ 8 < mc_wo st sz op + need)))
    (hc1 : ∀ k, k < 3 → cell' (3 * s + k) = 0) (hc2 : ∀ j, (j < 3 * s ∨ 3 * s + 3 ≤ j) → cell' j = cell j)
    (hw1 : ∀ j, j < need → words' (8 * p + w + j) = 0 ∧ W' (8 * p + w + j) = mk + 1)
    (hw2 : ∀ i, (i < 8 * p + w ∨ 8 * p + w + need ≤ i) → words' i = words i ∧ W' i = W i) :
    mc_G (mk + 1) lim p (mc_up sr s (mk + 1)) (mc_up st s a) (mc_up sz s need) (mc_up pc s np) cell' words'
      (mc_up S (mk + 1) a) (mc_up P (mk + 1) np) (mc_up R (mk + 1) nr) W' (mc_up O p (w + need)) (U + need) := by
  obtain ⟨hS, hD, hF, hX, hXW, hXZ, hC, hP0, hO, hT, hU1, hU2, hL, hop2, hmk⟩ := hG
  have hwo := mc_wo_new (st := st) hs hz hwp ha hw (by omega : 0 < need)
  have hsep : ∀ t, t < 30 → 0 < sz t → st t + sz t ≤ a ∨ a + need ≤ st t := by
    intro t ht hzt
    have h := (hS t ht).2.2 hzt
    have hf := hF t ht hzt
    rw [← ha]
    exact mc_sep h.2.1 h.2.2.1 hw (fun e => by rw [e, hwp] at hf; exact hf)
  have hts : ∀ t, 0 < sz t → t ≠ s := fun t ht e => by rw [e] at ht; omega
  refine ⟨?_, ?_, ?_, ?_, ?_, ?_, ?_, ?_, ?_, ?_, ?_, ?_, hL, by omega, by omega⟩
  · intro t ht
    by_cases e : t = s
    · rw [e, mc_us, mc_us, mc_us, mc_us]
      refine ⟨by omega, hn4, fun _ => ⟨hn2, by omega, by omega, by omega, by omega, by omega⟩⟩
    · rw [mc_un e, mc_un e, mc_un e, mc_un e]
      obtain ⟨h1, h2, h3⟩ := hS t ht
      refine ⟨h1, h2, fun hz => ?_⟩
      obtain ⟨b1, b2, b3, b4, b5, b6⟩ := h3 hz
      exact ⟨b1, b2, b3, b4, by omega, b6⟩
  · intro x t hx ht hne h1 h2
    by_cases e : x = s
    · have e2 : t ≠ s := fun z => hne (by rw [e, z])
      rw [mc_un e2] at h2
      rw [e, mc_us, mc_us, mc_us, mc_un e2, mc_un e2, mc_un e2]
      have h := (hS t ht).2.2 h2
      have h4 := hsep t ht h2
      exact ⟨by omega, by omega⟩
    · rw [mc_un e] at h1
      by_cases e2 : t = s
      · rw [e2, mc_us, mc_us, mc_us, mc_un e, mc_un e, mc_un e]
        have h := (hS x hx).2.2 h1
        have h4 := hsep x hx h1
        exact ⟨by omega, by omega⟩
      · rw [mc_un e2] at h2
        rw [mc_un e, mc_un e, mc_un e, mc_un e2, mc_un e2, mc_un e2]
        exact hD x t hx ht hne h1 h2
  · intro t ht h
    by_cases e : t = s
    · rw [e, mc_us, mc_us]
      have e1 : (a - 1000) / 8 = p := by omega
      rw [e1, hwo.1]
      omega
    · rw [mc_un e] at h
      rw [mc_un e, mc_un e]
      have hf := hF t ht h
      by_cases e1 : (st t - 1000) / 8 = p
      · rw [e1, hwo.1]
        rw [e1, hwp] at hf
        omega
      · rw [hwo.2 _ e1]
        exact hf
  · intro t ht h
    by_cases e : t = s
    · rw [e, mc_us, mc_us, mc_us, mc_us, mc_us, mc_us, mc_us]
      refine ⟨rfl, rfl, by omega, fun j hj => ?_⟩
      rw [← (hw1 j hj).2]
      exact congrArg W' (by omega)
    · rw [mc_un e] at h
      have hb := (hS t ht).2.2 h
      have h4 := hsep t ht h
      obtain ⟨x1, x2, x3, x4⟩ := hX t ht h
      have en : sr t ≠ mk + 1 := by omega
      rw [mc_un e, mc_un e, mc_un e, mc_un e, mc_un en, mc_un en, mc_un en]
      refine ⟨x1, x2, x3, fun j hj => ?_⟩
      rw [(hw2 (st t - 1000 + j) (by omega)).2]
      exact x4 j hj
  · intro i hi
    by_cases c : 8 * p + w ≤ i ∧ i < 8 * p + w + need
    · right
      refine ⟨s, hs, ?_⟩
      rw [mc_us, mc_us, mc_us]
      refine ⟨by omega, ?_, by omega, by omega⟩
      rw [← (hw1 (i - (8 * p + w)) (by omega)).2]
      exact congrArg W' (by omega)
    · rw [(hw2 i (by omega)).2]
      rcases hXW i hi with h | ⟨t, ht, h1, h2, h3, h4⟩
      · exact Or.inl h
      · have e := hts t h1
        refine Or.inr ⟨t, ht, ?_⟩
        rw [mc_un e, mc_un e, mc_un e]
        exact ⟨h1, h2, h3, h4⟩
  · intro v
    by_cases e : v = mk + 1
    · exact Or.inr ⟨s, hs, by rw [mc_us]; omega, by rw [mc_us]; exact e⟩
    · rw [mc_un e]
      rcases hXZ v with h | ⟨t, ht, h1, h2⟩
      · exact Or.inl h
      · have e := hts t h1
        exact Or.inr ⟨t, ht, by rw [mc_un e]; exact h1, by rw [mc_un e]; exact h2⟩
  · intro t ht h k hk
    show mc_LC (mc_up sr s (mk + 1)) (mc_up st s a) (mc_up sz s need) (mc_up pc s np) t k (cell' (3 * t + k)) (words' (mc_up st s a t - 1000 + 1 + k))
    by_cases e : t = s
    · rw [e, mc_us] at hk
      rw [e, mc_us]
      have e1 : words' (a - 1000 + 1 + k) = 0 := by
        rw [← (hw1 (1 + k) (by omega)).1]
        exact congrArg words' (by omega)
      have e2 := hc1 k (by omega)
      rw [e1, e2]
      exact ⟨fun _ => Or.inl ⟨rfl, rfl⟩, fun _ => rfl⟩
    · rw [mc_un e] at h hk
      rw [mc_un e]
      have hb := (hS t ht).2.2 h
      have hb4 := (hS t ht).2.1
      have h4 := hsep t ht h
      have q : mc_LC sr st sz pc t k (cell (3 * t + k)) (words (st t - 1000 + 1 + k)) := hC t ht h k hk
      rw [(hw2 (st t - 1000 + 1 + k) (by omega)).1, hc2 (3 * t + k) (by omega)]
      obtain ⟨q1, q2⟩ := q
      refine ⟨fun hk => ?_, fun hk => ?_⟩
      · rw [mc_un e] at hk
        rcases q1 hk with z | ⟨x, hx, y1, y2, y3⟩
        · exact Or.inl z
        · have ex := hts x y1
          refine Or.inr ⟨x, hx, ?_⟩
          rw [mc_un ex, mc_un ex, mc_un ex]
          exact ⟨y1, y2, y3⟩
      · rw [mc_un e] at hk
        exact q2 hk
  · rw [mc_un (by omega), mc_un (by omega)]
    exact hP0
  · intro q hq
    by_cases e : q = p
    · rw [e, mc_us, hwo.1]
    · rw [mc_un e, hwo.2 q e]
      exact hO q hq
  · refine Nat.le_trans (mc_sm_le 32 (fun q hq => ?_)) hT
    unfold mc_th
    by_cases e : q = p
    · rw [if_neg (fun z => z.2.2 e)]
      exact Nat.zero_le _
    · rw [hwo.2 q e]
      by_cases c : 0 < mc_wo st sz q ∧ mc_wo st sz q < 5 ∧ q ≠ p
      · have hne : q ≠ op := by
          intro z
          rw [z] at c e hq
          rcases hop with h | ⟨_, h | h⟩
          · exact e h.symm
          · omega
          · omega
        rw [if_pos c, if_pos ⟨c.1, c.2.1, hne⟩]
        exact Nat.le_refl _
      · rw [if_neg c]
        exact Nat.zero_le _
  · rw [hU1]
    refine (mc_sm_pt (k := s) 30 hs ?_ (fun i _ hi => mc_un hi)).symm
    rw [mc_us, hz]; omega
  · exact hU
end
end
end
section
/-! the picture in the middle of the moving: st, W, words before, st', W', words' now -/
section
variable {mk lim op U : Nat} {sr st sz pc S P R W O : Nat → Nat} {cell words : Nat → Int32}
def mc_Fr (sr st sz W' : Nat → Nat) (words : Nat → Int32) (st' : Nat → Nat) (words' : Nat → Int32) (s : Nat) : Prop :=
  1000 ≤ st' s ∧ mc_wo st sz ((st' s - 1000) / 8) = 0 ∧ (st' s - 1000) % 8 + sz s ≤ 8 ∧ (st' s - 1000) % 8 + sz s ≤ mc_wo st' sz ((st' s - 1000) / 8) ∧
  ∀ j, j < sz s → W' (st' s - 1000 + j) = sr s ∧ words' (st' s - 1000 + j) = words (st s - 1000 + j)
def mc_Mv (sr st sz W : Nat → Nat) (words : Nat → Int32) (st' S' W' O' : Nat → Nat) (words' : Nat → Int32) (op' : Nat) : Prop :=
  (∀ s, s < 30 → st' s ≤ 1255) ∧
  (∀ s, s < 30 → 0 < sz s → st' s = st s ∨ mc_Fr sr st sz W' words st' words' s) ∧
  mc_Dis sr st' sz ∧
  (∀ i, i < 256 → mc_wo st sz (i / 8) ≠ 0 → W' i = W i ∧ words' i = words i) ∧
  (∀ i, i < 256 → mc_wo st sz (i / 8) = 0 → W' i = 0 ∨ ∃ s, s < 30 ∧ 0 < sz s ∧ st' s ≠ st s ∧ W' i = sr s ∧ st' s ≤ 1000 + i ∧ 1000 + i < st' s + sz s) ∧
  (∀ s, s < 30 → 0 < sz s → S' (sr s) = st' s) ∧ mc_XZ sr sz S' ∧
  (∀ p, p < 32 → (mc_wo st sz p ≠ 0 → O' p = mc_wo st sz p) ∧ (mc_wo st sz p = 0 → O' p = mc_wo st' sz p)) ∧
  op' ≤ 32 ∧ (op' < 32 → mc_wo st sz op' = 0) ∧ (∀ p, p < 32 → mc_wo st sz p = 0 → p ≠ op' → mc_wo st' sz p = 0 ∨ 5 ≤ mc_wo st' sz p)
theorem mc_Mv_0 (hS : mc_Slot mk sr st sz pc) (hD : mc_Dis sr st sz) (hX : mc_XS sr st sz pc S P R W) (hXW : mc_XW sr st sz W) (hXZ : mc_XZ sr sz S)
    (hO : ∀ p, p < 32 → O p = mc_wo st sz p) : mc_Mv sr st sz W words st S W O words 32 := by
  refine ⟨fun s hs => (hS s hs).1, fun _ _ _ => Or.inl rfl, hD, fun _ _ _ => ⟨rfl, rfl⟩, fun i hi h0 => ?_, fun s hs hz => (hX s hs hz).1, hXZ,
    fun p hp => ⟨fun _ => hO p hp, fun _ => hO p hp⟩, Nat.le_refl _, fun h => absurd h (by omega), fun p _ h _ => Or.inl h⟩
  rcases hXW i hi with h | ⟨s, hs, hz, _, h1, h2⟩
  · exact Or.inl h
  · exfalso
    have hb := (hS s hs).2.2 hz
    have e : (st s - 1000) / 8 = i / 8 := by omega
    have := mc_wo_pos hS hs hz
    rw [e] at this
    exact this h0
/-- a free page is there when one is wanted -/
theorem mc_Mv_free {st' S' W' O' : Nat → Nat} {words' : Nat → Int32} {op' need : Nat} (hS : mc_Slot mk sr st sz pc) (hT : mc_Thin st sz op) (hU : mc_sm sz 30 ≤ 60)
    (hM : mc_Mv sr st sz W words st' S' W' O' words' op') (hn : need ≤ 4) (hw : op' = 32 ∨ 8 < mc_wo st' sz op' + need) :
    ∃ p, p < 32 ∧ O' p = 0 := by
  obtain ⟨m1, m2, m3, m4, m5, m6, m7, m8, m9, m10, m11⟩ := hM
  by_cases c : ∃ p, p < 32 ∧ O' p = 0
  · exact c
  · exfalso
    refine mc_free1 (O0 := fun p => mc_wo st sz p) (f := fun p => mc_wo st' sz p) (th := mc_th st sz op) (op := op)
      (Nat.le_trans (mc_wo_sum st sz 32) hU) (Nat.le_trans (mc_wo_sum st' sz 32) hU) hT (fun p hp => ?_)
    show 5 ≤ mc_wo st sz p + mc_wo st' sz p + 3 * mc_th st sz op p + (if p = op then 3 else 0)
    have h0 : O' p ≠ 0 := fun z => c ⟨p, hp, z⟩
    by_cases z : mc_wo st sz p = 0
    · have e := (m8 p hp).2 z
      by_cases ep : p = op'
      · rcases hw with h | h
        · omega
        · rw [← ep] at h
          omega
      · rcases m11 p hp z ep with h | h
        · omega
        · omega
    · have h2 := mc_wo_2 hS z
      unfold mc_th
      by_cases h5 : mc_wo st sz p < 5
      · by_cases eo : p = op
        · rw [if_pos eo]; omega
        · rw [if_pos (c := 0 < mc_wo st sz p ∧ mc_wo st sz p < 5 ∧ p ≠ op) ⟨by omega, h5, eo⟩]; omega
      · omega
theorem mc_Mv_s {st' S' W' O' : Nat → Nat} {words' : Nat → Int32} {op' : Nat} {W2 : Nat → Nat} {words2 : Nat → Int32} {s p w a : Nat}
    (hS : mc_Slot mk sr st sz pc) (hD : mc_Dis sr st sz)
    (hM : mc_Mv sr st sz W words st' S' W' O' words' op') (hs : s < 30) (hz : 0 < sz s) (he : st' s = st s)
    (hp : p < 32) (hf : mc_wo st sz p = 0) (hwp : mc_wo st' sz p = w) (ha : 1000 + 8 * p + w = a) (hw : w + sz s ≤ 8)
    (hop : p = op' ∨ (w = 0 ∧ (op' = 32 ∨ 8 < mc_wo st' sz op' + sz s)))
    (hw1 : ∀ j, j < sz s → words2 (8 * p + w + j) = words' (st s - 1000 + j) ∧ W2 (8 * p + w + j) = sr s)
    (hw2 : ∀ i, (i < 8 * p + w ∨ 8 * p + w + sz s ≤ i) → words2 i = words' i ∧ W2 i = W' i) :
    mc_Mv sr st sz W words (mc_up st' s a) (mc_up S' (sr s) a) W2 (mc_up O' p (w + sz s)) words2 p := by
  obtain ⟨m1, m2, m3, m4, m5, m6, m7, m8, m9, m10, m11⟩ := hM
  have hb := (hS s hs).2.2 hz
  have hb4 := (hS s hs).2.1
  have hb1 := (hS s hs).1
  have hps : (st s - 1000) / 8 ≠ p := fun e => by
    have := mc_wo_pos hS hs hz
    rw [e] at this
    exact this hf
  have h0p : mc_w st' sz p s = 0 := mc_w_f (by rw [he]; omega)
  have hwo1 : mc_wo (mc_up st' s a) sz p = w + sz s := by
    rw [← hwp]
    refine mc_sm_pt (k := s) 30 hs ?_ (fun i _ hi => mc_w_cg (mc_un hi) rfl)
    rw [mc_w_t (by rw [mc_us]; omega), h0p]; omega
  have hwo2 : ∀ q, mc_wo st sz q = 0 → q ≠ p → mc_wo (mc_up st' s a) sz q = mc_wo st' sz q := by
    intro q hq hqp
    have hqs : (st s - 1000) / 8 ≠ q := fun e => by
      have := mc_wo_pos hS hs hz
      rw [e] at this
      exact this hq
    refine mc_sm_congr 30 (fun i _ => ?_)
    by_cases e : i = s
    · rw [e, mc_w_f (st := st') (by rw [he]; omega), mc_w_f (by rw [mc_us]; omega)]
    · exact mc_w_cg (mc_un e) rfl
  have hsep : ∀ t, t < 30 → t ≠ s → 0 < sz t → st' t + sz t ≤ a ∨ a + sz s ≤ st' t := by
    intro t ht hts hzt
    have h := (hS t ht).2.2 hzt
    rw [← ha]
    rcases m2 t ht hzt with e | e
    · rw [e]
      refine mc_sep h.2.1 h.2.2.1 hw (fun e2 => ?_)
      have := mc_wo_pos hS ht hzt
      rw [e2] at this
      exact absurd hf this
    · refine mc_sep e.1 e.2.2.1 hw (fun e2 => ?_)
      have := e.2.2.2.1
      rw [e2, hwp] at this
      exact this
  refine ⟨?_, ?_, ?_, ?_, ?_, ?_, ?_, ?_, by omega, fun _ => hf, ?_⟩
  · intro t ht
    by_cases e : t = s
    · rw [e, mc_us]; omega
    · rw [mc_un e]; exact m1 t ht
  · intro t ht hzt
    by_cases e : t = s
    · right
      have e1 : (a - 1000) / 8 = p := by omega
      unfold mc_Fr
      rw [e, mc_us, e1, hwo1]
      refine ⟨by omega, hf, by omega, by omega, fun j hj => ?_⟩
      have e2 : a - 1000 + j = 8 * p + w + j := by omega
      rw [e2, (hw1 j hj).1, (hw1 j hj).2]
      refine ⟨rfl, (m4 (st s - 1000 + j) (by omega) ?_).2⟩
      have e3 : (st s - 1000 + j) / 8 = (st s - 1000) / 8 := by omega
      rw [e3]
      exact mc_wo_pos hS hs hz
    · rw [mc_un e]
      rcases m2 t ht hzt with c | c
      · exact Or.inl c
      · right
        have hd := hsep t ht e hzt
        obtain ⟨c1, c2, c3, c4, c5⟩ := c
        unfold mc_Fr
        rw [mc_un e]
        refine ⟨c1, c2, c3, ?_, fun j hj => ?_⟩
        · by_cases ep : (st' t - 1000) / 8 = p
          · rw [ep, hwp] at c4
            rw [ep, hwo1]; omega
          · rw [hwo2 _ c2 ep]; exact c4
        · have h3 := hw2 (st' t - 1000 + j) (by omega)
          rw [h3.1, h3.2]
          exact c5 j hj
  · intro x t hx ht hne h1 h2
    refine ⟨(m3 x t hx ht hne h1 h2).1, ?_⟩
    by_cases e : x = s
    · have e2 : t ≠ s := fun z => hne (by rw [e, z])
      rw [e, mc_us, mc_un e2]
      have := hsep t ht e2 h2
      omega
    · by_cases e2 : t = s
      · rw [e2, mc_us, mc_un e]
        have := hsep x hx e h1
        omega
      · rw [mc_un e, mc_un e2]
        exact (m3 x t hx ht hne h1 h2).2
  · intro i hi h
    have hin : i < 8 * p + w ∨ 8 * p + w + sz s ≤ i := by
      by_cases c : i / 8 = p
      · rw [c] at h; exact absurd hf h
      · omega
    have h3 := hw2 i hin
    rw [h3.1, h3.2]
    exact m4 i hi h
  · intro i hi h
    by_cases c : 8 * p + w ≤ i ∧ i < 8 * p + w + sz s
    · right
      refine ⟨s, hs, hz, ?_⟩
      rw [mc_us]
      refine ⟨by omega, ?_, by omega, by omega⟩
      rw [← (hw1 (i - (8 * p + w)) (by omega)).2]
      exact congrArg W2 (by omega)
    · rw [(hw2 i (by omega)).2]
      rcases m5 i hi h with c2 | ⟨t, ht, h1, h2, h3, h4⟩
      · exact Or.inl c2
      · have e : t ≠ s := fun z => h2 (by rw [z]; exact he)
        refine Or.inr ⟨t, ht, h1, ?_⟩
        rw [mc_un e]
        exact ⟨h2, h3, h4⟩
  · intro t ht hzt
    by_cases e : t = s
    · rw [e, mc_us, mc_us]
    · rw [mc_un e, mc_un (m3 t s ht hs e hzt hz).1]
      exact m6 t ht hzt
  · intro v
    by_cases e : v = sr s
    · exact Or.inr ⟨s, hs, hz, e⟩
    · rw [mc_un e]; exact m7 v
  · intro q hq
    by_cases e : q = p
    · rw [e, mc_us, hwo1]
      exact ⟨fun h => absurd hf h, fun _ => rfl⟩
    · rw [mc_un e]
      refine ⟨(m8 q hq).1, fun h => ?_⟩
      rw [hwo2 q h e]
      exact (m8 q hq).2 h
  · intro q hq h0 hne
    rw [hwo2 q h0 hne]
    by_cases e : q = op'
    · rcases hop with h | ⟨_, h | h⟩
      · omega
      · omega
      · rw [← e] at h
        omega
    · exact m11 q hq h0 e
/-- which slots have moved when the list has been walked up to n -/
def mc_MI (l : (Nat → Nat) × Nat) (m0 n : Nat) (st st' : Nat → Nat) : Prop :=
  (∀ s, s < 30 → (∀ i, m0 ≤ i → i < n → i < l.2 → l.1 i ≠ s) → st' s = st s) ∧ (∀ i, m0 ≤ i → i < n → i < l.2 → st' (l.1 i) ≠ st (l.1 i))
theorem mc_MI_0 {l : (Nat → Nat) × Nat} {m0 : Nat} {st : Nat → Nat} : mc_MI l m0 m0 st st :=
  ⟨fun _ _ _ => rfl, fun i h1 h2 _ => absurd h2 (by omega)⟩
theorem mc_MI_s {l : (Nat → Nat) × Nat} {m0 n a : Nat} {st' : Nat → Nat} (hl : mc_LG sz l) (hn : n < l.2) (h0 : m0 ≤ n) (h : mc_MI l m0 n st st') (ha : a ≠ st (l.1 n)) :
    mc_MI l m0 (n + 1) st (mc_up st' (l.1 n) a) := by
  constructor
  · intro s hs hi
    have e : s ≠ l.1 n := fun z => hi n h0 (by omega) hn z.symm
    rw [mc_un e]
    exact h.1 s hs (fun i h1 h2 h3 => hi i h1 (by omega) h3)
  · intro i h1 h2 h3
    by_cases e : i = n
    · rw [e, mc_us]; exact ha
    · rw [mc_un (hl.2 i n (by omega) hn)]
      exact h.2 i h1 (by omega) h3
theorem mc_MI_un {l : (Nat → Nat) × Nat} {m0 n : Nat} {st' : Nat → Nat} (hl : mc_LG sz l) (h : mc_MI l m0 n st st') {i : Nat} (hi : i < l.2) (hc : i < m0 ∨ n ≤ i) : st' (l.1 i) = st (l.1 i) := by
  refine h.1 _ (hl.1 i hi).1 (fun j h1 h2 h3 => ?_)
  by_cases e : j < i
  · exact hl.2 j i e hi
  · exact fun z => hl.2 i j (by omega) h3 z.symm
end
end
section
/-! the picture when a collection ends -/
section
variable {mk lim op U : Nat} {sr st sz pc S P R W O : Nat → Nat} {cell words : Nat → Int32}
theorem mc_fin {st' S' W' O' : Nat → Nat} {words' : Nat → Int32} {op' m0 : Nat} {l : (Nat → Nat) × Nat} {pn sz2 S2 W2 O2 : Nat → Nat} {words2 : Nat → Int32}
    (hG : mc_G mk lim op sr st sz pc cell words S P R W O U) (hM : mc_Mv sr st sz W words st' S' W' O' words' op') (hl : mc_LG sz l) (hI : mc_MI l m0 l.2 st st')
    (hpn : ∀ s, s < 30 → 0 < sz s → (pn ((st s - 1000) / 8) = 1 ↔ ∃ i, i < m0 ∧ i < l.2 ∧ l.1 i = s)) (hpc : mc_sm pn 32 ≤ 8)
    (hcl : ∀ s k t, mc_in l s → k < pc s → t < 30 → 0 < sz t → cell (3 * s + k) = nI (sr t) → mc_in l t)
    (hz1 : ∀ s, s < 30 → mc_in l s → sz2 s = sz s) (hz0 : ∀ s, s < 30 → ¬ mc_in l s → sz2 s = 0)
    (hC2 : ∀ s, s < 30 → mc_in l s → ∀ k, k + 1 < sz s → mc_LC sr st' sz pc s k (cell (3 * s + k)) (words2 (st' s - 1000 + 1 + k)))
    (hS1 : ∀ s, s < 30 → mc_in l s → 0 < sz s → S2 (sr s) = st' s) (hS0 : ∀ s, s < 30 → ¬ mc_in l s → 0 < sz s → S2 (sr s) = 0)
    (hSv : ∀ v, S2 v = 0 ∨ S2 v = S' v)
    (hW0 : ∀ i, i < 256 → mc_wo st sz (i / 8) ≠ 0 → pn (i / 8) ≠ 1 → W2 i = 0) (hW1 : ∀ i, i < 256 → (mc_wo st sz (i / 8) = 0 ∨ pn (i / 8) = 1) → W2 i = W' i)
    (hO0 : ∀ p, p < 32 → mc_wo st sz p ≠ 0 → pn p ≠ 1 → O2 p = 0) (hO1 : ∀ p, p < 32 → (mc_wo st sz p = 0 ∨ pn p = 1) → O2 p = O' p) :
    mc_G mk lim op' sr st' sz2 pc cell words2 S2 P R W2 O2 (mc_sm sz2 30) := by
  obtain ⟨hS, hD, hF, hX, hXW, hXZ, hC, hP0, hO, hT, hU1, hU2, hL, hop2, hmk⟩ := hG
  obtain ⟨m1, m2, m3, m4, m5, m6, m7, m8, m9, m10, m11⟩ := hM
  have hmov : ∀ s, s < 30 → 0 < sz s → st' s ≠ st s → mc_Fr sr st sz W' words st' words' s := by
    intro s hs hz hne
    rcases m2 s hs hz with h | h
    · exact absurd h hne
    · exact h
  have hin : ∀ s, s < 30 → 0 < sz s → mc_in l s → (pn ((st s - 1000) / 8) = 1 ∧ st' s = st s) ∨ (pn ((st s - 1000) / 8) ≠ 1 ∧ st' s ≠ st s) := by
    intro s hs hz hi
    by_cases c : pn ((st s - 1000) / 8) = 1
    · left
      obtain ⟨i, h1, h2, h3⟩ := (hpn s hs hz).mp c
      refine ⟨c, ?_⟩
      rw [← h3]
      exact mc_MI_un hl hI h2 (Or.inl h1)
    · right
      refine ⟨c, ?_⟩
      obtain ⟨i, h2, h3⟩ := hi
      have h1 : m0 ≤ i := by
        by_cases z : m0 ≤ i
        · exact z
        · exact absurd ((hpn s hs hz).mpr ⟨i, by omega, h2, h3⟩) c
      rw [← h3]
      exact hI.2 i h1 h2 h2
  have hout : ∀ s, s < 30 → 0 < sz s → ¬ mc_in l s → pn ((st s - 1000) / 8) ≠ 1 ∧ st' s = st s := by
    intro s hs hz hi
    refine ⟨fun c => ?_, hI.1 s hs (fun i _ h2 h3 h4 => hi ⟨i, h3, h4⟩)⟩
    obtain ⟨i, h1, h2, h3⟩ := (hpn s hs hz).mp c
    exact hi ⟨i, h2, h3⟩
  have hz2 : ∀ s, s < 30 → 0 < sz2 s → mc_in l s ∧ sz2 s = sz s ∧ 0 < sz s := by
    intro s hs hz
    by_cases c : mc_in l s
    · have := hz1 s hs c
      exact ⟨c, this, by omega⟩
    · have := hz0 s hs c
      omega
  have hwp := fun s hs hz => mc_wo_pos (s := s) hS hs hz
  have hwa : ∀ p, mc_wo st sz p = 0 → mc_wo st' sz2 p = mc_wo st' sz p := by
    intro p hp
    refine mc_sm_congr 30 (fun s hs => ?_)
    by_cases c : mc_in l s
    · exact mc_w_cg rfl (hz1 s hs c)
    · have h1 := mc_w_le st' sz2 p s
      rw [hz0 s hs c] at h1
      have h2 : mc_w st' sz p s = 0 := by
        by_cases z : 0 < sz s
        · have e := (hout s hs z c).2
          have hb := (hS s hs).2.2 z
          refine mc_w_f (fun hh => ?_)
          rw [e] at hh
          have e2 : (st s - 1000) / 8 = p := by omega
          have := hwp s hs z
          rw [e2] at this
          exact this hp
        · have := mc_w_le st' sz p s
          omega
      omega
  have hwb : ∀ p, mc_wo st sz p ≠ 0 → pn p = 1 → mc_wo st' sz2 p = mc_wo st sz p := by
    intro p hp hq
    refine mc_sm_congr 30 (fun s hs => ?_)
    have hoff : 0 < sz s → pn ((st s - 1000) / 8) ≠ 1 → mc_w st sz p s = 0 := by
      intro z hne
      have hb := (hS s hs).2.2 z
      refine mc_w_f (fun hh => ?_)
      have e2 : (st s - 1000) / 8 = p := by omega
      rw [e2] at hne
      exact hne hq
    by_cases z : 0 < sz s
    · by_cases c : mc_in l s
      · rcases hin s hs z c with ⟨_, h2⟩ | ⟨h1, h2⟩
        · exact mc_w_cg h2 (hz1 s hs c)
        · rw [hoff z h1]
          obtain ⟨f1, f2, f3, f4, f5⟩ := hmov s hs z h2
          refine mc_w_f (fun hh => ?_)
          have e2 : (st' s - 1000) / 8 = p := by omega
          rw [e2] at f2
          exact hp f2
      · have h1 := mc_w_le st' sz2 p s
        rw [hz0 s hs c] at h1
        have := hoff z (hout s hs z c).1
        omega
    · have h1 := mc_w_le st' sz2 p s
      have h2 := mc_w_le st sz p s
      have h3 : sz2 s = 0 := by
        by_cases c : mc_in l s
        · have := hz1 s hs c; omega
        · exact hz0 s hs c
      omega
  have hwc : ∀ p, mc_wo st sz p ≠ 0 → pn p ≠ 1 → mc_wo st' sz2 p = 0 := by
    intro p hp hq
    refine mc_sm_0 30 (fun s hs => ?_)
    by_cases z : 0 < sz2 s
    · obtain ⟨c, e, zz⟩ := hz2 s hs z
      have hb := (hS s hs).2.2 zz
      refine mc_w_f (fun hh => ?_)
      rcases hin s hs zz c with ⟨h1, h2⟩ | ⟨h1, h2⟩
      · rw [h2] at hh
        have e2 : (st s - 1000) / 8 = p := by omega
        rw [e2] at h1
        exact hq h1
      · obtain ⟨f1, f2, f3, f4, f5⟩ := hmov s hs zz h2
        have e2 : (st' s - 1000) / 8 = p := by omega
        rw [e2] at f2
        exact hp f2
    · have h1 := mc_w_le st' sz2 p s
      omega
  refine ⟨?_, ?_, ?_, ?_, ?_, ?_, ?_, hP0, ?_, ?_, rfl, ?_, hL, m9, hmk⟩
  · intro s hs
    obtain ⟨a1, a2, a3⟩ := hS s hs
    refine ⟨m1 s hs, ?_, fun z => ?_⟩
    · by_cases c : mc_in l s
      · rw [hz1 s hs c]; exact a2
      · rw [hz0 s hs c]; omega
    · obtain ⟨c, e, zz⟩ := hz2 s hs z
      obtain ⟨b1, b2, b3, b4, b5, b6⟩ := a3 zz
      rw [e]
      rcases hin s hs zz c with ⟨h1, h2⟩ | ⟨h1, h2⟩
      · rw [h2]; exact ⟨b1, b2, b3, b4, b5, b6⟩
      · obtain ⟨f1, f2, f3, f4, f5⟩ := hmov s hs zz h2
        exact ⟨b1, f1, f3, b4, b5, b6⟩
  · intro s t hs ht hne h1 h2
    obtain ⟨_, e1, z1⟩ := hz2 s hs h1
    obtain ⟨_, e2, z2⟩ := hz2 t ht h2
    rw [e1, e2]
    exact m3 s t hs ht hne z1 z2
  · intro s hs h1
    obtain ⟨c, e, z⟩ := hz2 s hs h1
    have hb := (hS s hs).2.2 z
    rw [e]
    rcases hin s hs z c with ⟨g1, g2⟩ | ⟨g1, g2⟩
    · rw [g2, hwb _ (hwp s hs z) g1]
      exact hF s hs z
    · obtain ⟨f1, f2, f3, f4, f5⟩ := hmov s hs z g2
      rw [hwa _ f2]
      exact f4
  · intro s hs h1
    obtain ⟨c, e, z⟩ := hz2 s hs h1
    have hb := (hS s hs).2.2 z
    have hb1 := (hS s hs).1
    obtain ⟨x1, x2, x3, x4⟩ := hX s hs z
    rw [e]
    refine ⟨hS1 s hs c z, x2, x3, fun j hj => ?_⟩
    rcases hin s hs z c with ⟨g1, g2⟩ | ⟨g1, g2⟩
    · rw [g2]
      have e3 : (st s - 1000 + j) / 8 = (st s - 1000) / 8 := by omega
      rw [hW1 (st s - 1000 + j) (by omega) (Or.inr (by rw [e3]; exact g1)), (m4 (st s - 1000 + j) (by omega) (by rw [e3]; exact hwp s hs z)).1]
      exact x4 j hj
    · obtain ⟨f1, f2, f3, f4, f5⟩ := hmov s hs z g2
      have m := m1 s hs
      have e3 : (st' s - 1000 + j) / 8 = (st' s - 1000) / 8 := by omega
      rw [hW1 (st' s - 1000 + j) (by omega) (Or.inl (by rw [e3]; exact f2))]
      exact (f5 j hj).1
  · intro i hi
    by_cases c0 : mc_wo st sz (i / 8) = 0
    · rw [hW1 i hi (Or.inl c0)]
      rcases m5 i hi c0 with h | ⟨s, hs, h1, h2, h3, h4⟩
      · exact Or.inl h
      · have c : mc_in l s := by
          by_cases c : mc_in l s
          · exact c
          · exact absurd (hout s hs h1 c).2 h2
        refine Or.inr ⟨s, hs, ?_⟩
        rw [hz1 s hs c]
        exact ⟨h1, h3, h4⟩
    · by_cases c1 : pn (i / 8) = 1
      · rw [hW1 i hi (Or.inr c1), (m4 i hi c0).1]
        rcases hXW i hi with h | ⟨s, hs, h1, h2, h3, h4⟩
        · exact Or.inl h
        · have hb := (hS s hs).2.2 h1
          have e : (st s - 1000) / 8 = i / 8 := by omega
          obtain ⟨j, j1, j2, j3⟩ := (hpn s hs h1).mp (by rw [e]; exact c1)
          have c : mc_in l s := ⟨j, j2, j3⟩
          have e2 : st' s = st s := by
            rw [← j3]
            exact mc_MI_un hl hI j2 (Or.inl j1)
          refine Or.inr ⟨s, hs, ?_⟩
          rw [hz1 s hs c, e2]
          exact ⟨h1, h2, h3, h4⟩
      · exact Or.inl (hW0 i hi c0 c1)
  · intro v
    rcases hSv v with h | h
    · exact Or.inl h
    · rcases m7 v with h2 | ⟨s, hs, h1, h2⟩
      · exact Or.inl (by rw [h]; exact h2)
      · by_cases c : mc_in l s
        · exact Or.inr ⟨s, hs, by rw [hz1 s hs c]; exact h1, h2⟩
        · left
          rw [h2]
          exact hS0 s hs c h1
  · intro s hs h1 k hk
    obtain ⟨c, e, z⟩ := hz2 s hs h1
    rw [e] at hk
    obtain ⟨q1, q2⟩ := hC2 s hs c k hk
    refine ⟨fun hk2 => ?_, q2⟩
    rcases q1 hk2 with h | ⟨t, ht, t1, t2, t3⟩
    · exact Or.inl h
    · have ct := hcl s k t c hk2 ht t1 t2
      refine Or.inr ⟨t, ht, ?_, t2, t3⟩
      rw [hz1 t ht ct]
      exact t1
  · intro p hp
    by_cases c0 : mc_wo st sz p = 0
    · rw [hO1 p hp (Or.inl c0), hwa p c0]
      exact (m8 p hp).2 c0
    · by_cases c1 : pn p = 1
      · rw [hO1 p hp (Or.inr c1), hwb p c0 c1]
        exact (m8 p hp).1 c0
      · rw [hO0 p hp c0 c1, hwc p c0 c1]
  · refine Nat.le_trans (mc_sm_le 32 (fun p hp => ?_)) hpc
    unfold mc_th
    by_cases c : 0 < mc_wo st' sz2 p ∧ mc_wo st' sz2 p < 5 ∧ p ≠ op'
    · rw [if_pos c]
      obtain ⟨d1, d2, d3⟩ := c
      by_cases c0 : mc_wo st sz p = 0
      · rw [hwa p c0] at d1 d2
        have := m11 p hp c0 d3
        omega
      · by_cases c1 : pn p = 1
        · omega
        · have := hwc p c0 c1
          omega
    · rw [if_neg c]
      exact Nat.zero_le _
  · refine Nat.le_trans (mc_sm_le 30 (fun s hs => ?_)) (by rw [← hU1]; exact hU2 : mc_sm sz 30 ≤ lim)
    by_cases c : mc_in l s
    · rw [hz1 s hs c]; exact Nat.le_refl _
    · rw [hz0 s hs c]; exact Nat.zero_le _
end
end
section
/-! redirecting and emptying, as pictures -/
noncomputable def mc_if (c : Prop) (a b : Nat) : Nat := @ite Nat c (Classical.propDecidable c) a b
theorem mc_if_t {c : Prop} {a b : Nat} (h : c) : mc_if c a b = a := if_pos h
theorem mc_if_f {c : Prop} {a b : Nat} (h : ¬ c) : mc_if c a b = b := if_neg h
theorem mc_if_cg {c d : Prop} {a b : Nat} (h : c ↔ d) : mc_if c a b = mc_if d a b := by
  by_cases z : c
  · rw [mc_if_t z, mc_if_t (h.mp z)]
  · rw [mc_if_f z, mc_if_f (fun y => z (h.mpr y))]
section
variable {mk lim op U : Nat} {sr st sz pc S P R W O : Nat → Nat} {cell words : Nat → Int32} {l : (Nat → Nat) × Nat}
theorem mc_Mv_Slot {st' S' W' O' : Nat → Nat} {words' : Nat → Int32} {op' : Nat} (hS : mc_Slot mk sr st sz pc) (hM : mc_Mv sr st sz W words st' S' W' O' words' op') : mc_Slot mk sr st' sz pc := by
  intro s hs
  obtain ⟨a1, a2, a3⟩ := hS s hs
  refine ⟨hM.1 s hs, a2, fun z => ?_⟩
  obtain ⟨b1, b2, b3, b4, b5, b6⟩ := a3 z
  rcases hM.2.1 s hs z with h | h
  · rw [h]; exact ⟨b1, b2, b3, b4, b5, b6⟩
  · exact ⟨b1, h.1, h.2.2.1, b4, b5, b6⟩
def mc_dn (l : (Nat → Nat) × Nat) (n k s k' : Nat) : Prop := ∃ j, j < l.2 ∧ l.1 j = s ∧ (j < n ∨ (j = n ∧ k' < k))
def mc_RQ (l : (Nat → Nat) × Nat) (sr st st' sz pc : Nat → Nat) (cell : Nat → Int32) (n k s k' : Nat) (x : Int32) : Prop :=
  (mc_dn l n k s k' → mc_LC sr st' sz pc s k' (cell (3 * s + k')) x) ∧ (¬ mc_dn l n k s k' → mc_LC sr st sz pc s k' (cell (3 * s + k')) x)
theorem mc_RD_0 {st' S' W' O' : Nat → Nat} {words' : Nat → Int32} {op' : Nat} (hS : mc_Slot mk sr st sz pc) (hC : mc_CG st sz (fun s k w => mc_LC sr st sz pc s k (cell (3 * s + k)) w) words)
    (hM : mc_Mv sr st sz W words st' S' W' O' words' op') : mc_CG st' sz (mc_RQ l sr st st' sz pc cell 0 0) words' := by
  intro s hs z k hk
  have q : mc_LC sr st sz pc s k (cell (3 * s + k)) (words (st s - 1000 + 1 + k)) := hC s hs z k hk
  have hb := (hS s hs).2.2 z
  have hb1 := (hS s hs).1
  have e : words' (st' s - 1000 + 1 + k) = words (st s - 1000 + 1 + k) := by
    rcases hM.2.1 s hs z with h | h
    · rw [h]
      refine (hM.2.2.2.1 _ (by omega) ?_).2
      have e3 : (st s - 1000 + 1 + k) / 8 = (st s - 1000) / 8 := by omega
      rw [e3]
      exact mc_wo_pos hS hs z
    · have := (h.2.2.2.2 (1 + k) (by omega)).2
      rw [← Nat.add_assoc, ← Nat.add_assoc] at this
      exact this
  rw [e]
  refine ⟨fun h => ?_, fun _ => q⟩
  obtain ⟨j, h1, h2, h3⟩ := h
  omega
theorem mc_RD_s {st' : Nat → Nat} {words' : Nat → Int32} {n k : Nat} {x : Int32} (hl : mc_LG sz l) (hS' : mc_Slot mk sr st' sz pc) (hD' : mc_Dis sr st' sz)
    (h : mc_CG st' sz (mc_RQ l sr st st' sz pc cell n k) words') (hn : n < l.2) (hk : k < pc (l.1 n))
    (hx : mc_LC sr st' sz pc (l.1 n) k (cell (3 * l.1 n + k)) x) :
    mc_CG st' sz (mc_RQ l sr st st' sz pc cell n (k + 1)) (upd words' (st' (l.1 n) - 1000 + 1 + k) x) := by
  have hs := hl.1 n hn
  have hb := (hS' (l.1 n) hs.1).2.2 hs.2
  refine mc_CG_upd hS' hD' h hs.1 (by omega) x ⟨fun _ => hx, fun z => absurd ⟨n, hn, rfl, Or.inr ⟨rfl, by omega⟩⟩ z⟩ (fun s' k' y h1 h2 h3 h4 => ?_)
  have hiff : mc_dn l n (k + 1) s' k' → mc_dn l n k s' k' := by
    rintro ⟨j, j1, j2, j3 | ⟨j3, j4⟩⟩
    · exact ⟨j, j1, j2, Or.inl j3⟩
    · refine ⟨j, j1, j2, Or.inr ⟨j3, ?_⟩⟩
      rcases h3 with h3 | h3
      · exact absurd (by rw [← j2, j3]) h3
      · omega
  refine ⟨fun z => h4.1 (hiff z), fun z => h4.2 (fun y => z ?_)⟩
  obtain ⟨j, j1, j2, j3⟩ := y
  exact ⟨j, j1, j2, by omega⟩
theorem mc_RD_e {st' : Nat → Nat} {words' : Nat → Int32} {n : Nat} (hl : mc_LG sz l)
    (h : mc_CG st' sz (mc_RQ l sr st st' sz pc cell n (pc (l.1 n))) words') (hn : n < l.2) :
    mc_CG st' sz (mc_RQ l sr st st' sz pc cell (n + 1) 0) words' := by
  refine mc_CG_mono h (fun s k y hs hk q => ?_)
  have hraw : pc s ≤ k → (mc_LC sr st' sz pc s k (cell (3 * s + k)) y ↔ mc_LC sr st sz pc s k (cell (3 * s + k)) y) := by
    intro hp
    constructor
    · intro z; exact ⟨fun a => absurd a (by omega), z.2⟩
    · intro z; exact ⟨fun a => absurd a (by omega), z.2⟩
  by_cases c : mc_dn l n (pc (l.1 n)) s k
  · refine ⟨fun _ => q.1 c, fun z => absurd ?_ z⟩
    obtain ⟨j, j1, j2, j3⟩ := c
    exact ⟨j, j1, j2, by omega⟩
  · refine ⟨fun z => ?_, fun _ => q.2 c⟩
    obtain ⟨j, j1, j2, j3⟩ := z
    have e : j = n := by
      by_cases e : j = n
      · exact e
      · exact absurd ⟨j, j1, j2, by omega⟩ c
    have hp : pc s ≤ k := by
      by_cases z : k < pc s
      · refine absurd ⟨j, j1, j2, Or.inr ⟨e, ?_⟩⟩ c
        rw [← e, j2]; exact z
      · omega
    exact (hraw hp).mpr (q.2 c)
/-- the word that is read at (n, k) -/
theorem mc_RD_r {st' : Nat → Nat} {words' : Nat → Int32} {n k : Nat} (hl : mc_LG sz l) (hS' : mc_Slot mk sr st' sz pc)
    (h : mc_CG st' sz (mc_RQ l sr st st' sz pc cell n k) words') (hn : n < l.2) (hk : k < pc (l.1 n)) :
    (cell (3 * l.1 n + k) = 0 ∧ words' (st' (l.1 n) - 1000 + 1 + k) = 0) ∨ ∃ t, t < 30 ∧ 0 < sz t ∧ cell (3 * l.1 n + k) = nI (sr t) ∧ words' (st' (l.1 n) - 1000 + 1 + k) = nI (st t) := by
  have hs := hl.1 n hn
  have hb := (hS' (l.1 n) hs.1).2.2 hs.2
  have q := h (l.1 n) hs.1 hs.2 k (by omega)
  refine (q.2 (fun z => ?_)).1 hk
  obtain ⟨j, j1, j2, j3⟩ := z
  by_cases e : j < n
  · exact hl.2 j n e hn j2
  · omega
theorem mc_RD_f {st' : Nat → Nat} {words' : Nat → Int32} (hl : mc_LG sz l) (h : mc_CG st' sz (mc_RQ l sr st st' sz pc cell l.2 0) words') :
    ∀ s, s < 30 → mc_in l s → ∀ k, k + 1 < sz s → mc_LC sr st' sz pc s k (cell (3 * s + k)) (words' (st' s - 1000 + 1 + k)) := by
  intro s hs hi k hk
  have q := h s hs (by omega) k hk
  refine q.1 ?_
  obtain ⟨i, i1, i2⟩ := hi
  exact ⟨i, i1, i2, Or.inl i1⟩
/-- emptying: what has died below heap index n -/
noncomputable def mc_ez (l : (Nat → Nat) × Nat) (st sz : Nat → Nat) (n s : Nat) : Nat := mc_if (¬ mc_in l s ∧ st s < 1000 + n) 0 (sz s)
noncomputable def mc_ec (l : (Nat → Nat) × Nat) (st sz : Nat → Nat) (n s : Nat) : Nat := mc_if (0 < sz s ∧ ¬ mc_in l s ∧ st s < 1000 + n) 1 0
def mc_ES (l : (Nat → Nat) × Nat) (sr st sz st' S' : Nat → Nat) (n : Nat) (S2 : Nat → Nat) (U2 dc : Nat) : Prop :=
  (∀ s, s < 30 → 0 < sz s → S2 (sr s) = mc_if (¬ mc_in l s ∧ st s < 1000 + n) 0 (st' s)) ∧ (∀ v, S2 v = 0 ∨ S2 v = S' v) ∧
  U2 = mc_sm (mc_ez l st sz n) 30 ∧ dc = mc_sm (mc_ec l st sz n) 30
theorem mc_ES_0 {st' S' : Nat → Nat} (hS : mc_Slot mk sr st sz pc) (h6 : ∀ s, s < 30 → 0 < sz s → S' (sr s) = st' s) : mc_ES l sr st sz st' S' 0 S' (mc_sm sz 30) 0 := by
  refine ⟨fun s hs z => ?_, fun _ => Or.inr rfl, mc_sm_congr 30 (fun s hs => ?_), (mc_sm_0 30 (fun s hs => ?_)).symm⟩
  · have hb := (hS s hs).2.2 z
    rw [mc_if_f (fun c => by omega)]
    exact h6 s hs z
  · by_cases c : ¬ mc_in l s ∧ st s < 1000 + 0
    · unfold mc_ez
      rw [mc_if_t c]
      by_cases z : 0 < sz s
      · have hb := (hS s hs).2.2 z
        omega
      · omega
    · unfold mc_ez
      rw [mc_if_f c]
  · refine mc_if_f (fun c => ?_)
    have hb := (hS s hs).2.2 c.1
    omega
theorem mc_ES_same {st' S' S2 : Nat → Nat} {n m U2 dc : Nat} (h : mc_ES l sr st sz st' S' n S2 U2 dc) (hnm : n ≤ m)
    (hno : ∀ s, s < 30 → 0 < sz s → ¬ mc_in l s → st s < 1000 + n ∨ 1000 + m ≤ st s) : mc_ES l sr st sz st' S' m S2 U2 dc := by
  obtain ⟨h1, h2, h3, h4⟩ := h
  have key : ∀ s, s < 30 → 0 < sz s → ((¬ mc_in l s ∧ st s < 1000 + n) ↔ (¬ mc_in l s ∧ st s < 1000 + m)) := by
    intro s hs z
    constructor
    · rintro ⟨a, b⟩; exact ⟨a, by omega⟩
    · rintro ⟨a, b⟩
      have := hno s hs z a
      exact ⟨a, by omega⟩
  refine ⟨fun s hs z => ?_, h2, ?_, ?_⟩
  · rw [h1 s hs z]
    exact mc_if_cg (key s hs z)
  · rw [h3]
    refine mc_sm_congr 30 (fun s hs => ?_)
    unfold mc_ez
    by_cases z : 0 < sz s
    · exact mc_if_cg (key s hs z)
    · have e : sz s = 0 := by omega
      rw [e]
      by_cases c1 : ¬ mc_in l s ∧ st s < 1000 + n
      · rw [mc_if_t c1]
        by_cases c2 : ¬ mc_in l s ∧ st s < 1000 + m
        · rw [mc_if_t c2]
        · rw [mc_if_f c2]
      · rw [mc_if_f c1]
        by_cases c2 : ¬ mc_in l s ∧ st s < 1000 + m
        · rw [mc_if_t c2]
        · rw [mc_if_f c2]
  · rw [h4]
    refine mc_sm_congr 30 (fun s hs => ?_)
    unfold mc_ec
    refine mc_if_cg ?_
    constructor
    · rintro ⟨z, c⟩; exact ⟨z, (key s hs z).mp c⟩
    · rintro ⟨z, c⟩; exact ⟨z, (key s hs z).mpr c⟩
theorem mc_ES_die {st' S' S2 : Nat → Nat} {n U2 dc s : Nat} (hD : mc_Dis sr st sz) (h : mc_ES l sr st sz st' S' n S2 U2 dc) (hs : s < 30) (hz : 0 < sz s) (hi : ¬ mc_in l s)
    (he : st s = 1000 + n) : mc_ES l sr st sz st' S' (n + 1) (mc_up S2 (sr s) 0) (U2 - sz s) (dc + 1) := by
  obtain ⟨h1, h2, h3, h4⟩ := h
  have key : ∀ t, t < 30 → 0 < sz t → t ≠ s → ((¬ mc_in l t ∧ st t < 1000 + n) ↔ (¬ mc_in l t ∧ st t < 1000 + (n + 1))) := by
    intro t ht z hne
    have hd := (hD t s ht hs hne z hz).2
    constructor
    · rintro ⟨a, b⟩; exact ⟨a, by omega⟩
    · rintro ⟨a, b⟩; exact ⟨a, by omega⟩
  refine ⟨fun t ht z => ?_, fun v => ?_, ?_, ?_⟩
  · by_cases e : t = s
    · rw [e, mc_us, mc_if_t ⟨hi, by omega⟩]
    · rw [mc_un (hD t s ht hs e z hz).1, h1 t ht z]
      exact mc_if_cg (key t ht z e)
  · by_cases e : v = sr s
    · rw [e, mc_us]; exact Or.inl rfl
    · rw [mc_un e]; exact h2 v
  · have e := mc_sm_pt (f := mc_ez l st sz (n + 1)) (g := mc_ez l st sz n) (k := s) (x := sz s) 30 hs (by
      unfold mc_ez
      rw [mc_if_f (fun c => by omega), mc_if_t ⟨hi, by omega⟩]
      omega) (fun t ht hne => by
      unfold mc_ez
      by_cases z : 0 < sz t
      · exact mc_if_cg (key t ht z hne)
      · have e : sz t = 0 := by omega
        rw [e]
        by_cases c1 : ¬ mc_in l t ∧ st t < 1000 + n
        · rw [mc_if_t c1, mc_if_t ⟨c1.1, by omega⟩]
        · rw [mc_if_f c1]
          by_cases c2 : ¬ mc_in l t ∧ st t < 1000 + (n + 1)
          · rw [mc_if_t c2]
          · rw [mc_if_f c2])
    omega
  · have e := mc_sm_pt (f := mc_ec l st sz n) (g := mc_ec l st sz (n + 1)) (k := s) (x := 1) 30 hs (by
      unfold mc_ec
      rw [mc_if_t ⟨hz, hi, by omega⟩, mc_if_f (fun c => by omega)]) (fun t ht hne => by
      unfold mc_ec
      refine mc_if_cg ?_
      constructor
      · rintro ⟨z, c⟩; exact ⟨z, (key t ht z hne).mpr c⟩
      · rintro ⟨z, c⟩; exact ⟨z, (key t ht z hne).mp c⟩)
    omega
/-- owners while emptying -/
def mc_EW (st sz pn W' : Nat → Nat) (n : Nat) (W2 : Nat → Nat) : Prop :=
  ∀ i, i < 256 → (i < n → mc_wo st sz (i / 8) ≠ 0 → pn (i / 8) ≠ 1 → W2 i = 0) ∧ ((n ≤ i ∨ mc_wo st sz (i / 8) = 0 ∨ pn (i / 8) = 1) → W2 i = W' i)
theorem mc_EW_0 {pn W' : Nat → Nat} : mc_EW st sz pn W' 0 W' := fun i _ => ⟨fun h => absurd h (by omega), fun _ => rfl⟩
theorem mc_EW_s {pn W' W2 : Nat → Nat} {n : Nat} (h : mc_EW st sz pn W' n W2) (h1 : mc_wo st sz (n / 8) ≠ 0) (h2 : pn (n / 8) ≠ 1) : mc_EW st sz pn W' (n + 1) (mc_up W2 n 0) := by
  intro i hi
  by_cases e : i = n
  · rw [e, mc_us]
    refine ⟨fun _ _ _ => rfl, fun z => ?_⟩
    rcases z with z | z | z
    · omega
    · exact absurd z h1
    · exact absurd z h2
  · rw [mc_un e]
    refine ⟨fun a => (h i hi).1 (by omega), fun z => (h i hi).2 ?_⟩
    rcases z with z | z
    · exact Or.inl (by omega)
    · exact Or.inr z
theorem mc_EW_p {pn W' W2 : Nat → Nat} {p : Nat} (h : mc_EW st sz pn W' (8 * p) W2) (h1 : mc_wo st sz p = 0 ∨ pn p = 1) : mc_EW st sz pn W' (8 * (p + 1)) W2 := by
  intro i hi
  refine ⟨fun a b c => ?_, fun z => (h i hi).2 ?_⟩
  · by_cases e : i / 8 = p
    · rw [e] at b c
      rcases h1 with z | z
      · exact absurd z b
      · exact absurd z c
    · exact (h i hi).1 (by omega) b c
  · rcases z with z | z
    · exact Or.inl (by omega)
    · exact Or.inr z
end
end
section
/-! what ties the lists to the picture -/
section
variable {mk lim op U : Nat} {sr st sz pc S P R W O : Nat → Nat} {cell words : Nat → Int32} {l : (Nat → Nat) × Nat}
theorem mc_fdz (st sz : Nat → Nat) (a : Nat) (h : mc_fd st sz a 30 < 30) : 0 < sz (mc_fd st sz a 30) := by
  rcases mc_fd_spec st sz a 30 (by omega) with h1 | h1
  · omega
  · omega
def mc_tg (st sz : Nat → Nat) (words : Nat → Int32) (s k : Nat) : Nat := mc_fd st sz (words (st s - 1000 + 1 + k)).toNatClampNeg 30
theorem mc_tg_0 (hS : mc_Slot mk sr st sz pc) {s k : Nat} (h : words (st s - 1000 + 1 + k) = 0) : mc_tg st sz words s k = 30 := by
  unfold mc_tg
  have e : (0 : Int32).toNatClampNeg = 0 := by decide
  rw [h, e]
  refine mc_fd_no (fun t ht hc => ?_)
  have := (hS t ht).2.2 (by omega)
  omega
theorem mc_tg_t (hS : mc_Slot mk sr st sz pc) (hD : mc_Dis sr st sz) {s k t : Nat} (ht : t < 30) (hz : 0 < sz t) (h : words (st s - 1000 + 1 + k) = nI (st t)) : mc_tg st sz words s k = t := by
  unfold mc_tg
  have hb := (hS t ht).1
  rw [h, nI_clamp (by omega)]
  exact mc_fd_at hD ht (by omega) (by omega)
theorem mc_tgz (st sz : Nat → Nat) (words : Nat → Int32) (s k : Nat) (h : mc_tg st sz words s k < 30) : 0 < sz (mc_tg st sz words s k) := mc_fdz st sz _ h
theorem mc_hpn {pn : Nat → Nat} {l0 : (Nat → Nat) × Nat} (hS : mc_Slot mk sr st sz pc) (hD : mc_Dis sr st sz) (h0 : l0 = mc_pl pn (fun a => mc_fd st sz a 30) 256)
    (hp : l0.2 ≤ l.2 ∧ ∀ i, i < l0.2 → l.1 i = l0.1 i) : ∀ s, s < 30 → 0 < sz s → (pn ((st s - 1000) / 8) = 1 ↔ ∃ i, i < l0.2 ∧ i < l.2 ∧ l.1 i = s) := by
  intro s hs hz
  have hb := (hS s hs).2.2 hz
  have hb1 := (hS s hs).1
  have hi : mc_in l0 s ↔ s < 30 ∧ ∃ a, a < 256 ∧ pn (a / 8) = 1 ∧ mc_fd st sz (1000 + a) 30 = s := by
    rw [h0]; exact mc_pl_in 256
  constructor
  · intro h
    have : mc_in l0 s := hi.mpr ⟨hs, st s - 1000, by omega, h, mc_fd_at hD hs (by omega) (by omega)⟩
    obtain ⟨i, i1, i2⟩ := this
    exact ⟨i, i1, by omega, by rw [hp.2 i i1]; exact i2⟩
  · rintro ⟨i, i1, i2, i3⟩
    rw [hp.2 i i1] at i3
    obtain ⟨_, a, a1, a2, a3⟩ := hi.mp ⟨i, i1, i3⟩
    clear hi
    rcases mc_fd_spec st sz (1000 + a) 30 (by omega) with c | c
    · rw [a3] at c
      have e : (st s - 1000) / 8 = a / 8 := by omega
      rw [e]; exact a2
    · omega
theorem mc_hcl (hS : mc_Slot mk sr st sz pc) (hD : mc_Dis sr st sz) (hmk : mk ≤ 4095) (hC : mc_CG st sz (fun s k w => mc_LC sr st sz pc s k (cell (3 * s + k)) w) words) (hl : mc_LG sz l)
    (hcl : ∀ i, i < l.2 → ∀ k, k < pc (l.1 i) → mc_tg st sz words (l.1 i) k < 30 → mc_in l (mc_tg st sz words (l.1 i) k)) :
    ∀ s k t, mc_in l s → k < pc s → t < 30 → 0 < sz t → cell (3 * s + k) = nI (sr t) → mc_in l t := by
  intro s k t hi hk ht hz hc
  obtain ⟨i, i1, i2⟩ := hi
  have hs := hl.1 i i1
  have h3 := hcl i i1 k
  rw [i2] at hs h3
  have hb := (hS s hs.1).2.2 hs.2
  have ht1 := (hS t ht).2.2 hz
  have q : mc_LC sr st sz pc s k (cell (3 * s + k)) (words (st s - 1000 + 1 + k)) := hC s hs.1 hs.2 k (by omega)
  rcases q.1 hk with ⟨c0, _⟩ | ⟨t', ht', z', c1, c2⟩
  · rw [hc, ← nI_0] at c0
    have := (nI_eq (by omega) (by omega)).mp c0
    omega
  · have ht2 := (hS t' ht').2.2 z'
    rw [hc] at c1
    have e := (nI_eq (by omega) (by omega)).mp c1
    have e2 : t = t' := by
      by_cases e2 : t = t'
      · exact e2
      · exact absurd e (hD t t' ht ht' e2 hz z').1
    have e3 := mc_tg_t (words := words) (s := s) (k := k) hS hD ht' z' c2
    rw [e3] at h3
    rw [e2]
    exact h3 hk ht'
noncomputable def mc_kz (l : (Nat → Nat) × Nat) (sz : Nat → Nat) (n s : Nat) : Nat := mc_if (s < n ∧ ¬ mc_in l s) 0 (sz s)
noncomputable def mc_kc (l : (Nat → Nat) × Nat) (sz : Nat → Nat) (s : Nat) : Nat := mc_if (0 < sz s ∧ ¬ mc_in l s) 1 0
theorem mc_kz_0 (l : (Nat → Nat) × Nat) (sz : Nat → Nat) : mc_kz l sz 0 = sz := by
  funext s
  exact mc_if_f (fun c => absurd c.1 (by omega))
theorem mc_kz_same {n : Nat} (h : sz n = 0 ∨ mc_in l n) : mc_kz l sz (n + 1) = mc_kz l sz n := by
  funext s
  unfold mc_kz
  by_cases e : s = n
  · rw [e]
    rw [mc_if_f (c := n < n ∧ ¬ mc_in l n) (fun c => absurd c.1 (by omega))]
    by_cases c : mc_in l n
    · exact mc_if_f (fun z => z.2 c)
    · rw [mc_if_t ⟨by omega, c⟩]
      rcases h with h | h
      · exact h.symm
      · exact absurd h c
  · refine mc_if_cg ?_
    constructor
    · rintro ⟨a, b⟩; exact ⟨by omega, b⟩
    · rintro ⟨a, b⟩; exact ⟨by omega, b⟩
theorem mc_kz_die {n : Nat} (h : ¬ mc_in l n) : mc_up (mc_kz l sz n) n 0 = mc_kz l sz (n + 1) := by
  funext s
  by_cases e : s = n
  · rw [e, mc_us]
    exact (mc_if_t ⟨by omega, h⟩).symm
  · rw [mc_un e]
    unfold mc_kz
    refine mc_if_cg ?_
    constructor
    · rintro ⟨a, b⟩; exact ⟨by omega, b⟩
    · rintro ⟨a, b⟩; exact ⟨by omega, b⟩
theorem mc_kz_n {n : Nat} : mc_kz l sz n n = sz n := mc_if_f (fun c => absurd c.1 (by omega))
theorem mc_ez_end (hS : mc_Slot mk sr st sz pc) : mc_sm (mc_ez l st sz 256) 30 = mc_sm (mc_kz l sz 30) 30 := by
  refine mc_sm_congr 30 (fun s hs => ?_)
  have := (hS s hs).1
  refine mc_if_cg ?_
  constructor
  · rintro ⟨a, b⟩; exact ⟨hs, a⟩
  · rintro ⟨a, b⟩; exact ⟨b, by omega⟩
theorem mc_ec_end (hS : mc_Slot mk sr st sz pc) : mc_sm (mc_ec l st sz 256) 30 = mc_sm (mc_kc l sz) 30 := by
  refine mc_sm_congr 30 (fun s hs => ?_)
  have := (hS s hs).1
  refine mc_if_cg ?_
  constructor
  · rintro ⟨a, b, c⟩; exact ⟨a, b⟩
  · rintro ⟨a, b⟩; exact ⟨a, b, by omega⟩
section
variable {st' S' W' O' : Nat → Nat} {words' : Nat → Int32} {op' m0 : Nat} {pn : Nat → Nat}
theorem mc_hin (hl : mc_LG sz l) (hI : mc_MI l m0 l.2 st st') (hpn : ∀ s, s < 30 → 0 < sz s → (pn ((st s - 1000) / 8) = 1 ↔ ∃ i, i < m0 ∧ i < l.2 ∧ l.1 i = s))
    {s : Nat} (hs : s < 30) (hz : 0 < sz s) (hi : mc_in l s) (c : pn ((st s - 1000) / 8) ≠ 1) : st' s ≠ st s := by
  obtain ⟨i, h2, h3⟩ := hi
  have h1 : m0 ≤ i := by
    by_cases z : m0 ≤ i
    · exact z
    · exact absurd ((hpn s hs hz).mpr ⟨i, by omega, h2, h3⟩) c
  rw [← h3]
  exact hI.2 i h1 h2 h2
theorem mc_hout (hI : mc_MI l m0 l.2 st st') {s : Nat} (hs : s < 30) (hi : ¬ mc_in l s) : st' s = st s :=
  hI.1 s hs (fun i _ _ h3 h4 => hi ⟨i, h3, h4⟩)
/-- at heap index n of a condemned page: nobody's word -/
theorem mc_em_0 (hS : mc_Slot mk sr st sz pc) (hX : mc_XS sr st sz pc S P R W) (hM : mc_Mv sr st sz W words st' S' W' O' words' op') {n : Nat} {W2 : Nat → Nat} (hn : n < 256)
    (hE : mc_EW st sz pn W' n W2) (hu : mc_wo st sz (n / 8) ≠ 0) (h0 : W2 n = 0) :
    ∀ s, s < 30 → 0 < sz s → ¬ mc_in l s → st s < 1000 + n ∨ 1000 + (n + 1) ≤ st s := by
  intro s hs hz _
  by_cases e : st s = 1000 + n
  · exfalso
    have hb := (hS s hs).2.2 hz
    have h1 := (hE n hn).2 (Or.inl (Nat.le_refl _))
    have h2 := (hM.2.2.2.1 n hn hu).1
    have h3 := (hX s hs hz).2.2.2 0 hz
    have e2 : st s - 1000 + 0 = n := by omega
    rw [e2] at h3
    omega
  · omega
/-- somebody's word -/
theorem mc_em_s (hS : mc_Slot mk sr st sz pc) (hD : mc_Dis sr st sz) (hX : mc_XS sr st sz pc S P R W) (hXW : mc_XW sr st sz W) (hM : mc_Mv sr st sz W words st' S' W' O' words' op')
    (hl : mc_LG sz l) (hI : mc_MI l m0 l.2 st st') (hpn : ∀ s, s < 30 → 0 < sz s → (pn ((st s - 1000) / 8) = 1 ↔ ∃ i, i < m0 ∧ i < l.2 ∧ l.1 i = s))
    {n U2 dc : Nat} {W2 S2 : Nat → Nat} (hn : n < 256) (hE : mc_EW st sz pn W' n W2) (hES : mc_ES l sr st sz st' S' n S2 U2 dc)
    (hu : mc_wo st sz (n / 8) ≠ 0) (hp : pn (n / 8) ≠ 1) (h0 : W2 n ≠ 0) :
    ∃ s, s < 30 ∧ 0 < sz s ∧ W2 n = sr s ∧ (S2 (sr s) = 1000 + n → ¬ mc_in l s ∧ st s = 1000 + n) ∧
      (S2 (sr s) ≠ 1000 + n → ∀ t, t < 30 → 0 < sz t → ¬ mc_in l t → st t < 1000 + n ∨ 1000 + (n + 1) ≤ st t) := by
  have h1 := (hE n hn).2 (Or.inl (Nat.le_refl _))
  have h2 := (hM.2.2.2.1 n hn hu).1
  rcases hXW n hn with c | ⟨s, hs, hz, c1, c2, c3⟩
  · exact absurd (h1.trans (h2.trans c)) h0
  have hb := (hS s hs).2.2 hz
  have epg : (st s - 1000) / 8 = n / 8 := by omega
  refine ⟨s, hs, hz, h1.trans (h2.trans c1), fun e => ?_, fun e t ht hzt hit => ?_⟩
  · rw [hES.1 s hs hz] at e
    by_cases d : ¬ mc_in l s ∧ st s < 1000 + n
    · rw [mc_if_t d] at e; omega
    · rw [mc_if_f d] at e
      have e1 : st' s = st s := by
        rcases hM.2.1 s hs hz with f | f
        · exact f
        · have f2 := f.2.1
          have e2 : (st' s - 1000) / 8 = n / 8 := by omega
          rw [e2] at f2
          exact absurd f2 hu
      refine ⟨fun hi => ?_, by omega⟩
      exact mc_hin hl hI hpn hs hz hi (by rw [epg]; exact hp) e1
  · by_cases d : st t = 1000 + n
    · exfalso
      have et : t = s := by
        by_cases et : t = s
        · exact et
        · have := (hD t s ht hs et hzt hz).2
          omega
      rw [et] at d hit
      apply e
      rw [hES.1 s hs hz, mc_if_f (fun c => by omega), mc_hout hI hs hit]
      exact d
    · omega
end
end
end
section
/-! ranges of stores, numbers -/
def mc_rg (f : Nat → Nat) (a m x : Nat) : Nat → Nat := fun j => if a ≤ j ∧ j < a + m then x else f j
theorem mc_rg_0 (f : Nat → Nat) (a x : Nat) : mc_rg f a 0 x = f := by
  funext j
  exact if_neg (by omega)
theorem mc_rg_s (f : Nat → Nat) (a m x : Nat) : mc_up (mc_rg f a m x) (a + m) x = mc_rg f a (m + 1) x := by
  funext j
  by_cases h : j = a + m
  · rw [h, mc_us]
    exact (if_pos (by omega)).symm
  · rw [mc_un h]
    unfold mc_rg
    by_cases c : a ≤ j ∧ j < a + m
    · rw [if_pos c, if_pos (by omega)]
    · rw [if_neg c, if_neg (by omega)]
theorem mc_rg_in {f : Nat → Nat} {a m x j : Nat} (h : j < m) : mc_rg f a m x (a + j) = x := if_pos (by omega)
theorem mc_rg_out {f : Nat → Nat} {a m x i : Nat} (h : i < a ∨ a + m ≤ i) : mc_rg f a m x i = f i := if_neg (by omega)
def mc_rI (f : Nat → Int32) (a m : Nat) (x : Int32) : Nat → Int32 := fun j => if a ≤ j ∧ j < a + m then x else f j
theorem mc_rI_0 (f : Nat → Int32) (a : Nat) (x : Int32) : mc_rI f a 0 x = f := by
  funext j
  exact if_neg (by omega)
theorem mc_rI_s (f : Nat → Int32) (a m : Nat) (x : Int32) : upd (mc_rI f a m x) (a + m) x = mc_rI f a (m + 1) x := by
  funext j
  by_cases h : j = a + m
  · rw [h, pk_us]
    exact (if_pos (by omega)).symm
  · rw [pk_un h]
    unfold mc_rI
    by_cases c : a ≤ j ∧ j < a + m
    · rw [if_pos c, if_pos (by omega)]
    · rw [if_neg c, if_neg (by omega)]
theorem mc_rI_in {f : Nat → Int32} {a m j : Nat} {x : Int32} (h : j < m) : mc_rI f a m x (a + j) = x := if_pos (by omega)
theorem mc_rI_out {f : Nat → Int32} {a m i : Nat} {x : Int32} (h : i < a ∨ a + m ≤ i) : mc_rI f a m x i = f i := if_neg (by omega)
def mc_cp (f : Nat → Int32) (a b m : Nat) : Nat → Int32 := fun j => if a ≤ j ∧ j < a + m then f (b + (j - a)) else f j
theorem mc_cp_0 (f : Nat → Int32) (a b : Nat) : mc_cp f a b 0 = f := by
  funext j
  exact if_neg (by omega)
theorem mc_cp_in {f : Nat → Int32} {a b m j : Nat} (h : j < m) : mc_cp f a b m (a + j) = f (b + j) := by
  have e : a + j - a = j := by omega
  unfold mc_cp
  rw [if_pos (by omega), e]
theorem mc_cp_out {f : Nat → Int32} {a b m i : Nat} (h : i < a ∨ a + m ≤ i) : mc_cp f a b m i = f i := if_neg (by omega)
theorem mc_cp_s (f : Nat → Int32) {a b m M : Nat} (hm : m < M) (hd : a + M ≤ b ∨ b + M ≤ a) : upd (mc_cp f a b m) (a + m) (mc_cp f a b m (b + m)) = mc_cp f a b (m + 1) := by
  rw [mc_cp_out (i := b + m) (by omega)]
  funext j
  by_cases h : j = a + m
  · rw [h, pk_us, mc_cp_in (by omega)]
  · rw [pk_un h]
    unfold mc_cp
    by_cases c : a ≤ j ∧ j < a + m
    · rw [if_pos c, if_pos (by omega)]
    · rw [if_neg c, if_neg (by omega)]
def mc_oI (p : Nat) : Int32 := if p < 32 then nI p else -1
theorem mc_oI_t {p : Nat} (h : p < 32) : mc_oI p = nI p := if_pos h
theorem mc_oI_32 : mc_oI 32 = -1 := if_neg (by omega)
theorem mn_s1000 {x : Nat} (h : 1000 ≤ x) : nI x - 1000 = nI (x - 1000) := pk_sub h
theorem mn_a1000 (x : Nat) : 1000 + nI x = nI (1000 + x) := nI_add 1000 x
theorem mn_m8 (x : Nat) : nI x * 8 = nI (8 * x) := by
  rw [Nat.mul_comm]
  exact pk_mul x 8
theorem mn_d8 {x : Nat} (h : x < 2 ^ 31) : nI x / 8 = nI (x / 8) := pk_div (d := 8) h (by omega) (by omega)
theorem mn_a8 (x : Nat) : nI x + 8 = nI (x + 8) := nI_add x 8
theorem mn_1a (x : Nat) : 1 + nI x = nI (1 + x) := nI_add 1 x
theorem mn_3m (x : Nat) : 3 * nI x = nI (3 * x) := pk_mul 3 x
theorem mn_4m (x : Nat) : 4 * nI x = nI (4 * x) := pk_mul 4 x
theorem mn_neg {x : Int32} (h : x < 0) (a : Nat) (ha : a < 2 ^ 31) : ¬ nI a ≤ x := fun z => absurd (Int32.lt_of_le_of_lt z h) (nI_pos ha)
theorem mn_out {n : Nat} (hn : n < 2 ^ 31) {i : Int32} (h : ¬ ∃ k, k < n ∧ i = nI k) : i < 0 ∨ (¬ i < 0 ∧ nI n ≤ i) := by
  rcases pk_ix i hn with c | c | c
  · exact Or.inl c
  · exact Or.inr ⟨fun z => mn_neg z n hn c, c⟩
  · exact absurd c h
theorem mn_m1 : (-1 : Int32) < 0 := by decide
theorem mn_nI_m1 {a : Nat} (h : a < 2 ^ 31) : ¬ nI a = -1 := by
  intro e
  have := nI_pos (n := a) h
  rw [e] at this
  exact this mn_m1
end
section
/-! the component's small methods -/
section
variable {n lim op mk U : Nat} {kc ld : Int32} {H wd ce : Nat → Int32} {W S P R O px cd K sr st sz pc L py fb : Nat → Nat}
theorem mx_bad_f {post : Int32 → Prop} {k : Nat} (hn : n ≤ 8) (hk : k < n) (h : post 0) : wpX_isBadRoot post ((nI n), (nI lim), kc, (mc_oI op), (nI mk), (nI U), H, wd, (fun j => nI (W j)), (fun j => nI (S j)), (fun j => nI (P j)), (fun j => nI (R j)), (fun j => nI (O j)), (fun j => nI (px j)), (fun j => nI (cd j)), (fun j => nI (K j))) (nI k) :=
  br_f (nI_pos (by omega)) (br_t (nI_lt hk (by omega)) h)
theorem mx_bad_t {post : Int32 → Prop} {i : Int32} (hi : i < 0 ∨ (¬ i < 0 ∧ nI n ≤ i)) (h : post 1) : wpX_isBadRoot post ((nI n), (nI lim), kc, (mc_oI op), (nI mk), (nI U), H, wd, (fun j => nI (W j)), (fun j => nI (S j)), (fun j => nI (P j)), (fun j => nI (R j)), (fun j => nI (O j)), (fun j => nI (px j)), (fun j => nI (cd j)), (fun j => nI (K j))) i := by
  rcases hi with c | ⟨c, d⟩
  · exact br_t c h
  · exact br_f c (br_f (Int32.not_lt.mpr d) h)
theorem mx_own_at {post : Int32 → Prop} {w : Int32} {s : Nat} (h : mc_At sr st sz W w s) (hp : post (nI (sr s))) : wpX_ownerOf post ((nI n), (nI lim), kc, (mc_oI op), (nI mk), (nI U), H, wd, (fun j => nI (W j)), (fun j => nI (S j)), (fun j => nI (P j)), (fun j => nI (R j)), (fun j => nI (O j)), (fun j => nI (px j)), (fun j => nI (cd j)), (fun j => nI (K j))) w := by
  obtain ⟨hs, hz, i, hi, rfl, h1, h2, h3⟩ := h
  have e : nI (1000 + i) - 1000 = nI i := by
    rw [mn_s1000 (by omega)]
    exact congrArg nI (by omega)
  refine br_f (nI_nlt (b := 1000) (by omega) (by omega)) (br_t (nI_lt (b := 1256) (by omega) (by omega)) ⟨?_, ?_⟩)
  · rw [e]
    exact vp_in_nI hi (by omega)
  · rw [e, nI_clamp (by omega)]
    show post (nI (W i))
    rw [h3]
    exact hp
theorem mx_own_i {post : Int32 → Prop} {i : Nat} (hi : i < 256) (hp : post (nI (W i))) : wpX_ownerOf post ((nI n), (nI lim), kc, (mc_oI op), (nI mk), (nI U), H, wd, (fun j => nI (W j)), (fun j => nI (S j)), (fun j => nI (P j)), (fun j => nI (R j)), (fun j => nI (O j)), (fun j => nI (px j)), (fun j => nI (cd j)), (fun j => nI (K j))) (nI (1000 + i)) := by
  have e : nI (1000 + i) - 1000 = nI i := by
    rw [mn_s1000 (by omega)]
    exact congrArg nI (by omega)
  refine br_f (nI_nlt (b := 1000) (by omega) (by omega)) (br_t (nI_lt (b := 1256) (by omega) (by omega)) ⟨?_, ?_⟩)
  · rw [e]
    exact vp_in_nI hi (by omega)
  · rw [e, nI_clamp (by omega)]
    exact hp
theorem mx_own_no {post : Int32 → Prop} {w : Int32} (h : mc_No st sz W w) (hp : post 0) : wpX_ownerOf post ((nI n), (nI lim), kc, (mc_oI op), (nI mk), (nI U), H, wd, (fun j => nI (W j)), (fun j => nI (S j)), (fun j => nI (P j)), (fun j => nI (R j)), (fun j => nI (O j)), (fun j => nI (px j)), (fun j => nI (cd j)), (fun j => nI (K j))) w := by
  by_cases c : w < 1000
  · exact br_t c hp
  · by_cases d : w < 1256
    · have h0 : ¬ w < 0 := fun z => c (Int32.lt_trans z (by decide))
      obtain ⟨j, hj, rfl⟩ := nI_of h0
      have c2 : ¬ j < 1000 := fun z => c (nI_lt (b := 1000) z (by omega))
      have d2 : j < 1256 := (nI_ltI (b := 1256) hj (by omega)).mp d
      have e0 : j = 1000 + (j - 1000) := by omega
      have h1 := h.1 (j - 1000) (by omega) (congrArg nI e0)
      rw [e0]
      refine mx_own_i (by omega) ?_
      rw [h1]
      exact hp
    · exact br_f c (br_f d hp)
theorem mx_lack_f {post : Int32 → Prop} {v k m : Nat} (hv : v < 4096) (hm : P v + R v = m) (hk : k < m) (hm2 : m < 100) (h : post 0) : wpX_lacksField post ((nI n), (nI lim), kc, (mc_oI op), (nI mk), (nI U), H, wd, (fun j => nI (W j)), (fun j => nI (S j)), (fun j => nI (P j)), (fun j => nI (R j)), (fun j => nI (O j)), (fun j => nI (px j)), (fun j => nI (cd j)), (fun j => nI (K j))) (nI v) (nI k) := by
  have e : (nI v).toNatClampNeg = v := nI_clamp (by omega)
  refine br_f (nI_pos (by omega)) ⟨vp_in_nI hv (by omega), vp_in_nI hv (by omega), br_t ?_ h⟩
  show nI k < nI (P (nI v).toNatClampNeg) + nI (R (nI v).toNatClampNeg)
  rw [e, nI_add, hm]
  exact nI_lt hk (by omega)
theorem mx_lack_t {post : Int32 → Prop} {v m : Nat} {k : Int32} (hv : v < 4096) (hm : P v + R v = m) (hk : k < 0 ∨ (¬ k < 0 ∧ nI m ≤ k)) (h : post 1) : wpX_lacksField post ((nI n), (nI lim), kc, (mc_oI op), (nI mk), (nI U), H, wd, (fun j => nI (W j)), (fun j => nI (S j)), (fun j => nI (P j)), (fun j => nI (R j)), (fun j => nI (O j)), (fun j => nI (px j)), (fun j => nI (cd j)), (fun j => nI (K j))) (nI v) k := by
  have e : (nI v).toNatClampNeg = v := nI_clamp (by omega)
  rcases hk with c | ⟨c, d⟩
  · exact br_t c h
  · refine br_f c ⟨vp_in_nI hv (by omega), vp_in_nI hv (by omega), br_f ?_ h⟩
    show ¬ k < nI (P (nI v).toNatClampNeg) + nI (R (nI v).toNatClampNeg)
    rw [e, nI_add, hm]
    exact Int32.not_lt.mpr d
theorem mx_fi {post : Int32 → Prop} {v k a : Nat} (hv : v < 4096) (ha : S v = a) (h1 : 1000 ≤ a) (h : post (nI (a - 1000 + 1 + k))) : wpX_fieldIndex post ((nI n), (nI lim), kc, (mc_oI op), (nI mk), (nI U), H, wd, (fun j => nI (W j)), (fun j => nI (S j)), (fun j => nI (P j)), (fun j => nI (R j)), (fun j => nI (O j)), (fun j => nI (px j)), (fun j => nI (cd j)), (fun j => nI (K j))) (nI v) (nI k) := by
  have e : (nI v).toNatClampNeg = v := nI_clamp (by omega)
  refine ⟨vp_in_nI hv (by omega), ?_⟩
  show post (((nI (S (nI v).toNatClampNeg) - 1000) + 1) + nI k)
  rw [e, ha, mn_s1000 h1, nI_1, nI_add]
  exact h
theorem mx_size {post : Int32 → Prop} {v m : Nat} (hv : v < 4096) (hm : 1 + P v + R v = m) (h : post (nI m)) : wpX_sizeOf post ((nI n), (nI lim), kc, (mc_oI op), (nI mk), (nI U), H, wd, (fun j => nI (W j)), (fun j => nI (S j)), (fun j => nI (P j)), (fun j => nI (R j)), (fun j => nI (O j)), (fun j => nI (px j)), (fun j => nI (cd j)), (fun j => nI (K j))) (nI v) := by
  have e : (nI v).toNatClampNeg = v := nI_clamp (by omega)
  refine ⟨vp_in_nI hv (by omega), vp_in_nI hv (by omega), ?_⟩
  show post ((1 + nI (P (nI v).toNatClampNeg)) + nI (R (nI v).toNatClampNeg))
  rw [e, mn_1a, nI_add, hm]
  exact h
theorem mx_low_l {post : Int32 → Prop} {q : Nat} (hq : q < 32) (h0 : O q = 0) (hm : ∀ p, p < q → O p ≠ 0) (hb : ∀ p, p < 32 → O p < 1000) (h : post (nI q)) :
    ∀ d i, i + d = q → wX_lowestFreePage_5 post 31 (nI n) (nI lim) kc (mc_oI op) (nI mk) (nI U) H wd (fun j => nI (W j)) (fun j => nI (S j)) (fun j => nI (P j)) (fun j => nI (R j)) (fun j => nI (O j)) (fun j => nI (px j)) (fun j => nI (cd j)) (fun j => nI (K j)) (d + 1) (nI i) := by
  intro d
  induction d with
  | zero =>
    intro i hi
    have ei : i = q := by omega
    rw [ei]
    by_cases c : q = 31
    · refine br_t (nI_le (a := 31) (by omega) (by omega)) ?_
      rw [c] at h
      exact h
    · refine br_f (nI_ge (b := 31) (by omega) (by omega)) ⟨vp_in_nI hq (by omega), br_t ?_ h⟩
      show nI (O (nI q).toNatClampNeg) = 0
      rw [nI_clamp (by omega), h0, nI_0]
  | succ d ih =>
    intro i hi
    refine br_f (nI_ge (b := 31) (by omega) (by omega)) ⟨vp_in_nI (by omega) (by omega), br_f ?_ (nm_r (nI_1 i) (ih (i + 1) (by omega)))⟩
    show ¬ nI (O (nI i).toNatClampNeg) = 0
    have := hm i (by omega)
    have := hb i (by omega)
    rw [nI_clamp (by omega)]
    exact nI_ne0 (by omega) (by omega)
theorem mx_low {post : Int32 → Prop} {q : Nat} (hq : q < 32) (h0 : O q = 0) (hm : ∀ p, p < q → O p ≠ 0) (hb : ∀ p, p < 32 → O p < 1000) (h : post (nI q)) : wpX_lowestFreePage post ((nI n), (nI lim), kc, (mc_oI op), (nI mk), (nI U), H, wd, (fun j => nI (W j)), (fun j => nI (S j)), (fun j => nI (P j)), (fun j => nI (R j)), (fun j => nI (O j)), (fun j => nI (px j)), (fun j => nI (cd j)), (fun j => nI (K j))) :=
  ⟨q + 1, mx_low_l hq h0 hm hb h q 0 (by omega)⟩
theorem mx_place_o {post : Int32 → St2 → Prop} {need w : Nat} (ho : op < 32) (hw : O op = w) (hn : w + need ≤ 8)
    (h : post (nI (1000 + 8 * op + w)) ((nI n), (nI lim), kc, (mc_oI op), (nI mk), (nI U), H, wd, (fun j => nI (W j)), (fun j => nI (S j)), (fun j => nI (P j)), (fun j => nI (R j)), (fun j => nI (mc_up O op (w + need) j)), (fun j => nI (px j)), (fun j => nI (cd j)), (fun j => nI (K j)))) : wpX_place post ((nI n), (nI lim), kc, (mc_oI op), (nI mk), (nI U), H, wd, (fun j => nI (W j)), (fun j => nI (S j)), (fun j => nI (P j)), (fun j => nI (R j)), (fun j => nI (O j)), (fun j => nI (px j)), (fun j => nI (cd j)), (fun j => nI (K j))) (nI need) := by
  rw [mc_oI_t ho] at h ⊢
  have e : (nI op).toNatClampNeg = op := nI_clamp (by omega)
  have hv := vp_in_nI (N := 32) ho (by omega)
  refine br_f (mn_nI_m1 (by omega)) ⟨hv, br_f ?_ ?_⟩
  · show ¬ 8 < nI (O (nI op).toNatClampNeg) + nI need
    rw [e, hw, nI_add]
    exact nI_nlt (a := 8) hn (by omega)
  · refine ⟨hv, nm_r (e' := nI (1000 + 8 * op + w)) ?_ ⟨hv, hv, nm_r (e' := fun j => nI (mc_up O op (w + need) j)) ?_ h⟩⟩
    · show 1000 + nI op * 8 + nI (O (nI op).toNatClampNeg) = _
      rw [e, hw, mn_m8, mn_a1000, nI_add]
    · show upd (fun j => nI (O j)) (nI op).toNatClampNeg (nI (O (nI op).toNatClampNeg) + nI need) = _
      rw [e, hw, nI_add]
      exact mc_upI O op (w + need)
theorem mx_place_n {post : Int32 → St2 → Prop} {need q : Nat} (hop : op = 32 ∨ (op < 32 ∧ 8 < O op + need)) (hn : need < 1000) (hq : q < 32) (h0 : O q = 0) (hm : ∀ p, p < q → O p ≠ 0) (hb : ∀ p, p < 32 → O p < 1000)
    (h : post (nI (1000 + 8 * q)) ((nI n), (nI lim), kc, (mc_oI q), (nI mk), (nI U), H, wd, (fun j => nI (W j)), (fun j => nI (S j)), (fun j => nI (P j)), (fun j => nI (R j)), (fun j => nI (mc_up O q need j)), (fun j => nI (px j)), (fun j => nI (cd j)), (fun j => nI (K j)))) : wpX_place post ((nI n), (nI lim), kc, (mc_oI op), (nI mk), (nI U), H, wd, (fun j => nI (W j)), (fun j => nI (S j)), (fun j => nI (P j)), (fun j => nI (R j)), (fun j => nI (O j)), (fun j => nI (px j)), (fun j => nI (cd j)), (fun j => nI (K j))) (nI need) := by
  have key : wX_place_57 post (nI need) (nI n) (nI lim) kc (mc_oI op) (nI mk) (nI U) H wd (fun j => nI (W j)) (fun j => nI (S j)) (fun j => nI (P j)) (fun j => nI (R j)) (fun j => nI (O j)) (fun j => nI (px j)) (fun j => nI (cd j)) (fun j => nI (K j)) := by
    refine mx_low hq h0 hm hb ⟨vp_in_nI hq (by omega), nm_r (e' := fun j => nI (mc_up O q need j)) ?_ ?_⟩
    · rw [nI_clamp (by omega)]
      exact mc_upI O q need
    · show post (1000 + nI q * 8) _
      rw [mn_m8, mn_a1000]
      rw [mc_oI_t hq] at h
      exact h
  rcases hop with c | ⟨c, d⟩
  · rw [c] at key ⊢
    exact br_t mc_oI_32 key
  · rw [mc_oI_t c] at key ⊢
    have := hb op c
    refine br_f (mn_nI_m1 (by omega)) ⟨vp_in_nI c (by omega), br_t ?_ key⟩
    show 8 < nI (O (nI op).toNatClampNeg) + nI need
    rw [nI_clamp (by omega), nI_add]
    exact nI_lt (a := 8) d (by omega)
theorem mx_settle_l {post : St2 → Prop} {v a m : Nat} (hv : v < 4096) (ha : 1000 ≤ a) (ham : a + m ≤ 1256) (hm : m < 1000)
    (h : post ((nI n), (nI lim), kc, (mc_oI op), (nI mk), (nI U), H, wd, (fun j => nI (mc_rg W (a - 1000) m v j)), (fun j => nI (mc_up S v a j)), (fun j => nI (P j)), (fun j => nI (R j)), (fun j => nI (O j)), (fun j => nI (px j)), (fun j => nI (cd j)), (fun j => nI (K j)))) :
    ∀ d i, i + d = m → wX_settle_16 post (nI v) (nI a) (nI (a - 1000)) (nI m) (nI n) (nI lim) kc (mc_oI op) (nI mk) (nI U) (d + 1) (nI i) H wd (fun j => nI (mc_rg W (a - 1000) i v j)) (fun j => nI (S j)) (fun j => nI (P j)) (fun j => nI (R j)) (fun j => nI (O j)) (fun j => nI (px j)) (fun j => nI (cd j)) (fun j => nI (K j)) := by
  intro d
  induction d with
  | zero =>
    intro i hi
    have ei : i = m := by omega
    rw [ei]
    refine br_t (nI_le (by omega) (by omega)) ⟨vp_in_nI hv (by omega), nm_r (e' := fun j => nI (mc_up S v a j)) ?_ h⟩
    rw [nI_clamp (by omega)]
    exact mc_upI S v a
  | succ d ih =>
    intro i hi
    refine br_f (nI_ge (by omega) (by omega)) ⟨?_, nm_r (e' := fun j => nI (mc_rg W (a - 1000) (i + 1) v j)) ?_ (nm_r (nI_1 i) (ih (i + 1) (by omega)))⟩
    · rw [nI_add]
      exact vp_in_nI (by omega) (by omega)
    · rw [nI_add, nI_clamp (by omega), mc_upI, mc_rg_s]
theorem mx_settle {post : St2 → Prop} {v a m : Nat} (hv : v < 4096) (ha : 1000 ≤ a) (ham : a + m ≤ 1256) (hm : m < 1000) (hP : 1 + P v + R v = m)
    (h : post ((nI n), (nI lim), kc, (mc_oI op), (nI mk), (nI U), H, wd, (fun j => nI (mc_rg W (a - 1000) m v j)), (fun j => nI (mc_up S v a j)), (fun j => nI (P j)), (fun j => nI (R j)), (fun j => nI (O j)), (fun j => nI (px j)), (fun j => nI (cd j)), (fun j => nI (K j)))) : wpX_settle post ((nI n), (nI lim), kc, (mc_oI op), (nI mk), (nI U), H, wd, (fun j => nI (W j)), (fun j => nI (S j)), (fun j => nI (P j)), (fun j => nI (R j)), (fun j => nI (O j)), (fun j => nI (px j)), (fun j => nI (cd j)), (fun j => nI (K j))) (nI v) (nI a) := by
  refine nm_r (mn_s1000 ha) (mx_size hv hP ⟨m + 1, ?_⟩)
  have := mx_settle_l hv ha ham hm h m 0 (by omega)
  rw [mc_rg_0] at this
  exact this
theorem mx_clear_l {post : St2 → Prop} {a m : Nat} (ham : a + m ≤ 256) (hm : m < 1000)
    (h : post ((nI n), (nI lim), kc, (mc_oI op), (nI mk), (nI U), H, (mc_rI wd a m 0), (fun j => nI (W j)), (fun j => nI (S j)), (fun j => nI (P j)), (fun j => nI (R j)), (fun j => nI (O j)), (fun j => nI (px j)), (fun j => nI (cd j)), (fun j => nI (K j)))) :
    ∀ d i, i + d = m → wX_clearWords_9 post (nI m) (nI a) (nI n) (nI lim) kc (mc_oI op) (nI mk) (nI U) (d + 1) (nI i) H (mc_rI wd a i 0) (fun j => nI (W j)) (fun j => nI (S j)) (fun j => nI (P j)) (fun j => nI (R j)) (fun j => nI (O j)) (fun j => nI (px j)) (fun j => nI (cd j)) (fun j => nI (K j)) := by
  intro d
  induction d with
  | zero =>
    intro i hi
    have ei : i = m := by omega
    rw [ei]
    exact br_t (nI_le (by omega) (by omega)) h
  | succ d ih =>
    intro i hi
    refine br_f (nI_ge (by omega) (by omega)) ⟨?_, nm_r (e' := mc_rI wd a (i + 1) 0) ?_ (nm_r (nI_1 i) (ih (i + 1) (by omega)))⟩
    · rw [nI_add]
      exact vp_in_nI (by omega) (by omega)
    · rw [nI_add, nI_clamp (by omega), mc_rI_s]
theorem mx_clear {post : St2 → Prop} {a m : Nat} (ha : 1000 ≤ a) (ham : a + m ≤ 1256) (hm : m < 1000)
    (h : post ((nI n), (nI lim), kc, (mc_oI op), (nI mk), (nI U), H, (mc_rI wd (a - 1000) m 0), (fun j => nI (W j)), (fun j => nI (S j)), (fun j => nI (P j)), (fun j => nI (R j)), (fun j => nI (O j)), (fun j => nI (px j)), (fun j => nI (cd j)), (fun j => nI (K j)))) : wpX_clearWords post ((nI n), (nI lim), kc, (mc_oI op), (nI mk), (nI U), H, wd, (fun j => nI (W j)), (fun j => nI (S j)), (fun j => nI (P j)), (fun j => nI (R j)), (fun j => nI (O j)), (fun j => nI (px j)), (fun j => nI (cd j)), (fun j => nI (K j))) (nI a) (nI m) := by
  refine nm_r (mn_s1000 ha) ⟨m + 1, ?_⟩
  have := mx_clear_l (by omega) hm h m 0 (by omega)
  rw [mc_rI_0] at this
  exact this
end
end
section
/-! fields, places, shapes -/
section
variable {n lim op mk U : Nat} {kc ld oo : Int32} {H wd ce : Nat → Int32} {W S P R O px cd K sr st sz pc L py fb : Nat → Nat}
theorem mc_cl (x : Int32) {lo hi : Nat} (h : lo ≤ hi) (hh : hi < 2 ^ 31) : ∃ c, lo ≤ c ∧ c ≤ hi ∧ ∀ A : Int32 → Prop, A (nI c) → ((nI lo ≤ x → ((x ≤ nI hi → A x) ∧ (¬ x ≤ nI hi → A (nI hi)))) ∧ (¬ nI lo ≤ x → A (nI lo))) := by
  by_cases c1 : nI lo ≤ x
  · by_cases c2 : x ≤ nI hi
    · have h0 : ¬ x < 0 := fun z => mn_neg z lo (by omega) c1
      obtain ⟨j, hj, rfl⟩ := nI_of h0
      exact ⟨j, (nI_leI (by omega) hj).mp c1, (nI_leI hj hh).mp c2, fun A hA => br_t c1 (br_t c2 hA)⟩
    · exact ⟨hi, h, Nat.le_refl _, fun A hA => br_t c1 (br_f c2 hA)⟩
  · exact ⟨lo, Nat.le_refl _, h, fun A hA => br_f c1 hA⟩
theorem mc_wo_z (p : Nat) : mc_wo (fun _ => 0) (fun _ => 0) p = 0 := mc_sm_0 30 (fun s _ => by
  have := mc_w_le (fun _ => 0) (fun _ => 0) p s
  exact Nat.le_zero.mp this)
theorem mc_G_0 (h16 : 16 ≤ lim) (h60 : lim ≤ 60) : mc_G 0 lim 32 (fun _ => 0) (fun _ => 0) (fun _ => 0) (fun _ => 0) (fun _ => 0) (fun _ => 0) (fun _ => 0) (fun _ => 0) (fun _ => 0) (fun _ => 0) (fun _ => 0) 0 := by
  have hz : ¬ 0 < 0 := Nat.lt_irrefl 0
  refine ⟨fun s _ => ⟨Nat.zero_le _, Nat.zero_le _, fun h => absurd h hz⟩, fun s t _ _ _ h => absurd h hz, fun s _ h => absurd h hz, fun s _ h => absurd h hz, fun _ _ => Or.inl rfl, fun _ => Or.inl rfl,
    fun s _ h => absurd h hz, ⟨rfl, rfl⟩, fun p _ => (mc_wo_z p).symm, ?_, (mc_sm_0 30 (fun _ _ => rfl)).symm, Nat.zero_le _, h60, Nat.le_refl _, Nat.zero_le _⟩
  refine Nat.le_trans (Nat.le_of_eq (mc_sm_0 32 (fun p _ => ?_))) (Nat.zero_le 8)
  exact if_neg (fun h => by have := mc_wo_z p; omega)
theorem mc_G_put {s kk : Nat} {c w : Int32} (hG : mc_G mk lim op sr st sz pc ce wd S P R W O U) (hs : s < 30) (hk : kk + 1 < sz s) (hq : mc_LC sr st sz pc s kk c w) :
    mc_G mk lim op sr st sz pc (upd ce (3 * s + kk) c) (upd wd (st s - 1000 + 1 + kk) w) S P R W O U := by
  obtain ⟨hS, hD, hF, hX, hXW, hXZ, hC, hrest⟩ := hG
  refine ⟨hS, hD, hF, hX, hXW, hXZ, ?_, hrest⟩
  have hb1 := (hS s hs).2.1
  refine mc_CG_upd (Q' := fun s' k w => mc_LC sr st sz pc s' k (upd ce (3 * s + kk) c (3 * s' + k)) w) hS hD hC hs hk w ?_ (fun s' k' y h1 h2 h3 h4 => ?_)
  · show mc_LC sr st sz pc s kk (upd ce (3 * s + kk) c (3 * s + kk)) w
    rw [pk_us]
    exact hq
  · show mc_LC sr st sz pc s' k' (upd ce (3 * s + kk) c (3 * s' + k')) y
    have hb2 := (hS s' h1).2.1
    rw [pk_un (by omega)]
    exact h4
theorem mc_At_ne {w : Int32} {s : Nat} (h : mc_At sr st sz W w s) : ¬ w = 0 := by
  obtain ⟨_, _, i, hi, rfl, _⟩ := h
  exact nI_ne0 (by omega) (by omega)
theorem mx_l94 {post : Int32 → St2 → Prop} {j v5 v a x : Nat} (hv : v < 4096) (ha : S v = a) (h1 : 1000 ≤ a) (h2 : a - 1000 + 1 + j < 256) (hv5 : v5 < 4096) (hx : S v5 = x)
    (h : post 0 ((nI n), (nI lim), kc, (mc_oI op), (nI mk), (nI U), H, (upd wd (a - 1000 + 1 + j) (nI x)), (fun j => nI (W j)), (fun j => nI (S j)), (fun j => nI (P j)), (fun j => nI (R j)), (fun j => nI (O j)), (fun j => nI (px j)), (fun j => nI (cd j)), (fun j => nI (K j)))) : wX_link_94 post (nI j) (nI v) (nI v5) (nI n) (nI lim) kc (mc_oI op) (nI mk) (nI U) H wd (fun j => nI (W j)) (fun j => nI (S j)) (fun j => nI (P j)) (fun j => nI (R j)) (fun j => nI (O j)) (fun j => nI (px j)) (fun j => nI (cd j)) (fun j => nI (K j)) := by
  unfold wX_link_94
  refine mx_fi hv ha h1 ⟨vp_in_nI hv5 (by omega), vp_in_nI h2 (by omega), nm_r (e' := upd wd (a - 1000 + 1 + j) (nI x)) ?_ h⟩
  show upd wd (nI (a - 1000 + 1 + j)).toNatClampNeg (nI (S (nI v5).toNatClampNeg)) = _
  rw [nI_clamp (by omega), nI_clamp (by omega), hx]
theorem mc_shape (p1 p2 : Int32) : (∃ np nr, p1 = nI np ∧ p2 = nI nr ∧ np ≤ 3 ∧ nr ≤ 3 ∧ 1 ≤ np + nr ∧ np + nr ≤ 3) ∨
    ((∀ post : Int32 → Prop, post 1 → wpX_isBadShape post () p1 p2) ∧ True) := by
  by_cases c1 : p1 < 0
  · exact Or.inr ⟨fun post h => br_t c1 h, trivial⟩
  by_cases c2 : 3 < p1
  · exact Or.inr ⟨fun post h => br_f c1 (br_t c2 h), trivial⟩
  by_cases c3 : p2 < 0
  · exact Or.inr ⟨fun post h => br_f c1 (br_f c2 (br_t c3 h)), trivial⟩
  by_cases c4 : 3 < p2
  · have c4' : ¬ p2 ≤ 3 := fun z => Int32.not_lt.mpr z c4
    exact Or.inr ⟨fun post h => br_f c1 (br_f c2 (br_f c3 (br_f c4' h))), trivial⟩
  have c4' : p2 ≤ 3 := Int32.not_lt.mp c4
  by_cases c5 : p1 + p2 < 1
  · exact Or.inr ⟨fun post h => br_f c1 (br_f c2 (br_f c3 (br_t c4' (nm_e (br_t c5 h))))), trivial⟩
  by_cases c6 : p1 + p2 ≤ 3
  · left
    obtain ⟨np, h1, rfl⟩ := nI_of c1
    obtain ⟨nr, h2, rfl⟩ := nI_of c3
    have d1 : np ≤ 3 := by
      by_cases z : np ≤ 3
      · exact z
      · exact absurd (nI_lt (a := 3) (by omega) h1) c2
    have d2 : nr ≤ 3 := by
      by_cases z : nr ≤ 3
      · exact z
      · exact absurd (nI_lt (a := 3) (by omega) h2) c4
    rw [nI_add] at c5 c6
    refine ⟨np, nr, rfl, rfl, d1, d2, ?_, ?_⟩
    · by_cases z : 1 ≤ np + nr
      · exact z
      · exact absurd (nI_lt (b := 1) (by omega) (by omega)) c5
    · exact (nI_leI (b := 3) (by omega) (by omega)).mp c6
  · exact Or.inr ⟨fun post h => br_f c1 (br_f c2 (br_f c3 (br_t c4' (nm_e (br_f c5 (br_f c6 h)))))), trivial⟩
theorem mx_shape_f {post : Int32 → Prop} {np nr : Nat} (h1 : np ≤ 3) (h2 : nr ≤ 3) (h3 : 1 ≤ np + nr) (h4 : np + nr ≤ 3) (h : post 0) : wpX_isBadShape post () (nI np) (nI nr) := by
  refine br_f (nI_pos (by omega)) (br_f (nI_nlt (a := 3) h1 (by omega)) (br_f (nI_pos (by omega)) (br_t (nI_le (b := 3) h2 (by omega)) (nm_r (nI_add np nr) ?_))))
  exact br_f (nI_nlt (b := 1) h3 (by omega)) (br_t (nI_le (b := 3) h4 (by omega)) h)
theorem mc_last (h : ∃ s, s < 30 ∧ sz s = 0) : ∃ s, s < 30 ∧ sz s = 0 ∧ ∀ t, s < t → t < 30 → sz t ≠ 0 := by
  obtain ⟨s, hs, hz⟩ := h
  obtain ⟨k, hk, hmin⟩ := pk_least (fun k => k < 30 ∧ sz (29 - k) = 0) ⟨29 - s, by omega, by
    have e : 29 - (29 - s) = s := by omega
    rw [e]; exact hz⟩
  refine ⟨29 - k, by omega, hk.2, fun t h1 h2 h3 => ?_⟩
  refine hmin (29 - t) (by omega) ⟨by omega, ?_⟩
  have e : 29 - (29 - t) = t := by omega
  rw [e]; exact h3
def mc_fbn (st sz fb : Nat → Nat) (i p : Nat) : Nat := if p < i then (if mc_wo st sz p = 0 then 1 else 0) else fb p
theorem mc_fbn_0 : mc_fbn st sz fb 0 = fb := by
  funext p
  exact if_neg (by omega)
theorem mc_fbn_s (i : Nat) : mc_up (mc_fbn st sz fb i) i (if mc_wo st sz i = 0 then 1 else 0) = mc_fbn st sz fb (i + 1) := by
  funext p
  by_cases e : p = i
  · rw [e, mc_us]
    exact (if_pos (by omega)).symm
  · rw [mc_un e]
    unfold mc_fbn
    by_cases c : p < i
    · rw [if_pos c, if_pos (c := p < i + 1) (by omega)]
    · rw [if_neg c, if_neg (c := p < i + 1) (by omega)]
theorem mc_fbn_32 {p : Nat} (hp : p < 32) : mc_fbn st sz fb 32 p < 2 ∧ (mc_fbn st sz fb 32 p ≠ 0 ↔ mc_wo st sz p = 0) := by
  have e : mc_fbn st sz fb 32 p = (if mc_wo st sz p = 0 then 1 else 0) := if_pos hp
  rw [e]
  by_cases c : mc_wo st sz p = 0
  · rw [if_pos c]
    exact ⟨by omega, fun _ => c, fun _ => by omega⟩
  · rw [if_neg c]
    exact ⟨by omega, fun z => absurd rfl z, fun z => absurd z c⟩
noncomputable def mc_lf (O : Nat → Nat) : Nat := @dite Nat (∃ p, p < 32 ∧ O p = 0) (Classical.propDecidable _) (fun h => Classical.choose (pk_least (fun p => p < 32 ∧ O p = 0) h)) (fun _ => 32)
theorem mc_lf_spec (h : ∃ p, p < 32 ∧ O p = 0) : (mc_lf O < 32 ∧ O (mc_lf O) = 0) ∧ ∀ j, j < mc_lf O → ¬ (j < 32 ∧ O j = 0) := by
  unfold mc_lf
  rw [dif_pos h]
  exact Classical.choose_spec (pk_least (fun p => p < 32 ∧ O p = 0) h)
noncomputable def mc_pg (O : Nat → Nat) (op w need : Nat) : Nat := mc_if (op < 32 ∧ w + need ≤ 8) op (mc_lf O)
def mc_PH (st sz O fb : Nat → Nat) (op need : Nat) : Prop :=
  (∀ s, s < 30 → st s ≤ 1255 ∧ sz s ≤ 4) ∧ mc_sm sz 30 ≤ 60 ∧ (∀ p, p < 32 → O p < 1000) ∧ (∀ p, p < 32 → fb p < 2) ∧ (∀ p, p < 32 → (O p = 0 ↔ (fb p ≠ 0 ∧ mc_wo st sz p = 0))) ∧
  (op < 32 → O op = mc_wo st sz op) ∧ op ≤ 32 ∧ 0 < need ∧ need ≤ 8 ∧ ((op = 32 ∨ 8 < mc_wo st sz op + need) → ∃ p, p < 32 ∧ O p = 0)
theorem mc_pgs {need : Nat} (h : mc_PH st sz O fb op need) :
    mc_pg O op (mc_wo st sz op) need < 32 ∧ O (mc_pg O op (mc_wo st sz op) need) + need ≤ 8 ∧ mc_wo st sz (mc_pg O op (mc_wo st sz op) need) = O (mc_pg O op (mc_wo st sz op) need) ∧
    (mc_pg O op (mc_wo st sz op) need = op ∨ (O (mc_pg O op (mc_wo st sz op) need) = 0 ∧ fb (mc_pg O op (mc_wo st sz op) need) ≠ 0 ∧ (op = 32 ∨ 8 < mc_wo st sz op + need))) := by
  obtain ⟨hb, hU, hO, hfb, hfree, hopen, hop, hn, hn8, hex⟩ := h
  by_cases c : op < 32 ∧ mc_wo st sz op + need ≤ 8
  · have e : mc_pg O op (mc_wo st sz op) need = op := mc_if_t c
    have eo := hopen c.1
    rw [e]
    exact ⟨c.1, by omega, eo.symm, Or.inl rfl⟩
  · have e : mc_pg O op (mc_wo st sz op) need = mc_lf O := mc_if_f c
    have c3 : op = 32 ∨ 8 < mc_wo st sz op + need := by omega
    obtain ⟨hq, hmin⟩ := mc_lf_spec (hex c3)
    have hq1 := (hfree _ hq.1).mp hq.2
    rw [e]
    exact ⟨hq.1, by omega, by rw [hq1.2, hq.2], Or.inr ⟨hq.2, hq1.1, c3⟩⟩
theorem mx_pl {post : Int32 → St2 → Prop} {need : Nat} (h : mc_PH st sz O fb op need)
    (hp : post (nI (1000 + 8 * mc_pg O op (mc_wo st sz op) need + O (mc_pg O op (mc_wo st sz op) need))) ((nI n), (nI lim), kc, (mc_oI (mc_pg O op (mc_wo st sz op) need)), (nI mk), (nI U), H, wd, (fun j => nI (W j)), (fun j => nI (S j)), (fun j => nI (P j)), (fun j => nI (R j)), (fun j => nI (mc_up O (mc_pg O op (mc_wo st sz op) need) (O (mc_pg O op (mc_wo st sz op) need) + need) j)), (fun j => nI (px j)), (fun j => nI (cd j)), (fun j => nI (K j)))) : wpX_place post ((nI n), (nI lim), kc, (mc_oI op), (nI mk), (nI U), H, wd, (fun j => nI (W j)), (fun j => nI (S j)), (fun j => nI (P j)), (fun j => nI (R j)), (fun j => nI (O j)), (fun j => nI (px j)), (fun j => nI (cd j)), (fun j => nI (K j))) (nI need) := by
  obtain ⟨hb, hU, hO, hfb, hfree, hopen, hop, hn, hn8, hex⟩ := h
  by_cases c : op < 32 ∧ mc_wo st sz op + need ≤ 8
  · have e : mc_pg O op (mc_wo st sz op) need = op := mc_if_t c
    rw [e] at hp
    exact mx_place_o c.1 rfl (by rw [hopen c.1]; exact c.2) hp
  · have e : mc_pg O op (mc_wo st sz op) need = mc_lf O := mc_if_f c
    have c3 : op = 32 ∨ 8 < mc_wo st sz op + need := by omega
    obtain ⟨hq, hmin⟩ := mc_lf_spec (hex c3)
    have hm : ∀ p, p < mc_lf O → O p ≠ 0 := fun p hp z => hmin p hp ⟨by have := hq.1; omega, z⟩
    have c4 : op = 32 ∨ (op < 32 ∧ 8 < O op + need) := by
      by_cases z : op < 32
      · exact Or.inr ⟨z, by rw [hopen z]; omega⟩
      · exact Or.inl (by omega)
    rw [e, hq.2, Nat.zero_add] at hp
    exact mx_place_n c4 (by omega) hq.1 hq.2 hm hO hp
end
end
section
/-! the component's methods: one answer and one state for every post -/
def pv_Gd (n lim mk : Nat) (u : St2) : Prop :=
  ∃ (op U : Nat) (kc : Int32) (H wd ce : Nat → Int32) (W S P R O px cd K sr st sz pc : Nat → Nat), u = ((nI n), (nI lim), kc, (mc_oI op), (nI mk), (nI U), H, wd, (fun j => nI (W j)), (fun j => nI (S j)), (fun j => nI (P j)), (fun j => nI (R j)), (fun j => nI (O j)), (fun j => nI (px j)), (fun j => nI (cd j)), (fun j => nI (K j))) ∧ mc_G mk lim op sr st sz pc ce wd S P R W O U
section
variable {n lim op mk U : Nat} {kc ld oo : Int32} {H wd ce : Nat → Int32} {W S P R O px cd K sr st sz pc L py fb : Nat → Nat} {u : St2}
theorem pv_gd (hG : mc_G mk lim op sr st sz pc ce wd S P R W O U) : pv_Gd n lim mk ((nI n), (nI lim), kc, (mc_oI op), (nI mk), (nI U), H, wd, (fun j => nI (W j)), (fun j => nI (S j)), (fun j => nI (P j)), (fun j => nI (R j)), (fun j => nI (O j)), (fun j => nI (px j)), (fun j => nI (cd j)), (fun j => nI (K j))) :=
  ⟨op, U, kc, H, wd, ce, W, S, P, R, O, px, cd, K, sr, st, sz, pc, rfl, hG⟩
theorem pv_setRoot (hn8 : n ≤ 8) (h : pv_Gd n lim mk u) (v1 v2 : Int32) : ∃ (r : Int32) (u' : St2), pv_Gd n lim mk u' ∧ ∀ post : Int32 → St2 → Prop, post r u' → wpX_setRoot post u v1 v2 := by
  obtain ⟨op, U, kc, H, wd, ce, W, S, P, R, O, px, cd, K, sr, st, sz, pc, rfl, hG⟩ := h
  have hG0 := hG
  obtain ⟨hS, hD, hF, hX, hXW, hXZ, hC, hP0, hO, hT, hU1, hU2, hL, hop2, hmk⟩ := hG
  have hb : ∀ s, s < 30 → st s ≤ 1255 ∧ sz s ≤ 4 := fun s hs => ⟨(hS s hs).1, (hS s hs).2.1⟩
  have hr : ∀ s, s < 30 → 0 < sz s → sr s ≤ 4095 := fun s hs hz => by
    have := (hS s hs).2.2 hz
    omega
  by_cases hi : ∃ j, j < n ∧ v1 = nI j
  · obtain ⟨j, hj, rfl⟩ := hi
    refine ⟨0, ((nI n), (nI lim), kc, (mc_oI op), (nI mk), (nI U), (upd H (nI j).toNatClampNeg v2), wd, (fun j => nI (W j)), (fun j => nI (S j)), (fun j => nI (P j)), (fun j => nI (R j)), (fun j => nI (O j)), (fun j => nI (px j)), (fun j => nI (cd j)), (fun j => nI (K j))), pv_gd hG0, fun post hp => ?_⟩
    unfold wpX_setRoot
    exact mx_bad_f hn8 hj (br_t rfl ⟨vp_in_nI (by omega) (by omega), nm_e hp⟩)
  · refine ⟨-1, ((nI n), (nI lim), kc, (mc_oI op), (nI mk), (nI U), H, wd, (fun j => nI (W j)), (fun j => nI (S j)), (fun j => nI (P j)), (fun j => nI (R j)), (fun j => nI (O j)), (fun j => nI (px j)), (fun j => nI (cd j)), (fun j => nI (K j))), pv_gd hG0, fun post hp => ?_⟩
    unfold wpX_setRoot
    exact mx_bad_t (mn_out (by omega) hi) (br_f (by decide) hp)
theorem pv_root (hn8 : n ≤ 8) (h : pv_Gd n lim mk u) (v1 : Int32) : ∃ r : Int32, ∀ post : Int32 → Prop, post r → wpX_root post u v1 := by
  obtain ⟨op, U, kc, H, wd, ce, W, S, P, R, O, px, cd, K, sr, st, sz, pc, rfl, hG⟩ := h
  have hG0 := hG
  obtain ⟨hS, hD, hF, hX, hXW, hXZ, hC, hP0, hO, hT, hU1, hU2, hL, hop2, hmk⟩ := hG
  have hb : ∀ s, s < 30 → st s ≤ 1255 ∧ sz s ≤ 4 := fun s hs => ⟨(hS s hs).1, (hS s hs).2.1⟩
  have hr : ∀ s, s < 30 → 0 < sz s → sr s ≤ 4095 := fun s hs hz => by
    have := (hS s hs).2.2 hz
    omega
  by_cases hi : ∃ j, j < n ∧ v1 = nI j
  · obtain ⟨j, hj, rfl⟩ := hi
    refine ⟨H (nI j).toNatClampNeg, fun post hp => ?_⟩
    unfold wpX_root
    exact mx_bad_f hn8 hj (br_t rfl ⟨vp_in_nI (by omega) (by omega), hp⟩)
  · refine ⟨0, fun post hp => ?_⟩
    unfold wpX_root
    exact mx_bad_t (mn_out (by omega) hi) (br_f (by decide) hp)
theorem pv_put (hn8 : n ≤ 8) (h : pv_Gd n lim mk u) (v1 v2 v3 : Int32) : ∃ (r : Int32) (u' : St2), pv_Gd n lim mk u' ∧ ∀ post : Int32 → St2 → Prop, post r u' → wpX_put post u v1 v2 v3 := by
  obtain ⟨op, U, kc, H, wd, ce, W, S, P, R, O, px, cd, K, sr, st, sz, pc, rfl, hG⟩ := h
  have hG0 := hG
  obtain ⟨hS, hD, hF, hX, hXW, hXZ, hC, hP0, hO, hT, hU1, hU2, hL, hop2, hmk⟩ := hG
  have hb : ∀ s, s < 30 → st s ≤ 1255 ∧ sz s ≤ 4 := fun s hs => ⟨(hS s hs).1, (hS s hs).2.1⟩
  have hr : ∀ s, s < 30 → 0 < sz s → sr s ≤ 4095 := fun s hs hz => by
    have := (hS s hs).2.2 hz
    omega
  by_cases hi : ∃ j, j < n ∧ v1 = nI j
  · obtain ⟨i, hi, rfl⟩ := hi
    have hv : vp_in (nI i) 8 := vp_in_nI (by omega) (by omega)
    rcases mc_own hS hX hXW (H (nI i).toNatClampNeg) with ⟨s, hA⟩ | hN
    · have hs := hA.1
      have hz := hA.2.1
      have hr1 := hr s hs hz
      have hS1 := (hS s hs).2.2 hz
      have hb1 := hb s hs
      obtain ⟨x1, x2, x3, x4⟩ := hX s hs hz
      have hm : P (sr s) + R (sr s) = sz s - 1 := by omega
      have h0 : ¬ nI (sr s) = 0 := nI_ne0 (by omega) (by omega)
      have hv2 : vp_in (nI (sr s)) 4096 := vp_in_nI (by omega) (by omega)
      by_cases hj : ∃ j, j < sz s - 1 ∧ v2 = nI j
      · obtain ⟨j, hj, rfl⟩ := hj
        by_cases c : pc s ≤ j
        · refine ⟨0, ((nI n), (nI lim), kc, (mc_oI op), (nI mk), (nI U), H, (upd wd (st s - 1000 + 1 + j) v3), (fun j => nI (W j)), (fun j => nI (S j)), (fun j => nI (P j)), (fun j => nI (R j)), (fun j => nI (O j)), (fun j => nI (px j)), (fun j => nI (cd j)), (fun j => nI (K j))), pv_gd (mc_G_put (c := v3) hG0 hs (by omega) ⟨fun z => absurd z (by omega), fun _ => rfl⟩), fun post hp => ?_⟩
          unfold wpX_put
          refine mx_bad_f hn8 hi (br_t rfl ⟨hv, mx_own_at hA (br_f h0 (mx_lack_f (by omega) hm hj (by omega) (br_t rfl ⟨hv2, ?_⟩)))⟩)
          rw [nI_clamp (by omega)]
          refine br_t ?_ (mx_fi (by omega) x1 (by omega) ⟨vp_in_nI (by omega) (by omega), nm_r (e' := upd wd (st s - 1000 + 1 + j) v3) ?_ hp⟩)
          · show nI (P (sr s)) ≤ nI j
            rw [x2]
            exact nI_le c (by omega)
          · rw [nI_clamp (by omega)]
        · refine ⟨-4, ((nI n), (nI lim), kc, (mc_oI op), (nI mk), (nI U), H, wd, (fun j => nI (W j)), (fun j => nI (S j)), (fun j => nI (P j)), (fun j => nI (R j)), (fun j => nI (O j)), (fun j => nI (px j)), (fun j => nI (cd j)), (fun j => nI (K j))), pv_gd hG0, fun post hp => ?_⟩
          unfold wpX_put
          refine mx_bad_f hn8 hi (br_t rfl ⟨hv, mx_own_at hA (br_f h0 (mx_lack_f (by omega) hm hj (by omega) (br_t rfl ⟨hv2, ?_⟩)))⟩)
          rw [nI_clamp (by omega)]
          refine br_f ?_ hp
          show ¬ nI (P (sr s)) ≤ nI j
          rw [x2]
          exact nI_ge (by omega) (by omega)
      · have ho := mn_out (by omega) hj
        refine ⟨-3, ((nI n), (nI lim), kc, (mc_oI op), (nI mk), (nI U), H, wd, (fun j => nI (W j)), (fun j => nI (S j)), (fun j => nI (P j)), (fun j => nI (R j)), (fun j => nI (O j)), (fun j => nI (px j)), (fun j => nI (cd j)), (fun j => nI (K j))), pv_gd hG0, fun post hp => ?_⟩
        unfold wpX_put
        exact mx_bad_f hn8 hi (br_t rfl ⟨hv, mx_own_at hA (br_f h0 (mx_lack_t (by omega) hm ho (br_f (by decide) hp)))⟩)
    · refine ⟨-2, ((nI n), (nI lim), kc, (mc_oI op), (nI mk), (nI U), H, wd, (fun j => nI (W j)), (fun j => nI (S j)), (fun j => nI (P j)), (fun j => nI (R j)), (fun j => nI (O j)), (fun j => nI (px j)), (fun j => nI (cd j)), (fun j => nI (K j))), pv_gd hG0, fun post hp => ?_⟩
      unfold wpX_put
      exact mx_bad_f hn8 hi (br_t rfl ⟨hv, mx_own_no hN (br_t rfl hp)⟩)
  · refine ⟨-1, ((nI n), (nI lim), kc, (mc_oI op), (nI mk), (nI U), H, wd, (fun j => nI (W j)), (fun j => nI (S j)), (fun j => nI (P j)), (fun j => nI (R j)), (fun j => nI (O j)), (fun j => nI (px j)), (fun j => nI (cd j)), (fun j => nI (K j))), pv_gd hG0, fun post hp => ?_⟩
    unfold wpX_put
    exact mx_bad_t (mn_out (by omega) hi) (br_f (by decide) hp)
theorem pv_load (hn8 : n ≤ 8) (h : pv_Gd n lim mk u) (v1 v2 v3 : Int32) : ∃ (r : Int32) (u' : St2), pv_Gd n lim mk u' ∧ ∀ post : Int32 → St2 → Prop, post r u' → wpX_load post u v1 v2 v3 := by
  obtain ⟨op, U, kc, H, wd, ce, W, S, P, R, O, px, cd, K, sr, st, sz, pc, rfl, hG⟩ := h
  have hG0 := hG
  obtain ⟨hS, hD, hF, hX, hXW, hXZ, hC, hP0, hO, hT, hU1, hU2, hL, hop2, hmk⟩ := hG
  have hb : ∀ s, s < 30 → st s ≤ 1255 ∧ sz s ≤ 4 := fun s hs => ⟨(hS s hs).1, (hS s hs).2.1⟩
  have hr : ∀ s, s < 30 → 0 < sz s → sr s ≤ 4095 := fun s hs hz => by
    have := (hS s hs).2.2 hz
    omega
  by_cases hi1 : ∃ j, j < n ∧ v1 = nI j
  · obtain ⟨i1, hi1, rfl⟩ := hi1
    have hv1 : vp_in (nI i1) 8 := vp_in_nI (by omega) (by omega)
    by_cases hi : ∃ j, j < n ∧ v2 = nI j
    · obtain ⟨i, hi, rfl⟩ := hi
      have hv : vp_in (nI i) 8 := vp_in_nI (by omega) (by omega)
      rcases mc_own hS hX hXW (H (nI i).toNatClampNeg) with ⟨s, hA⟩ | hN
      · have hs := hA.1
        have hz := hA.2.1
        have hr1 := hr s hs hz
        have hS1 := (hS s hs).2.2 hz
        have hb1 := hb s hs
        obtain ⟨x1, x2, x3, x4⟩ := hX s hs hz
        have hm : P (sr s) + R (sr s) = sz s - 1 := by omega
        have h0 : ¬ nI (sr s) = 0 := nI_ne0 (by omega) (by omega)
        by_cases hj : ∃ j, j < sz s - 1 ∧ v3 = nI j
        · obtain ⟨j, hj, rfl⟩ := hj
          refine ⟨0, ((nI n), (nI lim), kc, (mc_oI op), (nI mk), (nI U), (upd H (nI i1).toNatClampNeg (wd (st s - 1000 + 1 + j))), wd, (fun j => nI (W j)), (fun j => nI (S j)), (fun j => nI (P j)), (fun j => nI (R j)), (fun j => nI (O j)), (fun j => nI (px j)), (fun j => nI (cd j)), (fun j => nI (K j))), pv_gd hG0, fun post hp => ?_⟩
          unfold wpX_load
          refine mx_bad_f hn8 hi1 (br_t rfl (mx_bad_f hn8 hi (br_t rfl ⟨hv, mx_own_at hA (br_f h0 (mx_lack_f (by omega) hm hj (by omega) (br_t rfl (mx_fi (by omega) x1 (by omega) ⟨vp_in_nI (by omega) (by omega), hv1, nm_r (e' := upd H (nI i1).toNatClampNeg (wd (st s - 1000 + 1 + j))) ?_ hp⟩))))⟩)))
          rw [nI_clamp (n := st s - 1000 + 1 + j) (by omega)]
        · have ho := mn_out (by omega) hj
          refine ⟨-3, ((nI n), (nI lim), kc, (mc_oI op), (nI mk), (nI U), H, wd, (fun j => nI (W j)), (fun j => nI (S j)), (fun j => nI (P j)), (fun j => nI (R j)), (fun j => nI (O j)), (fun j => nI (px j)), (fun j => nI (cd j)), (fun j => nI (K j))), pv_gd hG0, fun post hp => ?_⟩
          unfold wpX_load
          exact mx_bad_f hn8 hi1 (br_t rfl (mx_bad_f hn8 hi (br_t rfl ⟨hv, mx_own_at hA (br_f h0 (mx_lack_t (by omega) hm ho (br_f (by decide) hp)))⟩)))
      · refine ⟨-2, ((nI n), (nI lim), kc, (mc_oI op), (nI mk), (nI U), H, wd, (fun j => nI (W j)), (fun j => nI (S j)), (fun j => nI (P j)), (fun j => nI (R j)), (fun j => nI (O j)), (fun j => nI (px j)), (fun j => nI (cd j)), (fun j => nI (K j))), pv_gd hG0, fun post hp => ?_⟩
        unfold wpX_load
        exact mx_bad_f hn8 hi1 (br_t rfl (mx_bad_f hn8 hi (br_t rfl ⟨hv, mx_own_no hN (br_t rfl hp)⟩)))
    · refine ⟨-1, ((nI n), (nI lim), kc, (mc_oI op), (nI mk), (nI U), H, wd, (fun j => nI (W j)), (fun j => nI (S j)), (fun j => nI (P j)), (fun j => nI (R j)), (fun j => nI (O j)), (fun j => nI (px j)), (fun j => nI (cd j)), (fun j => nI (K j))), pv_gd hG0, fun post hp => ?_⟩
      unfold wpX_load
      exact mx_bad_f hn8 hi1 (br_t rfl (mx_bad_t (mn_out (by omega) hi) (br_f (by decide) hp)))
  · refine ⟨-1, ((nI n), (nI lim), kc, (mc_oI op), (nI mk), (nI U), H, wd, (fun j => nI (W j)), (fun j => nI (S j)), (fun j => nI (P j)), (fun j => nI (R j)), (fun j => nI (O j)), (fun j => nI (px j)), (fun j => nI (cd j)), (fun j => nI (K j))), pv_gd hG0, fun post hp => ?_⟩
    unfold wpX_load
    exact mx_bad_t (mn_out (by omega) hi1) (br_f (by decide) hp)
theorem pv_link (hn8 : n ≤ 8) (h : pv_Gd n lim mk u) (v1 v2 v3 : Int32) : ∃ (r : Int32) (u' : St2), pv_Gd n lim mk u' ∧ ∀ post : Int32 → St2 → Prop, post r u' → wpX_link post u v1 v2 v3 := by
  obtain ⟨op, U, kc, H, wd, ce, W, S, P, R, O, px, cd, K, sr, st, sz, pc, rfl, hG⟩ := h
  have hG0 := hG
  obtain ⟨hS, hD, hF, hX, hXW, hXZ, hC, hP0, hO, hT, hU1, hU2, hL, hop2, hmk⟩ := hG
  have hb : ∀ s, s < 30 → st s ≤ 1255 ∧ sz s ≤ 4 := fun s hs => ⟨(hS s hs).1, (hS s hs).2.1⟩
  have hr : ∀ s, s < 30 → 0 < sz s → sr s ≤ 4095 := fun s hs hz => by
    have := (hS s hs).2.2 hz
    omega
  by_cases hi : ∃ j, j < n ∧ v1 = nI j
  · obtain ⟨i, hi, rfl⟩ := hi
    have hv : vp_in (nI i) 8 := vp_in_nI (by omega) (by omega)
    by_cases hi2 : ∃ j, j < n ∧ v3 = nI j
    · obtain ⟨i2, hi2, rfl⟩ := hi2
      have hv2 : vp_in (nI i2) 8 := vp_in_nI (by omega) (by omega)
      rcases mc_own hS hX hXW (H (nI i).toNatClampNeg) with ⟨s, hA⟩ | hN
      · have hs := hA.1
        have hz := hA.2.1
        have hr1 := hr s hs hz
        have hS1 := (hS s hs).2.2 hz
        have hb1 := hb s hs
        obtain ⟨x1, x2, x3, x4⟩ := hX s hs hz
        have hm : P (sr s) + R (sr s) = sz s - 1 := by omega
        have h0 : ¬ nI (sr s) = 0 := nI_ne0 (by omega) (by omega)
        have hvs : vp_in (nI (sr s)) 4096 := vp_in_nI (by omega) (by omega)
        by_cases hj : ∃ j, j < sz s - 1 ∧ v2 = nI j
        · obtain ⟨j, hj, rfl⟩ := hj
          by_cases c : j < pc s
          · have c' : (fun j => nI (P j)) (sr s) = nI (pc s) := congrArg nI x2
            have hc : nI j < nI (P (sr s)) := by
              rw [x2]
              exact nI_lt c (by omega)
            rcases mc_own hS hX hXW (H (nI i2).toNatClampNeg) with ⟨t, hB⟩ | hN
            · have ht := hB.1
              have hzt := hB.2.1
              have hrt := hr t ht hzt
              have hSt := (hS t ht).2.2 hzt
              have hne2 : ¬ nI (sr t) = 0 := nI_ne0 (by omega) (by omega)
              refine ⟨0, ((nI n), (nI lim), kc, (mc_oI op), (nI mk), (nI U), H, (upd wd (st s - 1000 + 1 + j) (nI (st t))), (fun j => nI (W j)), (fun j => nI (S j)), (fun j => nI (P j)), (fun j => nI (R j)), (fun j => nI (O j)), (fun j => nI (px j)), (fun j => nI (cd j)), (fun j => nI (K j))), pv_gd (mc_G_put (c := nI (sr t)) hG0 hs (by omega) ⟨fun _ => Or.inr ⟨t, ht, hzt, rfl, rfl⟩, fun z => absurd z (by omega)⟩), fun post hp => ?_⟩
              unfold wpX_link
              refine mx_bad_f hn8 hi (br_t rfl (mx_bad_f hn8 hi2 (br_t rfl ⟨hv, mx_own_at hA (br_f h0 (mx_lack_f (by omega) hm hj (by omega) (br_t rfl ⟨hvs, ?_⟩)))⟩)))
              rw [nI_clamp (n := sr s) (by omega)]
              exact br_t hc ⟨hv2, mx_own_at hB (br_f hne2 (mx_l94 (by omega) x1 (by omega) (by omega) (by omega) (hX t ht hzt).1 hp))⟩
            · by_cases hw : H (nI i2).toNatClampNeg = 0
              · have hS0 : S 0 = 0 := by
                  rcases hXZ 0 with z | ⟨s, hs, hz, z⟩
                  · exact z
                  · have := (hS s hs).2.2 hz
                    omega
                refine ⟨0, ((nI n), (nI lim), kc, (mc_oI op), (nI mk), (nI U), H, (upd wd (st s - 1000 + 1 + j) (nI 0)), (fun j => nI (W j)), (fun j => nI (S j)), (fun j => nI (P j)), (fun j => nI (R j)), (fun j => nI (O j)), (fun j => nI (px j)), (fun j => nI (cd j)), (fun j => nI (K j))), pv_gd (mc_G_put (c := 0) hG0 hs (by omega) ⟨fun _ => Or.inl ⟨rfl, rfl⟩, fun z => absurd z (by omega)⟩), fun post hp => ?_⟩
                unfold wpX_link
                refine mx_bad_f hn8 hi (br_t rfl (mx_bad_f hn8 hi2 (br_t rfl ⟨hv, mx_own_at hA (br_f h0 (mx_lack_f (by omega) hm hj (by omega) (br_t rfl ⟨hvs, ?_⟩)))⟩)))
                rw [nI_clamp (n := sr s) (by omega)]
                exact br_t hc ⟨hv2, mx_own_no hN (br_t rfl ⟨hv2, br_t hw (mx_l94 (v5 := 0) (by omega) x1 (by omega) (by omega) (by omega) hS0 hp)⟩)⟩
              · refine ⟨-2, ((nI n), (nI lim), kc, (mc_oI op), (nI mk), (nI U), H, wd, (fun j => nI (W j)), (fun j => nI (S j)), (fun j => nI (P j)), (fun j => nI (R j)), (fun j => nI (O j)), (fun j => nI (px j)), (fun j => nI (cd j)), (fun j => nI (K j))), pv_gd hG0, fun post hp => ?_⟩
                unfold wpX_link
                refine mx_bad_f hn8 hi (br_t rfl (mx_bad_f hn8 hi2 (br_t rfl ⟨hv, mx_own_at hA (br_f h0 (mx_lack_f (by omega) hm hj (by omega) (br_t rfl ⟨hvs, ?_⟩)))⟩)))
                rw [nI_clamp (n := sr s) (by omega)]
                exact br_t hc ⟨hv2, mx_own_no hN (br_t rfl ⟨hv2, br_f hw hp⟩)⟩
          · refine ⟨-4, ((nI n), (nI lim), kc, (mc_oI op), (nI mk), (nI U), H, wd, (fun j => nI (W j)), (fun j => nI (S j)), (fun j => nI (P j)), (fun j => nI (R j)), (fun j => nI (O j)), (fun j => nI (px j)), (fun j => nI (cd j)), (fun j => nI (K j))), pv_gd hG0, fun post hp => ?_⟩
            unfold wpX_link
            refine mx_bad_f hn8 hi (br_t rfl (mx_bad_f hn8 hi2 (br_t rfl ⟨hv, mx_own_at hA (br_f h0 (mx_lack_f (by omega) hm hj (by omega) (br_t rfl ⟨hvs, ?_⟩)))⟩)))
            rw [nI_clamp (n := sr s) (by omega)]
            refine br_f ?_ hp
            show ¬ nI j < nI (P (sr s))
            rw [x2]
            exact nI_nlt (by omega) (by omega)
        · have ho := mn_out (by omega) hj
          refine ⟨-3, ((nI n), (nI lim), kc, (mc_oI op), (nI mk), (nI U), H, wd, (fun j => nI (W j)), (fun j => nI (S j)), (fun j => nI (P j)), (fun j => nI (R j)), (fun j => nI (O j)), (fun j => nI (px j)), (fun j => nI (cd j)), (fun j => nI (K j))), pv_gd hG0, fun post hp => ?_⟩
          unfold wpX_link
          exact mx_bad_f hn8 hi (br_t rfl (mx_bad_f hn8 hi2 (br_t rfl ⟨hv, mx_own_at hA (br_f h0 (mx_lack_t (by omega) hm ho (br_f (by decide) hp)))⟩)))
      · refine ⟨-2, ((nI n), (nI lim), kc, (mc_oI op), (nI mk), (nI U), H, wd, (fun j => nI (W j)), (fun j => nI (S j)), (fun j => nI (P j)), (fun j => nI (R j)), (fun j => nI (O j)), (fun j => nI (px j)), (fun j => nI (cd j)), (fun j => nI (K j))), pv_gd hG0, fun post hp => ?_⟩
        unfold wpX_link
        exact mx_bad_f hn8 hi (br_t rfl (mx_bad_f hn8 hi2 (br_t rfl ⟨hv, mx_own_no hN (br_t rfl hp)⟩)))
    · refine ⟨-1, ((nI n), (nI lim), kc, (mc_oI op), (nI mk), (nI U), H, wd, (fun j => nI (W j)), (fun j => nI (S j)), (fun j => nI (P j)), (fun j => nI (R j)), (fun j => nI (O j)), (fun j => nI (px j)), (fun j => nI (cd j)), (fun j => nI (K j))), pv_gd hG0, fun post hp => ?_⟩
      unfold wpX_link
      exact mx_bad_f hn8 hi (br_t rfl (mx_bad_t (mn_out (by omega) hi2) (br_f (by decide) hp)))
  · refine ⟨-1, ((nI n), (nI lim), kc, (mc_oI op), (nI mk), (nI U), H, wd, (fun j => nI (W j)), (fun j => nI (S j)), (fun j => nI (P j)), (fun j => nI (R j)), (fun j => nI (O j)), (fun j => nI (px j)), (fun j => nI (cd j)), (fun j => nI (K j))), pv_gd hG0, fun post hp => ?_⟩
    unfold wpX_link
    exact mx_bad_t (mn_out (by omega) hi) (br_f (by decide) hp)
theorem pv_alloc (hn8 : n ≤ 8) (h : pv_Gd n lim mk u) (v1 v2 v3 : Int32) : ∃ (r : Int32) (u' : St2), ((r ≤ 0 ∧ pv_Gd n lim mk u') ∨ (¬ r ≤ 0 ∧ pv_Gd n lim (mk + 1) u')) ∧ ∀ post : Int32 → St2 → Prop, post r u' → wpX_alloc post u v1 v2 v3 := by
  obtain ⟨op, U, kc, H, wd, ce, W, S, P, R, O, px, cd, K, sr, st, sz, pc, rfl, hG⟩ := h
  have hG0 := hG
  obtain ⟨hS, hD, hF, hX, hXW, hXZ, hC, hP0, hO, hT, hU1, hU2, hL, hop2, hmk⟩ := hG
  have hb : ∀ s, s < 30 → st s ≤ 1255 ∧ sz s ≤ 4 := fun s hs => ⟨(hS s hs).1, (hS s hs).2.1⟩
  have hr : ∀ s, s < 30 → 0 < sz s → sr s ≤ 4095 := fun s hs hz => by
    have := (hS s hs).2.2 hz
    omega
  by_cases hi : ∃ j, j < n ∧ v1 = nI j
  · obtain ⟨i, hi, rfl⟩ := hi
    have hv : vp_in (nI i) 8 := vp_in_nI (by omega) (by omega)
    rcases mc_shape v2 v3 with ⟨np, nr, rfl, rfl, g1, g2, g3, g4⟩ | ⟨hbX, _⟩
    · have e4 : (1 + nI np) + nI nr = nI (1 + np + nr) := by rw [mn_1a, nI_add]
      by_cases c1 : U + (1 + np + nr) ≤ lim
      · have c1' : nI U + nI (1 + np + nr) ≤ nI lim := by
          rw [nI_add]
          exact nI_le c1 (by omega)
        by_cases c2 : mk < 4095
        · have c2' : nI mk < 4095 := nI_lt (b := 4095) c2 (by omega)
          obtain ⟨s, hs, hz, hlast⟩ := mc_last (mc_slot0 hS (by omega))
          have hph : mc_PH st sz O (mc_fbn st sz (fun _ => 0) 32) op (1 + np + nr) := by
            refine ⟨hb, by omega, fun p hp => ?_, fun p hp => (mc_fbn_32 hp).1, fun p hp => ?_, fun h => hO op h, hop2, by omega, by omega, fun _ => ?_⟩
            · have := hO p hp
              have := mc_wo_le st sz p
              omega
            · rw [hO p hp]
              exact ⟨fun z => ⟨(mc_fbn_32 hp).2.mpr z, z⟩, fun z => z.2⟩
            · obtain ⟨p, hp, hp0⟩ := mc_free0 hS (by omega)
              exact ⟨p, hp, by rw [hO p hp]; exact hp0⟩
          have hg := mc_pgs hph
          have hpl := fun post => mx_pl (post := post) (n := n) (lim := lim) (mk := mk) (U := U) (kc := kc) (H := H) (wd := wd) (W := W) (S := S) (P := P) (R := R) (px := px) (cd := cd) (K := K) hph
          generalize hpe : mc_pg O op (mc_wo st sz op) (1 + np + nr) = p at hg hpl
          obtain ⟨hp, hw8, hwp, hpo⟩ := hg
          generalize hwe : O p = w at hw8 hwp hpo hpl
          have hn4095 : vp_in (nI (mk + 1)) 4096 := vp_in_nI (by omega) (by omega)
          have ecm : (nI (mk + 1)).toNatClampNeg = mk + 1 := nI_clamp (by omega)
          have ea : 1000 + 8 * p + w - 1000 = 8 * p + w := by omega
          refine ⟨nI (1000 + 8 * p + w), ((nI n), (nI lim), kc, (mc_oI p), (nI (mk + 1)), (nI (U + (1 + np + nr))), (upd H (nI i).toNatClampNeg (nI (1000 + 8 * p + w))), (mc_rI wd (1000 + 8 * p + w - 1000) (1 + np + nr) 0), (fun j => nI (mc_rg W (1000 + 8 * p + w - 1000) (1 + np + nr) (mk + 1) j)), (fun j => nI (mc_up S (mk + 1) (1000 + 8 * p + w) j)), (fun j => nI (mc_up P (mk + 1) np j)), (fun j => nI (mc_up R (mk + 1) nr j)), (fun j => nI (mc_up O p (w + (1 + np + nr)) j)), (fun j => nI (px j)), (fun j => nI (cd j)), (fun j => nI (K j))), Or.inr ⟨nI_nle (by omega) (by omega), ?_⟩, fun post hq => ?_⟩
          · rw [ea]
            refine pv_gd (mc_alloc (cell' := mc_rI ce (3 * s) 3 0) hG0 hs hz rfl (by omega) (by omega) c1 c2 hp hwp rfl hw8 ?_ (fun j hj => mc_rI_in hj) (fun j hj => mc_rI_out hj) (fun j hj => ⟨mc_rI_in hj, mc_rg_in hj⟩) (fun j hj => ⟨mc_rI_out hj, mc_rg_out hj⟩))
            rcases hpo with z | ⟨z1, _, z3⟩
            · exact Or.inl z
            · exact Or.inr ⟨z1, z3⟩
          · unfold wpX_alloc
            refine mx_bad_f hn8 hi (br_t rfl (mx_shape_f g1 g2 g3 g4 (br_t rfl (nm_r e4 (br_t c1' (br_t c2' (hpl _ ?_)))))))
            refine nm_r (nI_1 mk) ⟨hn4095, nm_r (e' := fun j => nI (mc_up P (mk + 1) np j)) (by rw [ecm, mc_upI]) ⟨hn4095, nm_r (e' := fun j => nI (mc_up R (mk + 1) nr j)) (by rw [ecm, mc_upI]) ?_⟩⟩
            refine mx_settle (v := mk + 1) (a := 1000 + 8 * p + w) (m := 1 + np + nr) (by omega) (by omega) (by omega) (by omega) (by rw [mc_us, mc_us]) ?_
            refine mx_clear (by omega) (by omega) (by omega) ?_
            exact nm_r (nI_add U (1 + np + nr)) ⟨hv, nm_e hq⟩
        · have c2' : ¬ nI mk < 4095 := nI_nlt (b := 4095) (by omega) (by omega)
          refine ⟨-7, ((nI n), (nI lim), kc, (mc_oI op), (nI mk), (nI U), H, wd, (fun j => nI (W j)), (fun j => nI (S j)), (fun j => nI (P j)), (fun j => nI (R j)), (fun j => nI (O j)), (fun j => nI (px j)), (fun j => nI (cd j)), (fun j => nI (K j))), Or.inl ⟨by decide, pv_gd hG0⟩, fun post hp => ?_⟩
          unfold wpX_alloc
          exact mx_bad_f hn8 hi (br_t rfl (mx_shape_f g1 g2 g3 g4 (br_t rfl (nm_r e4 (br_t c1' (br_f c2' hp))))))
      · have c1' : ¬ nI U + nI (1 + np + nr) ≤ nI lim := by
          rw [nI_add]
          exact nI_ge (by omega) (by omega)
        refine ⟨-6, ((nI n), (nI lim), kc, (mc_oI op), (nI mk), (nI U), H, wd, (fun j => nI (W j)), (fun j => nI (S j)), (fun j => nI (P j)), (fun j => nI (R j)), (fun j => nI (O j)), (fun j => nI (px j)), (fun j => nI (cd j)), (fun j => nI (K j))), Or.inl ⟨by decide, pv_gd hG0⟩, fun post hp => ?_⟩
        unfold wpX_alloc
        exact mx_bad_f hn8 hi (br_t rfl (mx_shape_f g1 g2 g3 g4 (br_t rfl (nm_r e4 (br_f c1' hp)))))
    · refine ⟨-5, ((nI n), (nI lim), kc, (mc_oI op), (nI mk), (nI U), H, wd, (fun j => nI (W j)), (fun j => nI (S j)), (fun j => nI (P j)), (fun j => nI (R j)), (fun j => nI (O j)), (fun j => nI (px j)), (fun j => nI (cd j)), (fun j => nI (K j))), Or.inl ⟨by decide, pv_gd hG0⟩, fun post hp => ?_⟩
      unfold wpX_alloc
      exact mx_bad_f hn8 hi (br_t rfl (hbX _ (br_f (by decide) hp)))
  · refine ⟨-1, ((nI n), (nI lim), kc, (mc_oI op), (nI mk), (nI U), H, wd, (fun j => nI (W j)), (fun j => nI (S j)), (fun j => nI (P j)), (fun j => nI (R j)), (fun j => nI (O j)), (fun j => nI (px j)), (fun j => nI (cd j)), (fun j => nI (K j))), Or.inl ⟨by decide, pv_gd hG0⟩, fun post hp => ?_⟩
    unfold wpX_alloc
    exact mx_bad_t (mn_out (by omega) hi) (br_f (by decide) hp)
end
end
section
/-! collect in the component: pins, condemned pages, the list -/
section
variable {n lim op mk U : Nat} {kc ld oo : Int32} {H wd ce : Nat → Int32} {W S P R O px cd K sr st sz pc L py fb : Nat → Nat}
def mc_PN (n : Nat) (H : Nat → Int32) (sr st sz W pn : Nat → Nat) : Prop :=
  (∀ p, p < 32 → pn p < 2 ∧ (pn p = 1 ↔ ∃ r s, r < n ∧ mc_At sr st sz W (H r) s ∧ (st s - 1000) / 8 = p)) ∧ mc_sm pn 32 ≤ n
theorem mc_PN_0 : mc_PN 0 H sr st sz W (mc_rg px 0 32 0) := by
  have h0 : ∀ p, p < 32 → mc_rg px 0 32 0 p = 0 := fun p hp => if_pos (by omega)
  refine ⟨fun p hp => ?_, ?_⟩
  · rw [h0 p hp]
    refine ⟨by omega, fun z => absurd z (by omega), ?_⟩
    rintro ⟨r, s, hr, _⟩
    omega
  · rw [mc_sm_0 32 h0]
    omega
theorem mc_At_No (hS : mc_Slot mk sr st sz pc) {w : Int32} {s : Nat} (h : mc_At sr st sz W w s) (hN : mc_No st sz W w) : False := by
  obtain ⟨hs, hz, i, hi, e, _, _, h3⟩ := h
  have h0 := hN.1 i hi e
  have := (hS s hs).2.2 hz
  omega
theorem mc_PN_no {i : Nat} {pn : Nat → Nat} (hS : mc_Slot mk sr st sz pc) (h : mc_PN i H sr st sz W pn) (hN : mc_No st sz W (H i)) : mc_PN (i + 1) H sr st sz W pn := by
  refine ⟨fun p hp => ⟨(h.1 p hp).1, ?_⟩, Nat.le_succ_of_le h.2⟩
  rw [(h.1 p hp).2]
  constructor
  · rintro ⟨r, s, hr, h1, h2⟩
    exact ⟨r, s, by omega, h1, h2⟩
  · rintro ⟨r, s, hr, h1, h2⟩
    by_cases e : r = i
    · rw [e] at h1
      exact absurd hN (mc_At_No hS h1)
    · exact ⟨r, s, by omega, h1, h2⟩
theorem mc_PN_at {i s : Nat} {pn : Nat → Nat} (hD : mc_Dis sr st sz) (h : mc_PN i H sr st sz W pn) (hA : mc_At sr st sz W (H i) s) (hq : (st s - 1000) / 8 < 32) : mc_PN (i + 1) H sr st sz W (mc_up pn ((st s - 1000) / 8) 1) := by
  refine ⟨fun p hp => ?_, ?_⟩
  · by_cases e : p = (st s - 1000) / 8
    · rw [e, mc_us]
      exact ⟨by omega, fun _ => ⟨i, s, by omega, hA, rfl⟩, fun _ => rfl⟩
    · rw [mc_un e]
      refine ⟨(h.1 p hp).1, ?_⟩
      rw [(h.1 p hp).2]
      constructor
      · rintro ⟨r, t, hr, h1, h2⟩
        exact ⟨r, t, by omega, h1, h2⟩
      · rintro ⟨r, t, hr, h1, h2⟩
        by_cases er : r = i
        · rw [er] at h1
          have := mc_At_u hD h1 hA
          rw [this] at h2
          exact absurd h2.symm e
        · exact ⟨r, t, by omega, h1, h2⟩
  · have hlt := (h.1 _ hq).1
    have h2 := h.2
    by_cases c : pn ((st s - 1000) / 8) = 0
    · rw [mc_sm_pt (f := pn) (g := mc_up pn ((st s - 1000) / 8) 1) (k := (st s - 1000) / 8) (x := 1) 32 hq (by rw [mc_us, c]) (fun j _ hj => mc_un hj)]
      omega
    · rw [mc_sm_congr (f := mc_up pn ((st s - 1000) / 8) 1) (g := pn) 32 (fun j _ => by
        by_cases e : j = (st s - 1000) / 8
        · rw [e, mc_us]; omega
        · exact mc_un e)]
      omega
theorem mc_pgI {w : Int32} {s : Nat} (hS : mc_Slot mk sr st sz pc) (h : mc_At sr st sz W w s) : (w - 1000) / 8 = nI ((st s - 1000) / 8) ∧ (st s - 1000) / 8 < 32 := by
  obtain ⟨hs, hz, i, hi, e, h1, h2, h3⟩ := h
  have hb := (hS s hs).2.2 hz
  have hb1 := (hS s hs).1
  refine ⟨?_, by omega⟩
  rw [e, mn_s1000 (by omega), mn_d8 (by omega)]
  exact congrArg nI (by omega)
theorem mx_pin_23 (hn8 : n ≤ 8) (hS : mc_Slot mk sr st sz pc) (hmk : mk ≤ 4095) (hD : mc_Dis sr st sz) (hX : mc_XS sr st sz pc S P R W) (hXW : mc_XW sr st sz W) :
    ∀ d i pn, i + d = n → mc_PN i H sr st sz W pn → ∃ pn', mc_PN n H sr st sz W pn' ∧ ∀ post : St2 → Prop, post ((nI n), (nI lim), kc, (mc_oI op), (nI mk), (nI U), H, wd, (fun j => nI (W j)), (fun j => nI (S j)), (fun j => nI (P j)), (fun j => nI (R j)), (fun j => nI (O j)), (fun j => nI (pn' j)), (fun j => nI (cd j)), (fun j => nI (K j))) → wX_pinPages_23 post (nI n) (nI lim) kc (mc_oI op) (nI mk) (nI U) (d + 1) (nI i) H wd (fun j => nI (W j)) (fun j => nI (S j)) (fun j => nI (P j)) (fun j => nI (R j)) (fun j => nI (O j)) (fun j => nI (pn j)) (fun j => nI (cd j)) (fun j => nI (K j)) := by
  intro d
  induction d with
  | zero =>
    intro i pn hi hp
    have ei : i = n := by omega
    rw [ei] at hp ⊢
    exact ⟨pn, hp, fun post h => br_t (nI_le (by omega) (by omega)) h⟩
  | succ d ih =>
    intro i pn hi hp
    rcases mc_own hS hX hXW (H i) with ⟨s, hA⟩ | hN
    · have hb := (hS s hA.1).2.2 hA.2.1
      have epg := mc_pgI hS hA
      obtain ⟨pn', h1, h2⟩ := ih (i + 1) _ (by omega) (mc_PN_at hD hp hA epg.2)
      refine ⟨pn', h1, fun post h => br_f (nI_ge (by omega) (by omega)) ⟨vp_in_nI (by omega) (by omega), nm_r (e' := H i) (by rw [nI_clamp (by omega)]) ?_⟩⟩
      refine mx_own_at hA (br_f (nI_ne0 (by omega) (by omega)) ⟨by decide, ?_, nm_r (e' := fun j => nI (mc_up pn ((st s - 1000) / 8) 1 j)) ?_ (nm_r (nI_1 i) (h2 post h))⟩)
      · rw [epg.1]
        exact vp_in_nI epg.2 (by omega)
      · rw [epg.1, nI_clamp (by omega)]
        exact mc_upI _ _ 1
    · obtain ⟨pn', h1, h2⟩ := ih (i + 1) _ (by omega) (mc_PN_no hS hp hN)
      refine ⟨pn', h1, fun post h => br_f (nI_ge (by omega) (by omega)) ⟨vp_in_nI (by omega) (by omega), nm_r (e' := H i) (by rw [nI_clamp (by omega)]) ?_⟩⟩
      exact mx_own_no hN (br_t rfl (nm_r (nI_1 i) (h2 post h)))
theorem mx_pin (hn8 : n ≤ 8) (hS : mc_Slot mk sr st sz pc) (hmk : mk ≤ 4095) (hD : mc_Dis sr st sz) (hX : mc_XS sr st sz pc S P R W) (hXW : mc_XW sr st sz W) :
    ∃ pn, mc_PN n H sr st sz W pn ∧ ∀ post : St2 → Prop, post ((nI n), (nI lim), kc, (mc_oI op), (nI mk), (nI U), H, wd, (fun j => nI (W j)), (fun j => nI (S j)), (fun j => nI (P j)), (fun j => nI (R j)), (fun j => nI (O j)), (fun j => nI (pn j)), (fun j => nI (cd j)), (fun j => nI (K j))) → wpX_pinPages post ((nI n), (nI lim), kc, (mc_oI op), (nI mk), (nI U), H, wd, (fun j => nI (W j)), (fun j => nI (S j)), (fun j => nI (P j)), (fun j => nI (R j)), (fun j => nI (O j)), (fun j => nI (px j)), (fun j => nI (cd j)), (fun j => nI (K j))) := by
  obtain ⟨pn', h1, h2⟩ := mx_pin_23 (lim := lim) (op := op) (mk := mk) (U := U) (kc := kc) (H := H) (wd := wd) (W := W) (S := S) (P := P) (R := R) (O := O) (cd := cd) (K := K) (sr := sr) (st := st) (sz := sz) (pc := pc) hn8 hS hmk hD hX hXW n 0 (mc_rg px 0 32 0) (by omega) mc_PN_0
  refine ⟨pn', h1, fun post h => ?_⟩
  have key : ∀ d i, i + d = 32 → wX_pinPages_2 post (nI n) (nI lim) kc (mc_oI op) (nI mk) (nI U) (d + 1) (nI i) H wd (fun j => nI (W j)) (fun j => nI (S j)) (fun j => nI (P j)) (fun j => nI (R j)) (fun j => nI (O j)) (fun j => nI (mc_rg px 0 i 0 j)) (fun j => nI (cd j)) (fun j => nI (K j)) := by
    intro d
    induction d with
    | zero =>
      intro i hi
      have ei : i = 32 := by omega
      rw [ei]
      exact br_t (nI_le (a := 32) (by omega) (by omega)) ⟨n + 1, h2 post h⟩
    | succ d ih =>
      intro i hi
      refine br_f (nI_ge (b := 32) (by omega) (by omega)) ⟨vp_in_nI (by omega) (by omega), nm_r (e' := fun j => nI (mc_rg px 0 (i + 1) 0 j)) ?_ (nm_r (nI_1 i) (ih (i + 1) (by omega)))⟩
      have := mc_rg_s px 0 i 0
      rw [Nat.zero_add] at this
      rw [nI_clamp (by omega), ← this]
      exact mc_upI _ i 0
  have := key 32 0 (by omega)
  rw [mc_rg_0] at this
  exact ⟨33, this⟩
def mc_cdn (O px cd : Nat → Nat) (i p : Nat) : Nat := if p < i then (if O p ≠ 0 ∧ px p = 0 then 1 else 0) else cd p
theorem mc_cdn_0 : mc_cdn O px cd 0 = cd := by
  funext p
  exact if_neg (by omega)
theorem mc_cdn_s (i : Nat) : mc_up (mc_cdn O px cd i) i (if O i ≠ 0 ∧ px i = 0 then 1 else 0) = mc_cdn O px cd (i + 1) := by
  funext p
  by_cases e : p = i
  · rw [e, mc_us]
    exact (if_pos (by omega)).symm
  · rw [mc_un e]
    unfold mc_cdn
    by_cases c : p < i
    · rw [if_pos c, if_pos (c := p < i + 1) (by omega)]
    · rw [if_neg c, if_neg (c := p < i + 1) (by omega)]
theorem mc_cdn_32 {p : Nat} (hp : p < 32) : mc_cdn O px cd 32 p < 2 ∧ (mc_cdn O px cd 32 p = 0 ↔ (O p = 0 ∨ px p ≠ 0)) := by
  have e : mc_cdn O px cd 32 p = (if O p ≠ 0 ∧ px p = 0 then 1 else 0) := if_pos hp
  rw [e]
  by_cases c : O p ≠ 0 ∧ px p = 0
  · rw [if_pos c]
    exact ⟨by omega, fun z => absurd z (by omega), fun z => by omega⟩
  · rw [if_neg c]
    exact ⟨by omega, fun _ => by omega, fun _ => rfl⟩
theorem mx_cond {post : St2 → Prop} (hO : ∀ p, p < 32 → O p < 1000) (hp : ∀ p, p < 32 → px p < 2)
    (h : post ((nI n), (nI lim), kc, (mc_oI op), (nI mk), (nI U), H, wd, (fun j => nI (W j)), (fun j => nI (S j)), (fun j => nI (P j)), (fun j => nI (R j)), (fun j => nI (O j)), (fun j => nI (px j)), (fun j => nI (mc_cdn O px cd 32 j)), (fun j => nI (K j)))) : wpX_condemnPages post ((nI n), (nI lim), kc, (mc_oI op), (nI mk), (nI U), H, wd, (fun j => nI (W j)), (fun j => nI (S j)), (fun j => nI (P j)), (fun j => nI (R j)), (fun j => nI (O j)), (fun j => nI (px j)), (fun j => nI (cd j)), (fun j => nI (K j))) := by
  have key : ∀ d i, i + d = 32 → wX_condemnPages_2 post (nI n) (nI lim) kc (mc_oI op) (nI mk) (nI U) (d + 1) (nI i) H wd (fun j => nI (W j)) (fun j => nI (S j)) (fun j => nI (P j)) (fun j => nI (R j)) (fun j => nI (O j)) (fun j => nI (px j)) (fun j => nI (mc_cdn O px cd i j)) (fun j => nI (K j)) := by
    intro d
    induction d with
    | zero =>
      intro i hi
      have ei : i = 32 := by omega
      rw [ei]
      exact br_t (nI_le (a := 32) (by omega) (by omega)) h
    | succ d ih =>
      intro i hi
      have hOi := hO i (by omega)
      have hpi := hp i (by omega)
      have es := mc_cdn_s (O := O) (px := px) (cd := cd) i
      have hv : vp_in (nI i) 32 := vp_in_nI (by omega) (by omega)
      have ec : (nI i).toNatClampNeg = i := nI_clamp (by omega)
      have nx := ih (i + 1) (by omega)
      refine br_f (nI_ge (b := 32) (by omega) (by omega)) ⟨hv, ?_⟩
      rw [ec]
      by_cases c : O i = 0
      · rw [if_neg (fun z => z.1 c)] at es
        refine br_t ?_ ⟨hv, nm_r (e' := fun j => nI (mc_cdn O px cd (i + 1) j)) ?_ (nm_r (nI_1 i) nx)⟩
        · show nI (O i) = 0
          rw [c, nI_0]
        · rw [← es]
          exact mc_upI _ i 0
      · refine br_f (nI_ne0 (by omega) (by omega)) ⟨hv, ?_⟩
        by_cases c2 : px i = 0
        · rw [if_pos ⟨c, c2⟩] at es
          refine br_t ?_ ⟨hv, nm_r (e' := fun j => nI (mc_cdn O px cd (i + 1) j)) ?_ (nm_r (nI_1 i) nx)⟩
          · show nI (px i) = 0
            rw [c2, nI_0]
          · rw [← es]
            exact mc_upI _ i 1
        · rw [if_neg (fun z => c2 z.2)] at es
          refine br_f (nI_ne0 (by omega) (by omega)) ⟨hv, nm_r (e' := fun j => nI (mc_cdn O px cd (i + 1) j)) ?_ (nm_r (nI_1 i) nx)⟩
          rw [← es]
          exact mc_upI _ i 0
  have := key 32 0 (by omega)
  rw [mc_cdn_0] at this
  exact ⟨33, this⟩
section
variable {l : (Nat → Nat) × Nat} {s : Nat}
theorem mx_isk {post : Int32 → Prop} (hl : mc_LG sz l) (hr : ∀ s, s < 30 → 0 < sz s → sr s ≤ 4095) (hD : mc_Dis sr st sz) (hK : ∀ i, i < l.2 → K i = sr (l.1 i)) (hs : s < 30) (hz : 0 < sz s)
    (h1 : mc_in l s → post 1) (h0 : ¬ mc_in l s → post 0) : wpX_isKept post ((nI n), (nI lim), (nI l.2), (mc_oI op), (nI mk), (nI U), H, wd, (fun j => nI (W j)), (fun j => nI (S j)), (fun j => nI (P j)), (fun j => nI (R j)), (fun j => nI (O j)), (fun j => nI (px j)), (fun j => nI (cd j)), (fun j => nI (K j))) (nI (sr s)) := by
  have h30 := mc_LG_le hl
  have hrs := hr s hs hz
  have key : ∀ d i, i + d = l.2 → (∀ j, j < i → l.1 j ≠ s) → wX_isKept_7 post (nI (sr s)) (nI l.2) (nI n) (nI lim) (nI l.2) (mc_oI op) (nI mk) (nI U) H wd (fun j => nI (W j)) (fun j => nI (S j)) (fun j => nI (P j)) (fun j => nI (R j)) (fun j => nI (O j)) (fun j => nI (px j)) (fun j => nI (cd j)) (fun j => nI (K j)) (d + 1) (nI i) := by
    intro d
    induction d with
    | zero =>
      intro i hi hj
      have ei : i = l.2 := by omega
      rw [ei] at hj ⊢
      refine br_t (nI_le (by omega) (by omega)) (h0 ?_)
      rintro ⟨j, j1, j2⟩
      exact hj j j1 j2
    | succ d ih =>
      intro i hi hj
      have hli := hl.1 i (by omega)
      have hri := hr _ hli.1 hli.2
      refine br_f (nI_ge (by omega) (by omega)) ⟨vp_in_nI (by omega) (by omega), ?_⟩
      rw [nI_clamp (by omega)]
      by_cases c : l.1 i = s
      · refine br_t ?_ (h1 ⟨i, by omega, c⟩)
        show nI (K i) = nI (sr s)
        rw [hK i (by omega), c]
      · refine br_f ?_ (nm_r (nI_1 i) (ih (i + 1) (by omega) (fun j hj2 => ?_)))
        · show ¬ nI (K i) = nI (sr s)
          rw [hK i (by omega), nI_eq (by omega) (by omega)]
          exact (hD _ s hli.1 hs c hli.2 hz).1
        · by_cases e : j = i
          · rw [e]; exact c
          · exact hj j (by omega)
  exact ⟨l.2 + 1, key l.2 0 (by omega) (fun j hj => absurd hj (by omega))⟩
theorem mx_keep_s (hl : mc_LG sz l) (hr : ∀ s, s < 30 → 0 < sz s → 1 ≤ sr s ∧ sr s ≤ 4095) (hD : mc_Dis sr st sz) (hK : ∀ i, i < l.2 → K i = sr (l.1 i)) (hs : s < 30) (hz : 0 < sz s) :
    ∃ K' : Nat → Nat, (∀ i, i < (mc_ad l s).2 → K' i = sr ((mc_ad l s).1 i)) ∧ ∀ post : St2 → Prop, post ((nI n), (nI lim), (nI (mc_ad l s).2), (mc_oI op), (nI mk), (nI U), H, wd, (fun j => nI (W j)), (fun j => nI (S j)), (fun j => nI (P j)), (fun j => nI (R j)), (fun j => nI (O j)), (fun j => nI (px j)), (fun j => nI (cd j)), (fun j => nI (K' j))) → wpX_keep post ((nI n), (nI lim), (nI l.2), (mc_oI op), (nI mk), (nI U), H, wd, (fun j => nI (W j)), (fun j => nI (S j)), (fun j => nI (P j)), (fun j => nI (R j)), (fun j => nI (O j)), (fun j => nI (px j)), (fun j => nI (cd j)), (fun j => nI (K j))) (nI (sr s)) := by
  have hrs := hr s hs hz
  by_cases c : mc_in l s
  · refine ⟨K, ?_, fun post h => ?_⟩
    · rw [mc_ad_isin c]
      exact hK
    · rw [mc_ad_isin c] at h
      exact br_f (nI_ne0 (by omega) (by omega)) (mx_isk hl (fun s hs hz => (hr s hs hz).2) hD hK hs hz (fun _ => br_f (by decide) h) (fun z => absurd c z))
  · have hlt := mc_LG_lt hl hs hz c
    refine ⟨mc_up K l.2 (sr s), ?_, fun post h => ?_⟩
    · rw [mc_ad_new hs c]
      intro i hi
      have hi : i < l.2 + 1 := hi
      show mc_up K l.2 (sr s) i = sr (mc_up l.1 l.2 s i)
      by_cases e : i = l.2
      · rw [e, mc_us, mc_us]
      · rw [mc_un e, mc_un e]
        exact hK i (by omega)
    · rw [mc_ad_new hs c] at h
      refine br_f (nI_ne0 (by omega) (by omega)) (mx_isk hl (fun s hs hz => (hr s hs hz).2) hD hK hs hz (fun z => absurd z c) (fun _ => ?_))
      refine br_t rfl (br_t (nI_lt (b := 30) hlt (by omega)) ⟨vp_in_nI hlt (by omega), nm_r (e' := fun j => nI (mc_up K l.2 (sr s) j)) ?_ (nm_r (nI_1 l.2) h)⟩)
      rw [nI_clamp (by omega)]
      exact mc_upI _ _ _
end
theorem mx_kp (hS : mc_Slot mk sr st sz pc) (hmk : mk ≤ 4095) (hD : mc_Dis sr st sz) (hX : mc_XS sr st sz pc S P R W) (hXW : mc_XW sr st sz W) (hp : ∀ p, p < 32 → px p < 2) :
    ∃ K' : Nat → Nat, (∀ i, i < (mc_pl px (fun a => mc_fd st sz a 30) 256).2 → K' i = sr ((mc_pl px (fun a => mc_fd st sz a 30) 256).1 i)) ∧ ∀ post : St2 → Prop, post ((nI n), (nI lim), (nI (mc_pl px (fun a => mc_fd st sz a 30) 256).2), (mc_oI op), (nI mk), (nI U), H, wd, (fun j => nI (W j)), (fun j => nI (S j)), (fun j => nI (P j)), (fun j => nI (R j)), (fun j => nI (O j)), (fun j => nI (px j)), (fun j => nI (cd j)), (fun j => nI (K' j))) → wpX_keepPinnedObjects post ((nI n), (nI lim), kc, (mc_oI op), (nI mk), (nI U), H, wd, (fun j => nI (W j)), (fun j => nI (S j)), (fun j => nI (P j)), (fun j => nI (R j)), (fun j => nI (O j)), (fun j => nI (px j)), (fun j => nI (cd j)), (fun j => nI (K j))) := by
  have hr : ∀ s, s < 30 → 0 < sz s → 1 ≤ sr s ∧ sr s ≤ 4095 := fun s hs hz => by
    have := (hS s hs).2.2 hz
    omega
  have key : ∀ (d a : Nat) (K1 : Nat → Nat), a + d = 256 → (∀ i, i < (mc_pl px (fun a => mc_fd st sz a 30) a).2 → K1 i = sr ((mc_pl px (fun a => mc_fd st sz a 30) a).1 i)) →
      ∃ K' : Nat → Nat, (∀ i, i < (mc_pl px (fun a => mc_fd st sz a 30) 256).2 → K' i = sr ((mc_pl px (fun a => mc_fd st sz a 30) 256).1 i)) ∧ ∀ post : St2 → Prop, post ((nI n), (nI lim), (nI (mc_pl px (fun a => mc_fd st sz a 30) 256).2), (mc_oI op), (nI mk), (nI U), H, wd, (fun j => nI (W j)), (fun j => nI (S j)), (fun j => nI (P j)), (fun j => nI (R j)), (fun j => nI (O j)), (fun j => nI (px j)), (fun j => nI (cd j)), (fun j => nI (K' j))) → wX_keepPinnedObjects_7 post (d + 1) (nI a) (nI n) (nI lim) (nI (mc_pl px (fun a => mc_fd st sz a 30) a).2) (mc_oI op) (nI mk) (nI U) H wd (fun j => nI (W j)) (fun j => nI (S j)) (fun j => nI (P j)) (fun j => nI (R j)) (fun j => nI (O j)) (fun j => nI (px j)) (fun j => nI (cd j)) (fun j => nI (K1 j)) := by
    intro d
    induction d with
    | zero =>
      intro a K1 ha hK
      have ea : a = 256 := by omega
      rw [ea] at hK ⊢
      exact ⟨K1, hK, fun post h => br_t (nI_le (a := 256) (by omega) (by omega)) h⟩
    | succ d ih =>
      intro a K1 ha hK
      have hpa := hp (a / 8) (by omega)
      have ed : nI a / 8 = nI (a / 8) := mn_d8 (by omega)
      have hlg := mc_pl_LG (pn := px) (fd := fun a => mc_fd st sz a 30) (mc_fdz st sz) a
      by_cases c : px (a / 8) = 1
      · have nx := fun K2 => ih (a + 1) K2 (by omega)
        rw [mc_pl_t c] at nx
        rcases hXW a (by omega) with z | ⟨s, hs, hz, z1, z2, z3⟩
        · have hf : mc_fd st sz (1000 + a) 30 = 30 := by
            refine mc_fd_no (fun t ht hc => ?_)
            have hzt : 0 < sz t := by omega
            have hbt := (hS t ht).2.2 hzt
            have := (hX t ht hzt).2.2.2 (1000 + a - st t) (by omega)
            have e : st t - 1000 + (1000 + a - st t) = a := by omega
            rw [e] at this
            omega
          rw [hf, mc_ad_30] at nx
          obtain ⟨K', h1, h2⟩ := nx K1 hK
          refine ⟨K', h1, fun post h => br_f (nI_ge (b := 256) (by omega) (by omega)) ⟨by decide, ?_⟩⟩
          rw [ed]
          refine ⟨vp_in_nI (by omega) (by omega), ?_⟩
          rw [nI_clamp (by omega)]
          refine br_f (nI_ne0 (by omega) (by omega)) ⟨vp_in_nI (by omega) (by omega), ?_⟩
          rw [nI_clamp (by omega)]
          show wpX_keep _ _ (nI (W a))
          rw [z]
          exact br_t rfl (nm_r (nI_1 a) (h2 post h))
        · have hf : mc_fd st sz (1000 + a) 30 = s := mc_fd_at hD hs z2 z3
          rw [hf] at nx
          obtain ⟨K2, hK2, hk2⟩ := mx_keep_s (n := n) (lim := lim) (op := op) (mk := mk) (U := U) (H := H) (wd := wd) (W := W) (S := S) (P := P) (R := R) (O := O) (px := px) (cd := cd) hlg hr hD hK hs hz
          obtain ⟨K', h1, h2⟩ := nx K2 hK2
          refine ⟨K', h1, fun post h => br_f (nI_ge (b := 256) (by omega) (by omega)) ⟨by decide, ?_⟩⟩
          rw [ed]
          refine ⟨vp_in_nI (by omega) (by omega), ?_⟩
          rw [nI_clamp (by omega)]
          refine br_f (nI_ne0 (by omega) (by omega)) ⟨vp_in_nI (by omega) (by omega), ?_⟩
          rw [nI_clamp (by omega)]
          show wpX_keep _ _ (nI (W a))
          rw [z1]
          exact hk2 _ (nm_r (nI_1 a) (h2 post h))
      · have nx := ih (a + 1) K1 (by omega)
        rw [mc_pl_f c] at nx
        obtain ⟨K', h1, h2⟩ := nx hK
        refine ⟨K', h1, fun post h => br_f (nI_ge (b := 256) (by omega) (by omega)) ⟨by decide, ?_⟩⟩
        rw [ed]
        refine ⟨vp_in_nI (by omega) (by omega), ?_⟩
        rw [nI_clamp (by omega)]
        refine br_t ?_ (nm_r (nI_1 a) (h2 post h))
        show nI (px (a / 8)) = 0
        have e : px (a / 8) = 0 := by omega
        rw [e, nI_0]
  obtain ⟨K', h1, h2⟩ := key 256 0 K (by omega) (fun i hi => absurd hi (Nat.not_lt_zero i))
  exact ⟨K', h1, fun post h => ⟨257, h2 post h⟩⟩
end
end
section
/-! collect in the component: reach, and the moving -/
section
variable {n lim op mk U : Nat} {kc ld oo : Int32} {H wd ce : Nat → Int32} {W S P R O px cd K sr st sz pc L py fb : Nat → Nat} {l : (Nat → Nat) × Nat}
theorem mx_kr_33 {a s : Nat} (hS : mc_Slot mk sr st sz pc) (hmk : mk ≤ 4095) (hD : mc_Dis sr st sz) (hX : mc_XS sr st sz pc S P R W)
    (hC : mc_CG st sz (fun s k w => mc_LC sr st sz pc s k (ce (3 * s + k)) w) wd) (hl : mc_LG sz l) (hs : s < 30) (hz : 0 < sz s) :
    ∀ (d k : Nat) (K1 : Nat → Nat), k + d = pc s → (∀ i, i < (mc_ri (mc_tg st sz wd) s l k).2 → K1 i = sr ((mc_ri (mc_tg st sz wd) s l k).1 i)) →
      ∃ K' : Nat → Nat, (∀ i, i < (mc_ri (mc_tg st sz wd) s l (pc s)).2 → K' i = sr ((mc_ri (mc_tg st sz wd) s l (pc s)).1 i)) ∧ ∀ (post : St2 → Prop) (J : Int32 → Int32 → Int32 → Int32 → Int32 → Int32 → Int32 → (Nat → Int32) → (Nat → Int32) → (Nat → Int32) → (Nat → Int32) → (Nat → Int32) → (Nat → Int32) → (Nat → Int32) → (Nat → Int32) → (Nat → Int32) → (Nat → Int32) → Prop), J (nI (a + 1)) (nI n) (nI lim) (nI (mc_ri (mc_tg st sz wd) s l (pc s)).2) (mc_oI op) (nI mk) (nI U) H wd (fun j => nI (W j)) (fun j => nI (S j)) (fun j => nI (P j)) (fun j => nI (R j)) (fun j => nI (O j)) (fun j => nI (px j)) (fun j => nI (cd j)) (fun j => nI (K' j)) →
      wX_keepReachableObjects_33 post J (nI a) (nI (sr s)) (nI (pc s)) (d + 1) (nI k) (nI n) (nI lim) (nI (mc_ri (mc_tg st sz wd) s l k).2) (mc_oI op) (nI mk) (nI U) H wd (fun j => nI (W j)) (fun j => nI (S j)) (fun j => nI (P j)) (fun j => nI (R j)) (fun j => nI (O j)) (fun j => nI (px j)) (fun j => nI (cd j)) (fun j => nI (K1 j)) := by
  have hr : ∀ s, s < 30 → 0 < sz s → 1 ≤ sr s ∧ sr s ≤ 4095 := fun s hs hz => by
    have := (hS s hs).2.2 hz
    omega
  have hb := (hS s hs).2.2 hz
  have hb1 := (hS s hs).1
  have hb4 := (hS s hs).2.1
  intro d
  induction d with
  | zero =>
    intro k K1 hk hK
    have ek : k = pc s := by omega
    rw [ek] at hK ⊢
    exact ⟨K1, hK, fun post J h => br_t (nI_le (by omega) (by omega)) (nm_r (nI_1 a) h)⟩
  | succ d ih =>
    intro k K1 hk hK
    have hlg := mc_ri_LG (tg := mc_tg st sz wd) hl (mc_tgz st sz wd) s k
    have nx := fun K2 => ih (k + 1) K2 (by omega)
    rw [mc_ri_s] at nx
    have q : mc_LC sr st sz pc s k (ce (3 * s + k)) (wd (st s - 1000 + 1 + k)) := hC s hs hz k (by omega)
    rcases q.1 (by omega) with ⟨q1, q2⟩ | ⟨t, ht, hzt, q1, q2⟩
    · have ht := mc_tg_0 (words := wd) (s := s) (k := k) hS q2
      rw [ht, mc_ad_30] at nx
      obtain ⟨K', h1, h2⟩ := nx K1 hK
      refine ⟨K', h1, fun post J h => br_f (nI_ge (by omega) (by omega)) (mx_fi (by omega) (hX s hs hz).1 (by omega) ⟨vp_in_nI (by omega) (by omega), ?_⟩)⟩
      rw [nI_clamp (by omega), q2]
      exact mx_own_no (mc_No_0 (st := st) (sz := sz) (W := W) hS) (br_t rfl (nm_r (nI_1 k) (h2 post J h)))
    · have htg := mc_tg_t (words := wd) (s := s) (k := k) hS hD ht hzt q2
      rw [htg] at nx
      obtain ⟨K2, hK2, hk2⟩ := mx_keep_s (n := n) (lim := lim) (op := op) (mk := mk) (U := U) (H := H) (wd := wd) (W := W) (S := S) (P := P) (R := R) (O := O) (px := px) (cd := cd) hlg hr hD hK ht hzt
      obtain ⟨K', h1, h2⟩ := nx K2 hK2
      refine ⟨K', h1, fun post J h => br_f (nI_ge (by omega) (by omega)) (mx_fi (by omega) (hX s hs hz).1 (by omega) ⟨vp_in_nI (by omega) (by omega), ?_⟩)⟩
      rw [nI_clamp (by omega), q2]
      exact mx_own_at (mc_At_i hX hS ht (Nat.le_refl _) (by omega)) (hk2 _ (nm_r (nI_1 k) (h2 post J h)))
theorem mx_kr (hS : mc_Slot mk sr st sz pc) (hmk : mk ≤ 4095) (hD : mc_Dis sr st sz) (hX : mc_XS sr st sz pc S P R W)
    (hC : mc_CG st sz (fun s k w => mc_LC sr st sz pc s k (ce (3 * s + k)) w) wd) (hl : mc_LG sz l) (hK : ∀ i, i < l.2 → K i = sr (l.1 i)) :
    ∃ K' : Nat → Nat, (∀ i, i < (mc_ro (mc_tg st sz wd) pc l 30).2 → K' i = sr ((mc_ro (mc_tg st sz wd) pc l 30).1 i)) ∧ ∀ post : St2 → Prop, post ((nI n), (nI lim), (nI (mc_ro (mc_tg st sz wd) pc l 30).2), (mc_oI op), (nI mk), (nI U), H, wd, (fun j => nI (W j)), (fun j => nI (S j)), (fun j => nI (P j)), (fun j => nI (R j)), (fun j => nI (O j)), (fun j => nI (px j)), (fun j => nI (cd j)), (fun j => nI (K' j))) →
    wpX_keepReachableObjects post ((nI n), (nI lim), (nI l.2), (mc_oI op), (nI mk), (nI U), H, wd, (fun j => nI (W j)), (fun j => nI (S j)), (fun j => nI (P j)), (fun j => nI (R j)), (fun j => nI (O j)), (fun j => nI (px j)), (fun j => nI (cd j)), (fun j => nI (K j))) := by
  have key : ∀ (d a : Nat) (K1 : Nat → Nat), a + d = 30 → (∀ i, i < (mc_ro (mc_tg st sz wd) pc l a).2 → K1 i = sr ((mc_ro (mc_tg st sz wd) pc l a).1 i)) →
      ∃ K' : Nat → Nat, (∀ i, i < (mc_ro (mc_tg st sz wd) pc l 30).2 → K' i = sr ((mc_ro (mc_tg st sz wd) pc l 30).1 i)) ∧ ∀ post : St2 → Prop, post ((nI n), (nI lim), (nI (mc_ro (mc_tg st sz wd) pc l 30).2), (mc_oI op), (nI mk), (nI U), H, wd, (fun j => nI (W j)), (fun j => nI (S j)), (fun j => nI (P j)), (fun j => nI (R j)), (fun j => nI (O j)), (fun j => nI (px j)), (fun j => nI (cd j)), (fun j => nI (K' j))) →
      wX_keepReachableObjects_2 post (d + 1) (nI a) (nI n) (nI lim) (nI (mc_ro (mc_tg st sz wd) pc l a).2) (mc_oI op) (nI mk) (nI U) H wd (fun j => nI (W j)) (fun j => nI (S j)) (fun j => nI (P j)) (fun j => nI (R j)) (fun j => nI (O j)) (fun j => nI (px j)) (fun j => nI (cd j)) (fun j => nI (K1 j)) := by
    intro d
    induction d with
    | zero =>
      intro a K1 ha hK
      have ea : a = 30 := by omega
      rw [ea] at hK ⊢
      exact ⟨K1, hK, fun post h => br_t (nI_le (a := 30) (by omega) (by omega)) h⟩
    | succ d ih =>
      intro a K1 ha hK
      have hlg := mc_ro_LG (tg := mc_tg st sz wd) (pc := pc) hl (mc_tgz st sz wd) a
      have hle := mc_LG_le hlg
      by_cases c : (mc_ro (mc_tg st sz wd) pc l a).2 ≤ a
      · have e := mc_ro_stop (tg := mc_tg st sz wd) (pc := pc) (l := l) c (30 - a)
        have e2 : a + (30 - a) = 30 := by omega
        rw [e2] at e
        rw [e]
        exact ⟨K1, hK, fun post h => br_f (nI_ge (b := 30) (by omega) (by omega)) (br_t (nI_le c (by omega)) h)⟩
      · have hli := hlg.1 a (by omega)
        have hb := (hS _ hli.1).2.2 hli.2
        have nx := fun K2 => ih (a + 1) K2 (by omega)
        rw [mc_ro_t (by omega)] at nx
        obtain ⟨K2, hK2, hk2⟩ := mx_kr_33 (n := n) (lim := lim) (op := op) (mk := mk) (U := U) (H := H) (ce := ce) (O := O) (px := px) (cd := cd) (a := a) (l := mc_ro (mc_tg st sz wd) pc l a) hS hmk hD hX hC hlg hli.1 hli.2 _ 0 K1 (Nat.zero_add _) hK
        obtain ⟨K', h1, h2⟩ := nx K2 hK2
        refine ⟨K', h1, fun post h => br_f (nI_ge (b := 30) (by omega) (by omega)) (br_f (nI_ge (by omega) (by omega)) ⟨vp_in_nI (by omega) (by omega), nm_r (e' := nI (sr ((mc_ro (mc_tg st sz wd) pc l a).1 a))) ?_ ⟨vp_in_nI (by omega) (by omega), nm_r (e' := nI (pc ((mc_ro (mc_tg st sz wd) pc l a).1 a))) ?_ ⟨pc ((mc_ro (mc_tg st sz wd) pc l a).1 a) + 1, hk2 post _ (h2 post h)⟩⟩⟩)⟩
        · show nI (K1 (nI a).toNatClampNeg) = _
          rw [nI_clamp (by omega), hK a (by omega)]
        · show nI (P (nI (sr ((mc_ro (mc_tg st sz wd) pc l a).1 a))).toNatClampNeg) = _
          rw [nI_clamp (by omega), (hX _ hli.1 hli.2).2.1]
  obtain ⟨K', h1, h2⟩ := key 30 0 K (by omega) hK
  exact ⟨K', h1, fun post h => ⟨31, h2 post h⟩⟩
theorem mc_run_h {st' S' W' O' : Nat → Nat} {words' : Nat → Int32} {op' s : Nat} (hS : mc_Slot mk sr st sz pc) (hT : mc_Thin st sz op) (hU : mc_sm sz 30 ≤ 60) (hM : mc_Mv sr st sz W wd st' S' W' O' words' op')
    (hs : s < 30) (hz : 0 < sz s) (hfb : ∀ p, p < 32 → fb p < 2 ∧ (fb p ≠ 0 ↔ mc_wo st sz p = 0)) : mc_PH st' sz O' fb op' (sz s) := by
  have hM0 := hM
  obtain ⟨m1, m2, m3, m4, m5, m6, m7, m8, m9, m10, m11⟩ := hM
  have hb4 := (hS s hs).2.1
  refine ⟨fun t ht => ⟨m1 t ht, (hS t ht).2.1⟩, hU, fun p hp => ?_, fun p hp => (hfb p hp).1, fun p hp => ?_, fun h => (m8 op' h).2 (m10 h), m9, hz, by omega, fun h => ?_⟩
  · have h1 := mc_wo_le st sz p
    have h2 := mc_wo_le st' sz p
    by_cases c : mc_wo st sz p = 0
    · rw [(m8 p hp).2 c]; omega
    · rw [(m8 p hp).1 c]; omega
  · by_cases c : mc_wo st sz p = 0
    · rw [(m8 p hp).2 c]
      exact ⟨fun z => ⟨(hfb p hp).2.mpr c, z⟩, fun z => z.2⟩
    · rw [(m8 p hp).1 c]
      exact ⟨fun z => absurd z c, fun z => absurd ((hfb p hp).2.mp z.1) c⟩
  · exact mc_Mv_free hS hT hU hM0 hb4 h
theorem mc_run_s {st' S' W' O' : Nat → Nat} {words' : Nat → Int32} {op' m0 i p : Nat} (hS : mc_Slot mk sr st sz pc) (hD : mc_Dis sr st sz) (hT : mc_Thin st sz op) (hU : mc_sm sz 30 ≤ 60) (hl : mc_LG sz l)
    (hM : mc_Mv sr st sz W wd st' S' W' O' words' op') (hI : mc_MI l m0 i st st') (h0 : m0 ≤ i) (hi : i < l.2) (ep : mc_pg O' op' (mc_wo st' sz op') (sz (l.1 i)) = p) :
    p < 32 ∧ O' p + sz (l.1 i) ≤ 8 ∧ st' (l.1 i) = st (l.1 i) ∧
    (8 * p + O' p + sz (l.1 i) ≤ st (l.1 i) - 1000 ∨ st (l.1 i) - 1000 + sz (l.1 i) ≤ 8 * p + O' p) ∧
    mc_Mv sr st sz W wd (mc_up st' (l.1 i) (1000 + 8 * p + O' p)) (mc_up S' (sr (l.1 i)) (1000 + 8 * p + O' p)) (mc_rg W' (8 * p + O' p) (sz (l.1 i)) (sr (l.1 i))) (mc_up O' p (O' p + sz (l.1 i))) (mc_cp words' (8 * p + O' p) (st (l.1 i) - 1000) (sz (l.1 i))) p ∧
    mc_MI l m0 (i + 1) st (mc_up st' (l.1 i) (1000 + 8 * p + O' p)) := by
  have hs := hl.1 i hi
  have hfb : ∀ p, p < 32 → mc_fbn st sz (fun _ => 0) 32 p < 2 ∧ (mc_fbn st sz (fun _ => 0) 32 p ≠ 0 ↔ mc_wo st sz p = 0) := fun p hp => mc_fbn_32 hp
  have hph := mc_run_h (fb := mc_fbn st sz (fun _ => 0) 32) hS hT hU hM hs.1 hs.2 hfb
  have hg := mc_pgs hph
  rw [ep] at hg
  obtain ⟨g1, g2, g3, g4⟩ := hg
  have hun := mc_MI_un hl hI hi (Or.inr (Nat.le_refl i))
  have hb := (hS _ hs.1).2.2 hs.2
  have hb1 := (hS _ hs.1).1
  have hf : mc_wo st sz p = 0 := by
    rcases g4 with z | ⟨_, z, _⟩
    · have := hM.2.2.2.2.2.2.2.2.2.1
      rw [← z] at this
      exact this g1
    · exact (hfb p g1).2.mp z
  have hps : (st (l.1 i) - 1000) / 8 ≠ p := fun e => by
    have := mc_wo_pos hS hs.1 hs.2
    rw [e] at this
    exact this hf
  refine ⟨g1, g2, hun, by omega, ?_, ?_⟩
  · refine mc_Mv_s hS hD hM hs.1 hs.2 hun g1 hf g3 rfl g2 ?_ (fun j hj => ⟨mc_cp_in hj, mc_rg_in hj⟩) (fun j hj => ⟨mc_cp_out hj, mc_rg_out hj⟩)
    rcases g4 with z | ⟨z1, _, z3⟩
    · exact Or.inl z
    · exact Or.inr ⟨z1, z3⟩
  · exact mc_MI_s hl hi h0 hI (by omega)
theorem mx_move_35 {post : St2 → Prop} {v a b m : Nat} (hv : v < 4096) (ha : a + m ≤ 256) (hbm : b + m ≤ 256) (hm : m < 1000) (hP : 1 + P v + R v = m) (hd : a + m ≤ b ∨ b + m ≤ a)
    (h : post ((nI n), (nI lim), kc, (mc_oI op), (nI mk), (nI U), H, (mc_cp wd a b m), (fun j => nI (mc_rg W a m v j)), (fun j => nI (mc_up S v (1000 + a) j)), (fun j => nI (P j)), (fun j => nI (R j)), (fun j => nI (O j)), (fun j => nI (px j)), (fun j => nI (cd j)), (fun j => nI (K j)))) :
    ∀ d i, i + d = m → wX_move_35 post (nI v) (nI b) (nI m) (nI (1000 + a)) (nI a) (nI n) (nI lim) kc (mc_oI op) (nI mk) (nI U) (d + 1) (nI i) H (mc_cp wd a b i) (fun j => nI (W j)) (fun j => nI (S j)) (fun j => nI (P j)) (fun j => nI (R j)) (fun j => nI (O j)) (fun j => nI (px j)) (fun j => nI (cd j)) (fun j => nI (K j)) := by
  intro d
  induction d with
  | zero =>
    intro i hi
    have ei : i = m := by omega
    have ea : 1000 + a - 1000 = a := by omega
    rw [ei]
    refine br_t (nI_le (by omega) (by omega)) (mx_settle (m := m) hv (by omega) (by omega) hm hP ?_)
    rw [ea]
    exact h
  | succ d ih =>
    intro i hi
    refine br_f (nI_ge (by omega) (by omega)) ⟨?_, ?_, nm_r (e' := mc_cp wd a b (i + 1)) ?_ (nm_r (nI_1 i) (ih (i + 1) (by omega)))⟩
    · rw [nI_add]
      exact vp_in_nI (by omega) (by omega)
    · rw [nI_add]
      exact vp_in_nI (by omega) (by omega)
    · rw [nI_add, nI_add, nI_clamp (n := a + i) (by omega), nI_clamp (n := b + i) (by omega)]
      exact mc_cp_s wd (by omega) hd
theorem mx_move {post : St2 → Prop} {v b m a p w : Nat} (hv : v < 4096) (hs : S v = 1000 + b) (ha : a + m ≤ 256) (hbm : b + m ≤ 256) (hm : m < 1000) (hP : 1 + P v + R v = m) (hd : a + m ≤ b ∨ b + m ≤ a)
    (hpl : ∀ post : Int32 → St2 → Prop, post (nI (1000 + a)) ((nI n), (nI lim), kc, (mc_oI p), (nI mk), (nI U), H, wd, (fun j => nI (W j)), (fun j => nI (S j)), (fun j => nI (P j)), (fun j => nI (R j)), (fun j => nI (mc_up O p w j)), (fun j => nI (px j)), (fun j => nI (cd j)), (fun j => nI (K j))) → wpX_place post ((nI n), (nI lim), kc, (mc_oI op), (nI mk), (nI U), H, wd, (fun j => nI (W j)), (fun j => nI (S j)), (fun j => nI (P j)), (fun j => nI (R j)), (fun j => nI (O j)), (fun j => nI (px j)), (fun j => nI (cd j)), (fun j => nI (K j))) (nI m))
    (h : post ((nI n), (nI lim), kc, (mc_oI p), (nI mk), (nI U), H, (mc_cp wd a b m), (fun j => nI (mc_rg W a m v j)), (fun j => nI (mc_up S v (1000 + a) j)), (fun j => nI (P j)), (fun j => nI (R j)), (fun j => nI (mc_up O p w j)), (fun j => nI (px j)), (fun j => nI (cd j)), (fun j => nI (K j)))) : wpX_move post ((nI n), (nI lim), kc, (mc_oI op), (nI mk), (nI U), H, wd, (fun j => nI (W j)), (fun j => nI (S j)), (fun j => nI (P j)), (fun j => nI (R j)), (fun j => nI (O j)), (fun j => nI (px j)), (fun j => nI (cd j)), (fun j => nI (K j))) (nI v) := by
  have ea : nI (1000 + a) - 1000 = nI a := by
    rw [mn_s1000 (by omega)]
    exact congrArg nI (by omega)
  refine ⟨vp_in_nI hv (by omega), nm_r (e' := nI b) ?_ (mx_size hv hP (hpl _ (nm_r ea ⟨m + 1, ?_⟩)))⟩
  · show nI (S (nI v).toNatClampNeg) - 1000 = nI b
    rw [nI_clamp (by omega), hs, mn_s1000 (by omega)]
    exact congrArg nI (by omega)
  · have := mx_move_35 (op := p) (O := mc_up O p w) hv ha hbm hm hP hd h m 0 (by omega)
    rw [mc_cp_0] at this
    exact this
theorem mx_pgo {post : Int32 → Prop} {x : Int32} {q : Nat} (e : (x - 1000) / 8 = nI q) (h : post (nI q)) : wpX_pageOf post () x := ⟨by decide, by rw [e]; exact h⟩
theorem mx_mk {m0 : Nat} {pn : Nat → Nat} (hS : mc_Slot mk sr st sz pc) (hmk : mk ≤ 4095) (hD : mc_Dis sr st sz) (hX : mc_XS sr st sz pc S P R W) (hT : mc_Thin st sz op) (hU : mc_sm sz 30 ≤ 60) (hl : mc_LG sz l)
    (hM0 : mc_Mv sr st sz W wd st S W O wd 32) (hK : ∀ i, i < l.2 → K i = sr (l.1 i)) (hpn : ∀ s, s < 30 → 0 < sz s → (pn ((st s - 1000) / 8) = 1 ↔ ∃ i, i < m0 ∧ i < l.2 ∧ l.1 i = s))
    (hcd : ∀ p, p < 32 → cd p < 2 ∧ (cd p = 0 ↔ (mc_wo st sz p = 0 ∨ pn p = 1))) :
    ∃ (st' S' W' O' : Nat → Nat) (words' : Nat → Int32) (op' : Nat), mc_Mv sr st sz W wd st' S' W' O' words' op' ∧ mc_MI l m0 l.2 st st' ∧ ∀ post : St2 → Prop,
      post ((nI n), (nI lim), (nI l.2), (mc_oI op'), (nI mk), (nI U), H, words', (fun j => nI (W' j)), (fun j => nI (S' j)), (fun j => nI (P j)), (fun j => nI (R j)), (fun j => nI (O' j)), (fun j => nI (px j)), (fun j => nI (cd j)), (fun j => nI (K j))) →
      wpX_moveKeptObjects post ((nI n), (nI lim), (nI l.2), (mc_oI op), (nI mk), (nI U), H, wd, (fun j => nI (W j)), (fun j => nI (S j)), (fun j => nI (P j)), (fun j => nI (R j)), (fun j => nI (O j)), (fun j => nI (px j)), (fun j => nI (cd j)), (fun j => nI (K j))) := by
  have hle := mc_LG_le hl
  have key : ∀ (d i : Nat) (st' S' W' O' : Nat → Nat) (words' : Nat → Int32) (op' : Nat), i + d = l.2 → mc_Mv sr st sz W wd st' S' W' O' words' op' → mc_MI l m0 i st st' →
      ∃ (st2 S2 W2 O2 : Nat → Nat) (words2 : Nat → Int32) (op2 : Nat), mc_Mv sr st sz W wd st2 S2 W2 O2 words2 op2 ∧ mc_MI l m0 l.2 st st2 ∧ ∀ post : St2 → Prop,
      post ((nI n), (nI lim), (nI l.2), (mc_oI op2), (nI mk), (nI U), H, words2, (fun j => nI (W2 j)), (fun j => nI (S2 j)), (fun j => nI (P j)), (fun j => nI (R j)), (fun j => nI (O2 j)), (fun j => nI (px j)), (fun j => nI (cd j)), (fun j => nI (K j))) →
      wX_moveKeptObjects_12 post (nI l.2) (d + 1) (nI i) (nI n) (nI lim) (nI l.2) (mc_oI op') (nI mk) (nI U) H words' (fun j => nI (W' j)) (fun j => nI (S' j)) (fun j => nI (P j)) (fun j => nI (R j)) (fun j => nI (O' j)) (fun j => nI (px j)) (fun j => nI (cd j)) (fun j => nI (K j)) := by
    intro d
    induction d with
    | zero =>
      intro i st' S' W' O' words' op' hi hM hI
      have ei : i = l.2 := by omega
      rw [ei] at hI ⊢
      exact ⟨st', S', W', O', words', op', hM, hI, fun post h => br_t (nI_le (by omega) (by omega)) h⟩
    | succ d ih =>
      intro i st' S' W' O' words' op' hi hM hI
      have hs := hl.1 i (by omega)
      have hb := (hS _ hs.1).2.2 hs.2
      have hb1 := (hS _ hs.1).1
      have hb4 := (hS _ hs.1).2.1
      have hun := mc_MI_un hl hI (i := i) (by omega) (Or.inr (Nat.le_refl i))
      have hSs := hM.2.2.2.2.2.1 _ hs.1 hs.2
      rw [hun] at hSs
      have hpg : (st (l.1 i) - 1000) / 8 < 32 := by omega
      have epg : nI (st (l.1 i)) - 1000 = nI (st (l.1 i) - 1000) := mn_s1000 (by omega)
      have hc := hcd _ hpg
      have hwp := mc_wo_pos hS hs.1 hs.2
      have e1 : (fun j => nI (K j)) (nI i).toNatClampNeg = nI (sr (l.1 i)) := by
        show nI (K (nI i).toNatClampNeg) = _
        rw [nI_clamp (by omega), hK i (by omega)]
      have e2 : ((fun j => nI (S' j)) (nI (sr (l.1 i))).toNatClampNeg - 1000) / 8 = nI ((st (l.1 i) - 1000) / 8) := by
        show (nI (S' (nI (sr (l.1 i))).toNatClampNeg) - 1000) / 8 = _
        rw [nI_clamp (by omega), hSs, epg, mn_d8 (by omega)]
      by_cases c : m0 ≤ i
      · have hcne : cd ((st (l.1 i) - 1000) / 8) ≠ 0 := fun z => by
          rcases hc.2.mp z with z2 | z2
          · exact hwp z2
          · obtain ⟨j, j1, j2, j3⟩ := (hpn _ hs.1 hs.2).mp z2
            exact hl.2 j i (by omega) (by omega) j3
        obtain ⟨g1, g2, g3, g4, g5, g6⟩ := mc_run_s hS hD hT hU hl hM hI c (by omega) rfl
        have hfb : ∀ p, p < 32 → mc_fbn st sz (fun _ => 0) 32 p < 2 ∧ (mc_fbn st sz (fun _ => 0) 32 p ≠ 0 ↔ mc_wo st sz p = 0) := fun p hp => mc_fbn_32 hp
        have hph := mc_run_h (fb := mc_fbn st sz (fun _ => 0) 32) hS hT hU hM hs.1 hs.2 hfb
        obtain ⟨x1, x2, x3, x4⟩ := hX _ hs.1 hs.2
        obtain ⟨st2, S2, W2, O2, words2, op2, h1, h2, h3⟩ := ih (i + 1) _ _ _ _ _ _ (by omega) g5 g6
        refine ⟨st2, S2, W2, O2, words2, op2, h1, h2, fun post h => ?_⟩
        refine br_f (nI_ge (by omega) (by omega)) ⟨vp_in_nI (by omega) (by omega), nm_r e1 ⟨vp_in_nI (by omega) (by omega), mx_pgo e2 ⟨vp_in_nI hpg (by omega), ?_⟩⟩⟩
        rw [nI_clamp (by omega)]
        refine br_f (nI_ne0 (by omega) (by omega)) (mx_move (v := sr (l.1 i)) (b := st (l.1 i) - 1000) (m := sz (l.1 i)) (a := 8 * mc_pg O' op' (mc_wo st' sz op') (sz (l.1 i)) + O' (mc_pg O' op' (mc_wo st' sz op') (sz (l.1 i)))) (p := mc_pg O' op' (mc_wo st' sz op') (sz (l.1 i))) (w := O' (mc_pg O' op' (mc_wo st' sz op') (sz (l.1 i))) + sz (l.1 i))
          (by omega) (by omega) (by omega) (by omega) (by omega) (by omega) (by omega) (fun post hp => mx_pl hph (by rw [Nat.add_assoc]; exact hp)) ?_)
        rw [← Nat.add_assoc]
        exact nm_r (nI_1 i) (h3 post h)
      · have hcz : cd ((st (l.1 i) - 1000) / 8) = 0 := hc.2.mpr (Or.inr ((hpn _ hs.1 hs.2).mpr ⟨i, by omega, by omega, rfl⟩))
        obtain ⟨st2, S2, W2, O2, words2, op2, h1, h2, h3⟩ := ih (i + 1) st' S' W' O' words' op' (by omega) hM ⟨fun s hs hh => hI.1 s hs (fun j j1 j2 => absurd j2 (by omega)), fun j j1 j2 => absurd j2 (by omega)⟩
        refine ⟨st2, S2, W2, O2, words2, op2, h1, h2, fun post h => ?_⟩
        refine br_f (nI_ge (by omega) (by omega)) ⟨vp_in_nI (by omega) (by omega), nm_r e1 ⟨vp_in_nI (by omega) (by omega), mx_pgo e2 ⟨vp_in_nI hpg (by omega), ?_⟩⟩⟩
        rw [nI_clamp (by omega)]
        refine br_t ?_ (nm_r (nI_1 i) (h3 post h))
        show nI (cd ((st (l.1 i) - 1000) / 8)) = 0
        rw [hcz, nI_0]
  obtain ⟨st2, S2, W2, O2, words2, op2, h1, h2, h3⟩ := key l.2 0 st S W O wd 32 (by omega) hM0 ⟨fun _ _ _ => rfl, fun i h1 h2 => absurd h2 (by omega)⟩
  refine ⟨st2, S2, W2, O2, words2, op2, h1, h2, fun post h => ?_⟩
  have := h3 post h
  rw [mc_oI_32] at this
  exact ⟨l.2 + 1, this⟩
end
end
section
/-! collect in the component: redirecting, emptying -/
section
variable {n lim op mk U : Nat} {kc ld oo : Int32} {H wd ce : Nat → Int32} {W S P R O px cd K sr st sz pc L py fb : Nat → Nat} {l : (Nat → Nat) × Nat}
variable {st' S' W' O' : Nat → Nat} {words' : Nat → Int32} {op' m0 : Nat}
theorem mx_rd_30 {i : Nat} (hS : mc_Slot mk sr st sz pc) (hmk : mk ≤ 4095) (hX : mc_XS sr st sz pc S P R W) (hl : mc_LG sz l)
    (hM : mc_Mv sr st sz W wd st' S' W' O' words' op') (hi : i < l.2) :
    ∀ (d k : Nat) (w2 : Nat → Int32), k + d = pc (l.1 i) → mc_CG st' sz (mc_RQ l sr st st' sz pc ce i k) w2 →
      ∃ w3 : Nat → Int32, mc_CG st' sz (mc_RQ l sr st st' sz pc ce i (pc (l.1 i))) w3 ∧ ∀ (post : St2 → Prop) (J : Int32 → (Nat → Int32) → (Nat → Int32) → (Nat → Int32) → (Nat → Int32) → (Nat → Int32) → (Nat → Int32) → (Nat → Int32) → (Nat → Int32) → (Nat → Int32) → (Nat → Int32) → Prop), J (nI (i + 1)) H w3 (fun j => nI (W' j)) (fun j => nI (S' j)) (fun j => nI (P j)) (fun j => nI (R j)) (fun j => nI (O j)) (fun j => nI (px j)) (fun j => nI (cd j)) (fun j => nI (K j)) →
      wX_redirectPointers_30 post J (nI l.2) (nI i) (nI (sr (l.1 i))) (nI (pc (l.1 i))) (nI n) (nI lim) kc (mc_oI op) (nI mk) (nI U) (d + 1) (nI k) H w2 (fun j => nI (W' j)) (fun j => nI (S' j)) (fun j => nI (P j)) (fun j => nI (R j)) (fun j => nI (O j)) (fun j => nI (px j)) (fun j => nI (cd j)) (fun j => nI (K j)) := by
  have hS' := mc_Mv_Slot hS hM
  have hM0 := hM
  obtain ⟨m1, m2, m3, m4, m5, m6, m7, m8, m9, m10, m11⟩ := hM
  have hs := hl.1 i hi
  have hb := (hS' _ hs.1).2.2 hs.2
  have hb1 := (hS' _ hs.1).1
  have hb4 := (hS' _ hs.1).2.1
  have hS0 : S' 0 = 0 := by
    rcases m7 0 with z | ⟨s, hs, hz, z⟩
    · exact z
    · have := (hS s hs).2.2 hz
      omega
  intro d
  induction d with
  | zero =>
    intro k w2 hk hR
    have ek : k = pc (l.1 i) := by omega
    rw [ek] at hR ⊢
    exact ⟨w2, hR, fun post J h => br_t (nI_le (by omega) (by omega)) (nm_r (nI_1 i) h)⟩
  | succ d ih =>
    intro k w2 hk hR
    have hv : vp_in (nI (st' (l.1 i) - 1000 + 1 + k)) 256 := vp_in_nI (by omega) (by omega)
    have ec : (nI (st' (l.1 i) - 1000 + 1 + k)).toNatClampNeg = st' (l.1 i) - 1000 + 1 + k := nI_clamp (by omega)
    rcases mc_RD_r hl hS' hR hi (by omega) with ⟨q1, q2⟩ | ⟨t, ht, hzt, q1, q2⟩
    · obtain ⟨w3, h1, h2⟩ := ih (k + 1) _ (by omega) (mc_RD_s hl hS' m3 hR hi (by omega) (x := 0) ⟨fun _ => Or.inl ⟨q1, rfl⟩, fun z => absurd z (by omega)⟩)
      refine ⟨w3, h1, fun post J h => br_f (nI_ge (by omega) (by omega)) (mx_fi (a := st' (l.1 i)) (by omega) (m6 _ hs.1 hs.2) (by omega) ⟨hv, ?_⟩)⟩
      rw [ec, q2]
      refine mx_own_no (mc_No_0 (st := st) (sz := sz) (W := W') hS) ⟨vp_in_nI (n := 0) (by omega) (by omega), hv, nm_r (e' := upd w2 (st' (l.1 i) - 1000 + 1 + k) 0) ?_ (nm_r (nI_1 k) (h2 post J h))⟩
      show upd w2 (st' (l.1 i) - 1000 + 1 + k) (nI (S' (nI 0).toNatClampNeg)) = _
      rw [nI_clamp (by omega), hS0, nI_0]
    · have hbt := (hS t ht).2.2 hzt
      have hbt1 := (hS t ht).1
      have e0 : st t = 1000 + (st t - 1000) := by omega
      have eW : W' (st t - 1000) = sr t := by
        rw [(m4 (st t - 1000) (by omega) (mc_wo_pos hS ht hzt)).1]
        exact (hX t ht hzt).2.2.2 0 hzt
      obtain ⟨w3, h1, h2⟩ := ih (k + 1) _ (by omega) (mc_RD_s hl hS' m3 hR hi (by omega) (x := nI (st' t)) ⟨fun _ => Or.inr ⟨t, ht, hzt, q1, rfl⟩, fun z => absurd z (by omega)⟩)
      refine ⟨w3, h1, fun post J h => br_f (nI_ge (by omega) (by omega)) (mx_fi (a := st' (l.1 i)) (by omega) (m6 _ hs.1 hs.2) (by omega) ⟨hv, ?_⟩)⟩
      rw [ec, q2, e0]
      refine mx_own_i (by omega) ?_
      rw [eW]
      refine ⟨vp_in_nI (by omega) (by omega), hv, nm_r (e' := upd w2 (st' (l.1 i) - 1000 + 1 + k) (nI (st' t))) ?_ (nm_r (nI_1 k) (h2 post J h))⟩
      show upd w2 (st' (l.1 i) - 1000 + 1 + k) (nI (S' (nI (sr t)).toNatClampNeg)) = _
      rw [nI_clamp (by omega), m6 t ht hzt]
theorem mx_rd (hS : mc_Slot mk sr st sz pc) (hmk : mk ≤ 4095) (hX : mc_XS sr st sz pc S P R W) (hl : mc_LG sz l)
    (hM : mc_Mv sr st sz W wd st' S' W' O' words' op') (hC : mc_CG st sz (fun s k w => mc_LC sr st sz pc s k (ce (3 * s + k)) w) wd) (hK : ∀ i, i < l.2 → K i = sr (l.1 i)) :
    ∃ w2 : Nat → Int32, mc_CG st' sz (mc_RQ l sr st st' sz pc ce l.2 0) w2 ∧ ∀ post : St2 → Prop, post ((nI n), (nI lim), (nI l.2), (mc_oI op), (nI mk), (nI U), H, w2, (fun j => nI (W' j)), (fun j => nI (S' j)), (fun j => nI (P j)), (fun j => nI (R j)), (fun j => nI (O j)), (fun j => nI (px j)), (fun j => nI (cd j)), (fun j => nI (K j))) →
    wpX_redirectPointers post ((nI n), (nI lim), (nI l.2), (mc_oI op), (nI mk), (nI U), H, words', (fun j => nI (W' j)), (fun j => nI (S' j)), (fun j => nI (P j)), (fun j => nI (R j)), (fun j => nI (O j)), (fun j => nI (px j)), (fun j => nI (cd j)), (fun j => nI (K j))) := by
  have hle := mc_LG_le hl
  have key : ∀ (d i : Nat) (w2 : Nat → Int32), i + d = l.2 → mc_CG st' sz (mc_RQ l sr st st' sz pc ce i 0) w2 →
      ∃ w3 : Nat → Int32, mc_CG st' sz (mc_RQ l sr st st' sz pc ce l.2 0) w3 ∧ ∀ post : St2 → Prop, post ((nI n), (nI lim), (nI l.2), (mc_oI op), (nI mk), (nI U), H, w3, (fun j => nI (W' j)), (fun j => nI (S' j)), (fun j => nI (P j)), (fun j => nI (R j)), (fun j => nI (O j)), (fun j => nI (px j)), (fun j => nI (cd j)), (fun j => nI (K j))) →
      wX_redirectPointers_7 post (nI l.2) (nI n) (nI lim) (nI l.2) (mc_oI op) (nI mk) (nI U) (d + 1) (nI i) H w2 (fun j => nI (W' j)) (fun j => nI (S' j)) (fun j => nI (P j)) (fun j => nI (R j)) (fun j => nI (O j)) (fun j => nI (px j)) (fun j => nI (cd j)) (fun j => nI (K j)) := by
    intro d
    induction d with
    | zero =>
      intro i w2 hi hR
      have ei : i = l.2 := by omega
      rw [ei] at hR ⊢
      exact ⟨w2, hR, fun post h => br_t (nI_le (by omega) (by omega)) h⟩
    | succ d ih =>
      intro i w2 hi hR
      have hs := hl.1 i (by omega)
      have hb := (hS _ hs.1).2.2 hs.2
      obtain ⟨w3, hR3, hk3⟩ := mx_rd_30 (n := n) (lim := lim) (op := op) (mk := mk) (U := U) (kc := nI l.2) (H := H) (ce := ce) (O := O) (px := px) (cd := cd) (K := K) hS hmk hX hl hM (by omega : i < l.2) _ 0 w2 (Nat.zero_add _) hR
      obtain ⟨w4, h1, h2⟩ := ih (i + 1) w3 (by omega) (mc_RD_e hl hR3 (by omega))
      refine ⟨w4, h1, fun post h => br_f (nI_ge (by omega) (by omega)) ⟨vp_in_nI (by omega) (by omega), nm_r (e' := nI (sr (l.1 i))) ?_ ⟨vp_in_nI (by omega) (by omega), nm_r (e' := nI (pc (l.1 i))) ?_ ⟨pc (l.1 i) + 1, hk3 post _ (h2 post h)⟩⟩⟩⟩
      · show nI (K (nI i).toNatClampNeg) = _
        rw [nI_clamp (by omega), hK i (by omega)]
      · show nI (P (nI (sr (l.1 i))).toNatClampNeg) = _
        rw [nI_clamp (by omega), (hX _ hs.1 hs.2).2.1]
  obtain ⟨w3, h1, h2⟩ := key l.2 0 words' (by omega) (mc_RD_0 hS hC hM)
  exact ⟨w3, h1, fun post h => ⟨l.2 + 1, h2 post h⟩⟩
theorem mx_ep_74 {post : Int32 → St2 → Prop} {J : Int32 → Int32 → Int32 → (Nat → Int32) → (Nat → Int32) → (Nat → Int32) → (Nat → Int32) → (Nat → Int32) → (Nat → Int32) → (Nat → Int32) → (Nat → Int32) → (Nat → Int32) → (Nat → Int32) → Prop} {x1 x2 x4 : Int32} {i : Nat} (hi : i < 256)
    (h : J x2 (nI (1000 + (i + 1))) (nI U) H wd (fun j => nI (mc_up W i 0 j)) (fun j => nI (S j)) (fun j => nI (P j)) (fun j => nI (R j)) (fun j => nI (O j)) (fun j => nI (px j)) (fun j => nI (cd j)) (fun j => nI (K j))) : wX_emptyPage_74 post J x1 x2 x4 (nI (1000 + i)) (nI n) (nI lim) kc (mc_oI op) (nI mk) (nI U) H wd (fun j => nI (W j)) (fun j => nI (S j)) (fun j => nI (P j)) (fun j => nI (R j)) (fun j => nI (O j)) (fun j => nI (px j)) (fun j => nI (cd j)) (fun j => nI (K j)) := by
  have e : nI (1000 + i) - 1000 = nI i := by
    rw [mn_s1000 (by omega)]
    exact congrArg nI (by omega)
  unfold wX_emptyPage_74
  refine ⟨?_, nm_r (e' := fun j => nI (mc_up W i 0 j)) ?_ (nm_r (nI_1 (1000 + i)) h)⟩
  · rw [e]
    exact vp_in_nI hi (by omega)
  · rw [e, nI_clamp (by omega)]
    exact mc_upI W i 0
section
variable {pn : Nat → Nat} {wd0 : Nat → Int32}
theorem mx_ep {p D0 U0 : Nat} {S0 W0 O0 : Nat → Nat} (hp : p < 32) (hS : mc_Slot mk sr st sz pc) (hmk : mk ≤ 4095) (hD : mc_Dis sr st sz) (hX : mc_XS sr st sz pc S P R W) (hXW : mc_XW sr st sz W)
    (hl : mc_LG sz l) (hM : mc_Mv sr st sz W wd0 st' S' W' O' words' op') (hI : mc_MI l m0 l.2 st st') (hpn : ∀ s, s < 30 → 0 < sz s → (pn ((st s - 1000) / 8) = 1 ↔ ∃ i, i < m0 ∧ i < l.2 ∧ l.1 i = s))
    (hu : mc_wo st sz p ≠ 0) (hq : pn p ≠ 1) (hES : mc_ES l sr st sz st' S' (8 * p) S0 U0 D0) (hEW : mc_EW st sz pn W' (8 * p) W0) :
    ∃ (S2 W2 : Nat → Nat) (U2 c : Nat), mc_ES l sr st sz st' S' (8 * p + 8) S2 U2 (D0 + c) ∧ mc_EW st sz pn W' (8 * p + 8) W2 ∧ ∀ post : Int32 → St2 → Prop, post (nI c) ((nI n), (nI lim), kc, (mc_oI op), (nI mk), (nI U2), H, wd, (fun j => nI (W2 j)), (fun j => nI (S2 j)), (fun j => nI (P j)), (fun j => nI (R j)), (fun j => nI (mc_up O0 p 0 j)), (fun j => nI (px j)), (fun j => nI (cd j)), (fun j => nI (K j))) →
    wpX_emptyPage post ((nI n), (nI lim), kc, (mc_oI op), (nI mk), (nI U0), H, wd, (fun j => nI (W0 j)), (fun j => nI (S0 j)), (fun j => nI (P j)), (fun j => nI (R j)), (fun j => nI (O0 j)), (fun j => nI (px j)), (fun j => nI (cd j)), (fun j => nI (K j))) (nI p) := by
  have key : ∀ (d i : Nat) (S2 W2 : Nat → Nat) (U2 c : Nat), i + d = 8 * p + 8 → 8 * p ≤ i → mc_ES l sr st sz st' S' i S2 U2 (D0 + c) → mc_EW st sz pn W' i W2 →
      ∃ (S3 W3 : Nat → Nat) (U3 c3 : Nat), mc_ES l sr st sz st' S' (8 * p + 8) S3 U3 (D0 + c3) ∧ mc_EW st sz pn W' (8 * p + 8) W3 ∧ ∀ post : Int32 → St2 → Prop, post (nI c3) ((nI n), (nI lim), kc, (mc_oI op), (nI mk), (nI U3), H, wd, (fun j => nI (W3 j)), (fun j => nI (S3 j)), (fun j => nI (P j)), (fun j => nI (R j)), (fun j => nI (mc_up O0 p 0 j)), (fun j => nI (px j)), (fun j => nI (cd j)), (fun j => nI (K j))) →
      wX_emptyPage_16 post (nI p) (nI (1000 + (8 * p + 8))) (nI n) (nI lim) kc (mc_oI op) (nI mk) (d + 1) (nI c) (nI (1000 + i)) (nI U2) H wd (fun j => nI (W2 j)) (fun j => nI (S2 j)) (fun j => nI (P j)) (fun j => nI (R j)) (fun j => nI (O0 j)) (fun j => nI (px j)) (fun j => nI (cd j)) (fun j => nI (K j)) := by
    intro d
    induction d with
    | zero =>
      intro i S2 W2 U2 c hi h8 hE hW
      have ei : i = 8 * p + 8 := by omega
      rw [ei] at hE hW ⊢
      refine ⟨S2, W2, U2, c, hE, hW, fun post h => br_t (nI_le (by omega) (by omega)) ⟨vp_in_nI hp (by omega), nm_r (e' := fun j => nI (mc_up O0 p 0 j)) ?_ h⟩⟩
      rw [nI_clamp (by omega)]
      exact mc_upI O0 p 0
    | succ d ih =>
      intro i S2 W2 U2 c hi h8 hE hW
      have epg : i / 8 = p := by omega
      have hu' : mc_wo st sz (i / 8) ≠ 0 := by rw [epg]; exact hu
      have hq' : pn (i / 8) ≠ 1 := by rw [epg]; exact hq
      have hWs := mc_EW_s hW hu' hq'
      by_cases z : W2 i = 0
      · have hno := mc_em_0 (l := l) hS hX hM (by omega) hW hu' z
        obtain ⟨S3, W3, U3, c3, h1, h2, h3⟩ := ih (i + 1) S2 _ U2 c (by omega) (by omega) (mc_ES_same hE (by omega) hno) hWs
        refine ⟨S3, W3, U3, c3, h1, h2, fun post h => br_f (nI_ge (by omega) (by omega)) (mx_own_i (by omega) ?_)⟩
        rw [z]
        exact br_t rfl (mx_ep_74 (by omega) (h3 post h))
      · obtain ⟨s, hs, hz, e1, e2, e3⟩ := mc_em_s hS hD hX hXW hM hl hI hpn (by omega) hW hE hu' hq' z
        have hb := (hS s hs).2.2 hz
        have hb1 := (hS s hs).1
        have hm1 := hM.1 s hs
        have hv : vp_in (nI (sr s)) 4096 := vp_in_nI (by omega) (by omega)
        have ec : (nI (sr s)).toNatClampNeg = sr s := nI_clamp (by omega)
        have hS2 : S2 (sr s) ≤ 1255 := by
          rw [hE.1 s hs hz]
          by_cases y : ¬ mc_in l s ∧ st s < 1000 + i
          · rw [mc_if_t y]; omega
          · rw [mc_if_f y]; exact hm1
        obtain ⟨x1, x2, x3, x4⟩ := hX s hs hz
        by_cases y : S2 (sr s) = 1000 + i
        · obtain ⟨f1, f2⟩ := e2 y
          have hUge : sz s ≤ U2 := by
            rw [hE.2.2.1]
            have g1 := mc_sm_ge (f := mc_ez l st sz i) (k := s) (n := 30) hs
            have g2 : mc_ez l st sz i s = sz s := mc_if_f (fun w => absurd w.2 (by omega))
            omega
          obtain ⟨S3, W3, U3, c3, h1, h2, h3⟩ := ih (i + 1) _ _ (U2 - sz s) (c + 1) (by omega) (by omega) (mc_ES_die hD hE hs hz f1 f2) hWs
          refine ⟨S3, W3, U3, c3, h1, h2, fun post h => br_f (nI_ge (by omega) (by omega)) (mx_own_i (by omega) ?_)⟩
          rw [e1]
          refine br_f (nI_ne0 (by omega) (by omega)) ⟨hv, ?_⟩
          rw [ec]
          refine br_t ?_ ⟨hv, nm_r (e' := fun j => nI (mc_up S2 (sr s) 0 j)) (mc_upI S2 (sr s) 0) (mx_size (m := sz s) (by omega) (by omega) (nm_r (pk_sub hUge) (nm_r (nI_1 c) ?_)))⟩
          · show nI (S2 (sr s)) = nI (1000 + i)
            rw [y]
          · exact mx_ep_74 (S := mc_up S2 (sr s) 0) (U := U2 - sz s) (by omega) (h3 post h)
        · obtain ⟨S3, W3, U3, c3, h1, h2, h3⟩ := ih (i + 1) S2 _ U2 c (by omega) (by omega) (mc_ES_same hE (by omega) (e3 y)) hWs
          refine ⟨S3, W3, U3, c3, h1, h2, fun post h => br_f (nI_ge (by omega) (by omega)) (mx_own_i (by omega) ?_)⟩
          rw [e1]
          refine br_f (nI_ne0 (by omega) (by omega)) ⟨hv, ?_⟩
          rw [ec]
          refine br_f ?_ (mx_ep_74 (by omega) (h3 post h))
          show ¬ nI (S2 (sr s)) = nI (1000 + i)
          rw [nI_eq (by omega) (by omega)]
          exact y
  have e1 : 1000 + nI p * 8 = nI (1000 + 8 * p) := by rw [mn_m8, mn_a1000]
  have e2 : nI (1000 + 8 * p) + 8 = nI (1000 + (8 * p + 8)) := mn_a8 (1000 + 8 * p)
  obtain ⟨S3, W3, U3, c3, h1, h2, h3⟩ := key 8 (8 * p) S0 W0 U0 0 (by omega) (by omega) hES hEW
  refine ⟨S3, W3, U3, c3, h1, h2, fun post h => ?_⟩
  unfold wpX_emptyPage
  show wpX_firstAddress _ _ _
  unfold wpX_firstAddress
  rw [e1]
  exact nm_r e2 ⟨9, h3 post h⟩
def mc_EO (st sz pn O' : Nat → Nat) (p : Nat) (O2 : Nat → Nat) : Prop :=
  ∀ q, q < 32 → (q < p → mc_wo st sz q ≠ 0 → pn q ≠ 1 → O2 q = 0) ∧ ((p ≤ q ∨ mc_wo st sz q = 0 ∨ pn q = 1) → O2 q = O' q)
theorem mx_ec (hS : mc_Slot mk sr st sz pc) (hmk : mk ≤ 4095) (hD : mc_Dis sr st sz) (hX : mc_XS sr st sz pc S P R W) (hXW : mc_XW sr st sz W)
    (hl : mc_LG sz l) (hM : mc_Mv sr st sz W wd0 st' S' W' O' words' op') (hI : mc_MI l m0 l.2 st st') (hpn : ∀ s, s < 30 → 0 < sz s → (pn ((st s - 1000) / 8) = 1 ↔ ∃ i, i < m0 ∧ i < l.2 ∧ l.1 i = s))
    (hcd : ∀ p, p < 32 → cd p < 2 ∧ (cd p = 0 ↔ (mc_wo st sz p = 0 ∨ pn p = 1))) :
    ∃ (S2 W2 O2 : Nat → Nat) (U2 dc : Nat), mc_ES l sr st sz st' S' 256 S2 U2 dc ∧ mc_EW st sz pn W' 256 W2 ∧ mc_EO st sz pn O' 32 O2 ∧ ∀ post : Int32 → St2 → Prop, post (nI dc) ((nI n), (nI lim), kc, (mc_oI op), (nI mk), (nI U2), H, wd, (fun j => nI (W2 j)), (fun j => nI (S2 j)), (fun j => nI (P j)), (fun j => nI (R j)), (fun j => nI (O2 j)), (fun j => nI (px j)), (fun j => nI (cd j)), (fun j => nI (K j))) →
    wpX_emptyCondemnedPages post ((nI n), (nI lim), kc, (mc_oI op), (nI mk), (nI (mc_sm sz 30)), H, wd, (fun j => nI (W' j)), (fun j => nI (S' j)), (fun j => nI (P j)), (fun j => nI (R j)), (fun j => nI (O' j)), (fun j => nI (px j)), (fun j => nI (cd j)), (fun j => nI (K j))) := by
  have key : ∀ (d p : Nat) (S2 W2 O2 : Nat → Nat) (U2 dc : Nat), p + d = 32 → mc_ES l sr st sz st' S' (8 * p) S2 U2 dc → mc_EW st sz pn W' (8 * p) W2 → mc_EO st sz pn O' p O2 →
      ∃ (S3 W3 O3 : Nat → Nat) (U3 dc3 : Nat), mc_ES l sr st sz st' S' 256 S3 U3 dc3 ∧ mc_EW st sz pn W' 256 W3 ∧ mc_EO st sz pn O' 32 O3 ∧ ∀ post : Int32 → St2 → Prop, post (nI dc3) ((nI n), (nI lim), kc, (mc_oI op), (nI mk), (nI U3), H, wd, (fun j => nI (W3 j)), (fun j => nI (S3 j)), (fun j => nI (P j)), (fun j => nI (R j)), (fun j => nI (O3 j)), (fun j => nI (px j)), (fun j => nI (cd j)), (fun j => nI (K j))) →
      wX_emptyCondemnedPages_4 post (d + 1) (nI dc) (nI p) (nI n) (nI lim) kc (mc_oI op) (nI mk) (nI U2) H wd (fun j => nI (W2 j)) (fun j => nI (S2 j)) (fun j => nI (P j)) (fun j => nI (R j)) (fun j => nI (O2 j)) (fun j => nI (px j)) (fun j => nI (cd j)) (fun j => nI (K j)) := by
    intro d
    induction d with
    | zero =>
      intro p S2 W2 O2 U2 dc hp hE hW hO
      have ep : p = 32 := by omega
      rw [ep] at hE hW hO ⊢
      exact ⟨S2, W2, O2, U2, dc, hE, hW, hO, fun post h => br_t (nI_le (a := 32) (by omega) (by omega)) h⟩
    | succ d ih =>
      intro p S2 W2 O2 U2 dc hp hE hW hO
      have hc := hcd p (by omega)
      by_cases c : cd p = 0
      · have c2 := hc.2.mp c
        have nx : ∃ (S3 W3 O3 : Nat → Nat) (U3 dc3 : Nat), mc_ES l sr st sz st' S' 256 S3 U3 dc3 ∧ mc_EW st sz pn W' 256 W3 ∧ mc_EO st sz pn O' 32 O3 ∧ ∀ post : Int32 → St2 → Prop, post (nI dc3) ((nI n), (nI lim), kc, (mc_oI op), (nI mk), (nI U3), H, wd, (fun j => nI (W3 j)), (fun j => nI (S3 j)), (fun j => nI (P j)), (fun j => nI (R j)), (fun j => nI (O3 j)), (fun j => nI (px j)), (fun j => nI (cd j)), (fun j => nI (K j))) →
            wX_emptyCondemnedPages_4 post (d + 1) (nI dc) (nI (p + 1)) (nI n) (nI lim) kc (mc_oI op) (nI mk) (nI U2) H wd (fun j => nI (W2 j)) (fun j => nI (S2 j)) (fun j => nI (P j)) (fun j => nI (R j)) (fun j => nI (O2 j)) (fun j => nI (px j)) (fun j => nI (cd j)) (fun j => nI (K j)) := by
          refine ih (p + 1) S2 W2 O2 U2 dc (by omega) (mc_ES_same hE (by omega) (fun s hs hz hi => ?_)) (mc_EW_p hW c2) (fun q hq => ⟨fun a b e => ?_, fun z => (hO q hq).2 ?_⟩)
          · by_cases z : (st s - 1000) / 8 = p
            · exfalso
              have hw := mc_wo_pos hS hs hz
              rw [z] at hw
              rcases c2 with c3 | c3
              · exact hw c3
              · obtain ⟨i, i1, i2, i3⟩ := (hpn s hs hz).mp (by rw [z]; exact c3)
                exact hi ⟨i, i2, i3⟩
            · have hb := (hS s hs).2.2 hz
              omega
          · by_cases z : q = p
            · rw [z] at b e
              rcases c2 with c3 | c3
              · exact absurd c3 b
              · exact absurd c3 e
            · exact (hO q hq).1 (by omega) b e
          · rcases z with z | z
            · exact Or.inl (by omega)
            · exact Or.inr z
        obtain ⟨S3, W3, O3, U3, dc3, h1, h2, h3, h4⟩ := nx
        refine ⟨S3, W3, O3, U3, dc3, h1, h2, h3, fun post h => br_f (nI_ge (b := 32) (by omega) (by omega)) ⟨vp_in_nI (by omega) (by omega), ?_⟩⟩
        rw [nI_clamp (by omega)]
        refine br_t ?_ (nm_r (nI_1 p) (h4 post h))
        show nI (cd p) = 0
        rw [c, nI_0]
      · have c2 : mc_wo st sz p ≠ 0 ∧ pn p ≠ 1 := ⟨fun z => c (hc.2.mpr (Or.inl z)), fun z => c (hc.2.mpr (Or.inr z))⟩
        obtain ⟨S3, W3, U3, c', hE3, hW3, hk3⟩ := mx_ep (n := n) (lim := lim) (op := op) (kc := kc) (H := H) (wd := wd) (P := P) (R := R) (px := px) (cd := cd) (K := K) (O0 := O2) (p := p) (by omega) hS hmk hD hX hXW hl hM hI hpn c2.1 c2.2 hE hW
        have hO3 : mc_EO st sz pn O' (p + 1) (mc_up O2 p 0) := by
          intro q hq
          by_cases z : q = p
          · rw [z, mc_us]
            refine ⟨fun _ _ _ => rfl, fun y => ?_⟩
            rcases y with y | y | y
            · omega
            · exact absurd y c2.1
            · exact absurd y c2.2
          · rw [mc_un z]
            refine ⟨fun a => (hO q hq).1 (by omega), fun y => (hO q hq).2 ?_⟩
            rcases y with y | y
            · exact Or.inl (by omega)
            · exact Or.inr y
        obtain ⟨S4, W4, O4, U4, dc4, h1, h2, h3, h4⟩ := ih (p + 1) S3 W3 _ U3 (dc + c') (by omega) hE3 hW3 hO3
        refine ⟨S4, W4, O4, U4, dc4, h1, h2, h3, fun post h => br_f (nI_ge (b := 32) (by omega) (by omega)) ⟨vp_in_nI (by omega) (by omega), ?_⟩⟩
        rw [nI_clamp (by omega)]
        exact br_f (nI_ne0 (by omega) (by omega)) (hk3 _ (nm_r (nI_add dc c') (nm_r (nI_1 p) (h4 post h))))
  obtain ⟨S4, W4, O4, U4, dc4, h1, h2, h3, h4⟩ := key 32 0 S' W' O' (mc_sm sz 30) 0 (by omega) (mc_ES_0 hS hM.2.2.2.2.2.1) mc_EW_0 (fun q _ => ⟨fun z => absurd z (by omega), fun _ => rfl⟩)
  exact ⟨S4, W4, O4, U4, dc4, h1, h2, h3, fun post h => ⟨33, h4 post h⟩⟩
end
end
end
section
/-! collect in the component: one answer, one state, and what they say of the picture -/
section
variable {n lim op mk U : Nat} {kc ld oo : Int32} {H wd ce : Nat → Int32} {W S P R O px cd K sr st sz pc L py fb : Nat → Nat} {l : (Nat → Nat) × Nat} {tg : Nat → Nat → Nat}
theorem mc_ri_src (s : Nat) : ∀ k i, l.2 ≤ i → i < (mc_ri tg s l k).2 → ∃ k', k' < k ∧ tg s k' = (mc_ri tg s l k).1 i := by
  intro k
  induction k with
  | zero => intro i h1 h2; exact absurd h2 (Nat.not_lt.mpr h1)
  | succ k ih =>
    intro i h1 h2
    rw [mc_ri_s] at h2 ⊢
    by_cases c : tg s k < 30 ∧ ¬ mc_in (mc_ri tg s l k) (tg s k)
    · rw [mc_ad_new c.1 c.2] at h2 ⊢
      have h2 : i < (mc_ri tg s l k).2 + 1 := h2
      show ∃ k', k' < k + 1 ∧ tg s k' = mc_up (mc_ri tg s l k).1 (mc_ri tg s l k).2 (tg s k) i
      by_cases e : i = (mc_ri tg s l k).2
      · rw [e, mc_us]
        exact ⟨k, by omega, rfl⟩
      · rw [mc_un e]
        obtain ⟨k', h3, h4⟩ := ih i h1 (by omega)
        exact ⟨k', by omega, h4⟩
    · rw [mc_ad_old c] at h2 ⊢
      obtain ⟨k', h3, h4⟩ := ih i h1 h2
      exact ⟨k', by omega, h4⟩
theorem mc_ro_src : ∀ a i, l.2 ≤ i → i < (mc_ro tg pc l a).2 → ∃ j k, j < i ∧ k < pc ((mc_ro tg pc l a).1 j) ∧ tg ((mc_ro tg pc l a).1 j) k = (mc_ro tg pc l a).1 i := by
  intro a
  induction a with
  | zero => intro i h1 h2; exact absurd h2 (Nat.not_lt.mpr h1)
  | succ a ih =>
    intro i h1 h2
    by_cases c : a < (mc_ro tg pc l a).2
    · have hp := mc_ri_pre tg ((mc_ro tg pc l a).1 a) (mc_ro tg pc l a) (pc ((mc_ro tg pc l a).1 a))
      rw [mc_ro_t c] at h2 ⊢
      by_cases e : i < (mc_ro tg pc l a).2
      · obtain ⟨j, k, h3, h4, h5⟩ := ih i h1 e
        refine ⟨j, k, h3, ?_, ?_⟩
        · rw [hp.2 j (by omega)]; exact h4
        · rw [hp.2 j (by omega), hp.2 i e]; exact h5
      · obtain ⟨k', h3, h4⟩ := mc_ri_src (tg := tg) (l := mc_ro tg pc l a) _ _ i (by omega) h2
        refine ⟨a, k', by omega, ?_, ?_⟩
        · rw [hp.2 a c]; exact h3
        · rw [hp.2 a c]; exact h4
    · rw [mc_ro_f c] at h2 ⊢
      exact ih i h1 h2
theorem px_collect (hn8 : n ≤ 8) (hG : mc_G mk lim op sr st sz pc ce wd S P R W O U) :
    ∃ (pn : Nat → Nat) (l : (Nat → Nat) × Nat) (m0 op' U2 : Nat) (st' S2 W2 O2 cd' K' : Nat → Nat) (w2 : Nat → Int32),
      mc_PN n H sr st sz W pn ∧ mc_LG sz l ∧ (∀ s, s < 30 → 0 < sz s → (pn ((st s - 1000) / 8) = 1 ↔ ∃ i, i < m0 ∧ i < l.2 ∧ l.1 i = s)) ∧
      (∀ s k t, mc_in l s → k < pc s → t < 30 → 0 < sz t → ce (3 * s + k) = nI (sr t) → mc_in l t) ∧
      (∀ i, m0 ≤ i → i < l.2 → ∃ j k, j < i ∧ k < pc (l.1 j) ∧ ce (3 * l.1 j + k) = nI (sr (l.1 i))) ∧
      (∀ s, s < 30 → 0 < sz s → mc_in l s → pn ((st s - 1000) / 8) = 1 → st' s = st s) ∧
      mc_G mk lim op' sr st' (mc_kz l sz 30) pc ce w2 S2 P R W2 O2 U2 ∧
      ∀ post : Int32 → St2 → Prop, post (nI (mc_sm (mc_kc l sz) 30)) ((nI n), (nI lim), (nI l.2), (mc_oI op'), (nI mk), (nI U2), H, w2, (fun j => nI (W2 j)), (fun j => nI (S2 j)), (fun j => nI (P j)), (fun j => nI (R j)), (fun j => nI (O2 j)), (fun j => nI (pn j)), (fun j => nI (cd' j)), (fun j => nI (K' j))) → wpX_collect post ((nI n), (nI lim), kc, (mc_oI op), (nI mk), (nI U), H, wd, (fun j => nI (W j)), (fun j => nI (S j)), (fun j => nI (P j)), (fun j => nI (R j)), (fun j => nI (O j)), (fun j => nI (px j)), (fun j => nI (cd j)), (fun j => nI (K j))) := by
  have hG0 := hG
  obtain ⟨hS, hD, hF, hX, hXW, hXZ, hC, hP0, hO, hT, hU1, hU2, hL, hop2, hmk⟩ := hG
  subst hU1
  have hM0 : mc_Mv sr st sz W wd st S W O wd 32 := mc_Mv_0 hS hD hX hXW hXZ hO
  have hU60 : mc_sm sz 30 ≤ 60 := by omega
  have hO1 : ∀ p, p < 32 → O p < 1000 := fun p hp => by
    have := hO p hp
    have := mc_wo_le st sz p
    omega
  obtain ⟨pn, hPN, k1⟩ := mx_pin (n := n) (lim := lim) (op := op) (mk := mk) (U := mc_sm sz 30) (kc := kc) (H := H) (wd := wd) (W := W) (S := S) (P := P) (R := R) (O := O) (px := px) (cd := cd) (K := K) hn8 hS hmk hD hX hXW
  have hpn2 : ∀ p, p < 32 → pn p < 2 := fun p hp => (hPN.1 p hp).1
  obtain ⟨K1, hK1, k3⟩ := mx_kp (n := n) (lim := lim) (op := op) (mk := mk) (U := mc_sm sz 30) (kc := kc) (H := H) (wd := wd) (W := W) (S := S) (P := P) (R := R) (O := O) (px := pn) (cd := mc_cdn O pn cd 32) (K := K) hS hmk hD hX hXW hpn2
  have hlg0 := mc_pl_LG (pn := pn) (fd := fun a => mc_fd st sz a 30) (mc_fdz st sz) 256
  obtain ⟨K2, hK2, k4⟩ := mx_kr (n := n) (lim := lim) (op := op) (mk := mk) (U := mc_sm sz 30) (H := H) (wd := wd) (W := W) (S := S) (P := P) (R := R) (O := O) (px := pn) (cd := mc_cdn O pn cd 32) (K := K1) (ce := ce) hS hmk hD hX hC hlg0 hK1
  have hlg := mc_ro_LG (tg := mc_tg st sz wd) (pc := pc) hlg0 (mc_tgz st sz wd) 30
  have hpre := mc_ro_pre (mc_tg st sz wd) pc (mc_pl pn (fun a => mc_fd st sz a 30) 256) 30
  have hle := mc_LG_le hlg
  have hpn := mc_hpn hS hD rfl hpre
  have hcl := mc_hcl hS hD hmk hC hlg (fun i hi k hk ht => mc_ro_closed 30 i (by omega) hi k hk ht)
  have hcd : ∀ p, p < 32 → mc_cdn O pn cd 32 p < 2 ∧ (mc_cdn O pn cd 32 p = 0 ↔ (mc_wo st sz p = 0 ∨ pn p = 1)) := fun p hp => by
    have h1 := mc_cdn_32 (O := O) (px := pn) (cd := cd) hp
    have h2 := hpn2 p hp
    refine ⟨h1.1, ?_⟩
    rw [h1.2, hO p hp]
    constructor
    · rintro (z | z)
      · exact Or.inl z
      · exact Or.inr (by omega)
    · rintro (z | z)
      · exact Or.inl z
      · exact Or.inr (by omega)
  obtain ⟨st', S', W', O', words', op', hM, hI, k5⟩ := mx_mk (n := n) (lim := lim) (op := op) (mk := mk) (U := mc_sm sz 30) (H := H) (px := pn) hS hmk hD hX hT hU60 hlg hM0 hK2 hpn hcd
  obtain ⟨w2, hR, k6⟩ := mx_rd (n := n) (lim := lim) (op := op') (mk := mk) (U := mc_sm sz 30) (H := H) (O := O') (px := pn) (cd := mc_cdn O pn cd 32) (K := K2) (ce := ce) hS hmk hX hlg hM hC hK2
  obtain ⟨S2, W2, O2, U2, dc, hES, hEW, hEO, k7⟩ := mx_ec (n := n) (lim := lim) (op := op') (kc := nI (mc_ro (mc_tg st sz wd) pc (mc_pl pn (fun a => mc_fd st sz a 30) 256) 30).2) (H := H) (wd := w2) (px := pn) (K := K2) hS hmk hD hX hXW hlg hM hI hpn hcd
  refine ⟨pn, mc_ro (mc_tg st sz wd) pc (mc_pl pn (fun a => mc_fd st sz a 30) 256) 30, (mc_pl pn (fun a => mc_fd st sz a 30) 256).2, op', U2, st', S2, W2, O2, mc_cdn O pn cd 32, K2, w2, hPN, hlg, hpn, hcl, ?_, ?_, ?_, ?_⟩
  · intro i h1 h2
    obtain ⟨j, k, h3, h4, h5⟩ := mc_ro_src (tg := mc_tg st sz wd) (pc := pc) 30 i h1 h2
    have hj := hlg.1 j (by omega)
    have hi := hlg.1 i h2
    have hb := (hS _ hj.1).2.2 hj.2
    refine ⟨j, k, h3, h4, ?_⟩
    have q : mc_LC sr st sz pc _ k _ _ := hC _ hj.1 hj.2 k (by omega)
    rcases q.1 h4 with ⟨q1, q2⟩ | ⟨t, ht, hzt, q1, q2⟩
    · have := mc_tg_0 (words := wd) hS q2
      omega
    · have := mc_tg_t (words := wd) hS hD ht hzt q2
      rw [this] at h5
      rw [← h5]
      exact q1
  · intro s hs hz hi c
    obtain ⟨i, h1, h2, h3⟩ := (hpn s hs hz).mp c
    rw [← h3]
    exact mc_MI_un hlg hI h2 (Or.inl h1)
  · have eU : U2 = mc_sm (mc_kz (mc_ro (mc_tg st sz wd) pc (mc_pl pn (fun a => mc_fd st sz a 30) 256) 30) sz 30) 30 := by
      rw [hES.2.2.1, mc_ez_end hS]
    rw [eU]
    refine mc_fin hG0 hM hlg hI hpn (Nat.le_trans hPN.2 hn8) hcl (fun s hs hi => mc_if_f (fun c => c.2 hi)) (fun s hs hi => mc_if_t ⟨hs, hi⟩) (mc_RD_f hlg hR) (fun s hs hi hz => ?_) (fun s hs hi hz => ?_) hES.2.1
      (fun i hi a b => (hEW i hi).1 hi a b) (fun i hi z => (hEW i hi).2 (Or.inr z)) (fun p hp a b => (hEO p hp).1 hp a b) (fun p hp z => (hEO p hp).2 (Or.inr z))
    · rw [hES.1 s hs hz]
      exact mc_if_f (fun c => c.1 hi)
    · rw [hES.1 s hs hz]
      have := (hS s hs).1
      exact mc_if_t ⟨hi, by omega⟩
  · intro post h
    rw [← mc_ec_end (st := st) hS, ← hES.2.2.2] at h
    unfold wpX_collect
    exact k1 _ (mx_cond hO1 hpn2 (k3 _ (k4 _ (k5 _ (k6 _ (k7 _ h))))))
end
end
section
/-! bits: the first rows began as a paste of kit/laws/BITS -/
theorem ts_bit {w : Int64} {s : UInt64} {j : Nat} (hj : j < 64) (hs : s.toNat = j) : ((w.toUInt64 >>> s).toInt64 &&& 1) = 0 ↔ w.toBitVec.getLsbD j = false := by
  have e : (w.toUInt64 >>> s).toInt64.toBitVec = w.toBitVec >>> j := by
    apply BitVec.eq_of_toNat_eq
    show (w.toUInt64 >>> s).toNat = _
    rw [UInt64.toNat_shiftRight, hs, Nat.mod_eq_of_lt hj, BitVec.toNat_ushiftRight]
    rfl
  rw [← Int64.toBitVec_inj, Int64.toBitVec_and, e]
  show w.toBitVec >>> j &&& 1#64 = 0#64 ↔ _
  constructor
  · intro h
    have t := congrArg (fun x => x.getLsbD 0) h
    simpa using t
  · intro h
    apply BitVec.eq_of_getLsbD_eq
    intro i hi
    cases i with
    | zero => simp [h]
    | succ i => simp
theorem wb_tb (n : Nat) : (lN n).toBitVec = BitVec.ofNat 64 n := rfl
theorem wb_inj {a b : Int64} (h : a.toBitVec = b.toBitVec) : a = b := Int64.toBitVec_inj.mp h
theorem wb_c : ∀ k, k < 64 → ((nI k).toInt64 &&& 63) = lN k := by decide +kernel
theorem wb_cu : ∀ k, k < 64 → ((nI k).toInt64.toUInt64 &&& Int64.toUInt64 63) = UInt64.ofNat k := by decide +kernel
theorem wb_sm : ∀ k, k < 64 → (BitVec.ofNat 64 k).smod 64 = BitVec.ofNat 64 k := by decide +kernel
theorem wb_shl (n : Nat) {k : Nat} (hk : k < 64) : lN n <<< ((nI k).toInt64 &&& 63) = lN (n * 2 ^ k) := by
  rw [wb_c k hk]
  apply wb_inj
  rw [Int64.toBitVec_shiftLeft, wb_tb, wb_tb, wb_tb, wb_sm k hk]
  apply BitVec.eq_of_toNat_eq
  rw [BitVec.shiftLeft_eq', BitVec.toNat_shiftLeft, BitVec.toNat_ofNat, BitVec.toNat_ofNat, BitVec.toNat_ofNat, Nat.mod_eq_of_lt (show k < 2 ^ 64 by omega), Nat.shiftLeft_eq, Nat.mul_mod, Nat.mod_mod, ← Nat.mul_mod]
theorem u_tn {n : Nat} (h : n < 2 ^ 64) : (UInt64.ofNat n).toNat = n := Nat.mod_eq_of_lt h
def pv_b (z : Int64) (q : Nat) : Prop := z.toBitVec.getLsbD q = true
theorem pv_b0 (q : Nat) : ¬ pv_b 0 q := by
  unfold pv_b
  simp
theorem pv_bt {z : Int64} {q : Nat} (hq : q < 64) : ((z.toUInt64 >>> ((nI q).toInt64.toUInt64 &&& Int64.toUInt64 63)).toInt64 &&& 1) = 0 ↔ ¬ pv_b z q := by
  rw [wb_cu q hq, ts_bit hq (u_tn (by omega))]
  unfold pv_b
  cases z.toBitVec.getLsbD q <;> simp
theorem pv_bs {z : Int64} {q j : Nat} (hq : q < 64) (hj : j < 64) : pv_b (z ||| ((1 : Int64) <<< ((nI q).toInt64 &&& 63))) j ↔ pv_b z j ∨ j = q := by
  have e : (1 : Int64) <<< ((nI q).toInt64 &&& 63) = lN (1 * 2 ^ q) := wb_shl 1 hq
  rw [e]
  unfold pv_b
  rw [Int64.toBitVec_or, BitVec.getLsbD_or, wb_tb, BitVec.getLsbD_ofNat, Nat.one_mul, Nat.testBit_two_pow, Bool.or_eq_true, Bool.and_eq_true, decide_eq_true_eq, decide_eq_true_eq]
  constructor
  · rintro (h | ⟨_, h⟩)
    · exact Or.inl h
    · exact Or.inr h.symm
  · rintro (h | h)
    · exact Or.inl h
    · exact Or.inr ⟨hj, h.symm⟩
def pv_m (lo hi : Int64) (q : Nat) : Prop := (q < 64 ∧ pv_b lo q) ∨ (64 ≤ q ∧ pv_b hi (q - 64))
theorem pv_m0 (q : Nat) : ¬ pv_m 0 0 q := by
  rintro (⟨_, h⟩ | ⟨_, h⟩)
  · exact pv_b0 _ h
  · exact pv_b0 _ h
theorem pv_63 {q : Nat} (hq : q < 128) : nI q &&& 63 = nI (q % 64) := pk_andN (by omega) 6 (by decide)
theorem pv_mlo {lo hi : Int64} {q j : Nat} (hq : q < 64) (hj : j < 128) : pv_m (lo ||| ((1 : Int64) <<< ((nI q &&& 63).toInt64 &&& 63))) hi j ↔ pv_m lo hi j ∨ j = q := by
  rw [pv_63 (by omega), Nat.mod_eq_of_lt hq]
  unfold pv_m
  by_cases c : j < 64
  · rw [pv_bs hq c]
    constructor
    · rintro (⟨h1, h2 | h2⟩ | ⟨h1, h2⟩)
      · exact Or.inl (Or.inl ⟨h1, h2⟩)
      · exact Or.inr h2
      · omega
    · rintro ((⟨h1, h2⟩ | ⟨h1, h2⟩) | h2)
      · exact Or.inl ⟨h1, Or.inl h2⟩
      · omega
      · exact Or.inl ⟨c, Or.inr h2⟩
  · constructor
    · rintro (⟨h1, h2⟩ | ⟨h1, h2⟩)
      · omega
      · exact Or.inl (Or.inr ⟨h1, h2⟩)
    · rintro ((⟨h1, h2⟩ | ⟨h1, h2⟩) | h2)
      · omega
      · exact Or.inr ⟨h1, h2⟩
      · omega
theorem pv_mhi {lo hi : Int64} {q j : Nat} (hq : 64 ≤ q) (hq2 : q < 128) (hj : j < 128) : pv_m lo (hi ||| ((1 : Int64) <<< ((nI q &&& 63).toInt64 &&& 63))) j ↔ pv_m lo hi j ∨ j = q := by
  have e : q % 64 = q - 64 := by omega
  rw [pv_63 hq2, e]
  unfold pv_m
  by_cases c : j < 64
  · constructor
    · rintro (⟨h1, h2⟩ | ⟨h1, h2⟩)
      · exact Or.inl (Or.inl ⟨h1, h2⟩)
      · omega
    · rintro ((⟨h1, h2⟩ | ⟨h1, h2⟩) | h2)
      · exact Or.inl ⟨h1, h2⟩
      · omega
      · omega
  · rw [pv_bs (by omega) (by omega)]
    constructor
    · rintro (⟨h1, h2⟩ | ⟨h1, h2 | h2⟩)
      · omega
      · exact Or.inl (Or.inr ⟨h1, h2⟩)
      · exact Or.inr (by omega)
    · rintro ((⟨h1, h2⟩ | ⟨h1, h2⟩) | h2)
      · omega
      · exact Or.inr ⟨h1, Or.inl h2⟩
      · exact Or.inr ⟨by omega, Or.inr (by omega)⟩
theorem pv_half {post : Int32 → Prop} {a : Nat} (h1 : 1000 ≤ a) (h2 : a ≤ 1255) (h : post (nI ((a - 1000) / 2))) : wpL_half post () (nI a) := by
  refine ⟨by decide, ?_⟩
  have e : (nI a - 1000) / 2 = nI ((a - 1000) / 2) := by
    rw [mn_s1000 h1]
    exact pk_div (d := 2) (by omega) (by omega) (by omega)
  rw [e]
  exact h
theorem pv_page {post : Int32 → Prop} {a : Nat} (h1 : 1000 ≤ a) (h2 : a < 2 ^ 31) (h : post (nI ((a - 1000) / 8))) : wpL_page post () (nI a) := by
  refine ⟨by decide, ?_⟩
  rw [mn_s1000 h1, mn_d8 (by omega)]
  exact h
theorem pv_in {post : Int32 → Prop} {lo hi : Int64} {a : Nat} (h1 : 1000 ≤ a) (h2 : a ≤ 1255) (ht : pv_m lo hi ((a - 1000) / 2) → post 1) (hf : ¬ pv_m lo hi ((a - 1000) / 2) → post 0) : wpL_in post () lo hi (nI a) := by
  unfold wpL_in
  refine pv_half h1 h2 ?_
  have e63 := pv_63 (q := (a - 1000) / 2) (by omega)
  by_cases c : 64 ≤ (a - 1000) / 2
  · refine br_t (nI_le (a := 64) c (by omega)) ?_
    unfold wL_in_19
    rw [e63, pv_bt (by omega)]
    have e : (a - 1000) / 2 % 64 = (a - 1000) / 2 - 64 := by omega
    rw [e]
    refine br_c (fun z => hf ?_) (fun z => ht (Or.inr ⟨c, Classical.byContradiction z⟩))
    rintro (⟨y1, y2⟩ | ⟨y1, y2⟩)
    · omega
    · exact z y2
  · refine br_f (nI_ge (b := 64) (by omega) (by omega)) ?_
    unfold wL_in_19
    rw [e63, pv_bt (by omega), Nat.mod_eq_of_lt (by omega)]
    refine br_c (fun z => hf ?_) (fun z => ht (Or.inl ⟨by omega, Classical.byContradiction z⟩))
    rintro (⟨y1, y2⟩ | ⟨y1, y2⟩)
    · exact z y2
    · omega
end
section
/-! what the looking methods answer, over a picture -/
section
variable {n lim op mk U : Nat} {kc ld oo : Int32} {H wd ce : Nat → Int32} {W S P R O px cd K sr st sz pc L py fb : Nat → Nat}
theorem po_S0 (hS : mc_Slot mk sr st sz pc) (hXZ : mc_XZ sr sz S) : S 0 = 0 := by
  rcases hXZ 0 with z | ⟨s, hs, hz, z⟩
  · exact z
  · have := (hS s hs).2.2 hz
    omega
theorem po_root {post : Int32 → Prop} {j : Nat} (hn8 : n ≤ 8) (hj : j < n) (h : post (H j)) : wpX_root post ((nI n), (nI lim), kc, (mc_oI op), (nI mk), (nI U), H, wd, (fun j => nI (W j)), (fun j => nI (S j)), (fun j => nI (P j)), (fun j => nI (R j)), (fun j => nI (O j)), (fun j => nI (px j)), (fun j => nI (cd j)), (fun j => nI (K j))) (nI j) := by
  unfold wpX_root
  refine mx_bad_f hn8 hj (br_t rfl ⟨vp_in_nI (by omega) (by omega), ?_⟩)
  rw [nI_clamp (by omega)]
  exact h
theorem po_base_at {post : Int32 → Prop} {w : Int32} {s : Nat} (hS : mc_Slot mk sr st sz pc) (hmk : mk ≤ 4095) (hX : mc_XS sr st sz pc S P R W) (hA : mc_At sr st sz W w s) (h : post (nI (st s))) : wpX_baseOf post ((nI n), (nI lim), kc, (mc_oI op), (nI mk), (nI U), H, wd, (fun j => nI (W j)), (fun j => nI (S j)), (fun j => nI (P j)), (fun j => nI (R j)), (fun j => nI (O j)), (fun j => nI (px j)), (fun j => nI (cd j)), (fun j => nI (K j))) w := by
  have hb := (hS s hA.1).2.2 hA.2.1
  unfold wpX_baseOf
  refine mx_own_at hA ⟨vp_in_nI (by omega) (by omega), ?_⟩
  show post (nI (S (nI (sr s)).toNatClampNeg))
  rw [nI_clamp (by omega), (hX s hA.1 hA.2.1).1]
  exact h
theorem po_base_no {post : Int32 → Prop} {w : Int32} (hS0 : S 0 = 0) (hN : mc_No st sz W w) (h : post 0) : wpX_baseOf post ((nI n), (nI lim), kc, (mc_oI op), (nI mk), (nI U), H, wd, (fun j => nI (W j)), (fun j => nI (S j)), (fun j => nI (P j)), (fun j => nI (R j)), (fun j => nI (O j)), (fun j => nI (px j)), (fun j => nI (cd j)), (fun j => nI (K j))) w := by
  unfold wpX_baseOf
  refine mx_own_no hN ⟨vp_in_nI (n := 0) (by omega) (by omega), ?_⟩
  show post (nI (S (nI 0).toNatClampNeg))
  rw [nI_clamp (by omega), hS0, nI_0]
  exact h
theorem po_ser_at {post : Int32 → Prop} {w : Int32} {s : Nat} (hA : mc_At sr st sz W w s) (h : post (nI (sr s))) : wpX_serialAt post ((nI n), (nI lim), kc, (mc_oI op), (nI mk), (nI U), H, wd, (fun j => nI (W j)), (fun j => nI (S j)), (fun j => nI (P j)), (fun j => nI (R j)), (fun j => nI (O j)), (fun j => nI (px j)), (fun j => nI (cd j)), (fun j => nI (K j))) w := by
  unfold wpX_serialAt
  exact mx_own_at hA h
theorem po_adr {post : Int32 → Prop} {v : Nat} (h1 : 1 ≤ v) (h2 : v ≤ 4095) (h : post (nI (S v))) : wpX_addressOf post ((nI n), (nI lim), kc, (mc_oI op), (nI mk), (nI U), H, wd, (fun j => nI (W j)), (fun j => nI (S j)), (fun j => nI (P j)), (fun j => nI (R j)), (fun j => nI (O j)), (fun j => nI (px j)), (fun j => nI (cd j)), (fun j => nI (K j))) (nI v) := by
  unfold wpX_addressOf
  refine br_f (nI_nlt (b := 1) h1 (by omega)) (br_t (nI_le (b := 4095) h2 (by omega)) ⟨vp_in_nI (by omega) (by omega), ?_⟩)
  rw [nI_clamp (by omega)]
  exact h
theorem po_shape {post : Int32 → Prop} {w : Int32} {s : Nat} (hS : mc_Slot mk sr st sz pc) (hmk : mk ≤ 4095) (hX : mc_XS sr st sz pc S P R W) (hA : mc_At sr st sz W w s) (h : post (nI (4 * pc s + (sz s - 1 - pc s)))) : wpX_shapeAt post ((nI n), (nI lim), kc, (mc_oI op), (nI mk), (nI U), H, wd, (fun j => nI (W j)), (fun j => nI (S j)), (fun j => nI (P j)), (fun j => nI (R j)), (fun j => nI (O j)), (fun j => nI (px j)), (fun j => nI (cd j)), (fun j => nI (K j))) w := by
  have hb := (hS s hA.1).2.2 hA.2.1
  have hv : vp_in (nI (sr s)) 4096 := vp_in_nI (by omega) (by omega)
  obtain ⟨x1, x2, x3, x4⟩ := hX s hA.1 hA.2.1
  unfold wpX_shapeAt
  refine mx_own_at hA ⟨hv, hv, ?_⟩
  show post (4 * nI (P (nI (sr s)).toNatClampNeg) + nI (R (nI (sr s)).toNatClampNeg))
  have e : 4 * pc s + R (sr s) = 4 * pc s + (sz s - 1 - pc s) := by omega
  rw [nI_clamp (by omega), x2, mn_4m, nI_add, e]
  exact h
theorem po_field {post : Int32 → Prop} {w : Int32} {s k : Nat} (hS : mc_Slot mk sr st sz pc) (hmk : mk ≤ 4095) (hX : mc_XS sr st sz pc S P R W) (hA : mc_At sr st sz W w s) (hk : k + 1 < sz s) (h : post (wd (st s - 1000 + 1 + k))) : wpX_field post ((nI n), (nI lim), kc, (mc_oI op), (nI mk), (nI U), H, wd, (fun j => nI (W j)), (fun j => nI (S j)), (fun j => nI (P j)), (fun j => nI (R j)), (fun j => nI (O j)), (fun j => nI (px j)), (fun j => nI (cd j)), (fun j => nI (K j))) w (nI k) := by
  have hb := (hS s hA.1).2.2 hA.2.1
  have hb1 := (hS s hA.1).1
  have hb4 := (hS s hA.1).2.1
  obtain ⟨x1, x2, x3, x4⟩ := hX s hA.1 hA.2.1
  unfold wpX_field
  refine mx_own_at hA (mx_lack_f (m := sz s - 1) (by omega) (by omega) (by omega) (by omega) (br_t rfl (mx_fi (by omega) x1 (by omega) ⟨vp_in_nI (by omega) (by omega), ?_⟩)))
  rw [nI_clamp (by omega)]
  exact h
/-- a serial's start: 0, or that of the live slot that has it -/
theorem po_Sv (hX : mc_XS sr st sz pc S P R W) (hXZ : mc_XZ sr sz S) (v : Nat) : (S v = 0 ∧ ∀ s, s < 30 → 0 < sz s → sr s = v → st s = 0) ∨ ∃ s, s < 30 ∧ 0 < sz s ∧ v = sr s ∧ S v = st s := by
  rcases hXZ v with z | ⟨s, hs, hz, e⟩
  · refine Or.inl ⟨z, fun s hs hz e => ?_⟩
    have := (hX s hs hz).1
    rw [e] at this
    omega
  · exact Or.inr ⟨s, hs, hz, e, by rw [e]; exact (hX s hs hz).1⟩
/-- halves tell live slots apart -/
theorem po_half (hS : mc_Slot mk sr st sz pc) (hD : mc_Dis sr st sz) {s t : Nat} (hs : s < 30) (ht : t < 30) (hzs : 0 < sz s) (hzt : 0 < sz t) (e : (st s - 1000) / 2 = (st t - 1000) / 2) : s = t := by
  have h1 := (hS s hs).2.2 hzs
  have h2 := (hS t ht).2.2 hzt
  by_cases c : s = t
  · exact c
  · have := (hD s t hs ht c hzs hzt).2
    omega
end
end
section
/-! the law at a collection: the roots, the pinned objects -/
def pv_C (n mk lim op op2 U U2 : Nat) (H ce wd w2 : Nat → Int32) (W S P R O sr st sz pc pn st2 S2 W2 O2 : Nat → Nat) (l : (Nat → Nat) × Nat) (m0 : Nat) : Prop :=
  mc_G mk lim op sr st sz pc ce wd S P R W O U ∧ mc_G mk lim op2 sr st2 (mc_kz l sz 30) pc ce w2 S2 P R W2 O2 U2 ∧ mc_PN n H sr st sz W pn ∧ mc_LG sz l ∧
  (∀ s, s < 30 → 0 < sz s → (pn ((st s - 1000) / 8) = 1 ↔ ∃ i, i < m0 ∧ i < l.2 ∧ l.1 i = s)) ∧
  (∀ s k t, mc_in l s → k < pc s → t < 30 → 0 < sz t → ce (3 * s + k) = nI (sr t) → mc_in l t) ∧
  (∀ i, m0 ≤ i → i < l.2 → ∃ j k, j < i ∧ k < pc (l.1 j) ∧ ce (3 * l.1 j + k) = nI (sr (l.1 i))) ∧
  (∀ s, s < 30 → 0 < sz s → mc_in l s → pn ((st s - 1000) / 8) = 1 → st2 s = st s)
section
variable {n lim op mk U op2 U2 m0 : Nat} {kc kc2 : Int32} {H wd ce w2 : Nat → Int32} {W S P R O px cd K sr st sz pc pn st2 S2 W2 O2 px2 cd2 K2 : Nat → Nat} {l : (Nat → Nat) × Nat}
variable {post : Int32 → Prop} {Ln : Nat} {xs : Nat → Int32} {J : Int32 → Int32 → Int32 → Int32 → Int32 → Int32 → Int32 → Int32 → Int32 → Int32 → (Nat → Int32) → (Nat → Int32) → (Nat → Int32) → (Nat → Int32) → (Nat → Int32) → (Nat → Int32) → (Nat → Int32) → (Nat → Int32) → (Nat → Int32) → (Nat → Int32) → Int32 → Int32 → Int32 → Int32 → Int32 → Int32 → (Nat → Int32) → (Nat → Int32) → (Nat → Int32) → (Nat → Int32) → (Nat → Int32) → (Nat → Int32) → (Nat → Int32) → (Nat → Int32) → (Nat → Int32) → (Nat → Int32) → Prop} {x5 x6 x7 x8 x14 : Int32} {kcn ksn : Nat} {pins : Int64}
theorem pl_718 (hn8 : n ≤ 8) (hC0 : pv_C n mk lim op op2 U U2 H ce wd w2 W S P R O sr st sz pc pn st2 S2 W2 O2 l m0)
    (h : ∀ pins, (∀ p, p < 32 → (pv_b pins p ↔ pn p = 1)) → ∃ f, wL_law_813 post Ln xs J (nI n) x5 x6 x7 x8 x14 pins kcn ksn (nI n) (nI lim) kc2 (mc_oI op2) (nI mk) (nI U2) H w2 (fun j => nI (W2 j)) (fun j => nI (S2 j)) (fun j => nI (P j)) (fun j => nI (R j)) (fun j => nI (O2 j)) (fun j => nI (px2 j)) (fun j => nI (cd2 j)) (fun j => nI (K2 j)) (nI n) (nI lim) kc (mc_oI op) (nI mk) (nI U) H wd (fun j => nI (W j)) (fun j => nI (S j)) (fun j => nI (P j)) (fun j => nI (R j)) (fun j => nI (O j)) (fun j => nI (px j)) (fun j => nI (cd j)) (fun j => nI (K j)) f 0 0 1) :
    ∀ (d g : Nat) (pins : Int64), g + d = n → (∀ p, p < 32 → (pv_b pins p ↔ ∃ r s, r < g ∧ mc_At sr st sz W (H r) s ∧ (st s - 1000) / 8 = p)) →
      wL_law_718 post Ln xs J (nI n) x5 x6 x7 x8 x14 0 0 kcn ksn (nI n) (nI lim) kc2 (mc_oI op2) (nI mk) (nI U2) H w2 (fun j => nI (W2 j)) (fun j => nI (S2 j)) (fun j => nI (P j)) (fun j => nI (R j)) (fun j => nI (O2 j)) (fun j => nI (px2 j)) (fun j => nI (cd2 j)) (fun j => nI (K2 j)) (nI n) (nI lim) kc (mc_oI op) (nI mk) (nI U) H wd (fun j => nI (W j)) (fun j => nI (S j)) (fun j => nI (P j)) (fun j => nI (R j)) (fun j => nI (O j)) (fun j => nI (px j)) (fun j => nI (cd j)) (fun j => nI (K j)) (d + 1) pins (nI g) := by
  have hCC := hC0
  obtain ⟨hG, hG2, hPN, hlg, hpn, hcl, hsrc, hpin⟩ := hC0
  obtain ⟨hS, hD, hF, hX, hXW, hXZ, hC, hP0, hO, hT, hU1, hU2, hL, hop2, hmk⟩ := hG
  obtain ⟨hSx, hDx, hFx, hXx, hXWx, hXZx, hCx, _, hOx, hTx, hU1x, hU2x, _, hop2x, _⟩ := hG2
  have hz1 : ∀ s, mc_in l s → mc_kz l sz 30 s = sz s := fun s hi => mc_if_f (fun c => c.2 hi)
  have hz0 : ∀ s, s < 30 → ¬ mc_in l s → mc_kz l sz 30 s = 0 := fun s hs hi => mc_if_t ⟨hs, hi⟩
  have hS0 := po_S0 hS hXZ
  intro d
  induction d with
  | zero =>
    intro g pins hg hp
    have eg : g = n := by omega
    rw [eg] at hp ⊢
    exact br_t (nI_le (by omega) (by omega)) (h pins (fun p hp2 => (hp p hp2).trans (hPN.1 p hp2).2.symm))
  | succ d ih =>
    intro g pins hg hp
    refine br_f (nI_ge (by omega) (by omega)) (po_root hn8 (by omega) (po_root hn8 (by omega) (br_t rfl ?_)))
    rcases mc_own hS hX hXW (H g) with ⟨s, hA⟩ | hN
    · have hs := hA.1
      have hz := hA.2.1
      have hb := (hS s hs).2.2 hz
      have hb1 := (hS s hs).1
      have epg : pn ((st s - 1000) / 8) = 1 := (hPN.1 _ (by omega)).2.mpr ⟨g, s, by omega, hA, rfl⟩
      have hin : mc_in l s := by
        obtain ⟨i, i1, i2, i3⟩ := (hpn s hs hz).mp epg
        exact ⟨i, i2, i3⟩
      have est := hpin s hs hz hin epg
      have hAx : mc_At sr st2 (mc_kz l sz 30) W2 (H g) s := by
        obtain ⟨_, _, i, hi, e, a1, a2, _⟩ := hA
        rw [e]
        refine mc_At_i hXx hSx hs ?_ ?_
        · rw [est]; exact a1
        · rw [est, hz1 s hin]; exact a2
      refine po_base_at hS hmk hX hA (br_f (nI_ne0 (by omega) (by omega)) (po_base_at hSx hmk hXx hAx (br_t (by rw [est]) (po_ser_at hAx (po_ser_at hA (br_t rfl (pv_page (by omega) (by omega) (nm_e (nm_r (nI_1 g) (ih (g + 1) _ (by omega) (fun p hp2 => ?_)))))))))))
      rw [pv_bs (by omega) (by omega), hp p hp2]
      constructor
      · rintro (⟨r, t, h1, h2, h3⟩ | h1)
        · exact ⟨r, t, by omega, h2, h3⟩
        · exact ⟨g, s, by omega, hA, h1.symm⟩
      · rintro ⟨r, t, h1, h2, h3⟩
        by_cases e : r = g
        · rw [e] at h2
          have := mc_At_u hD h2 hA
          rw [this] at h3
          exact Or.inr h3.symm
        · exact Or.inl ⟨r, t, by omega, h2, h3⟩
    · refine po_base_no hS0 hN (br_t rfl (nm_r (nI_1 g) (ih (g + 1) _ (by omega) (fun p hp2 => ?_))))
      rw [hp p hp2]
      constructor
      · rintro ⟨r, t, h1, h2, h3⟩
        exact ⟨r, t, by omega, h2, h3⟩
      · rintro ⟨r, t, h1, h2, h3⟩
        by_cases e : r = g
        · rw [e] at h2
          exact absurd hN (mc_At_No hS h2)
        · exact ⟨r, t, by omega, h2, h3⟩
theorem pl_813 (hC0 : pv_C n mk lim op op2 U U2 H ce wd w2 W S P R O sr st sz pc pn st2 S2 W2 O2 l m0) (hpins : ∀ p, p < 32 → (pv_b pins p ↔ pn p = 1))
    (h : ∀ lo hi, (∀ q, q < 128 → (pv_m lo hi q ↔ ∃ t, t < 30 ∧ 0 < sz t ∧ pn ((st t - 1000) / 8) = 1 ∧ (st t - 1000) / 2 = q)) → ∃ f, wL_law_907 post Ln xs J (nI n) (nI mk) x6 x7 x8 x14 pins kcn ksn (nI n) (nI lim) kc2 (mc_oI op2) (nI mk) (nI U2) H w2 (fun j => nI (W2 j)) (fun j => nI (S2 j)) (fun j => nI (P j)) (fun j => nI (R j)) (fun j => nI (O2 j)) (fun j => nI (px2 j)) (fun j => nI (cd2 j)) (fun j => nI (K2 j)) (nI n) (nI lim) kc (mc_oI op) (nI mk) (nI U) H wd (fun j => nI (W j)) (fun j => nI (S j)) (fun j => nI (P j)) (fun j => nI (R j)) (fun j => nI (O j)) (fun j => nI (px j)) (fun j => nI (cd j)) (fun j => nI (K j)) f lo hi 1 0) :
    ∀ (d v : Nat) (lo hi : Int64), v + d = mk + 1 → 1 ≤ v → (∀ q, q < 128 → (pv_m lo hi q ↔ ∃ t, t < 30 ∧ 0 < sz t ∧ sr t < v ∧ pn ((st t - 1000) / 8) = 1 ∧ (st t - 1000) / 2 = q)) →
      wL_law_813 post Ln xs J (nI n) (nI mk) x6 x7 x8 x14 pins kcn ksn (nI n) (nI lim) kc2 (mc_oI op2) (nI mk) (nI U2) H w2 (fun j => nI (W2 j)) (fun j => nI (S2 j)) (fun j => nI (P j)) (fun j => nI (R j)) (fun j => nI (O2 j)) (fun j => nI (px2 j)) (fun j => nI (cd2 j)) (fun j => nI (K2 j)) (nI n) (nI lim) kc (mc_oI op) (nI mk) (nI U) H wd (fun j => nI (W j)) (fun j => nI (S j)) (fun j => nI (P j)) (fun j => nI (R j)) (fun j => nI (O j)) (fun j => nI (px j)) (fun j => nI (cd j)) (fun j => nI (K j)) (d + 1) lo hi (nI v) := by
  have hCC := hC0
  obtain ⟨hG, hG2, hPN, hlg, hpn, hcl, hsrc, hpin⟩ := hC0
  obtain ⟨hS, hD, hF, hX, hXW, hXZ, hC, hP0, hO, hT, hU1, hU2, hL, hop2, hmk⟩ := hG
  obtain ⟨hSx, hDx, hFx, hXx, hXWx, hXZx, hCx, _, hOx, hTx, hU1x, hU2x, _, hop2x, _⟩ := hG2
  have hz1 : ∀ s, mc_in l s → mc_kz l sz 30 s = sz s := fun s hi => mc_if_f (fun c => c.2 hi)
  have hz0 : ∀ s, s < 30 → ¬ mc_in l s → mc_kz l sz 30 s = 0 := fun s hs hi => mc_if_t ⟨hs, hi⟩
  intro d
  induction d with
  | zero =>
    intro v lo hi hv h1 hm
    refine br_t (nI_lt (by omega) (by omega)) (h lo hi (fun q hq => ?_))
    rw [hm q hq]
    constructor
    · rintro ⟨t, a1, a2, a3, a4, a5⟩
      exact ⟨t, a1, a2, a4, a5⟩
    · rintro ⟨t, a1, a2, a4, a5⟩
      have := (hS t a1).2.2 a2
      exact ⟨t, a1, a2, by omega, a4, a5⟩
  | succ d ih =>
    intro v lo hi hv h1 hm
    refine br_f (nI_nlt (by omega) (by omega)) (po_adr h1 (by omega) ?_)
    rcases po_Sv hX hXZ v with ⟨z, hno⟩ | ⟨s, hs, hz, e, z⟩
    · rw [z]
      refine br_t rfl (nm_r (nI_1 v) (ih (v + 1) lo hi (by omega) (by omega) (fun q hq => ?_)))
      rw [hm q hq]
      constructor
      · rintro ⟨t, a1, a2, a3, a4, a5⟩
        exact ⟨t, a1, a2, by omega, a4, a5⟩
      · rintro ⟨t, a1, a2, a3, a4, a5⟩
        have hb := (hS t a1).2.2 a2
        have hn : sr t ≠ v := fun e => by
          have := hno t a1 a2 e
          omega
        exact ⟨t, a1, a2, by omega, a4, a5⟩
    · have hb := (hS s hs).2.2 hz
      have hb1 := (hS s hs).1
      rw [z]
      refine br_f (nI_ne0 (by omega) (by omega)) (pv_page (by omega) (by omega) ?_)
      have huniq : ∀ t, t < 30 → 0 < sz t → sr t = v → t = s := by
        intro t a1 a2 a3
        by_cases et : t = s
        · exact et
        · exact absurd (a3.trans e) (hD t s a1 hs et a2 hz).1
      by_cases c : pn ((st s - 1000) / 8) = 1
      · have hset : ∀ lo' hi', (∀ q, q < 128 → (pv_m lo' hi' q ↔ pv_m lo hi q ∨ q = (st s - 1000) / 2)) → wL_law_813 post Ln xs J (nI n) (nI mk) x6 x7 x8 x14 pins kcn ksn (nI n) (nI lim) kc2 (mc_oI op2) (nI mk) (nI U2) H w2 (fun j => nI (W2 j)) (fun j => nI (S2 j)) (fun j => nI (P j)) (fun j => nI (R j)) (fun j => nI (O2 j)) (fun j => nI (px2 j)) (fun j => nI (cd2 j)) (fun j => nI (K2 j)) (nI n) (nI lim) kc (mc_oI op) (nI mk) (nI U) H wd (fun j => nI (W j)) (fun j => nI (S j)) (fun j => nI (P j)) (fun j => nI (R j)) (fun j => nI (O j)) (fun j => nI (px j)) (fun j => nI (cd j)) (fun j => nI (K j)) (d + 1) lo' hi' (nI (v + 1)) := by
          intro lo' hi' hs'
          refine ih (v + 1) lo' hi' (by omega) (by omega) (fun q hq => ?_)
          rw [hs' q hq, hm q hq]
          constructor
          · rintro (⟨t, a1, a2, a3, a4, a5⟩ | a1)
            · exact ⟨t, a1, a2, by omega, a4, a5⟩
            · exact ⟨s, hs, hz, by omega, c, a1.symm⟩
          · rintro ⟨t, a1, a2, a3, a4, a5⟩
            by_cases et : sr t = v
            · have := huniq t a1 a2 et
              rw [this] at a5
              exact Or.inr a5.symm
            · exact Or.inl ⟨t, a1, a2, by omega, a4, a5⟩
        refine br_f (fun y => (pv_bt (by omega)).mp y ((hpins _ (by omega)).mpr c)) (pv_half (by omega) (by omega) ?_)
        by_cases c2 : 64 ≤ (st s - 1000) / 2
        · exact br_t (nI_le (a := 64) c2 (by omega)) (pv_half (by omega) (by omega) (nm_e (nm_r (nI_1 v) (hset _ _ (fun q hq => pv_mhi c2 (by omega) hq)))))
        · exact br_f (nI_ge (b := 64) (by omega) (by omega)) (pv_half (by omega) (by omega) (nm_e (nm_r (nI_1 v) (hset _ _ (fun q hq => pv_mlo (by omega) hq)))))
      · refine br_t ((pv_bt (by omega)).mpr (fun y => c ((hpins _ (by omega)).mp y))) (nm_r (nI_1 v) (ih (v + 1) lo hi (by omega) (by omega) (fun q hq => ?_)))
        rw [hm q hq]
        constructor
        · rintro ⟨t, a1, a2, a3, a4, a5⟩
          exact ⟨t, a1, a2, by omega, a4, a5⟩
        · rintro ⟨t, a1, a2, a3, a4, a5⟩
          have hn : sr t ≠ v := fun et => by
            have := huniq t a1 a2 et
            rw [this] at a4
            exact c a4
          exact ⟨t, a1, a2, by omega, a4, a5⟩
end
end
section
/-! the law at a collection: its own reach -/
noncomputable def pv_cnt (st sz : Nat → Nat) (lo hi : Int64) : Nat := mc_sm (fun t => mc_if (0 < sz t ∧ pv_m lo hi ((st t - 1000) / 2)) 1 0) 30
theorem pv_cnt_le (st sz : Nat → Nat) (lo hi : Int64) : pv_cnt st sz lo hi ≤ 30 := by
  have := mc_sm_bd (f := fun t => mc_if (0 < sz t ∧ pv_m lo hi ((st t - 1000) / 2)) 1 0) 1 30 (fun t _ => by
    by_cases c : 0 < sz t ∧ pv_m lo hi ((st t - 1000) / 2)
    · show mc_if _ 1 0 ≤ 1
      rw [mc_if_t c]; exact Nat.le_refl _
    · show mc_if _ 1 0 ≤ 1
      rw [mc_if_f c]; exact Nat.zero_le _)
  exact this
def pv_IM (st sz pn : Nat → Nat) (l : (Nat → Nat) × Nat) (lo hi : Int64) : Prop :=
  (∀ q, q < 128 → pv_m lo hi q → ∃ t, t < 30 ∧ 0 < sz t ∧ mc_in l t ∧ (st t - 1000) / 2 = q) ∧ (∀ t, t < 30 → 0 < sz t → pn ((st t - 1000) / 8) = 1 → pv_m lo hi ((st t - 1000) / 2))
def pv_RN (st sz pn : Nat → Nat) (l : (Nat → Nat) × Nat) (lo0 hi0 lo hi : Int64) (g : Nat) : Prop :=
  pv_IM st sz pn l lo hi ∧ ((g = 0 ∧ lo = lo0 ∧ hi = hi0) ∨ (g = 1 ∧ pv_cnt st sz lo0 hi0 + 1 ≤ pv_cnt st sz lo hi))
def pv_cl (ce : Nat → Int32) (sr st sz : Nat → Nat) (lo hi : Int64) (t k : Nat) : Prop :=
  ∀ t', t' < 30 → 0 < sz t' → ce (3 * t + k) = nI (sr t') → pv_m lo hi ((st t' - 1000) / 2)
section
variable {n lim op mk U op2 U2 m0 : Nat} {kc kc2 : Int32} {H wd ce w2 : Nat → Int32} {W S P R O px cd K sr st sz pc pn st2 S2 W2 O2 px2 cd2 K2 : Nat → Nat} {l : (Nat → Nat) × Nat}
variable {post : Int32 → Prop} {Ln : Nat} {xs : Nat → Int32} {J : Int32 → Int32 → Int32 → Int32 → Int32 → Int32 → Int32 → Int32 → Int32 → Int32 → (Nat → Int32) → (Nat → Int32) → (Nat → Int32) → (Nat → Int32) → (Nat → Int32) → (Nat → Int32) → (Nat → Int32) → (Nat → Int32) → (Nat → Int32) → (Nat → Int32) → Int32 → Int32 → Int32 → Int32 → Int32 → Int32 → (Nat → Int32) → (Nat → Int32) → (Nat → Int32) → (Nat → Int32) → (Nat → Int32) → (Nat → Int32) → (Nat → Int32) → (Nat → Int32) → (Nat → Int32) → (Nat → Int32) → Prop} {x5 x6 x7 x8 x14 : Int32} {kcn ksn : Nat} {pins : Int64}
theorem pv_mark {lo0 hi0 lo hi lo' hi' : Int64} {g t : Nat} (hS : mc_Slot mk sr st sz pc) (hD : mc_Dis sr st sz) (h : pv_RN st sz pn l lo0 hi0 lo hi g) (ht : t < 30) (hz : 0 < sz t) (hin : mc_in l t)
    (hn : ¬ pv_m lo hi ((st t - 1000) / 2)) (hs : ∀ q, q < 128 → (pv_m lo' hi' q ↔ pv_m lo hi q ∨ q = (st t - 1000) / 2)) : pv_RN st sz pn l lo0 hi0 lo' hi' 1 := by
  have hb : ∀ s, s < 30 → (st s - 1000) / 2 < 128 := fun s hs => by
    have := (hS s hs).1
    omega
  refine ⟨⟨fun q hq hm => ?_, fun s a1 a2 a3 => ?_⟩, Or.inr ⟨rfl, ?_⟩⟩
  · rcases (hs q hq).mp hm with z | z
    · exact h.1.1 q hq z
    · exact ⟨t, ht, hz, hin, z.symm⟩
  · exact (hs _ (hb s a1)).mpr (Or.inl (h.1.2 s a1 a2 a3))
  · have e : pv_cnt st sz lo' hi' = pv_cnt st sz lo hi + 1 := by
      refine mc_sm_pt (k := t) 30 ht ?_ (fun s a1 a2 => ?_)
      · show mc_if (0 < sz t ∧ pv_m lo' hi' ((st t - 1000) / 2)) 1 0 = mc_if (0 < sz t ∧ pv_m lo hi ((st t - 1000) / 2)) 1 0 + 1
        rw [mc_if_t ⟨hz, (hs _ (hb t ht)).mpr (Or.inr rfl)⟩, mc_if_f (fun c => hn c.2)]
      · refine mc_if_cg ?_
        constructor
        · rintro ⟨b1, b2⟩
          rcases (hs _ (hb s a1)).mp b2 with z | z
          · exact ⟨b1, z⟩
          · exact absurd (po_half hS hD a1 ht b1 hz z) a2
        · rintro ⟨b1, b2⟩
          exact ⟨b1, (hs _ (hb s a1)).mpr (Or.inl b2)⟩
    rcases h.2 with ⟨_, e1, e2⟩ | ⟨_, h2⟩
    · rw [e, e1, e2]; exact Nat.le_refl _
    · omega
theorem pl_964 {J9 JA : Int64 → Int64 → Int32 → Int32 → Prop} {x22 : Int32} {lo0 hi0 : Int64} {t gs : Nat} (hC0 : pv_C n mk lim op op2 U U2 H ce wd w2 W S P R O sr st sz pc pn st2 S2 W2 O2 l m0) (ht : t < 30) (hz : 0 < sz t) (hin : mc_in l t)
    (hJ : ∀ lo hi g, pv_RN st sz pn l lo0 hi0 lo hi g → (g = 0 → gs = 0) → (g = 0 → ∀ k, k < pc t → pv_cl ce sr st sz lo hi t k) → JA lo hi (nI g) (nI (sr t + 1))) :
    ∀ (d k : Nat) (lo hi : Int64) (g : Nat), k + d = pc t → pv_RN st sz pn l lo0 hi0 lo hi g → (g = 0 → gs = 0) → (g = 0 → ∀ k', k' < k → pv_cl ce sr st sz lo hi t k') →
      wL_law_964 post Ln xs J J9 JA (nI n) (nI mk) x6 x7 x8 x14 pins x22 (nI (sr t)) (nI (st t)) kcn ksn (nI n) (nI lim) kc2 (mc_oI op2) (nI mk) (nI U2) H w2 (fun j => nI (W2 j)) (fun j => nI (S2 j)) (fun j => nI (P j)) (fun j => nI (R j)) (fun j => nI (O2 j)) (fun j => nI (px2 j)) (fun j => nI (cd2 j)) (fun j => nI (K2 j)) (nI n) (nI lim) kc (mc_oI op) (nI mk) (nI U) H wd (fun j => nI (W j)) (fun j => nI (S j)) (fun j => nI (P j)) (fun j => nI (R j)) (fun j => nI (O j)) (fun j => nI (px j)) (fun j => nI (cd j)) (fun j => nI (K j)) (d + 1) lo hi (nI g) (nI k) := by
  have hCC := hC0
  obtain ⟨hG, hG2, hPN, hlg, hpn, hcl, hsrc, hpin⟩ := hC0
  obtain ⟨hS, hD, hF, hX, hXW, hXZ, hC, hP0, hO, hT, hU1, hU2, hL, hop2, hmk⟩ := hG
  obtain ⟨hSx, hDx, hFx, hXx, hXWx, hXZx, hCx, _, hOx, hTx, hU1x, hU2x, _, hop2x, _⟩ := hG2
  have hz1 : ∀ s, mc_in l s → mc_kz l sz 30 s = sz s := fun s hi => mc_if_f (fun c => c.2 hi)
  have hz0 : ∀ s, s < 30 → ¬ mc_in l s → mc_kz l sz 30 s = 0 := fun s hs hi => mc_if_t ⟨hs, hi⟩
  have hb := (hS t ht).2.2 hz
  have hb1 := (hS t ht).1
  have hb4 := (hS t ht).2.1
  have hA : mc_At sr st sz W (nI (st t)) t := mc_At_i hX hS ht (Nat.le_refl _) (by omega)
  have e4 : nI (4 * pc t + (sz t - 1 - pc t)) / 4 = nI (pc t) := by
    have := pk_div (a := 4 * pc t + (sz t - 1 - pc t)) (d := 4) (by omega) (by omega) (by omega)
    have e : (4 * pc t + (sz t - 1 - pc t)) / 4 = pc t := by omega
    rw [e] at this
    exact this
  intro d
  induction d with
  | zero =>
    intro k lo hi g hk hR hg hc
    have ek : k = pc t := by omega
    rw [ek] at hc ⊢
    have nx := nm_r (nI_1 (sr t)) (hJ lo hi g hR hg hc)
    by_cases c : pc t = 3
    · exact br_t (nI_le (a := 3) (by omega) (by omega)) nx
    · refine br_f (nI_ge (b := 3) (by omega) (by omega)) (po_shape hS hmk hX hA ⟨by decide, br_t ?_ nx⟩)
      rw [e4]
      exact nI_le (Nat.le_refl _) (by omega)
  | succ d ih =>
    intro k lo hi g hk hR hg hc
    have q : mc_LC sr st sz pc t k (ce (3 * t + k)) (wd (st t - 1000 + 1 + k)) := hC t ht hz k (by omega)
    refine br_f (nI_ge (b := 3) (by omega) (by omega)) (po_shape hS hmk hX hA ⟨by decide, br_f ?_ (po_field hS hmk hX hA (by omega) ?_)⟩)
    · rw [e4]
      exact nI_ge (by omega) (by omega)
    · rcases q.1 (by omega) with ⟨q1, q2⟩ | ⟨t', ht', hzt, q1, q2⟩
      · rw [q2]
        refine br_t rfl (nm_r (nI_1 k) (ih (k + 1) lo hi g (by omega) hR hg (fun z k' hk' => ?_)))
        by_cases e : k' = k
        · intro s a1 a2 a3
          rw [e, q1, ← nI_0] at a3
          have hs := (hS s a1).2.2 a2
          have := (nI_eq (by omega) (by omega)).mp a3
          omega
        · exact hc z k' (by omega)
      · have hbt := (hS t' ht').2.2 hzt
        have hbt1 := (hS t' ht').1
        have hA' : mc_At sr st sz W (nI (st t')) t' := mc_At_i hX hS ht' (Nat.le_refl _) (by omega)
        have hin' := hcl t k t' hin (by omega) ht' hzt q1
        have huq : ∀ s, s < 30 → 0 < sz s → ce (3 * t + k) = nI (sr s) → s = t' := by
          intro s a1 a2 a3
          rw [q1] at a3
          have hs := (hS s a1).2.2 a2
          have e := (nI_eq (by omega) (by omega)).mp a3
          by_cases c : s = t'
          · exact c
          · exact absurd e.symm (hD s t' a1 ht' c a2 hzt).1
        rw [q2]
        refine br_f (nI_ne0 (by omega) (by omega)) (po_ser_at hA' (po_adr (by omega) (by omega) ?_))
        rw [(hX t' ht' hzt).1]
        refine br_f (nI_ne0 (by omega) (by omega)) (pv_in (by omega) (by omega) (fun hm => ?_) (fun hm => ?_))
        · refine br_f (by decide) (nm_r (nI_1 k) (ih (k + 1) lo hi g (by omega) hR hg (fun z k' hk' => ?_)))
          by_cases e : k' = k
          · intro s a1 a2 a3
            rw [e] at a3
            rw [huq s a1 a2 a3]
            exact hm
          · exact hc z k' (by omega)
        · refine br_t rfl (pv_half (by omega) (by omega) ?_)
          by_cases c2 : 64 ≤ (st t' - 1000) / 2
          · exact br_t (nI_le (a := 64) c2 (by omega)) (pv_half (by omega) (by omega) (nm_e (nm_r (nI_1 k) (ih (k + 1) _ _ 1 (by omega) (pv_mark hS hD hR ht' hzt hin' hm (fun q hq => pv_mhi c2 (by omega) hq)) (fun z => absurd z (by omega)) (fun z => absurd z (by omega))))))
          · exact br_f (nI_ge (b := 64) (by omega) (by omega)) (pv_half (by omega) (by omega) (nm_e (nm_r (nI_1 k) (ih (k + 1) _ _ 1 (by omega) (pv_mark hS hD hR ht' hzt hin' hm (fun q hq => pv_mlo (by omega) hq)) (fun z => absurd z (by omega)) (fun z => absurd z (by omega))))))
theorem pl_925 {J9 : Int64 → Int64 → Int32 → Int32 → Prop} {r : Nat} {lo0 hi0 : Int64} (hC0 : pv_C n mk lim op op2 U U2 H ce wd w2 W S P R O sr st sz pc pn st2 S2 W2 O2 l m0)
    (hJ : ∀ lo hi g, pv_RN st sz pn l lo0 hi0 lo hi g → (g = 0 → ∀ t, t < 30 → 0 < sz t → pv_m lo hi ((st t - 1000) / 2) → ∀ k, k < pc t → pv_cl ce sr st sz lo hi t k) → J9 lo hi (nI g) (nI (r + 1))) :
    ∀ (d v : Nat) (lo hi : Int64) (g : Nat), v + d = mk + 1 → 1 ≤ v → pv_RN st sz pn l lo0 hi0 lo hi g → (g = 0 → ∀ t, t < 30 → 0 < sz t → sr t < v → pv_m lo hi ((st t - 1000) / 2) → ∀ k, k < pc t → pv_cl ce sr st sz lo hi t k) →
      wL_law_925 post Ln xs J J9 (nI n) (nI mk) x6 x7 x8 x14 pins (nI r) kcn ksn (nI n) (nI lim) kc2 (mc_oI op2) (nI mk) (nI U2) H w2 (fun j => nI (W2 j)) (fun j => nI (S2 j)) (fun j => nI (P j)) (fun j => nI (R j)) (fun j => nI (O2 j)) (fun j => nI (px2 j)) (fun j => nI (cd2 j)) (fun j => nI (K2 j)) (nI n) (nI lim) kc (mc_oI op) (nI mk) (nI U) H wd (fun j => nI (W j)) (fun j => nI (S j)) (fun j => nI (P j)) (fun j => nI (R j)) (fun j => nI (O j)) (fun j => nI (px j)) (fun j => nI (cd j)) (fun j => nI (K j)) (d + 1) lo hi (nI g) (nI v) := by
  have hCC := hC0
  obtain ⟨hG, hG2, hPN, hlg, hpn, hcl, hsrc, hpin⟩ := hC0
  obtain ⟨hS, hD, hF, hX, hXW, hXZ, hC, hP0, hO, hT, hU1, hU2, hL, hop2, hmk⟩ := hG
  obtain ⟨hSx, hDx, hFx, hXx, hXWx, hXZx, hCx, _, hOx, hTx, hU1x, hU2x, _, hop2x, _⟩ := hG2
  have hz1 : ∀ s, mc_in l s → mc_kz l sz 30 s = sz s := fun s hi => mc_if_f (fun c => c.2 hi)
  have hz0 : ∀ s, s < 30 → ¬ mc_in l s → mc_kz l sz 30 s = 0 := fun s hs hi => mc_if_t ⟨hs, hi⟩
  intro d
  induction d with
  | zero =>
    intro v lo hi g hv h1 hR hc
    refine br_t (nI_lt (by omega) (by omega)) (nm_r (nI_1 r) (hJ lo hi g hR (fun z t a1 a2 a3 => hc z t a1 a2 ?_ a3)))
    have := (hS t a1).2.2 a2
    omega
  | succ d ih =>
    intro v lo hi g hv h1 hR hc
    refine br_f (nI_nlt (by omega) (by omega)) (po_adr h1 (by omega) ?_)
    rcases po_Sv hX hXZ v with ⟨z, hno⟩ | ⟨s, hs, hz, e, z⟩
    · rw [z]
      refine br_t rfl (nm_r (nI_1 v) (ih (v + 1) lo hi g (by omega) (by omega) hR (fun y t a1 a2 a3 a4 => hc y t a1 a2 ?_ a4)))
      have hb := (hS t a1).2.2 a2
      have hn : sr t ≠ v := fun e => by
        have := hno t a1 a2 e
        omega
      omega
    · have hb := (hS s hs).2.2 hz
      have hb1 := (hS s hs).1
      have huniq : ∀ t, t < 30 → 0 < sz t → sr t = v → t = s := by
        intro t a1 a2 a3
        by_cases et : t = s
        · exact et
        · exact absurd (a3.trans e) (hD t s a1 hs et a2 hz).1
      rw [z]
      refine br_f (nI_ne0 (by omega) (by omega)) (pv_in (by omega) (by omega) (fun hm => ?_) (fun hm => ?_))
      · have hin : mc_in l s := by
          obtain ⟨t, a1, a2, a3, a4⟩ := hR.1.1 _ (by omega) hm
          rw [← po_half hS hD a1 hs a2 hz a4]
          exact a3
        refine br_f (by decide) ⟨pc s + 1, ?_⟩
        rw [e]
        refine pl_964 (gs := g) hCC hs hz hin (fun lo' hi' g' hR' hg' hc' => ?_) (pc s) 0 lo hi g (by omega) hR (fun y => y) (fun _ k' hk' => absurd hk' (by omega))
        rw [← e]
        refine ih (v + 1) lo' hi' g' (by omega) (by omega) hR' (fun y t a1 a2 a3 a4 => ?_)
        by_cases et : sr t = v
        · rw [huniq t a1 a2 et]
          exact hc' y
        · have hg0 := hg' y
          have e1 : lo' = lo ∧ hi' = hi := by
            rcases hR'.2 with ⟨_, y1, y2⟩ | ⟨y1, _⟩
            · rcases hR.2 with ⟨_, w1, w2⟩ | ⟨w1, _⟩
              · exact ⟨y1.trans w1.symm, y2.trans w2.symm⟩
              · omega
            · omega
          rw [e1.1, e1.2] at a4 ⊢
          exact hc hg0 t a1 a2 (by omega) a4
      · refine br_t rfl (nm_r (nI_1 v) (ih (v + 1) lo hi g (by omega) (by omega) hR (fun y t a1 a2 a3 a4 => ?_)))
        by_cases et : sr t = v
        · rw [huniq t a1 a2 et] at a4
          exact absurd a4 hm
        · exact hc y t a1 a2 (by omega) a4
theorem pl_907 (hC0 : pv_C n mk lim op op2 U U2 H ce wd w2 W S P R O sr st sz pc pn st2 S2 W2 O2 l m0)
    (h : ∀ lo hi, (∀ t, t < 30 → 0 < sz t → (pv_m lo hi ((st t - 1000) / 2) ↔ mc_in l t)) → ∃ f, wL_law_1109 post Ln xs J (nI n) (nI mk) x6 x7 x8 x14 pins lo hi kcn ksn (nI n) (nI lim) kc2 (mc_oI op2) (nI mk) (nI U2) H w2 (fun j => nI (W2 j)) (fun j => nI (S2 j)) (fun j => nI (P j)) (fun j => nI (R j)) (fun j => nI (O2 j)) (fun j => nI (px2 j)) (fun j => nI (cd2 j)) (fun j => nI (K2 j)) (nI n) (nI lim) kc (mc_oI op) (nI mk) (nI U) H wd (fun j => nI (W j)) (fun j => nI (S j)) (fun j => nI (P j)) (fun j => nI (R j)) (fun j => nI (O j)) (fun j => nI (px j)) (fun j => nI (cd j)) (fun j => nI (K j)) f 0 1) :
    ∀ (d r : Nat) (lo hi : Int64) (g : Nat), r + d = 32 → pv_IM st sz pn l lo hi → ((g = 1 ∧ r ≤ pv_cnt st sz lo hi) ∨ (g = 0 ∧ ∀ t, t < 30 → 0 < sz t → pv_m lo hi ((st t - 1000) / 2) → ∀ k, k < pc t → pv_cl ce sr st sz lo hi t k)) →
      wL_law_907 post Ln xs J (nI n) (nI mk) x6 x7 x8 x14 pins kcn ksn (nI n) (nI lim) kc2 (mc_oI op2) (nI mk) (nI U2) H w2 (fun j => nI (W2 j)) (fun j => nI (S2 j)) (fun j => nI (P j)) (fun j => nI (R j)) (fun j => nI (O2 j)) (fun j => nI (px2 j)) (fun j => nI (cd2 j)) (fun j => nI (K2 j)) (nI n) (nI lim) kc (mc_oI op) (nI mk) (nI U) H wd (fun j => nI (W j)) (fun j => nI (S j)) (fun j => nI (P j)) (fun j => nI (R j)) (fun j => nI (O j)) (fun j => nI (px j)) (fun j => nI (cd j)) (fun j => nI (K j)) (d + 1) lo hi (nI g) (nI r) := by
  have hCC := hC0
  obtain ⟨hG, hG2, hPN, hlg, hpn, hcl, hsrc, hpin⟩ := hC0
  obtain ⟨hS, hD, hF, hX, hXW, hXZ, hC, hP0, hO, hT, hU1, hU2, hL, hop2, hmk⟩ := hG
  obtain ⟨hSx, hDx, hFx, hXx, hXWx, hXZx, hCx, _, hOx, hTx, hU1x, hU2x, _, hop2x, _⟩ := hG2
  have hz1 : ∀ s, mc_in l s → mc_kz l sz 30 s = sz s := fun s hi => mc_if_f (fun c => c.2 hi)
  have hz0 : ∀ s, s < 30 → ¬ mc_in l s → mc_kz l sz 30 s = 0 := fun s hs hi => mc_if_t ⟨hs, hi⟩
  have hend : ∀ lo hi, pv_IM st sz pn l lo hi → (∀ t, t < 30 → 0 < sz t → pv_m lo hi ((st t - 1000) / 2) → ∀ k, k < pc t → pv_cl ce sr st sz lo hi t k) → ∀ t, t < 30 → 0 < sz t → (pv_m lo hi ((st t - 1000) / 2) ↔ mc_in l t) := by
    intro lo hi hM hc t ht hz
    have hb1 := (hS t ht).1
    constructor
    · intro hm
      obtain ⟨s, a1, a2, a3, a4⟩ := hM.1 _ (by omega) hm
      rw [← po_half hS hD a1 ht a2 hz a4]
      exact a3
    · have key : ∀ m i, i < m → i < l.2 → pv_m lo hi ((st (l.1 i) - 1000) / 2) := by
        intro m
        induction m with
        | zero => intro i hi; exact absurd hi (Nat.not_lt_zero i)
        | succ m ihm =>
          intro i him hil
          have hli := hlg.1 i hil
          by_cases c : i < m0
          · exact hM.2 _ hli.1 hli.2 ((hpn _ hli.1 hli.2).mpr ⟨i, c, hil, rfl⟩)
          · obtain ⟨j, k, a1, a2, a3⟩ := hsrc i (by omega) hil
            have hlj := hlg.1 j (by omega)
            exact hc _ hlj.1 hlj.2 (ihm j (by omega) (by omega)) k a2 _ hli.1 hli.2 a3
      rintro ⟨i, i1, i2⟩
      rw [← i2]
      exact key (i + 1) i (by omega) i1
  intro d
  induction d with
  | zero =>
    intro r lo hi g hr hM hg
    rcases hg with ⟨e, hcn⟩ | ⟨e, hcn⟩
    · have := pv_cnt_le st sz lo hi
      omega
    · rw [e]
      exact br_t rfl (h lo hi (hend lo hi hM hcn))
  | succ d ih =>
    intro r lo hi g hr hM hg
    rcases hg with ⟨e, hcn⟩ | ⟨e, hcn⟩
    · rw [e]
      refine br_f (by decide) (br_f (nI_ge (b := 32) (by omega) (by omega)) ⟨mk + 1, ?_⟩)
      refine pl_925 (lo0 := lo) (hi0 := hi) hCC (fun lo' hi' g' hR' hc' => ih (r + 1) lo' hi' g' (by omega) hR'.1 ?_) mk 1 lo hi 0 (by omega) (by omega) ⟨hM, Or.inl ⟨rfl, rfl, rfl⟩⟩ (fun _ t a1 a2 a3 => ?_)
      · rcases hR'.2 with ⟨y, _, _⟩ | ⟨y1, y2⟩
        · exact Or.inr ⟨y, hc' y⟩
        · exact Or.inl ⟨y1, by omega⟩
      · have := (hS t a1).2.2 a2
        omega
    · rw [e]
      exact br_t rfl (h lo hi (hend lo hi hM hcn))
end
end
section
/-! the law at a collection: object by object -/
section
variable {n lim op mk U op2 U2 m0 : Nat} {kc kc2 : Int32} {H wd ce w2 : Nat → Int32} {W S P R O px cd K sr st sz pc pn st2 S2 W2 O2 px2 cd2 K2 : Nat → Nat} {l : (Nat → Nat) × Nat}
variable {post : Int32 → Prop} {Ln : Nat} {xs : Nat → Int32} {J : Int32 → Int32 → Int32 → Int32 → Int32 → Int32 → Int32 → Int32 → Int32 → Int32 → (Nat → Int32) → (Nat → Int32) → (Nat → Int32) → (Nat → Int32) → (Nat → Int32) → (Nat → Int32) → (Nat → Int32) → (Nat → Int32) → (Nat → Int32) → (Nat → Int32) → Int32 → Int32 → Int32 → Int32 → Int32 → Int32 → (Nat → Int32) → (Nat → Int32) → (Nat → Int32) → (Nat → Int32) → (Nat → Int32) → (Nat → Int32) → (Nat → Int32) → (Nat → Int32) → (Nat → Int32) → (Nat → Int32) → Prop} {x5 x6 x7 x8 x14 : Int32} {kcn ksn : Nat} {pins : Int64}
variable {J2 : Int32 → Int32 → Prop} {x17 x19 : Int64} {x22 : Int32} {t : Nat}
theorem pl_1387 (hC0 : pv_C n mk lim op op2 U U2 H ce wd w2 W S P R O sr st sz pc pn st2 S2 W2 O2 l m0) (ht : t < 30) (hz : 0 < sz t) (hin : mc_in l t) (hJ : J2 x22 (nI (sr t + 1))) :
    ∀ d e, e + d = sz t → wL_law_1387 post Ln xs J J2 (nI n) x5 x6 x7 x8 x14 pins x17 x19 x22 (nI (sr t)) (nI (st2 t)) (nI (sz t - 1)) kcn ksn (nI n) (nI lim) kc2 (mc_oI op2) (nI mk) (nI U2) H w2 (fun j => nI (W2 j)) (fun j => nI (S2 j)) (fun j => nI (P j)) (fun j => nI (R j)) (fun j => nI (O2 j)) (fun j => nI (px2 j)) (fun j => nI (cd2 j)) (fun j => nI (K2 j)) (nI n) (nI lim) kc (mc_oI op) (nI mk) (nI U) H wd (fun j => nI (W j)) (fun j => nI (S j)) (fun j => nI (P j)) (fun j => nI (R j)) (fun j => nI (O j)) (fun j => nI (px j)) (fun j => nI (cd j)) (fun j => nI (K j)) (d + 1) (nI e) := by
  have hCC := hC0
  obtain ⟨hG, hG2, hPN, hlg, hpn, hcl, hsrc, hpin⟩ := hC0
  obtain ⟨hS, hD, hF, hX, hXW, hXZ, hC, hP0, hO, hT, hU1, hU2, hL, hop2, hmk⟩ := hG
  obtain ⟨hSx, hDx, hFx, hXx, hXWx, hXZx, hCx, _, hOx, hTx, hU1x, hU2x, _, hop2x, _⟩ := hG2
  have hz1 : ∀ s, mc_in l s → mc_kz l sz 30 s = sz s := fun s hi => mc_if_f (fun c => c.2 hi)
  have hz0 : ∀ s, s < 30 → ¬ mc_in l s → mc_kz l sz 30 s = 0 := fun s hs hi => mc_if_t ⟨hs, hi⟩
  have hb4 := (hS t ht).2.1
  have ezt := hz1 t hin
  have hbx := (hSx t ht).2.2 (by omega)
  intro d
  induction d with
  | zero =>
    intro e he
    have ee : e = sz t := by omega
    rw [ee]
    by_cases c : sz t = 4
    · exact br_t (nI_le (a := 4) (by omega) (by omega)) (nm_r (nI_1 (sr t)) hJ)
    · exact br_f (nI_ge (b := 4) (by omega) (by omega)) (br_t (nI_lt (by omega) (by omega)) (nm_r (nI_1 (sr t)) hJ))
  | succ d ih =>
    intro e he
    have hAx : mc_At sr st2 (mc_kz l sz 30) W2 (nI (st2 t) + nI e) t := by
      rw [nI_add]
      exact mc_At_i hXx hSx ht (by omega) (by omega)
    exact br_f (nI_ge (b := 4) (by omega) (by omega)) (br_f (nI_nlt (by omega) (by omega)) (po_base_at hSx hmk hXx hAx (br_t rfl (po_ser_at hAx (br_t rfl (nm_r (nI_1 e) (ih (e + 1) (by omega))))))))
theorem pl_1366 (hC0 : pv_C n mk lim op op2 U U2 H ce wd w2 W S P R O sr st sz pc pn st2 S2 W2 O2 l m0) (ht : t < 30) (hz : 0 < sz t) (hin : mc_in l t) (hJ : J2 x22 (nI (sr t + 1))) :
    wL_law_1366 post Ln xs J J2 (nI n) x5 x6 x7 x8 x14 pins x17 x19 x22 (nI (sr t)) (nI (st2 t)) (nI (sz t - 1)) kcn ksn (nI n) (nI lim) kc2 (mc_oI op2) (nI mk) (nI U2) H w2 (fun j => nI (W2 j)) (fun j => nI (S2 j)) (fun j => nI (P j)) (fun j => nI (R j)) (fun j => nI (O2 j)) (fun j => nI (px2 j)) (fun j => nI (cd2 j)) (fun j => nI (K2 j)) (nI n) (nI lim) kc (mc_oI op) (nI mk) (nI U) H wd (fun j => nI (W j)) (fun j => nI (S j)) (fun j => nI (P j)) (fun j => nI (R j)) (fun j => nI (O j)) (fun j => nI (px j)) (fun j => nI (cd j)) (fun j => nI (K j)) := by
  have hCC := hC0
  obtain ⟨hG, hG2, hPN, hlg, hpn, hcl, hsrc, hpin⟩ := hC0
  obtain ⟨hS, hD, hF, hX, hXW, hXZ, hC, hP0, hO, hT, hU1, hU2, hL, hop2, hmk⟩ := hG
  obtain ⟨hSx, hDx, hFx, hXx, hXWx, hXZx, hCx, _, hOx, hTx, hU1x, hU2x, _, hop2x, _⟩ := hG2
  have hz1 : ∀ s, mc_in l s → mc_kz l sz 30 s = sz s := fun s hi => mc_if_f (fun c => c.2 hi)
  have hz0 : ∀ s, s < 30 → ¬ mc_in l s → mc_kz l sz 30 s = 0 := fun s hs hi => mc_if_t ⟨hs, hi⟩
  have hb4 := (hS t ht).2.1
  have ezt := hz1 t hin
  have hbx := (hSx t ht).2.2 (by omega)
  have hbx1 := (hSx t ht).1
  unfold wL_law_1366
  refine pv_page (by omega) (by omega) ?_
  rw [nI_add]
  refine pv_page (by omega) (by omega) (br_t ?_ ⟨sz t + 1, pl_1387 hCC ht hz hin hJ (sz t) 0 (by omega)⟩)
  exact congrArg nI (by omega)
theorem pl_1237 (hC0 : pv_C n mk lim op op2 U U2 H ce wd w2 W S P R O sr st sz pc pn st2 S2 W2 O2 l m0) (ht : t < 30) (hz : 0 < sz t) (hin : mc_in l t) (hJ : J2 x22 (nI (sr t + 1))) :
    ∀ d k, k + d = sz t - 1 → wL_law_1237 post Ln xs J J2 (nI n) x5 x6 x7 x8 x14 pins x17 x19 x22 (nI (sr t)) (nI (st t)) (nI (st2 t)) (nI (pc t)) (nI (sz t - 1)) kcn ksn (nI n) (nI lim) kc2 (mc_oI op2) (nI mk) (nI U2) H w2 (fun j => nI (W2 j)) (fun j => nI (S2 j)) (fun j => nI (P j)) (fun j => nI (R j)) (fun j => nI (O2 j)) (fun j => nI (px2 j)) (fun j => nI (cd2 j)) (fun j => nI (K2 j)) (nI n) (nI lim) kc (mc_oI op) (nI mk) (nI U) H wd (fun j => nI (W j)) (fun j => nI (S j)) (fun j => nI (P j)) (fun j => nI (R j)) (fun j => nI (O j)) (fun j => nI (px j)) (fun j => nI (cd j)) (fun j => nI (K j)) (d + 1) (nI k) := by
  have h66 := pl_1366 (post := post) (Ln := Ln) (xs := xs) (J := J) (x5 := x5) (x6 := x6) (x7 := x7) (x8 := x8) (x14 := x14) (kcn := kcn) (ksn := ksn) (pins := pins) (x17 := x17) (x19 := x19) (px := px) (cd := cd) (K := K) (px2 := px2) (cd2 := cd2) (K2 := K2) (kc := kc) (kc2 := kc2) hC0 ht hz hin hJ
  have hCC := hC0
  obtain ⟨hG, hG2, hPN, hlg, hpn, hcl, hsrc, hpin⟩ := hC0
  obtain ⟨hS, hD, hF, hX, hXW, hXZ, hC, hP0, hO, hT, hU1, hU2, hL, hop2, hmk⟩ := hG
  obtain ⟨hSx, hDx, hFx, hXx, hXWx, hXZx, hCx, _, hOx, hTx, hU1x, hU2x, _, hop2x, _⟩ := hG2
  have hz1 : ∀ s, mc_in l s → mc_kz l sz 30 s = sz s := fun s hi => mc_if_f (fun c => c.2 hi)
  have hz0 : ∀ s, s < 30 → ¬ mc_in l s → mc_kz l sz 30 s = 0 := fun s hs hi => mc_if_t ⟨hs, hi⟩
  have hb := (hS t ht).2.2 hz
  have hb4 := (hS t ht).2.1
  have ezt := hz1 t hin
  have hbx := (hSx t ht).2.2 (by omega)
  have hA : mc_At sr st sz W (nI (st t)) t := mc_At_i hX hS ht (Nat.le_refl _) (by omega)
  have hAx : mc_At sr st2 (mc_kz l sz 30) W2 (nI (st2 t)) t := mc_At_i hXx hSx ht (Nat.le_refl _) (by omega)
  intro d
  induction d with
  | zero =>
    intro k hk
    have ek : k = sz t - 1 := by omega
    rw [ek]
    by_cases c : sz t - 1 = 3
    · exact br_t (nI_le (a := 3) (by omega) (by omega)) h66
    · exact br_f (nI_ge (b := 3) (by omega) (by omega)) (br_t (nI_le (by omega) (by omega)) h66)
  | succ d ih =>
    intro k hk
    have nx := ih (k + 1) (by omega)
    have q : mc_LC sr st sz pc t k (ce (3 * t + k)) (wd (st t - 1000 + 1 + k)) := hC t ht hz k (by omega)
    have qx : mc_LC sr st2 (mc_kz l sz 30) pc t k (ce (3 * t + k)) (w2 (st2 t - 1000 + 1 + k)) := hCx t ht (by omega) k (by omega)
    refine br_f (nI_ge (b := 3) (by omega) (by omega)) (br_f (nI_ge (by omega) (by omega)) (po_field hS hmk hX hA (by omega) (po_field hSx hmk hXx hAx (by omega) ?_)))
    by_cases c : k < pc t
    · refine br_t (nI_lt c (by omega)) (br_f (nI_ge c (by omega)) ?_)
      have hge : ¬ nI (pc t) ≤ nI k := nI_ge c (by omega)
      rcases q.1 c with ⟨q1, q2⟩ | ⟨s, hs, hzs, q1, q2⟩
      · have e2 : w2 (st2 t - 1000 + 1 + k) = 0 := by
          rcases qx.1 c with ⟨_, y⟩ | ⟨s, hs, hzs, y, _⟩
          · exact y
          · have hb := (hSx s hs).2.2 hzs
            rw [q1, ← nI_0] at y
            have := (nI_eq (by omega) (by omega)).mp y
            omega
        rw [q2, e2]
        exact br_t rfl (br_t rfl (br_t rfl (br_f hge (br_t rfl (nm_r (nI_1 k) nx)))))
      · have hbs := (hS s hs).2.2 hzs
        have hins := hcl t k s hin c hs hzs q1
        have ezs := hz1 s hins
        have hbsx := (hSx s hs).2.2 (by omega)
        have hb1 := (hS s hs).1
        have hbx1 := (hSx s hs).1
        have e2 : w2 (st2 t - 1000 + 1 + k) = nI (st2 s) := by
          rcases qx.1 c with ⟨y, _⟩ | ⟨s', hs', hzs', y, y2⟩
          · rw [q1, ← nI_0] at y
            have := (nI_eq (by omega) (by omega)).mp y
            omega
          · have hb' := (hSx s' hs').2.2 hzs'
            rw [q1] at y
            have e := (nI_eq (by omega) (by omega)).mp y
            by_cases es : s = s'
            · rw [es]; exact y2
            · exact absurd e (hDx s s' hs hs' es (by omega) hzs').1
        have hAs : mc_At sr st sz W (nI (st s)) s := mc_At_i hX hS hs (Nat.le_refl _) (by omega)
        have hAsx : mc_At sr st2 (mc_kz l sz 30) W2 (nI (st2 s)) s := mc_At_i hXx hSx hs (Nat.le_refl _) (by omega)
        have n1 : ¬ nI (st s) = 0 := nI_ne0 (by omega) (by omega)
        have n2 : ¬ nI (st2 s) = 0 := nI_ne0 (by omega) (by omega)
        rw [q2, e2]
        exact br_f n2 (br_f n1 (br_t rfl (br_f hge (br_f n2 (po_base_at hSx hmk hXx hAsx (br_t rfl (po_ser_at hAsx (po_ser_at hAs (br_t rfl (nm_r (nI_1 k) nx))))))))))
    · have hle : nI (pc t) ≤ nI k := nI_le (by omega) (by omega)
      refine br_f (nI_nlt (by omega) (by omega)) (br_t ?_ (br_t hle (br_t hle (nm_r (nI_1 k) nx))))
      rw [q.2 (by omega), qx.2 (by omega)]
theorem pl_1197 (hC0 : pv_C n mk lim op op2 U U2 H ce wd w2 W S P R O sr st sz pc pn st2 S2 W2 O2 l m0) (ht : t < 30) (hz : 0 < sz t) (hin : mc_in l t) (hJ : J2 x22 (nI (sr t + 1))) :
    wL_law_1197 post Ln xs J J2 (nI n) x5 x6 x7 x8 x14 pins x17 x19 x22 (nI (sr t)) (nI (st t)) (nI (st2 t)) kcn ksn (nI n) (nI lim) kc2 (mc_oI op2) (nI mk) (nI U2) H w2 (fun j => nI (W2 j)) (fun j => nI (S2 j)) (fun j => nI (P j)) (fun j => nI (R j)) (fun j => nI (O2 j)) (fun j => nI (px2 j)) (fun j => nI (cd2 j)) (fun j => nI (K2 j)) (nI n) (nI lim) kc (mc_oI op) (nI mk) (nI U) H wd (fun j => nI (W j)) (fun j => nI (S j)) (fun j => nI (P j)) (fun j => nI (R j)) (fun j => nI (O j)) (fun j => nI (px j)) (fun j => nI (cd j)) (fun j => nI (K j)) := by
  have h37 := pl_1237 (post := post) (Ln := Ln) (xs := xs) (J := J) (x5 := x5) (x6 := x6) (x7 := x7) (x8 := x8) (x14 := x14) (kcn := kcn) (ksn := ksn) (pins := pins) (x17 := x17) (x19 := x19) (px := px) (cd := cd) (K := K) (px2 := px2) (cd2 := cd2) (K2 := K2) (kc := kc) (kc2 := kc2) hC0 ht hz hin hJ
  have hCC := hC0
  obtain ⟨hG, hG2, hPN, hlg, hpn, hcl, hsrc, hpin⟩ := hC0
  obtain ⟨hS, hD, hF, hX, hXW, hXZ, hC, hP0, hO, hT, hU1, hU2, hL, hop2, hmk⟩ := hG
  obtain ⟨hSx, hDx, hFx, hXx, hXWx, hXZx, hCx, _, hOx, hTx, hU1x, hU2x, _, hop2x, _⟩ := hG2
  have hz1 : ∀ s, mc_in l s → mc_kz l sz 30 s = sz s := fun s hi => mc_if_f (fun c => c.2 hi)
  have hz0 : ∀ s, s < 30 → ¬ mc_in l s → mc_kz l sz 30 s = 0 := fun s hs hi => mc_if_t ⟨hs, hi⟩
  have hb := (hS t ht).2.2 hz
  have hb4 := (hS t ht).2.1
  have ezt := hz1 t hin
  have hbx := (hSx t ht).2.2 (by omega)
  have hA : mc_At sr st sz W (nI (st t)) t := mc_At_i hX hS ht (Nat.le_refl _) (by omega)
  have hAx : mc_At sr st2 (mc_kz l sz 30) W2 (nI (st2 t)) t := mc_At_i hXx hSx ht (Nat.le_refl _) (by omega)
  have e4 : nI (4 * pc t + (sz t - 1 - pc t)) / 4 = nI (pc t) := by
    have := pk_div (a := 4 * pc t + (sz t - 1 - pc t)) (d := 4) (by omega) (by omega) (by omega)
    have e : (4 * pc t + (sz t - 1 - pc t)) / 4 = pc t := by omega
    rw [e] at this
    exact this
  have e5 : nI (pc t) + (nI (4 * pc t + (sz t - 1 - pc t)) - nI (4 * pc t + (sz t - 1 - pc t)) / 4 * 4) = nI (sz t - 1) := by
    have := pk_rem (a := 4 * pc t + (sz t - 1 - pc t)) (d := 4) (by omega) (by omega) (by omega)
    have e : (4 * pc t + (sz t - 1 - pc t)) % 4 = sz t - 1 - pc t := by omega
    rw [e] at this
    refine Eq.trans (congrArg (fun z => nI (pc t) + z) this) ?_
    show nI (pc t) + nI (sz t - 1 - pc t) = _
    rw [nI_add]
    exact congrArg nI (by omega)
  unfold wL_law_1197
  refine po_shape hS hmk hX hA (po_shape hSx hmk hXx hAx (br_t ?_ ⟨by decide, nm_r e4 ⟨by decide, nm_r e5 ⟨sz t, ?_⟩⟩⟩))
  · rw [ezt]
  · have := h37 (sz t - 1) 0 (by omega)
    have e : sz t - 1 + 1 = sz t := by omega
    rw [e] at this
    exact this
noncomputable def pv_lost (sr sz : Nat → Nat) (l : (Nat → Nat) × Nat) (v : Nat) : Nat := mc_sm (fun t => mc_if (0 < sz t ∧ ¬ mc_in l t ∧ sr t < v) 1 0) 30
theorem pl_1109 {lo hi : Int64} (hC0 : pv_C n mk lim op op2 U U2 H ce wd w2 W S P R O sr st sz pc pn st2 S2 W2 O2 l m0) (hpins : ∀ p, p < 32 → (pv_b pins p ↔ pn p = 1)) (hm : ∀ t, t < 30 → 0 < sz t → (pv_m lo hi ((st t - 1000) / 2) ↔ mc_in l t))
    (hcol : ∀ post : Int32 → St2 → Prop, post (nI (mc_sm (mc_kc l sz) 30)) ((nI n), (nI lim), kc2, (mc_oI op2), (nI mk), (nI U2), H, w2, (fun j => nI (W2 j)), (fun j => nI (S2 j)), (fun j => nI (P j)), (fun j => nI (R j)), (fun j => nI (O2 j)), (fun j => nI (px2 j)), (fun j => nI (cd2 j)), (fun j => nI (K2 j))) → wpX_collect post ((nI n), (nI lim), kc, (mc_oI op), (nI mk), (nI U), H, wd, (fun j => nI (W j)), (fun j => nI (S j)), (fun j => nI (P j)), (fun j => nI (R j)), (fun j => nI (O j)), (fun j => nI (px j)), (fun j => nI (cd j)), (fun j => nI (K j))))
    (hJ : ∀ x, x = x8 + 1 → J (nI mk) x6 x7 x (nI n) (nI lim) kc2 (mc_oI op2) (nI mk) (nI U2) H w2 (fun j => nI (W2 j)) (fun j => nI (S2 j)) (fun j => nI (P j)) (fun j => nI (R j)) (fun j => nI (O2 j)) (fun j => nI (px2 j)) (fun j => nI (cd2 j)) (fun j => nI (K2 j)) (nI n) (nI lim) kc2 (mc_oI op2) (nI mk) (nI U2) H w2 (fun j => nI (W2 j)) (fun j => nI (S2 j)) (fun j => nI (P j)) (fun j => nI (R j)) (fun j => nI (O2 j)) (fun j => nI (px2 j)) (fun j => nI (cd2 j)) (fun j => nI (K2 j))) :
    ∀ d v, v + d = mk + 1 → 1 ≤ v → wL_law_1109 post Ln xs J (nI n) (nI mk) x6 x7 x8 (nI (mc_sm (mc_kc l sz) 30)) pins lo hi kcn ksn (nI n) (nI lim) kc2 (mc_oI op2) (nI mk) (nI U2) H w2 (fun j => nI (W2 j)) (fun j => nI (S2 j)) (fun j => nI (P j)) (fun j => nI (R j)) (fun j => nI (O2 j)) (fun j => nI (px2 j)) (fun j => nI (cd2 j)) (fun j => nI (K2 j)) (nI n) (nI lim) kc (mc_oI op) (nI mk) (nI U) H wd (fun j => nI (W j)) (fun j => nI (S j)) (fun j => nI (P j)) (fun j => nI (R j)) (fun j => nI (O j)) (fun j => nI (px j)) (fun j => nI (cd j)) (fun j => nI (K j)) (d + 1) (nI (pv_lost sr sz l v)) (nI v) := by
  have hCC := hC0
  obtain ⟨hG, hG2, hPN, hlg, hpn, hcl, hsrc, hpin⟩ := hC0
  obtain ⟨hS, hD, hF, hX, hXW, hXZ, hC, hP0, hO, hT, hU1, hU2, hL, hop2, hmk⟩ := hG
  obtain ⟨hSx, hDx, hFx, hXx, hXWx, hXZx, hCx, _, hOx, hTx, hU1x, hU2x, _, hop2x, _⟩ := hG2
  have hz1 : ∀ s, mc_in l s → mc_kz l sz 30 s = sz s := fun s hi => mc_if_f (fun c => c.2 hi)
  have hz0 : ∀ s, s < 30 → ¬ mc_in l s → mc_kz l sz 30 s = 0 := fun s hs hi => mc_if_t ⟨hs, hi⟩
  intro d
  induction d with
  | zero =>
    intro v hv h1
    refine br_t (nI_lt (by omega) (by omega)) (br_t ?_ (hcol _ hJ))
    refine congrArg nI (mc_sm_congr 30 (fun t ht => mc_if_cg ?_))
    constructor
    · rintro ⟨a1, a2, _⟩; exact ⟨a1, a2⟩
    · rintro ⟨a1, a2⟩
      have := (hS t ht).2.2 a1
      exact ⟨a1, a2, by omega⟩
  | succ d ih =>
    intro v hv h1
    have nx := ih (v + 1) (by omega) (by omega)
    refine br_f (nI_nlt (by omega) (by omega)) (po_adr h1 (by omega) (po_adr h1 (by omega) ?_))
    have hx0 : (∀ s, s < 30 → 0 < sz s → mc_in l s → sr s ≠ v) → S2 v = 0 := by
      intro hno
      rcases hXZx v with y | ⟨s, a1, a2, a3⟩
      · exact y
      · by_cases c : mc_in l s
        · rw [hz1 s c] at a2
          exact absurd a3.symm (hno s a1 a2 c)
        · rw [hz0 s a1 c] at a2
          omega
    rcases po_Sv hX hXZ v with ⟨z, hno⟩ | ⟨s, hs, hz, e, z⟩
    · have hno2 : ∀ s, s < 30 → 0 < sz s → sr s ≠ v := fun s a1 a2 a3 => by
        have h2 := hno s a1 a2 a3
        have := (hS s a1).2.2 a2
        omega
      have e0 : pv_lost sr sz l (v + 1) = pv_lost sr sz l v := by
        refine mc_sm_congr 30 (fun t ht => mc_if_cg ?_)
        constructor
        · rintro ⟨a1, a2, a3⟩
          have := hno2 t ht a1
          exact ⟨a1, a2, by omega⟩
        · rintro ⟨a1, a2, a3⟩
          exact ⟨a1, a2, by omega⟩
      rw [e0] at nx
      rw [z, hx0 (fun s a1 a2 _ => hno2 s a1 a2)]
      exact br_t rfl (br_t rfl (br_t rfl (nm_r (nI_1 v) nx)))
    · have hb := (hS s hs).2.2 hz
      have hb1 := (hS s hs).1
      have huniq : ∀ t, t < 30 → 0 < sz t → sr t = v → t = s := by
        intro t a1 a2 a3
        by_cases et : t = s
        · exact et
        · exact absurd (a3.trans e) (hD t s a1 hs et a2 hz).1
      have nz : ¬ nI (st s) = 0 := nI_ne0 (by omega) (by omega)
      rw [z]
      refine br_f nz (pv_in (by omega) (by omega) (fun hmk2 => ?_) (fun hmk2 => ?_))
      · have hin := (hm s hs hz).mp hmk2
        have ezs := hz1 s hin
        have hbx := (hSx s hs).2.2 (by omega)
        have hbx1 := (hSx s hs).1
        have eS2 : S2 v = st2 s := by rw [e]; exact (hXx s hs (by omega)).1
        have e0 : pv_lost sr sz l (v + 1) = pv_lost sr sz l v := by
          refine mc_sm_congr 30 (fun t ht => mc_if_cg ?_)
          constructor
          · rintro ⟨a1, a2, a3⟩
            have hne : sr t ≠ v := fun y => by
              rw [huniq t ht a1 y] at a2
              exact a2 hin
            exact ⟨a1, a2, by omega⟩
          · rintro ⟨a1, a2, a3⟩
            exact ⟨a1, a2, by omega⟩
        rw [e0] at nx
        have h97 : ∀ x5 : Int32, wL_law_1197 post Ln xs J (wL_law_1109 post Ln xs J (nI n) (nI mk) x6 x7 x8 (nI (mc_sm (mc_kc l sz) 30)) pins lo hi kcn ksn (nI n) (nI lim) kc2 (mc_oI op2) (nI mk) (nI U2) H w2 (fun j => nI (W2 j)) (fun j => nI (S2 j)) (fun j => nI (P j)) (fun j => nI (R j)) (fun j => nI (O2 j)) (fun j => nI (px2 j)) (fun j => nI (cd2 j)) (fun j => nI (K2 j)) (nI n) (nI lim) kc (mc_oI op) (nI mk) (nI U) H wd (fun j => nI (W j)) (fun j => nI (S j)) (fun j => nI (P j)) (fun j => nI (R j)) (fun j => nI (O j)) (fun j => nI (px j)) (fun j => nI (cd j)) (fun j => nI (K j)) (d + 1)) (nI n) x5 x6 x7 x8 (nI (mc_sm (mc_kc l sz) 30)) pins lo hi (nI (pv_lost sr sz l v)) (nI v) (nI (st s)) (nI (st2 s)) kcn ksn (nI n) (nI lim) kc2 (mc_oI op2) (nI mk) (nI U2) H w2 (fun j => nI (W2 j)) (fun j => nI (S2 j)) (fun j => nI (P j)) (fun j => nI (R j)) (fun j => nI (O2 j)) (fun j => nI (px2 j)) (fun j => nI (cd2 j)) (fun j => nI (K2 j)) (nI n) (nI lim) kc (mc_oI op) (nI mk) (nI U) H wd (fun j => nI (W j)) (fun j => nI (S j)) (fun j => nI (P j)) (fun j => nI (R j)) (fun j => nI (O j)) (fun j => nI (px j)) (fun j => nI (cd j)) (fun j => nI (K j)) := by
          intro x5
          rw [e] at nx ⊢
          exact pl_1197 hCC hs hz hin nx
        rw [eS2]
        refine br_f (by decide) (br_f (nI_ne0 (by omega) (by omega)) (pv_page (by omega) (by omega) ?_))
        by_cases c : pn ((st s - 1000) / 8) = 1
        · refine br_f (fun y => (pv_bt (by omega)).mp y ((hpins _ (by omega)).mpr c)) (br_t ?_ (h97 _))
          rw [hpin s hs hz hin c]
        · exact br_t ((pv_bt (by omega)).mpr (fun y => c ((hpins _ (by omega)).mp y))) (h97 _)
      · have hin : ¬ mc_in l s := fun y => hmk2 ((hm s hs hz).mpr y)
        have e0 : pv_lost sr sz l (v + 1) = pv_lost sr sz l v + 1 := by
          refine mc_sm_pt (k := s) 30 hs ?_ (fun t ht hne => mc_if_cg ?_)
          · show mc_if (0 < sz s ∧ ¬ mc_in l s ∧ sr s < v + 1) 1 0 = mc_if (0 < sz s ∧ ¬ mc_in l s ∧ sr s < v) 1 0 + 1
            rw [mc_if_t ⟨hz, hin, by omega⟩, mc_if_f (fun y => by omega)]
          · constructor
            · rintro ⟨a1, a2, a3⟩
              have hnv : sr t ≠ v := fun y => hne (huniq t ht a1 y)
              exact ⟨a1, a2, by omega⟩
            · rintro ⟨a1, a2, a3⟩
              exact ⟨a1, a2, by omega⟩
        rw [e0] at nx
        rw [hx0 (fun t a1 a2 a3 a4 => by
          rw [huniq t a1 a2 a4] at a3
          exact hin a3)]
        exact br_t rfl (br_t rfl (br_f nz (nm_r (nI_1 _) (nm_r (nI_1 v) nx))))
end
end
section
/-! the law's turns -/
section
variable {post : Int32 → Prop} {Ln : Nat} {xs : Nat → Int32} {J : Int32 → Int32 → Int32 → Int32 → Int32 → Int32 → Int32 → Int32 → Int32 → Int32 → (Nat → Int32) → (Nat → Int32) → (Nat → Int32) → (Nat → Int32) → (Nat → Int32) → (Nat → Int32) → (Nat → Int32) → (Nat → Int32) → (Nat → Int32) → (Nat → Int32) → Int32 → Int32 → Int32 → Int32 → Int32 → Int32 → (Nat → Int32) → (Nat → Int32) → (Nat → Int32) → (Nat → Int32) → (Nat → Int32) → (Nat → Int32) → (Nat → Int32) → (Nat → Int32) → (Nat → Int32) → (Nat → Int32) → Prop} {n lim mk : Nat} {kcn ksn : Nat}
theorem pv_cell {x : Int32} {p : Nat} (hL : Ln ≤ 260) (hp : p < 2 ^ 31) (ex : x = nI p) (h : ∀ c, post c) : wpL_cell post Ln xs () x := by
  subst ex
  unfold wpL_cell
  by_cases c : Ln ≤ p
  · exact br_t (nI_le c hp) (h 0)
  · exact br_f (nI_ge (by omega) (by omega)) ⟨vp_in_nI (by omega) (by omega), h _⟩
theorem pv_pick {x : Int32} {p m : Nat} (hL : Ln ≤ 260) (hp : p < 2 ^ 31) (ex : x = nI p) (hm : 0 < m) (hm2 : m < 2 ^ 31) (h : ∀ j, j < m → post (nI j)) : wpL_pick post Ln xs () x (nI m) := by
  unfold wpL_pick
  refine pv_cell hL hp ex (fun c => ⟨nI_ne0 hm hm2, ?_⟩)
  obtain ⟨j, hj, e⟩ := pk_andE c (m := 2147483647) 31 (by decide)
  rw [e, pk_rem hj hm hm2]
  exact h _ (Nat.mod_lt _ hm)
section
variable {pos stp : Nat} {x7 : Int32} {a1 a2 a3 a4 a5 a6 : Int32} {a7 a8 a9 a10 a11 a12 a13 a14 a15 a16 : Nat → Int32}
theorem pl_338 {x10 x11 x17 : Int32} (hn8 : n ≤ 8) (hG : pv_Gd n lim mk (a1, a2, a3, a4, a5, a6, a7, a8, a9, a10, a11, a12, a13, a14, a15, a16))
    (hJ : ∀ (mk' pos' : Nat) (b1 b2 b3 b4 b5 b6 : Int32) (b7 b8 b9 b10 b11 b12 b13 b14 b15 b16 : Nat → Int32), pos' ≤ pos + 4 → pv_Gd n lim mk' (b1, b2, b3, b4, b5, b6, b7, b8, b9, b10, b11, b12, b13, b14, b15, b16) → J (nI mk') (nI pos') x7 (nI (stp + 1)) b1 b2 b3 b4 b5 b6 b7 b8 b9 b10 b11 b12 b13 b14 b15 b16 b1 b2 b3 b4 b5 b6 b7 b8 b9 b10 b11 b12 b13 b14 b15 b16) :
    wL_law_338 post Ln xs J (nI n) (nI mk) (nI pos) x7 (nI stp) x10 x11 x17 kcn ksn a1 a2 a3 a4 a5 a6 a7 a8 a9 a10 a11 a12 a13 a14 a15 a16 a1 a2 a3 a4 a5 a6 a7 a8 a9 a10 a11 a12 a13 a14 a15 a16 := by
  obtain ⟨r1, ⟨b1, b2, b3, b4, b5, b6, b7, b8, b9, b10, b11, b12, b13, b14, b15, b16⟩, hG1, k1⟩ := pv_setRoot hn8 hG x10 x17
  obtain ⟨r2, ⟨c1, c2, c3, c4, c5, c6, c7, c8, c9, c10, c11, c12, c13, c14, c15, c16⟩, hG2, k2⟩ := pv_setRoot hn8 hG1 x11 0
  unfold wL_law_338
  exact k1 _ (k1 _ (k2 _ (k2 _ (nm_r (nI_add pos 4) (nm_r (nI_1 stp) (hJ mk (pos + 4) c1 c2 c3 c4 c5 c6 c7 c8 c9 c10 c11 c12 c13 c14 c15 c16 (by omega) hG2))))))
theorem pl_310 {x10 x11 x14 x15 x16 x17 : Int32} (hn8 : n ≤ 8) (hG : pv_Gd n lim mk (a1, a2, a3, a4, a5, a6, a7, a8, a9, a10, a11, a12, a13, a14, a15, a16))
    (hJ : ∀ (mk' pos' : Nat) (b1 b2 b3 b4 b5 b6 : Int32) (b7 b8 b9 b10 b11 b12 b13 b14 b15 b16 : Nat → Int32), pos' ≤ pos + 4 → pv_Gd n lim mk' (b1, b2, b3, b4, b5, b6, b7, b8, b9, b10, b11, b12, b13, b14, b15, b16) → J (nI mk') (nI pos') x7 (nI (stp + 1)) b1 b2 b3 b4 b5 b6 b7 b8 b9 b10 b11 b12 b13 b14 b15 b16 b1 b2 b3 b4 b5 b6 b7 b8 b9 b10 b11 b12 b13 b14 b15 b16) :
    wL_law_310 post Ln xs J (nI n) (nI mk) (nI pos) x7 (nI stp) x10 x11 x14 x15 x16 x17 kcn ksn a1 a2 a3 a4 a5 a6 a7 a8 a9 a10 a11 a12 a13 a14 a15 a16 a1 a2 a3 a4 a5 a6 a7 a8 a9 a10 a11 a12 a13 a14 a15 a16 := by
  obtain ⟨r1, ⟨b1, b2, b3, b4, b5, b6, b7, b8, b9, b10, b11, b12, b13, b14, b15, b16⟩, hG1, k1⟩ := pv_put hn8 hG x11 x14 x16
  unfold wL_law_310
  exact br_c (fun _ => pl_338 hn8 hG hJ) (fun _ => k1 _ (k1 _ (pl_338 hn8 hG1 hJ)))
theorem pl_670 {x10 z : Int32} (hn8 : n ≤ 8) (hG : pv_Gd n lim mk (a1, a2, a3, a4, a5, a6, a7, a8, a9, a10, a11, a12, a13, a14, a15, a16))
    (hJ : ∀ (mk' pos' : Nat) (b1 b2 b3 b4 b5 b6 : Int32) (b7 b8 b9 b10 b11 b12 b13 b14 b15 b16 : Nat → Int32), pos' ≤ pos + 4 → pv_Gd n lim mk' (b1, b2, b3, b4, b5, b6, b7, b8, b9, b10, b11, b12, b13, b14, b15, b16) → J (nI mk') (nI pos') x7 (nI (stp + 1)) b1 b2 b3 b4 b5 b6 b7 b8 b9 b10 b11 b12 b13 b14 b15 b16 b1 b2 b3 b4 b5 b6 b7 b8 b9 b10 b11 b12 b13 b14 b15 b16) :
    wL_law_670 post Ln xs J (nI n) (nI mk) (nI pos) x7 (nI stp) x10 z kcn ksn a1 a2 a3 a4 a5 a6 a7 a8 a9 a10 a11 a12 a13 a14 a15 a16 a1 a2 a3 a4 a5 a6 a7 a8 a9 a10 a11 a12 a13 a14 a15 a16 := by
  obtain ⟨r1, ⟨b1, b2, b3, b4, b5, b6, b7, b8, b9, b10, b11, b12, b13, b14, b15, b16⟩, hG1, k1⟩ := pv_setRoot hn8 hG x10 z
  unfold wL_law_670
  exact k1 _ (k1 _ (nm_r (nI_add pos 4) (nm_r (nI_1 stp) (hJ mk (pos + 4) b1 b2 b3 b4 b5 b6 b7 b8 b9 b10 b11 b12 b13 b14 b15 b16 (by omega) hG1))))
theorem pl_547 {x10 x13 z : Int32} (hn8 : n ≤ 8) (hG : pv_Gd n lim mk (a1, a2, a3, a4, a5, a6, a7, a8, a9, a10, a11, a12, a13, a14, a15, a16))
    (hJ : ∀ (mk' pos' : Nat) (b1 b2 b3 b4 b5 b6 : Int32) (b7 b8 b9 b10 b11 b12 b13 b14 b15 b16 : Nat → Int32), pos' ≤ pos + 4 → pv_Gd n lim mk' (b1, b2, b3, b4, b5, b6, b7, b8, b9, b10, b11, b12, b13, b14, b15, b16) → J (nI mk') (nI pos') x7 (nI (stp + 1)) b1 b2 b3 b4 b5 b6 b7 b8 b9 b10 b11 b12 b13 b14 b15 b16 b1 b2 b3 b4 b5 b6 b7 b8 b9 b10 b11 b12 b13 b14 b15 b16) :
    wL_law_547 post Ln xs J (nI n) (nI mk) (nI pos) x7 (nI stp) x10 x13 z kcn ksn a1 a2 a3 a4 a5 a6 a7 a8 a9 a10 a11 a12 a13 a14 a15 a16 a1 a2 a3 a4 a5 a6 a7 a8 a9 a10 a11 a12 a13 a14 a15 a16 := by
  obtain ⟨r1, ⟨b1, b2, b3, b4, b5, b6, b7, b8, b9, b10, b11, b12, b13, b14, b15, b16⟩, hG1, k1⟩ := pv_put hn8 hG x10 (x13 - x13 / 3 * 3) z
  unfold wL_law_547
  exact ⟨by decide, k1 _ ⟨by decide, k1 _ (nm_r (nI_add pos 4) (nm_r (nI_1 stp) (hJ mk (pos + 4) b1 b2 b3 b4 b5 b6 b7 b8 b9 b10 b11 b12 b13 b14 b15 b16 (by omega) hG1)))⟩⟩
theorem pl_415 {x10 x14 z : Int32} (hn8 : n ≤ 8) (hG : pv_Gd n lim mk (a1, a2, a3, a4, a5, a6, a7, a8, a9, a10, a11, a12, a13, a14, a15, a16))
    (hJ : ∀ (mk' pos' : Nat) (b1 b2 b3 b4 b5 b6 : Int32) (b7 b8 b9 b10 b11 b12 b13 b14 b15 b16 : Nat → Int32), pos' ≤ pos + 4 → pv_Gd n lim mk' (b1, b2, b3, b4, b5, b6, b7, b8, b9, b10, b11, b12, b13, b14, b15, b16) → J (nI mk') (nI pos') x7 (nI (stp + 1)) b1 b2 b3 b4 b5 b6 b7 b8 b9 b10 b11 b12 b13 b14 b15 b16 b1 b2 b3 b4 b5 b6 b7 b8 b9 b10 b11 b12 b13 b14 b15 b16) :
    wL_law_415 post Ln xs J (nI n) (nI mk) (nI pos) x7 (nI stp) x10 x14 z kcn ksn a1 a2 a3 a4 a5 a6 a7 a8 a9 a10 a11 a12 a13 a14 a15 a16 a1 a2 a3 a4 a5 a6 a7 a8 a9 a10 a11 a12 a13 a14 a15 a16 := by
  obtain ⟨r1, ⟨b1, b2, b3, b4, b5, b6, b7, b8, b9, b10, b11, b12, b13, b14, b15, b16⟩, hG1, k1⟩ := pv_alloc hn8 hG x10 x14 z
  unfold wL_law_415
  refine k1 _ ?_
  rcases hG1 with ⟨c, hG1⟩ | ⟨c, hG1⟩
  · exact br_t c (k1 _ (nm_r (nI_add pos 4) (nm_r (nI_1 stp) (hJ mk (pos + 4) b1 b2 b3 b4 b5 b6 b7 b8 b9 b10 b11 b12 b13 b14 b15 b16 (by omega) hG1))))
  · exact br_f c (nm_r (nI_1 mk) (k1 _ (nm_r (nI_add pos 4) (nm_r (nI_1 stp) (hJ (mk + 1) (pos + 4) b1 b2 b3 b4 b5 b6 b7 b8 b9 b10 b11 b12 b13 b14 b15 b16 (by omega) hG1)))))
theorem pl_coll (hn8 : n ≤ 8) (hG : pv_Gd n lim mk (a1, a2, a3, a4, a5, a6, a7, a8, a9, a10, a11, a12, a13, a14, a15, a16))
    (hJ : ∀ (mk' pos' : Nat) (b1 b2 b3 b4 b5 b6 : Int32) (b7 b8 b9 b10 b11 b12 b13 b14 b15 b16 : Nat → Int32), pos' ≤ pos + 4 → pv_Gd n lim mk' (b1, b2, b3, b4, b5, b6, b7, b8, b9, b10, b11, b12, b13, b14, b15, b16) → J (nI mk') (nI pos') x7 (nI (stp + 1)) b1 b2 b3 b4 b5 b6 b7 b8 b9 b10 b11 b12 b13 b14 b15 b16 b1 b2 b3 b4 b5 b6 b7 b8 b9 b10 b11 b12 b13 b14 b15 b16) :
    wpX_collect (fun r u => match u with | (b1, b2, b3, b4, b5, b6, b7, b8, b9, b10, b11, b12, b13, b14, b15, b16) => ∃ f, wL_law_718 post Ln xs J (nI n) (nI mk) (nI (pos + 1)) x7 (nI stp) r 0 0 kcn ksn b1 b2 b3 b4 b5 b6 b7 b8 b9 b10 b11 b12 b13 b14 b15 b16 a1 a2 a3 a4 a5 a6 a7 a8 a9 a10 a11 a12 a13 a14 a15 a16 f 0 0) (a1, a2, a3, a4, a5, a6, a7, a8, a9, a10, a11, a12, a13, a14, a15, a16) := by
  obtain ⟨op, U, kc, H, wd, ce, W, S, P, R, O, px, cd, K, sr, st, sz, pc, e, hG0⟩ := hG
  cases e
  obtain ⟨pn, l, m0, op2, U2, st2, S2, W2, O2, cd2, K2, w2, hPN, hlg, hpn, hcl, hsrc, hpin, hG2, hcol⟩ := px_collect (n := n) (kc := a3) (H := a7) (px := px) (cd := cd) (K := K) hn8 hG0
  have hCC : pv_C n mk lim op op2 U U2 a7 ce a8 w2 W S P R O sr st sz pc pn st2 S2 W2 O2 l m0 := ⟨hG0, hG2, hPN, hlg, hpn, hcl, hsrc, hpin⟩
  have hS := hG0.1
  refine hcol _ ⟨n + 1, pl_718 hn8 hCC (fun pins hpins => ?_) n 0 0 (by omega) (fun p _ => ⟨fun z => absurd z (pv_b0 p), fun ⟨r, s, hr, _⟩ => absurd hr (by omega)⟩)⟩
  refine ⟨mk + 1, pl_813 hCC hpins (fun lo hi hm => ?_) mk 1 0 0 (by omega) (by omega) (fun q _ => ⟨fun z => absurd z (pv_m0 q), fun ⟨t, a1, a2, a3, _⟩ => ?_⟩)⟩
  · refine ⟨33, pl_907 hCC (fun lo' hi' hm' => ?_) 32 0 lo hi 1 (by omega) ⟨fun q hq z => ?_, fun t a1 a2 a3 => ?_⟩ (Or.inl ⟨rfl, Nat.zero_le _⟩)⟩
    · have e0 : pv_lost sr sz l 1 = 0 := mc_sm_0 30 (fun t ht => mc_if_f (fun c => by
        have := (hS t ht).2.2 c.1
        omega))
      have := pl_1109 (post := post) (Ln := Ln) (xs := xs) (J := J) (x6 := nI (pos + 1)) (x7 := x7) (x8 := nI stp) (kcn := kcn) (ksn := ksn) hCC hpins hm' hcol (fun x ex => by
        rw [ex, nI_1]
        exact hJ mk (pos + 1) _ _ _ _ _ _ _ _ _ _ _ _ _ _ _ _ (by omega) (pv_gd hG2)) mk 1 (by omega) (by omega)
      rw [e0] at this
      exact ⟨mk + 1, this⟩
    · obtain ⟨t, a1, a2, a3, a4⟩ := (hm q hq).mp z
      obtain ⟨i, i1, i2, i3⟩ := (hpn t a1 a2).mp a3
      exact ⟨t, a1, a2, ⟨i, i2, i3⟩, a4⟩
    · have := (hS t a1).1
      exact (hm _ (by omega)).mpr ⟨t, a1, a2, a3, rfl⟩
  · have := (hS t a1).2.2 a2
    omega
theorem pl_119 {z : Int32} (hn2 : 2 ≤ n) (hn8 : n ≤ 8) (hL : Ln ≤ 260) (hpos : pos < 100000) (hG : pv_Gd n lim mk (a1, a2, a3, a4, a5, a6, a7, a8, a9, a10, a11, a12, a13, a14, a15, a16))
    (hJ : ∀ (mk' pos' : Nat) (b1 b2 b3 b4 b5 b6 : Int32) (b7 b8 b9 b10 b11 b12 b13 b14 b15 b16 : Nat → Int32), pos' ≤ pos + 4 → pv_Gd n lim mk' (b1, b2, b3, b4, b5, b6, b7, b8, b9, b10, b11, b12, b13, b14, b15, b16) → J (nI mk') (nI pos') x7 (nI (stp + 1)) b1 b2 b3 b4 b5 b6 b7 b8 b9 b10 b11 b12 b13 b14 b15 b16 b1 b2 b3 b4 b5 b6 b7 b8 b9 b10 b11 b12 b13 b14 b15 b16) :
    wL_law_119 post Ln xs J (nI n) (nI mk) (nI pos) x7 (nI stp) z kcn ksn a1 a2 a3 a4 a5 a6 a7 a8 a9 a10 a11 a12 a13 a14 a15 a16 a1 a2 a3 a4 a5 a6 a7 a8 a9 a10 a11 a12 a13 a14 a15 a16 := by
  have hne : ¬ nI n = 0 := nI_ne0 (by omega) (by omega)
  unfold wL_law_119
  refine pv_pick hL (p := pos + 1) (by omega) (nI_1 pos) (by omega) (by omega) (fun i hi => ?_)
  refine pv_pick hL (p := pos + 2) (by omega) (nI_add pos 2) (by omega) (by omega) (fun j hj => ?_)
  refine pv_cell hL (p := pos + 3) (by omega) (nI_add pos 3) (fun c => ?_)
  obtain ⟨t, ht, et⟩ := pk_andE c (m := 2147483647) 31 (by decide)
  refine nm_r et (br_c (fun _ => nm_r (nI_1 pos) (pl_coll hn8 hG hJ)) (fun _ => br_c (fun _ => br_c (fun _ => br_c (fun _ => ?_) (fun _ => ?_)) (fun _ => ?_)) (fun _ => ?_)))
  · refine br_c (fun _ => ⟨by decide, ?_⟩) (fun _ => br_c (fun _ => ⟨by decide, ?_⟩) (fun _ => br_c (fun _ => ?_) (fun _ => br_c (fun _ => ?_) (fun _ => ⟨by decide, br_c (fun _ => pl_670 hn8 hG hJ) (fun _ => ⟨by decide, pl_670 hn8 hG hJ⟩)⟩))))
    · obtain ⟨r1, ⟨b1, b2, b3, b4, b5, b6, b7, b8, b9, b10, b11, b12, b13, b14, b15, b16⟩, hG1, k1⟩ := pv_load hn8 hG (nI j) (nI i) (nI t - nI t / 3 * 3)
      exact k1 _ ⟨by decide, k1 _ (nm_r (nI_add pos 4) (nm_r (nI_1 stp) (hJ mk (pos + 4) b1 b2 b3 b4 b5 b6 b7 b8 b9 b10 b11 b12 b13 b14 b15 b16 (by omega) hG1)))⟩
    · refine br_c (fun _ => ?_) (fun _ => pl_547 hn8 hG hJ)
      obtain ⟨r1, k1⟩ := pv_root hn8 hG (nI j)
      exact k1 _ (pl_547 hn8 hG hJ)
    · obtain ⟨r1, ⟨b1, b2, b3, b4, b5, b6, b7, b8, b9, b10, b11, b12, b13, b14, b15, b16⟩, hG1, k1⟩ := pv_setRoot hn8 hG (nI i) 0
      exact k1 _ (k1 _ (nm_r (nI_add pos 4) (nm_r (nI_1 stp) (hJ mk (pos + 4) b1 b2 b3 b4 b5 b6 b7 b8 b9 b10 b11 b12 b13 b14 b15 b16 (by omega) hG1))))
    · obtain ⟨r1, k1⟩ := pv_root hn8 hG (nI i)
      refine k1 _ ⟨by decide, nm_e ?_⟩
      obtain ⟨r2, ⟨b1, b2, b3, b4, b5, b6, b7, b8, b9, b10, b11, b12, b13, b14, b15, b16⟩, hG1, k2⟩ := pv_setRoot hn8 hG (nI j) (r1 + (nI t - nI t / 4 * 4))
      exact k2 _ (k2 _ (nm_r (nI_add pos 4) (nm_r (nI_1 stp) (hJ mk (pos + 4) b1 b2 b3 b4 b5 b6 b7 b8 b9 b10 b11 b12 b13 b14 b15 b16 (by omega) hG1))))
  · obtain ⟨r1, ⟨b1, b2, b3, b4, b5, b6, b7, b8, b9, b10, b11, b12, b13, b14, b15, b16⟩, hG1, k1⟩ := pv_link hn8 hG (nI i) (nI t - nI t / 3 * 3) (nI j)
    exact ⟨by decide, k1 _ ⟨by decide, k1 _ (nm_r (nI_add pos 4) (nm_r (nI_1 stp) (hJ mk (pos + 4) b1 b2 b3 b4 b5 b6 b7 b8 b9 b10 b11 b12 b13 b14 b15 b16 (by omega) hG1)))⟩⟩
  · have e4 : nI t - nI t / 4 * 4 = nI (t % 4) := pk_rem (d := 4) ht (by omega) (by omega)
    refine ⟨by decide, nm_r e4 (br_c (fun _ => ⟨by decide, by decide, pl_415 hn8 hG hJ⟩) (fun _ => ⟨by decide, ?_, pl_415 hn8 hG hJ⟩))⟩
    have e5 : (4 : Int32) - nI (t % 4) = nI (4 - t % 4) := pk_sub (a := 4) (by omega)
    rw [e5]
    exact nI_ne0 (by omega) (by omega)
  · have e1 : nI n - 1 = nI (n - 1) := pk_sub (b := 1) (by omega)
    rw [e1]
    refine pv_pick hL (p := pos + 2) (by omega) (nI_add pos 2) (by omega) (by omega) (fun y _ => ⟨hne, nm_e ⟨by decide, ?_⟩⟩)
    have e3 : 1 + (nI t - nI t / 3 * 3) = nI (1 + t % 3) := by
      have := pk_rem (a := t) (d := 3) ht (by omega) (by omega)
      refine Eq.trans (congrArg (fun z => 1 + z) this) ?_
      exact mn_1a (t % 3)
    have e5 : (4 : Int32) - nI (1 + t % 3) = nI (4 - (1 + t % 3)) := pk_sub (a := 4) (by omega)
    refine nm_r e3 ⟨by decide, ?_, nm_e ?_⟩
    · rw [e5]
      exact nI_ne0 (by omega) (by omega)
    · obtain ⟨r0, k0⟩ := pv_root hn8 hG (nI i)
      refine k0 _ ?_
      generalize nI i + 1 + nI y - (nI i + 1 + nI y) / nI n * nI n = x11
      generalize nI t / 3 - nI t / 3 / (4 - nI (1 + t % 3)) * (4 - nI (1 + t % 3)) = x15
      obtain ⟨r1, ⟨b1, b2, b3, b4, b5, b6, b7, b8, b9, b10, b11, b12, b13, b14, b15, b16⟩, hG1, k1⟩ := pv_alloc hn8 hG x11 (nI (1 + t % 3)) x15
      refine k1 _ (k1 _ ?_)
      rcases hG1 with ⟨c, hG1⟩ | ⟨c, hG1⟩
      · exact br_t c (nm_r (nI_add pos 4) (nm_r (nI_1 stp) (hJ mk (pos + 4) b1 b2 b3 b4 b5 b6 b7 b8 b9 b10 b11 b12 b13 b14 b15 b16 (by omega) hG1)))
      · obtain ⟨r2, ⟨c1, c2, c3, c4, c5, c6, c7, c8, c9, c10, c11, c12, c13, c14, c15, c16⟩, hG2, k2⟩ := pv_link hn8 hG1 x11 0 (nI i)
        refine br_f c (nm_r (nI_1 mk) (k2 _ (k2 _ (br_c (fun _ => pl_310 hn8 hG2 hJ) (fun _ => ⟨hne, ?_⟩)))))
        obtain ⟨r3, ⟨d1, d2, d3, d4, d5, d6, d7, d8, d9, d10, d11, d12, d13, d14, d15, d16⟩, hG3, k3⟩ := pv_link hn8 hG2 x11 (nI (1 + t % 3) - 1) (nI t - nI t / nI n * nI n)
        exact k3 _ ⟨hne, k3 _ (pl_310 hn8 hG3 hJ)⟩
theorem pl_54 (hn2 : 2 ≤ n) (hn8 : n ≤ 8) (hL : Ln ≤ 260) :
    ∀ (d stp mk pos b : Nat) (a1 a2 a3 a4 a5 a6 : Int32) (a7 a8 a9 a10 a11 a12 a13 a14 a15 a16 : Nat → Int32), stp + d = Ln + 7 → pos ≤ 4 * stp + 2 → b < 2 → pv_Gd n lim mk (a1, a2, a3, a4, a5, a6, a7, a8, a9, a10, a11, a12, a13, a14, a15, a16) →
      wL_law_54 (fun r => r = 1) Ln xs (nI n) kcn ksn (d + 1) (nI mk) (nI pos) (nI b) (nI stp) a1 a2 a3 a4 a5 a6 a7 a8 a9 a10 a11 a12 a13 a14 a15 a16 a1 a2 a3 a4 a5 a6 a7 a8 a9 a10 a11 a12 a13 a14 a15 a16 := by
  have e6 : Int32.ofNat Ln + 6 = nI (Ln + 6) := nI_add Ln 6
  intro d
  induction d with
  | zero =>
    intro stp mk pos b a1 a2 a3 a4 a5 a6 a7 a8 a9 a10 a11 a12 a13 a14 a15 a16 hs hp hb hG
    by_cases c : b = 0
    · rw [c]
      refine br_t rfl (br_t ?_ rfl)
      rw [e6]
      exact nI_lt (by omega) (by omega)
    · exact br_f (nI_ne0 (by omega) (by omega)) rfl
  | succ d ih =>
    intro stp mk pos b a1 a2 a3 a4 a5 a6 a7 a8 a9 a10 a11 a12 a13 a14 a15 a16 hs hp hb hG
    by_cases c : b = 0
    · rw [c]
      have hgo : ∀ (w : Nat) (z : Int32), w < 2 → wL_law_119 (fun r => r = 1) Ln xs (wL_law_54 (fun r => r = 1) Ln xs (nI n) kcn ksn (d + 1)) (nI n) (nI mk) (nI pos) (nI w) (nI stp) z kcn ksn a1 a2 a3 a4 a5 a6 a7 a8 a9 a10 a11 a12 a13 a14 a15 a16 a1 a2 a3 a4 a5 a6 a7 a8 a9 a10 a11 a12 a13 a14 a15 a16 :=
        fun w z hw => pl_119 hn2 hn8 hL (by omega) hG (fun mk' pos' b1 b2 b3 b4 b5 b6 b7 b8 b9 b10 b11 b12 b13 b14 b15 b16 hp' hG' => ih (stp + 1) mk' pos' w b1 b2 b3 b4 b5 b6 b7 b8 b9 b10 b11 b12 b13 b14 b15 b16 (by omega) (by omega) hw hG')
      have h88 : ∀ w : Nat, w < 2 → wL_law_88 (fun r => r = 1) Ln xs (wL_law_54 (fun r => r = 1) Ln xs (nI n) kcn ksn (d + 1)) (nI n) (nI mk) (nI pos) (nI stp) (nI w) kcn ksn a1 a2 a3 a4 a5 a6 a7 a8 a9 a10 a11 a12 a13 a14 a15 a16 a1 a2 a3 a4 a5 a6 a7 a8 a9 a10 a11 a12 a13 a14 a15 a16 := by
        intro w hw
        unfold wL_law_88
        exact br_c (fun _ => br_c (fun _ => pv_pick (m := 16) hL (by omega) rfl (by omega) (by omega) (fun j _ => hgo w _ hw)) (fun _ => hgo w _ hw)) (fun _ => hgo w _ hw)
      refine br_t rfl (br_f ?_ (br_c (fun _ => h88 0 (by omega)) (fun _ => br_c (fun _ => h88 0 (by omega)) (fun _ => h88 1 (by omega)))))
      rw [e6]
      exact nI_nlt (by omega) (by omega)
    · exact br_f (nI_ne0 (by omega) (by omega)) rfl
end
end
theorem i_vc (xs : Nat → Int32) (L : Nat) (hL : L ≤ 260) : wpL_law (fun r => r = 1) L xs := by
  unfold wpL_law
  refine pv_pick (p := 0) (m := 7) hL (by omega) rfl (by omega) (by omega) (fun i hi => nm_r (nI_add 2 i) ?_)
  refine pv_pick (p := 1) (m := 37) hL (by omega) rfl (by omega) (by omega) (fun j hj => nm_r (nI_add 24 j) ?_)
  have hinit : ∀ (post : St2 → Prop), post (nI (2 + i), nI (24 + j), 0, (-1), 0, 0, (fun _ => 0), (fun _ => 0), (fun _ => 0), (fun _ => 0), (fun _ => 0), (fun _ => 0), (fun _ => 0), (fun _ => 0), (fun _ => 0), (fun _ => 0)) → wpX_init post 10 12934 (0, 0, 0, 0, 0, 0) (nI (2 + i)) (nI (24 + j)) := by
    intro post h
    refine ⟨by decide, by decide, by decide, by decide, by decide, by decide, by decide, by decide, by decide, by decide, by decide, by decide, by decide, by decide, by decide, by decide, by decide, by decide, by decide, by decide, ?_⟩
    exact br_t (nI_le (a := 2) (by omega) (by omega)) (br_t (nI_le (b := 8) (by omega) (by omega)) (br_t (nI_le (a := 16) (by omega) (by omega)) (br_t (nI_le (b := 60) (by omega) (by omega)) h)))
  have hG : pv_Gd (2 + i) (24 + j) 0 (nI (2 + i), nI (24 + j), 0, (-1), 0, 0, (fun _ => 0), (fun _ => 0), (fun _ => 0), (fun _ => 0), (fun _ => 0), (fun _ => 0), (fun _ => 0), (fun _ => 0), (fun _ => 0), (fun _ => 0)) :=
    ⟨32, 0, 0, (fun _ => 0), (fun _ => 0), (fun _ => 0), (fun _ => 0), (fun _ => 0), (fun _ => 0), (fun _ => 0), (fun _ => 0), (fun _ => 0), (fun _ => 0), (fun _ => 0), (fun _ => 0), (fun _ => 0), (fun _ => 0), (fun _ => 0), rfl, mc_G_0 (by omega) (by omega)⟩
  refine ⟨10, 12934, by decide, by decide, hinit _ ⟨by decide, by decide, 10, 12934, by decide, by decide, hinit _ ⟨L + 8, ?_⟩⟩⟩
  exact pl_54 (lim := 24 + j) (by omega) (by omega) hL (L + 7) 0 0 2 0 _ _ _ _ _ _ _ _ _ _ _ _ _ _ _ _ (by omega) (by omega) (by omega) hG
end
