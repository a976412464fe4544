/-! the picture: slots s < 30 with serial sr, start st, size sz, pointer count pc -/
section
variable {mk : Nat} {sr st sz pc S P R W : Nat → Nat}
def mc_w (st sz : Nat → Nat) (p s : Nat) : Nat := if 1000 + 8 * p ≤ st s ∧ st s < 1000 + 8 * p + 8 then sz s else 0
def mc_wo (st sz : Nat → Nat) (p : Nat) : Nat := mc_sm (mc_w st sz p) 30
theorem mc_w_t {p s : Nat} (h : 1000 + 8 * p ≤ st s ∧ st s < 1000 + 8 * p + 8) : mc_w st sz p s = sz s := if_pos h
theorem mc_w_f {p s : Nat} (h : ¬ (1000 + 8 * p ≤ st s ∧ st s < 1000 + 8 * p + 8)) : mc_w st sz p s = 0 := if_neg h
theorem mc_w_le (st sz : Nat → Nat) (p s : Nat) : mc_w st sz p s ≤ sz s := by
  by_cases h : 1000 + 8 * p ≤ st s ∧ st s < 1000 + 8 * p + 8
  · rw [mc_w_t h]; exact Nat.le_refl _
  · rw [mc_w_f h]; exact Nat.zero_le _
theorem mc_wo_le (st sz : Nat → Nat) (p : Nat) : mc_wo st sz p ≤ mc_sm sz 30 := mc_sm_le 30 (fun s _ => mc_w_le st sz p s)
theorem mc_wo_sum (st sz : Nat → Nat) (m : Nat) : mc_sm (fun p => mc_wo st sz p) m ≤ mc_sm sz 30 := by
  have e : mc_sm (fun p => mc_wo st sz p) m = mc_sm (fun s => mc_sm (fun p => mc_w st sz p s) m) 30 := mc_sm_swap (fun p s => mc_w st sz p s) m 30
  rw [e]
  refine mc_sm_le 30 (fun s _ => ?_)
  refine mc_sm_one (k := (st s - 1000) / 8) m (fun p _ hp => ?_) (fun _ => mc_w_le st sz _ s)
  exact mc_w_f (fun h => hp (by omega))
def mc_Slot (mk : Nat) (sr st sz pc : Nat → Nat) : Prop :=
  ∀ s, s < 30 → st s ≤ 1255 ∧ sz s ≤ 4 ∧ (0 < sz s → 2 ≤ sz s ∧ 1000 ≤ st s ∧ (st s - 1000) % 8 + sz s ≤ 8 ∧ 1 ≤ sr s ∧ sr s ≤ mk ∧ pc s < sz s)
def mc_Dis (sr st sz : Nat → Nat) : Prop :=
  ∀ s t, s < 30 → t < 30 → s ≠ t → 0 < sz s → 0 < sz t → sr s ≠ sr t ∧ (st s + sz s ≤ st t ∨ st t + sz t ≤ st s)
def mc_Fill (st sz : Nat → Nat) : Prop :=
  ∀ s, s < 30 → 0 < sz s → (st s - 1000) % 8 + sz s ≤ mc_wo st sz ((st s - 1000) / 8)
def mc_XS (sr st sz pc S P R W : Nat → Nat) : Prop :=
  ∀ s, s < 30 → 0 < sz s → S (sr s) = st s ∧ P (sr s) = pc s ∧ R (sr s) + pc s + 1 = sz s ∧ ∀ j, j < sz s → W (st s - 1000 + j) = sr s
def mc_XW (sr st sz W : Nat → Nat) : Prop :=
  ∀ i, i < 256 → W i = 0 ∨ ∃ s, s < 30 ∧ 0 < sz s ∧ W i = sr s ∧ st s ≤ 1000 + i ∧ 1000 + i < st s + sz s
def mc_XZ (sr sz S : Nat → Nat) : Prop := ∀ v, S v = 0 ∨ ∃ s, s < 30 ∧ 0 < sz s ∧ v = sr s
def mc_LC (sr st sz pc : Nat → Nat) (s k : Nat) (c w : Int32) : Prop :=
  (k < pc s → (c = 0 ∧ w = 0) ∨ ∃ t, t < 30 ∧ 0 < sz t ∧ c = nI (sr t) ∧ w = nI (st t)) ∧ (pc s ≤ k → w = c)
def mc_CG (st sz : Nat → Nat) (Q : Nat → Nat → Int32 → Prop) (words : Nat → Int32) : Prop :=
  ∀ s, s < 30 → 0 < sz s → ∀ k, k + 1 < sz s → Q s k (words (st s - 1000 + 1 + k))
def mc_th (st sz : Nat → Nat) (op p : Nat) : Nat := if 0 < mc_wo st sz p ∧ mc_wo st sz p < 5 ∧ p ≠ op then 1 else 0
def mc_Thin (st sz : Nat → Nat) (op : Nat) : Prop := mc_sm (mc_th st sz op) 32 ≤ 8
def mc_G (mk lim op : Nat) (sr st sz pc : Nat → Nat) (cell words : Nat → Int32) (S P R W O : Nat → Nat) (U : Nat) : Prop :=
  mc_Slot mk sr st sz pc ∧ mc_Dis sr st sz ∧ mc_Fill st sz ∧ mc_XS sr st sz pc S P R W ∧ mc_XW sr st sz W ∧ mc_XZ sr sz S ∧
  mc_CG st sz (fun s k w => mc_LC sr st sz pc s k (cell (3 * s + k)) w) words ∧ (P 0 = 0 ∧ R 0 = 0) ∧
  (∀ p, p < 32 → O p = mc_wo st sz p) ∧ mc_Thin st sz op ∧ U = mc_sm sz 30 ∧ U ≤ lim ∧ lim ≤ 60 ∧ op ≤ 32 ∧ mk ≤ 4095
def mc_At (sr st sz W : Nat → Nat) (w : Int32) (s : Nat) : Prop :=
  s < 30 ∧ 0 < sz s ∧ ∃ i, i < 256 ∧ w = nI (1000 + i) ∧ st s ≤ 1000 + i ∧ 1000 + i < st s + sz s ∧ W i = sr s
def mc_No (st sz W : Nat → Nat) (w : Int32) : Prop :=
  (∀ i, i < 256 → w = nI (1000 + i) → W i = 0) ∧ ∀ s, s < 30 → ¬ (nI (st s) ≤ w ∧ w < nI (st s + sz s))
theorem mc_own (hS : mc_Slot mk sr st sz pc) (hX : mc_XS sr st sz pc S P R W) (hW : mc_XW sr st sz W) (w : Int32) :
    (∃ s, mc_At sr st sz W w s) ∨ mc_No st sz W w := by
  by_cases h0 : w < 0
  · right
    refine ⟨fun i hi e => ?_, fun s hs hc => ?_⟩
    · rw [e] at h0
      exact absurd h0 (nI_pos (by omega))
    · have h1 := (hS s hs).1
      exact absurd (Int32.lt_of_le_of_lt hc.1 h0) (nI_pos (by omega))
  · obtain ⟨j, hj, rfl⟩ := nI_of h0
    by_cases hc : ∃ s, s < 30 ∧ st s ≤ j ∧ j < st s + sz s
    · left
      obtain ⟨s, hs, h1, h2⟩ := hc
      have hz : 0 < sz s := by omega
      obtain ⟨a1, a2, a3⟩ := hS s hs
      obtain ⟨b1, b2, b3, b4, b5, b6⟩ := a3 hz
      refine ⟨s, hs, hz, j - 1000, by omega, congrArg nI (by omega), by omega, by omega, ?_⟩
      rw [← (hX s hs hz).2.2.2 (j - st s) (by omega)]
      exact congrArg W (by omega)
    · right
      refine ⟨fun i hi e => ?_, fun s hs hcc => ?_⟩
      · have e2 := (nI_eq hj (by omega)).mp e
        rcases hW i hi with h | ⟨s, hs, hz, _, h1, h2⟩
        · exact h
        · exact absurd ⟨s, hs, by omega, by omega⟩ hc
      · have b := (hS s hs).1
        have b2 := (hS s hs).2.1
        have h1 := (nI_leI (by omega) hj).mp hcc.1
        have h2 := (nI_ltI hj (by omega)).mp hcc.2
        exact hc ⟨s, hs, h1, h2⟩
theorem mc_At_u (hD : mc_Dis sr st sz) {w : Int32} {s t : Nat} (hs : mc_At sr st sz W w s) (ht : mc_At sr st sz W w t) : s = t := by
  obtain ⟨a1, a2, i, hi, rfl, a3, a4, a5⟩ := hs
  obtain ⟨b1, b2, j, hj, e, b3, b4, b5⟩ := ht
  have e2 := (nI_eq (by omega) (by omega)).mp e
  by_cases h : s = t
  · exact h
  · have := (hD s t a1 b1 h a2 b2).2
    omega
/-- an address within slot s -/
theorem mc_At_i (hX : mc_XS sr st sz pc S P R W) (hS : mc_Slot mk sr st sz pc) {s a : Nat} (hs : s < 30) (h1 : st s ≤ a) (h2 : a < st s + sz s) : mc_At sr st sz W (nI a) s := by
  have hz : 0 < sz s := by omega
  obtain ⟨a1, a2, a3⟩ := hS s hs
  obtain ⟨b1, b2, b3, b4, b5, b6⟩ := a3 hz
  refine ⟨hs, hz, a - 1000, by omega, congrArg nI (by omega), by omega, by omega, ?_⟩
  rw [← (hX s hs hz).2.2.2 (a - st s) (by omega)]
  exact congrArg W (by omega)
theorem mc_No_0 (hS : mc_Slot mk sr st sz pc) : mc_No st sz W 0 := by
  refine ⟨fun i hi e => ?_, fun s hs hc => ?_⟩
  · rw [← nI_0] at e
    have := (nI_eq (by omega) (by omega)).mp e
    omega
  · obtain ⟨a1, a2, a3⟩ := hS s hs
    rw [← nI_0, nI_leI (by omega) (by omega), nI_ltI (by omega) (by omega)] at hc
    have := a3 (by omega)
    omega
/-- the finder: the slot that covers address a, or 30 -/
def mc_fd (st sz : Nat → Nat) (a : Nat) : Nat → Nat
  | 0 => 30
  | n + 1 => if st n ≤ a ∧ a < st n + sz n then n else mc_fd st sz a n
theorem mc_fd_spec (st sz : Nat → Nat) (a : Nat) : ∀ n, n ≤ 30 →
    (mc_fd st sz a n < n ∧ st (mc_fd st sz a n) ≤ a ∧ a < st (mc_fd st sz a n) + sz (mc_fd st sz a n)) ∨
    (mc_fd st sz a n = 30 ∧ ∀ s, s < n → ¬ (st s ≤ a ∧ a < st s + sz s)) := by
  intro n
  induction n with
  | zero => intro _; exact Or.inr ⟨rfl, fun s hs => by omega⟩
  | succ n ih =>
    intro hn
    by_cases h : st n ≤ a ∧ a < st n + sz n
    · have e : mc_fd st sz a (n + 1) = n := if_pos h
      rw [e]
      exact Or.inl ⟨by omega, h.1, h.2⟩
    · have e : mc_fd st sz a (n + 1) = mc_fd st sz a n := if_neg h
      rw [e]
      rcases ih (by omega) with h1 | h1
      · exact Or.inl ⟨by omega, h1.2⟩
      · refine Or.inr ⟨h1.1, fun s hs => ?_⟩
        by_cases hsn : s = n
        · rw [hsn]; exact h
        · exact h1.2 s (by omega)
theorem mc_fd_at (hD : mc_Dis sr st sz) {s a : Nat} (hs : s < 30) (h1 : st s ≤ a) (h2 : a < st s + sz s) : mc_fd st sz a 30 = s := by
  rcases mc_fd_spec st sz a 30 (by omega) with h | h
  · by_cases e : mc_fd st sz a 30 = s
    · exact e
    · have := (hD _ s h.1 hs e (by omega) (by omega)).2
      omega
  · exact absurd ⟨h1, h2⟩ (h.2 s hs)
theorem mc_fd_no {a : Nat} (h : ∀ s, s < 30 → ¬ (st s ≤ a ∧ a < st s + sz s)) : mc_fd st sz a 30 = 30 := by
  rcases mc_fd_spec st sz a 30 (by omega) with h1 | h1
  · exact absurd h1.2 (h _ h1.1)
  · exact h1.1
theorem mc_fd_le (st sz : Nat → Nat) (a : Nat) : mc_fd st sz a 30 ≤ 30 := by
  rcases mc_fd_spec st sz a 30 (by omega) with h1 | h1 <;> omega
/-- writes into one field -/
theorem mc_CG_upd {Q Q' : Nat → Nat → Int32 → Prop} {words : Nat → Int32} (hS : mc_Slot mk sr st sz pc) (hD : mc_Dis sr st sz) (h : mc_CG st sz Q words)
    {s k : Nat} (hs : s < 30) (hk : k + 1 < sz s) (x : Int32) (hx : Q' s k x) (ho : ∀ s' k' y, s' < 30 → k' + 1 < sz s' → (s' ≠ s ∨ k' ≠ k) → Q s' k' y → Q' s' k' y) :
    mc_CG st sz Q' (upd words (st s - 1000 + 1 + k) x) := by
  intro t ht hz j hj
  obtain ⟨_, _, c3⟩ := hS s hs
  obtain ⟨_, _, d3⟩ := hS t ht
  have c := c3 (by omega)
  have d := d3 hz
  by_cases hst : t = s
  · by_cases hjk : j = k
    · rw [hst, hjk, pk_us]; exact hx
    · rw [pk_un (by rw [hst]; omega)]
      exact ho t j _ ht hj (Or.inr hjk) (h t ht hz j hj)
  · have hd := (hD t s ht hs hst hz (by omega)).2
    rw [pk_un (by omega)]
    exact ho t j _ ht hj (Or.inl hst) (h t ht hz j hj)
theorem mc_CG_mono {Q Q' : Nat → Nat → Int32 → Prop} {words : Nat → Int32} (h : mc_CG st sz Q words) (ho : ∀ s k y, s < 30 → k + 1 < sz s → Q s k y → Q' s k y) : mc_CG st sz Q' words :=
  fun s hs hz k hk => ho s k _ hs hk (h s hs hz k hk)
end
