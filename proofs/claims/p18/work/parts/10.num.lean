/-! ranges of stores, numbers -/
def mc_rg (f : Nat → Nat) (a m x : Nat) : Nat → Nat := fun j => if a ≤ j ∧ j < a + m then x else f j
theorem mc_rg_0 (f : Nat → Nat) (a x : Nat) : mc_rg f a 0 x = f := by
  funext j
  exact if_neg (by omega)
theorem mc_rg_s (f : Nat → Nat) (a m x : Nat) : mc_up (mc_rg f a m x) (a + m) x = mc_rg f a (m + 1) x := by
  funext j
  by_cases h : j = a + m
  · rw [h, mc_us]
    exact (if_pos (by omega)).symm
  · rw [mc_un h]
    unfold mc_rg
    by_cases c : a ≤ j ∧ j < a + m
    · rw [if_pos c, if_pos (by omega)]
    · rw [if_neg c, if_neg (by omega)]
theorem mc_rg_in {f : Nat → Nat} {a m x j : Nat} (h : j < m) : mc_rg f a m x (a + j) = x := if_pos (by omega)
theorem mc_rg_out {f : Nat → Nat} {a m x i : Nat} (h : i < a ∨ a + m ≤ i) : mc_rg f a m x i = f i := if_neg (by omega)
def mc_rI (f : Nat → Int32) (a m : Nat) (x : Int32) : Nat → Int32 := fun j => if a ≤ j ∧ j < a + m then x else f j
theorem mc_rI_0 (f : Nat → Int32) (a : Nat) (x : Int32) : mc_rI f a 0 x = f := by
  funext j
  exact if_neg (by omega)
theorem mc_rI_s (f : Nat → Int32) (a m : Nat) (x : Int32) : upd (mc_rI f a m x) (a + m) x = mc_rI f a (m + 1) x := by
  funext j
  by_cases h : j = a + m
  · rw [h, pk_us]
    exact (if_pos (by omega)).symm
  · rw [pk_un h]
    unfold mc_rI
    by_cases c : a ≤ j ∧ j < a + m
    · rw [if_pos c, if_pos (by omega)]
    · rw [if_neg c, if_neg (by omega)]
theorem mc_rI_in {f : Nat → Int32} {a m j : Nat} {x : Int32} (h : j < m) : mc_rI f a m x (a + j) = x := if_pos (by omega)
theorem mc_rI_out {f : Nat → Int32} {a m i : Nat} {x : Int32} (h : i < a ∨ a + m ≤ i) : mc_rI f a m x i = f i := if_neg (by omega)
def mc_cp (f : Nat → Int32) (a b m : Nat) : Nat → Int32 := fun j => if a ≤ j ∧ j < a + m then f (b + (j - a)) else f j
theorem mc_cp_0 (f : Nat → Int32) (a b : Nat) : mc_cp f a b 0 = f := by
  funext j
  exact if_neg (by omega)
theorem mc_cp_in {f : Nat → Int32} {a b m j : Nat} (h : j < m) : mc_cp f a b m (a + j) = f (b + j) := by
  have e : a + j - a = j := by omega
  unfold mc_cp
  rw [if_pos (by omega), e]
theorem mc_cp_out {f : Nat → Int32} {a b m i : Nat} (h : i < a ∨ a + m ≤ i) : mc_cp f a b m i = f i := if_neg (by omega)
theorem mc_cp_s (f : Nat → Int32) {a b m M : Nat} (hm : m < M) (hd : a + M ≤ b ∨ b + M ≤ a) : upd (mc_cp f a b m) (a + m) (mc_cp f a b m (b + m)) = mc_cp f a b (m + 1) := by
  rw [mc_cp_out (i := b + m) (by omega)]
  funext j
  by_cases h : j = a + m
  · rw [h, pk_us, mc_cp_in (by omega)]
  · rw [pk_un h]
    unfold mc_cp
    by_cases c : a ≤ j ∧ j < a + m
    · rw [if_pos c, if_pos (by omega)]
    · rw [if_neg c, if_neg (by omega)]
def mc_oI (p : Nat) : Int32 := if p < 32 then nI p else -1
theorem mc_oI_t {p : Nat} (h : p < 32) : mc_oI p = nI p := if_pos h
theorem mc_oI_32 : mc_oI 32 = -1 := if_neg (by omega)
theorem mn_s1000 {x : Nat} (h : 1000 ≤ x) : nI x - 1000 = nI (x - 1000) := pk_sub h
theorem mn_a1000 (x : Nat) : 1000 + nI x = nI (1000 + x) := nI_add 1000 x
theorem mn_m8 (x : Nat) : nI x * 8 = nI (8 * x) := by
  rw [Nat.mul_comm]
  exact pk_mul x 8
theorem mn_d8 {x : Nat} (h : x < 2 ^ 31) : nI x / 8 = nI (x / 8) := pk_div (d := 8) h (by omega) (by omega)
theorem mn_a8 (x : Nat) : nI x + 8 = nI (x + 8) := nI_add x 8
theorem mn_1a (x : Nat) : 1 + nI x = nI (1 + x) := nI_add 1 x
theorem mn_3m (x : Nat) : 3 * nI x = nI (3 * x) := pk_mul 3 x
theorem mn_4m (x : Nat) : 4 * nI x = nI (4 * x) := pk_mul 4 x
theorem mn_neg {x : Int32} (h : x < 0) (a : Nat) (ha : a < 2 ^ 31) : ¬ nI a ≤ x := fun z => absurd (Int32.lt_of_le_of_lt z h) (nI_pos ha)
theorem mn_out {n : Nat} (hn : n < 2 ^ 31) {i : Int32} (h : ¬ ∃ k, k < n ∧ i = nI k) : i < 0 ∨ (¬ i < 0 ∧ nI n ≤ i) := by
  rcases pk_ix i hn with c | c | c
  · exact Or.inl c
  · exact Or.inr ⟨fun z => mn_neg z n hn c, c⟩
  · exact absurd c h
theorem mn_m1 : (-1 : Int32) < 0 := by decide
theorem mn_nI_m1 {a : Nat} (h : a < 2 ^ 31) : ¬ nI a = -1 := by
  intro e
  have := nI_pos (n := a) h
  rw [e] at this
  exact this mn_m1
