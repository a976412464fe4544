/-! bits: the first rows began as a paste of kit/laws/BITS -/
theorem ts_bit {w : Int64} {s : UInt64} {j : Nat} (hj : j < 64) (hs : s.toNat = j) : ((w.toUInt64 >>> s).toInt64 &&& 1) = 0 ↔ w.toBitVec.getLsbD j = false := by
  have e : (w.toUInt64 >>> s).toInt64.toBitVec = w.toBitVec >>> j := by
    apply BitVec.eq_of_toNat_eq
    show (w.toUInt64 >>> s).toNat = _
    rw [UInt64.toNat_shiftRight, hs, Nat.mod_eq_of_lt hj, BitVec.toNat_ushiftRight]
    rfl
  rw [← Int64.toBitVec_inj, Int64.toBitVec_and, e]
  show w.toBitVec >>> j &&& 1#64 = 0#64 ↔ _
  constructor
  · intro h
    have t := congrArg (fun x => x.getLsbD 0) h
    simpa using t
  · intro h
    apply BitVec.eq_of_getLsbD_eq
    intro i hi
    cases i with
    | zero => simp [h]
    | succ i => simp
theorem wb_tb (n : Nat) : (lN n).toBitVec = BitVec.ofNat 64 n := rfl
theorem wb_inj {a b : Int64} (h : a.toBitVec = b.toBitVec) : a = b := Int64.toBitVec_inj.mp h
theorem wb_c : ∀ k, k < 64 → ((nI k).toInt64 &&& 63) = lN k := by decide +kernel
theorem wb_cu : ∀ k, k < 64 → ((nI k).toInt64.toUInt64 &&& Int64.toUInt64 63) = UInt64.ofNat k := by decide +kernel
theorem wb_sm : ∀ k, k < 64 → (BitVec.ofNat 64 k).smod 64 = BitVec.ofNat 64 k := by decide +kernel
theorem wb_shl (n : Nat) {k : Nat} (hk : k < 64) : lN n <<< ((nI k).toInt64 &&& 63) = lN (n * 2 ^ k) := by
  rw [wb_c k hk]
  apply wb_inj
  rw [Int64.toBitVec_shiftLeft, wb_tb, wb_tb, wb_tb, wb_sm k hk]
  apply BitVec.eq_of_toNat_eq
  rw [BitVec.shiftLeft_eq', BitVec.toNat_shiftLeft, BitVec.toNat_ofNat, BitVec.toNat_ofNat, BitVec.toNat_ofNat, Nat.mod_eq_of_lt (show k < 2 ^ 64 by omega), Nat.shiftLeft_eq, Nat.mul_mod, Nat.mod_mod, ← Nat.mul_mod]
theorem u_tn {n : Nat} (h : n < 2 ^ 64) : (UInt64.ofNat n).toNat = n := Nat.mod_eq_of_lt h
def pv_b (z : Int64) (q : Nat) : Prop := z.toBitVec.getLsbD q = true
theorem pv_b0 (q : Nat) : ¬ pv_b 0 q := by
  unfold pv_b
  simp
theorem pv_bt {z : Int64} {q : Nat} (hq : q < 64) : ((z.toUInt64 >>> ((nI q).toInt64.toUInt64 &&& Int64.toUInt64 63)).toInt64 &&& 1) = 0 ↔ ¬ pv_b z q := by
  rw [wb_cu q hq, ts_bit hq (u_tn (by omega))]
  unfold pv_b
  cases z.toBitVec.getLsbD q <;> simp
theorem pv_bs {z : Int64} {q j : Nat} (hq : q < 64) (hj : j < 64) : pv_b (z ||| ((1 : Int64) <<< ((nI q).toInt64 &&& 63))) j ↔ pv_b z j ∨ j = q := by
  have e : (1 : Int64) <<< ((nI q).toInt64 &&& 63) = lN (1 * 2 ^ q) := wb_shl 1 hq
  rw [e]
  unfold pv_b
  rw [Int64.toBitVec_or, BitVec.getLsbD_or, wb_tb, BitVec.getLsbD_ofNat, Nat.one_mul, Nat.testBit_two_pow, Bool.or_eq_true, Bool.and_eq_true, decide_eq_true_eq, decide_eq_true_eq]
  constructor
  · rintro (h | ⟨_, h⟩)
    · exact Or.inl h
    · exact Or.inr h.symm
  · rintro (h | h)
    · exact Or.inl h
    · exact Or.inr ⟨hj, h.symm⟩
def pv_m (lo hi : Int64) (q : Nat) : Prop := (q < 64 ∧ pv_b lo q) ∨ (64 ≤ q ∧ pv_b hi (q - 64))
theorem pv_m0 (q : Nat) : ¬ pv_m 0 0 q := by
  rintro (⟨_, h⟩ | ⟨_, h⟩)
  · exact pv_b0 _ h
  · exact pv_b0 _ h
theorem pv_63 {q : Nat} (hq : q < 128) : nI q &&& 63 = nI (q % 64) := pk_andN (by omega) 6 (by decide)
theorem pv_mlo {lo hi : Int64} {q j : Nat} (hq : q < 64) (hj : j < 128) : pv_m (lo ||| ((1 : Int64) <<< ((nI q &&& 63).toInt64 &&& 63))) hi j ↔ pv_m lo hi j ∨ j = q := by
  rw [pv_63 (by omega), Nat.mod_eq_of_lt hq]
  unfold pv_m
  by_cases c : j < 64
  · rw [pv_bs hq c]
    constructor
    · rintro (⟨h1, h2 | h2⟩ | ⟨h1, h2⟩)
      · exact Or.inl (Or.inl ⟨h1, h2⟩)
      · exact Or.inr h2
      · omega
    · rintro ((⟨h1, h2⟩ | ⟨h1, h2⟩) | h2)
      · exact Or.inl ⟨h1, Or.inl h2⟩
      · omega
      · exact Or.inl ⟨c, Or.inr h2⟩
  · constructor
    · rintro (⟨h1, h2⟩ | ⟨h1, h2⟩)
      · omega
      · exact Or.inl (Or.inr ⟨h1, h2⟩)
    · rintro ((⟨h1, h2⟩ | ⟨h1, h2⟩) | h2)
      · omega
      · exact Or.inr ⟨h1, h2⟩
      · omega
theorem pv_mhi {lo hi : Int64} {q j : Nat} (hq : 64 ≤ q) (hq2 : q < 128) (hj : j < 128) : pv_m lo (hi ||| ((1 : Int64) <<< ((nI q &&& 63).toInt64 &&& 63))) j ↔ pv_m lo hi j ∨ j = q := by
  have e : q % 64 = q - 64 := by omega
  rw [pv_63 hq2, e]
  unfold pv_m
  by_cases c : j < 64
  · constructor
    · rintro (⟨h1, h2⟩ | ⟨h1, h2⟩)
      · exact Or.inl (Or.inl ⟨h1, h2⟩)
      · omega
    · rintro ((⟨h1, h2⟩ | ⟨h1, h2⟩) | h2)
      · exact Or.inl ⟨h1, h2⟩
      · omega
      · omega
  · rw [pv_bs (by omega) (by omega)]
    constructor
    · rintro (⟨h1, h2⟩ | ⟨h1, h2 | h2⟩)
      · omega
      · exact Or.inl (Or.inr ⟨h1, h2⟩)
      · exact Or.inr (by omega)
    · rintro ((⟨h1, h2⟩ | ⟨h1, h2⟩) | h2)
      · omega
      · exact Or.inr ⟨h1, Or.inl h2⟩
      · exact Or.inr ⟨by omega, Or.inr (by omega)⟩
theorem pv_half {post : Int32 → Prop} {a : Nat} (h1 : 1000 ≤ a) (h2 : a ≤ 1255) (h : post (nI ((a - 1000) / 2))) : wpL_half post () (nI a) := by
  refine ⟨by decide, ?_⟩
  have e : (nI a - 1000) / 2 = nI ((a - 1000) / 2) := by
    rw [mn_s1000 h1]
    exact pk_div (d := 2) (by omega) (by omega) (by omega)
  rw [e]
  exact h
theorem pv_page {post : Int32 → Prop} {a : Nat} (h1 : 1000 ≤ a) (h2 : a < 2 ^ 31) (h : post (nI ((a - 1000) / 8))) : wpL_page post () (nI a) := by
  refine ⟨by decide, ?_⟩
  rw [mn_s1000 h1, mn_d8 (by omega)]
  exact h
theorem pv_in {post : Int32 → Prop} {lo hi : Int64} {a : Nat} (h1 : 1000 ≤ a) (h2 : a ≤ 1255) (ht : pv_m lo hi ((a - 1000) / 2) → post 1) (hf : ¬ pv_m lo hi ((a - 1000) / 2) → post 0) : wpL_in post () lo hi (nI a) := by
  unfold wpL_in
  refine pv_half h1 h2 ?_
  have e63 := pv_63 (q := (a - 1000) / 2) (by omega)
  by_cases c : 64 ≤ (a - 1000) / 2
  · refine br_t (nI_le (a := 64) c (by omega)) ?_
    unfold wL_in_19
    rw [e63, pv_bt (by omega)]
    have e : (a - 1000) / 2 % 64 = (a - 1000) / 2 - 64 := by omega
    rw [e]
    refine br_c (fun z => hf ?_) (fun z => ht (Or.inr ⟨c, Classical.byContradiction z⟩))
    rintro (⟨y1, y2⟩ | ⟨y1, y2⟩)
    · omega
    · exact z y2
  · refine br_f (nI_ge (b := 64) (by omega) (by omega)) ?_
    unfold wL_in_19
    rw [e63, pv_bt (by omega), Nat.mod_eq_of_lt (by omega)]
    refine br_c (fun z => hf ?_) (fun z => ht (Or.inl ⟨by omega, Classical.byContradiction z⟩))
    rintro (⟨y1, y2⟩ | ⟨y1, y2⟩)
    · exact z y2
    · omega
