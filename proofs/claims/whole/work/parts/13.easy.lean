/-! the beginning, and the methods that look or store one word -/
section
variable {n lim op mk U : Nat} {kc ld oo : Int32} {H wd ce : Nat → Int32} {W S P R O px cd K sr st sz pc L py fb : Nat → Nat}
theorem mc_rel {k : Nat} (hn2 : 2 ≤ n) (hn8 : n ≤ 8) (hl : 16 ≤ lim) (hpp : ∀ p, p < 32 → px p = py p) (hG : mc_G mk lim op sr st sz pc ce wd S P R W O U) : i_Rel k ((nI n), (nI lim), kc, (mc_oI op), (nI mk), (nI U), H, wd, (fun j => nI (W j)), (fun j => nI (S j)), (fun j => nI (P j)), (fun j => nI (R j)), (fun j => nI (O j)), (fun j => nI (px j)), (fun j => nI (cd j)), (fun j => nI (K j))) ((nI n), (nI lim), (nI mk), (mc_oI op), ld, H, (fun j => nI (sr j)), (fun j => nI (st j)), (fun j => nI (sz j)), (fun j => nI (pc j)), ce, (fun j => nI (L j)), (fun j => nI (py j)), (fun j => nI (fb j))) :=
  ⟨n, lim, op, mk, U, kc, ld, H, wd, ce, W, S, P, R, O, px, cd, K, sr, st, sz, pc, L, py, fb, rfl, rfl, hn2, hn8, hl, hpp, hG⟩
theorem mc_cl (x : Int32) {lo hi : Nat} (h : lo ≤ hi) (hh : hi < 2 ^ 31) : ∃ c, lo ≤ c ∧ c ≤ hi ∧ ∀ A : Int32 → Prop, A (nI c) → ((nI lo ≤ x → ((x ≤ nI hi → A x) ∧ (¬ x ≤ nI hi → A (nI hi)))) ∧ (¬ nI lo ≤ x → A (nI lo))) := by
  by_cases c1 : nI lo ≤ x
  · by_cases c2 : x ≤ nI hi
    · have h0 : ¬ x < 0 := fun z => mn_neg z lo (by omega) c1
      obtain ⟨j, hj, rfl⟩ := nI_of h0
      exact ⟨j, (nI_leI (by omega) hj).mp c1, (nI_leI hj hh).mp c2, fun A hA => br_t c1 (br_t c2 hA)⟩
    · exact ⟨hi, h, Nat.le_refl _, fun A hA => br_t c1 (br_f c2 hA)⟩
  · exact ⟨lo, Nat.le_refl _, h, fun A hA => br_f c1 hA⟩
theorem mc_wo_z (p : Nat) : mc_wo (fun _ => 0) (fun _ => 0) p = 0 := mc_sm_0 30 (fun s _ => by
  have := mc_w_le (fun _ => 0) (fun _ => 0) p s
  exact Nat.le_zero.mp this)
theorem mc_G_0 (h16 : 16 ≤ lim) (h60 : lim ≤ 60) : mc_G 0 lim 32 (fun _ => 0) (fun _ => 0) (fun _ => 0) (fun _ => 0) (fun _ => 0) (fun _ => 0) (fun _ => 0) (fun _ => 0) (fun _ => 0) (fun _ => 0) (fun _ => 0) 0 := by
  have hz : ¬ 0 < 0 := Nat.lt_irrefl 0
  refine ⟨fun s _ => ⟨Nat.zero_le _, Nat.zero_le _, fun h => absurd h hz⟩, fun s t _ _ _ h => absurd h hz, fun s _ h => absurd h hz, fun s _ h => absurd h hz, fun _ _ => Or.inl rfl, fun _ => Or.inl rfl,
    fun s _ h => absurd h hz, ⟨rfl, rfl⟩, fun p _ => (mc_wo_z p).symm, ?_, (mc_sm_0 30 (fun _ _ => rfl)).symm, Nat.zero_le _, h60, Nat.le_refl _, Nat.zero_le _⟩
  refine Nat.le_trans (Nat.le_of_eq (mc_sm_0 32 (fun p _ => ?_))) (Nat.zero_le 8)
  exact if_neg (fun h => by have := mc_wo_z p; omega)
end
theorem i_vc0 (k0 : Int32) (k1 : Int32) : wpX_init (fun u => wpY_init (fun v => i_Rel 2 u v) k0 k1) k0 k1 := by
  obtain ⟨n, n2, n8, hA⟩ := mc_cl k0 (lo := 2) (hi := 8) (by omega) (by omega)
  obtain ⟨m, m2, m8, hB⟩ := mc_cl k1 (lo := 16) (hi := 60) (by omega) (by omega)
  unfold wpX_init
  refine hA (fun r_1 => wpX_clamp (fun r_2 => wpY_init (fun v => i_Rel 2 (r_1, r_2, 0, -1, 0, 0, (fun _ => 0), (fun _ => 0), (fun _ => 0), (fun _ => 0), (fun _ => 0), (fun _ => 0), (fun _ => 0), (fun _ => 0), (fun _ => 0), (fun _ => 0)) v) k0 k1) k1 16 60) ?_
  refine hB (fun r_2 => wpY_init (fun v => i_Rel 2 (nI n, r_2, 0, -1, 0, 0, (fun _ => 0), (fun _ => 0), (fun _ => 0), (fun _ => 0), (fun _ => 0), (fun _ => 0), (fun _ => 0), (fun _ => 0), (fun _ => 0), (fun _ => 0)) v) k0 k1) ?_
  unfold wpY_init
  refine hA (fun z => wY_init_103 (fun v => i_Rel 2 (nI n, nI m, 0, -1, 0, 0, (fun _ => 0), (fun _ => 0), (fun _ => 0), (fun _ => 0), (fun _ => 0), (fun _ => 0), (fun _ => 0), (fun _ => 0), (fun _ => 0), (fun _ => 0)) v) k1 z 0 0 0 (-1) 0 (fun _ => 0) (fun _ => 0) (fun _ => 0) (fun _ => 0) (fun _ => 0) (fun _ => 0) (fun _ => 0) (fun _ => 0) (fun _ => 0)) ?_
  refine hB (fun z => i_Rel 2 (nI n, nI m, 0, -1, 0, 0, (fun _ => 0), (fun _ => 0), (fun _ => 0), (fun _ => 0), (fun _ => 0), (fun _ => 0), (fun _ => 0), (fun _ => 0), (fun _ => 0), (fun _ => 0)) (nI n, z, 0, -1, 0, (fun _ => 0), (fun _ => 0), (fun _ => 0), (fun _ => 0), (fun _ => 0), (fun _ => 0), (fun _ => 0), (fun _ => 0), (fun _ => 0))) ?_
  exact ⟨n, m, 32, 0, 0, 0, 0, (fun _ => 0), (fun _ => 0), (fun _ => 0), (fun _ => 0), (fun _ => 0), (fun _ => 0), (fun _ => 0), (fun _ => 0), (fun _ => 0), (fun _ => 0), (fun _ => 0), (fun _ => 0), (fun _ => 0), (fun _ => 0), (fun _ => 0), (fun _ => 0), (fun _ => 0), (fun _ => 0), rfl, rfl, n2, n8, m2, fun _ _ => rfl, mc_G_0 m2 m8⟩
theorem i_vc_setRoot {k : Nat} {u : SX} {v : SY} (I : i_Rel k u v) (hk : k + 4 ≤ 2050) (v1 : Int32) (v2 : Int32) : wpX_setRoot (fun r u' => wpY_setRoot (fun r' v' => r' = r ∧ i_Rel (k + 4) u' v') v v1 v2) u v1 v2 := by
  have I0 := I
  obtain ⟨n, lim, op, mk, U, kc, ld, H, wd, ce, W, S, P, R, O, px, cd, K, sr, st, sz, pc, L, py, fb, rfl, rfl, hn2, hn8, hl, hpp, hG⟩ := I
  have hG0 := hG
  obtain ⟨hS, hD, hF, hX, hXW, hXZ, hC, hP0, hO, hT, hU1, hU2, hL, hop2, hmk⟩ := hG
  have hb : ∀ s, s < 30 → st s ≤ 1255 ∧ sz s ≤ 4 := fun s hs => ⟨(hS s hs).1, (hS s hs).2.1⟩
  have hr : ∀ s, s < 30 → 0 < sz s → sr s ≤ 4095 := fun s hs hz => by
    have := (hS s hs).2.2 hz
    omega
  unfold wpX_setRoot
  by_cases hi : ∃ j, j < n ∧ v1 = nI j
  · obtain ⟨j, hj, rfl⟩ := hi
    have hv : vp_in (nI j) 8 := vp_in_nI (by omega) (by omega)
    refine mx_bad_f hn8 hj (br_t rfl ⟨hv, nm_e ?_⟩)
    unfold wpY_setRoot
    exact my_bad_f hn8 hj (br_t rfl ⟨hv, nm_e ⟨rfl, mc_rel hn2 hn8 hl hpp hG0⟩⟩)
  · have ho := mn_out (by omega) hi
    refine mx_bad_t ho (br_f (by decide) ?_)
    unfold wpY_setRoot
    exact my_bad_t ho (br_f (by decide) ⟨rfl, I0⟩)
theorem i_vc_root {k : Nat} {u : SX} {v : SY} (I : i_Rel k u v) (hk : k + 4 ≤ 2050) (v1 : Int32) : wpX_root (fun r => wpY_root (fun r' => r' = r ∧ i_Rel (k + 4) u v) v v1) u v1 := by
  have I0 := I
  obtain ⟨n, lim, op, mk, U, kc, ld, H, wd, ce, W, S, P, R, O, px, cd, K, sr, st, sz, pc, L, py, fb, rfl, rfl, hn2, hn8, hl, hpp, hG⟩ := I
  have hG0 := hG
  obtain ⟨hS, hD, hF, hX, hXW, hXZ, hC, hP0, hO, hT, hU1, hU2, hL, hop2, hmk⟩ := hG
  have hb : ∀ s, s < 30 → st s ≤ 1255 ∧ sz s ≤ 4 := fun s hs => ⟨(hS s hs).1, (hS s hs).2.1⟩
  have hr : ∀ s, s < 30 → 0 < sz s → sr s ≤ 4095 := fun s hs hz => by
    have := (hS s hs).2.2 hz
    omega
  unfold wpX_root
  by_cases hi : ∃ j, j < n ∧ v1 = nI j
  · obtain ⟨j, hj, rfl⟩ := hi
    have hv : vp_in (nI j) 8 := vp_in_nI (by omega) (by omega)
    refine mx_bad_f hn8 hj (br_t rfl ⟨hv, ?_⟩)
    unfold wpY_root
    exact my_bad_f hn8 hj (br_t rfl ⟨hv, rfl, I0⟩)
  · have ho := mn_out (by omega) hi
    refine mx_bad_t ho (br_f (by decide) ?_)
    unfold wpY_root
    exact my_bad_t ho (br_f (by decide) ⟨rfl, I0⟩)
theorem i_vc_serialAt {k : Nat} {u : SX} {v : SY} (I : i_Rel k u v) (hk : k + 4 ≤ 2050) (v1 : Int32) : wpX_serialAt (fun r => wpY_serialAt (fun r' => r' = r ∧ i_Rel (k + 4) u v) v v1) u v1 := by
  have I0 := I
  obtain ⟨n, lim, op, mk, U, kc, ld, H, wd, ce, W, S, P, R, O, px, cd, K, sr, st, sz, pc, L, py, fb, rfl, rfl, hn2, hn8, hl, hpp, hG⟩ := I
  have hG0 := hG
  obtain ⟨hS, hD, hF, hX, hXW, hXZ, hC, hP0, hO, hT, hU1, hU2, hL, hop2, hmk⟩ := hG
  have hb : ∀ s, s < 30 → st s ≤ 1255 ∧ sz s ≤ 4 := fun s hs => ⟨(hS s hs).1, (hS s hs).2.1⟩
  have hr : ∀ s, s < 30 → 0 < sz s → sr s ≤ 4095 := fun s hs hz => by
    have := (hS s hs).2.2 hz
    omega
  unfold wpX_serialAt
  rcases mc_own hS hX hXW v1 with ⟨s, hA⟩ | hN
  · have hs := hA.1
    refine mx_own_at hA ?_
    unfold wpY_serialAt
    refine my_at hb hD hA (br_t (nI_pos' (by omega)) ⟨vp_in_nI hs (by omega), ?_, I0⟩)
    rw [nI_clamp (by omega)]
  · refine mx_own_no hN ?_
    unfold wpY_serialAt
    exact my_no hN (br_f (by decide) ⟨rfl, I0⟩)
theorem i_vc_baseOf {k : Nat} {u : SX} {v : SY} (I : i_Rel k u v) (hk : k + 4 ≤ 2050) (v1 : Int32) : wpX_baseOf (fun r => wpY_baseOf (fun r' => r' = r ∧ i_Rel (k + 4) u v) v v1) u v1 := by
  have I0 := I
  obtain ⟨n, lim, op, mk, U, kc, ld, H, wd, ce, W, S, P, R, O, px, cd, K, sr, st, sz, pc, L, py, fb, rfl, rfl, hn2, hn8, hl, hpp, hG⟩ := I
  have hG0 := hG
  obtain ⟨hS, hD, hF, hX, hXW, hXZ, hC, hP0, hO, hT, hU1, hU2, hL, hop2, hmk⟩ := hG
  have hb : ∀ s, s < 30 → st s ≤ 1255 ∧ sz s ≤ 4 := fun s hs => ⟨(hS s hs).1, (hS s hs).2.1⟩
  have hr : ∀ s, s < 30 → 0 < sz s → sr s ≤ 4095 := fun s hs hz => by
    have := (hS s hs).2.2 hz
    omega
  unfold wpX_baseOf
  rcases mc_own hS hX hXW v1 with ⟨s, hA⟩ | hN
  · have hs := hA.1
    have hr1 := hr s hs hA.2.1
    refine mx_own_at hA ⟨vp_in_nI (by omega) (by omega), ?_⟩
    unfold wpY_baseOf
    refine my_at hb hD hA (br_t (nI_pos' (by omega)) ⟨vp_in_nI hs (by omega), ?_, I0⟩)
    show nI (st (nI s).toNatClampNeg) = nI (S (nI (sr s)).toNatClampNeg)
    rw [nI_clamp (by omega), nI_clamp (by omega), (hX s hs hA.2.1).1]
  · refine mx_own_no hN ⟨vp_in_nI (n := 0) (by omega) (by omega), ?_⟩
    unfold wpY_baseOf
    refine my_no hN (br_f (by decide) ⟨?_, I0⟩)
    show 0 = nI (S (nI 0).toNatClampNeg)
    rw [nI_clamp (by omega)]
    have h0 : S 0 = 0 := by
      rcases hXZ 0 with z | ⟨s, hs, hz, z⟩
      · exact z
      · have := (hS s hs).2.2 hz
        omega
    rw [h0, nI_0]
theorem i_vc_shapeAt {k : Nat} {u : SX} {v : SY} (I : i_Rel k u v) (hk : k + 4 ≤ 2050) (v1 : Int32) : wpX_shapeAt (fun r => wpY_shapeAt (fun r' => r' = r ∧ i_Rel (k + 4) u v) v v1) u v1 := by
  have I0 := I
  obtain ⟨n, lim, op, mk, U, kc, ld, H, wd, ce, W, S, P, R, O, px, cd, K, sr, st, sz, pc, L, py, fb, rfl, rfl, hn2, hn8, hl, hpp, hG⟩ := I
  have hG0 := hG
  obtain ⟨hS, hD, hF, hX, hXW, hXZ, hC, hP0, hO, hT, hU1, hU2, hL, hop2, hmk⟩ := hG
  have hb : ∀ s, s < 30 → st s ≤ 1255 ∧ sz s ≤ 4 := fun s hs => ⟨(hS s hs).1, (hS s hs).2.1⟩
  have hr : ∀ s, s < 30 → 0 < sz s → sr s ≤ 4095 := fun s hs hz => by
    have := (hS s hs).2.2 hz
    omega
  unfold wpX_shapeAt
  rcases mc_own hS hX hXW v1 with ⟨s, hA⟩ | hN
  · have hs := hA.1
    have hr1 := hr s hs hA.2.1
    have hv : vp_in (nI (sr s)) 4096 := vp_in_nI (by omega) (by omega)
    have hv2 : vp_in (nI s) 30 := vp_in_nI hs (by omega)
    refine mx_own_at hA ⟨hv, hv, ?_⟩
    unfold wpY_shapeAt
    refine my_at hb hD hA (br_t (nI_pos' (by omega)) ⟨hv2, hv2, hv2, ?_, I0⟩)
    show ((4 * nI (pc (nI s).toNatClampNeg) + nI (sz (nI s).toNatClampNeg)) - nI 1) - nI (pc (nI s).toNatClampNeg) = 4 * nI (P (nI (sr s)).toNatClampNeg) + nI (R (nI (sr s)).toNatClampNeg)
    obtain ⟨x1, x2, x3, x4⟩ := hX s hs hA.2.1
    have hz := hA.2.1
    rw [nI_clamp (by omega), nI_clamp (by omega), x2, mn_4m, nI_add, nI_add, pk_sub (by omega), pk_sub (by omega)]
    exact congrArg nI (by omega)
  · refine mx_own_no hN ⟨vp_in_nI (n := 0) (by omega) (by omega), vp_in_nI (n := 0) (by omega) (by omega), ?_⟩
    unfold wpY_shapeAt
    refine my_no hN (br_f (by decide) ⟨?_, I0⟩)
    show 0 = 4 * nI (P (nI 0).toNatClampNeg) + nI (R (nI 0).toNatClampNeg)
    rw [nI_clamp (by omega), hP0.1, hP0.2]
    decide
theorem i_vc_addressOf {k : Nat} {u : SX} {v : SY} (I : i_Rel k u v) (hk : k + 4 ≤ 2050) (v1 : Int32) : wpX_addressOf (fun r => wpY_addressOf (fun r' => r' = r ∧ i_Rel (k + 4) u v) v v1) u v1 := by
  have I0 := I
  obtain ⟨n, lim, op, mk, U, kc, ld, H, wd, ce, W, S, P, R, O, px, cd, K, sr, st, sz, pc, L, py, fb, rfl, rfl, hn2, hn8, hl, hpp, hG⟩ := I
  have hG0 := hG
  obtain ⟨hS, hD, hF, hX, hXW, hXZ, hC, hP0, hO, hT, hU1, hU2, hL, hop2, hmk⟩ := hG
  have hb : ∀ s, s < 30 → st s ≤ 1255 ∧ sz s ≤ 4 := fun s hs => ⟨(hS s hs).1, (hS s hs).2.1⟩
  have hr : ∀ s, s < 30 → 0 < sz s → sr s ≤ 4095 := fun s hs hz => by
    have := (hS s hs).2.2 hz
    omega
  have hno : (v1 < 1 ∨ ¬ v1 ≤ 4095) → wpY_addressOf (fun r' => r' = 0 ∧ i_Rel (k + 4) ((nI n), (nI lim), kc, (mc_oI op), (nI mk), (nI U), H, wd, (fun j => nI (W j)), (fun j => nI (S j)), (fun j => nI (P j)), (fun j => nI (R j)), (fun j => nI (O j)), (fun j => nI (px j)), (fun j => nI (cd j)), (fun j => nI (K j))) ((nI n), (nI lim), (nI mk), (mc_oI op), ld, H, (fun j => nI (sr j)), (fun j => nI (st j)), (fun j => nI (sz j)), (fun j => nI (pc j)), ce, (fun j => nI (L j)), (fun j => nI (py j)), (fun j => nI (fb j)))) ((nI n), (nI lim), (nI mk), (mc_oI op), ld, H, (fun j => nI (sr j)), (fun j => nI (st j)), (fun j => nI (sz j)), (fun j => nI (pc j)), ce, (fun j => nI (L j)), (fun j => nI (py j)), (fun j => nI (fb j))) v1 := by
    intro hc
    refine my_adr_0 hb (fun t ht hz e => ?_) ⟨rfl, I0⟩
    have ht1 := (hS t ht).2.2 hz
    rw [← e] at hc
    rcases hc with c | c
    · have := (nI_ltI (b := 1) (by omega) (by omega)).mp c
      omega
    · exact c (nI_le (b := 4095) (by omega) (by omega))
  unfold wpX_addressOf
  by_cases c1 : v1 < 1
  · exact br_t c1 (hno (Or.inl c1))
  · by_cases c2 : v1 ≤ 4095
    · have h0 : ¬ v1 < 0 := fun z => c1 (Int32.lt_trans z (by decide))
      obtain ⟨j, hj, rfl⟩ := nI_of h0
      have j2 : j ≤ 4095 := (nI_leI (b := 4095) hj (by omega)).mp c2
      refine br_f c1 (br_t c2 ⟨vp_in_nI (by omega) (by omega), ?_⟩)
      rw [nI_clamp (by omega)]
      rcases hXZ j with z | ⟨s, hs, hz, z⟩
      · refine my_adr_0 hb (fun t ht hz e => ?_) ⟨?_, I0⟩
        · have ht1 := (hS t ht).2.2 hz
          have e2 := (nI_eq (by omega) (by omega)).mp e
          have := (hX t ht hz).1
          rw [e2] at this
          omega
        · show 0 = nI (S j)
          rw [z, nI_0]
      · rw [z]
        refine my_adr_t hb hr hD hs hz ⟨?_, ?_⟩
        · show nI (st s) = nI (S (sr s))
          rw [(hX s hs hz).1]
        · exact I0
    · exact br_f c1 (br_f c2 (hno (Or.inr c2)))
theorem i_vc_pageState {k : Nat} {u : SX} {v : SY} (I : i_Rel k u v) (hk : k + 4 ≤ 2050) (v1 : Int32) : wpX_pageState (fun r => wpY_pageState (fun r' => r' = r ∧ i_Rel (k + 4) u v) v v1) u v1 := by
  have I0 := I
  obtain ⟨n, lim, op, mk, U, kc, ld, H, wd, ce, W, S, P, R, O, px, cd, K, sr, st, sz, pc, L, py, fb, rfl, rfl, hn2, hn8, hl, hpp, hG⟩ := I
  have hG0 := hG
  obtain ⟨hS, hD, hF, hX, hXW, hXZ, hC, hP0, hO, hT, hU1, hU2, hL, hop2, hmk⟩ := hG
  have hb : ∀ s, s < 30 → st s ≤ 1255 ∧ sz s ≤ 4 := fun s hs => ⟨(hS s hs).1, (hS s hs).2.1⟩
  have hr : ∀ s, s < 30 → 0 < sz s → sr s ≤ 4095 := fun s hs hz => by
    have := (hS s hs).2.2 hz
    omega
  unfold wpX_pageState
  by_cases c1 : v1 < 0
  · refine br_t c1 ?_
    unfold wpY_pageState
    exact br_t c1 ⟨rfl, I0⟩
  · by_cases c2 : v1 < 32
    · obtain ⟨p, hp, rfl⟩ := nI_of c1
      have p2 : p < 32 := (nI_ltI (b := 32) hp (by omega)).mp c2
      have hv : vp_in (nI p) 32 := vp_in_nI p2 (by omega)
      have ec : (nI p).toNatClampNeg = p := nI_clamp (by omega)
      have hle := mc_wo_le st sz p
      have eO := hO p p2
      have eP := hpp p p2
      have key : ∀ r : Int32, ((mc_wo st sz p = 0 → r = 0) ∧ (mc_wo st sz p ≠ 0 → ((nI (py p) = 0 → r = 1) ∧ (¬ nI (py p) = 0 → r = 2)))) → wpY_pageState (fun r' => r' = r ∧ i_Rel (k + 4) ((nI n), (nI lim), kc, (mc_oI op), (nI mk), (nI U), H, wd, (fun j => nI (W j)), (fun j => nI (S j)), (fun j => nI (P j)), (fun j => nI (R j)), (fun j => nI (O j)), (fun j => nI (px j)), (fun j => nI (cd j)), (fun j => nI (K j))) ((nI n), (nI lim), (nI mk), (mc_oI op), ld, H, (fun j => nI (sr j)), (fun j => nI (st j)), (fun j => nI (sz j)), (fun j => nI (pc j)), ce, (fun j => nI (L j)), (fun j => nI (py j)), (fun j => nI (fb j)))) ((nI n), (nI lim), (nI mk), (mc_oI op), ld, H, (fun j => nI (sr j)), (fun j => nI (st j)), (fun j => nI (sz j)), (fun j => nI (pc j)), ce, (fun j => nI (L j)), (fun j => nI (py j)), (fun j => nI (fb j))) (nI p) := by
        intro r hr
        unfold wpY_pageState
        refine br_f c1 (br_t c2 (my_won p2 hb ?_))
        by_cases z : mc_wo st sz p = 0
        · refine br_t ?_ ⟨(hr.1 z).symm, I0⟩
          rw [z, nI_0]
        · refine br_f (nI_ne0 (by omega) (by omega)) ⟨hv, ?_⟩
          rw [ec]
          by_cases z2 : nI (py p) = 0
          · exact br_t z2 ⟨((hr.2 z).1 z2).symm, I0⟩
          · exact br_f z2 ⟨((hr.2 z).2 z2).symm, I0⟩
      refine br_f c1 (br_t c2 ⟨hv, ?_⟩)
      rw [ec]
      by_cases z : mc_wo st sz p = 0
      · refine br_t ?_ (key 0 ⟨fun _ => rfl, fun h => absurd z h⟩)
        show nI (O p) = 0
        rw [eO, z, nI_0]
      · refine br_f ?_ ⟨hv, ?_⟩
        · show ¬ nI (O p) = 0
          rw [eO]
          exact nI_ne0 (by omega) (by omega)
        · by_cases z2 : nI (py p) = 0
          · refine br_t ?_ (key 1 ⟨fun h => absurd h z, fun _ => ⟨fun _ => rfl, fun h => absurd z2 h⟩⟩)
            show nI (px p) = 0
            rw [eP]; exact z2
          · refine br_f ?_ (key 2 ⟨fun h => absurd h z, fun _ => ⟨fun h => absurd h z2, fun _ => rfl⟩⟩)
            show ¬ nI (px p) = 0
            rw [eP]; exact z2
    · refine br_f c1 (br_f c2 ?_)
      unfold wpY_pageState
      exact br_f c1 (br_f c2 ⟨rfl, I0⟩)
theorem i_vc_openAddress {k : Nat} {u : SX} {v : SY} (I : i_Rel k u v) (hk : k + 4 ≤ 2050) : wpX_openAddress (fun r => wpY_openAddress (fun r' => r' = r ∧ i_Rel (k + 4) u v) v) u := by
  have I0 := I
  obtain ⟨n, lim, op, mk, U, kc, ld, H, wd, ce, W, S, P, R, O, px, cd, K, sr, st, sz, pc, L, py, fb, rfl, rfl, hn2, hn8, hl, hpp, hG⟩ := I
  have hG0 := hG
  obtain ⟨hS, hD, hF, hX, hXW, hXZ, hC, hP0, hO, hT, hU1, hU2, hL, hop2, hmk⟩ := hG
  have hb : ∀ s, s < 30 → st s ≤ 1255 ∧ sz s ≤ 4 := fun s hs => ⟨(hS s hs).1, (hS s hs).2.1⟩
  have hr : ∀ s, s < 30 → 0 < sz s → sr s ≤ 4095 := fun s hs hz => by
    have := (hS s hs).2.2 hz
    omega
  unfold wpX_openAddress
  by_cases c : op < 32
  · have hv : vp_in (nI op) 32 := vp_in_nI c (by omega)
    have ec : (nI op).toNatClampNeg = op := nI_clamp (by omega)
    have hle := mc_wo_le st sz op
    have eO := hO op c
    rw [mc_oI_t c] at I0 ⊢
    refine br_f (mn_nI_m1 (by omega)) ⟨hv, ?_⟩
    rw [ec]
    by_cases z : mc_wo st sz op < 8
    · refine br_t ?_ ⟨hv, ?_⟩
      · show nI (O op) < 8
        rw [eO]
        exact nI_lt (b := 8) z (by omega)
      · unfold wpY_openAddress
        refine br_t (nI_pos' (by omega)) (my_won c hb (br_t (nI_lt (b := 8) z (by omega)) ⟨?_, I0⟩))
        show _ = (1000 + nI op * 8) + nI (O op)
        rw [eO]
    · refine br_f ?_ ?_
      · show ¬ nI (O op) < 8
        rw [eO]
        exact nI_nlt (b := 8) (by omega) (by omega)
      · unfold wpY_openAddress
        exact br_t (nI_pos' (by omega)) (my_won c hb (br_f (nI_nlt (b := 8) (by omega) (by omega)) ⟨rfl, I0⟩))
  · have e : op = 32 := by omega
    rw [e, mc_oI_32] at I0 ⊢
    refine br_t rfl ?_
    unfold wpY_openAddress
    exact br_f (by decide) (br_f (by decide) ⟨rfl, I0⟩)
theorem i_vc_wordsUsed {k : Nat} {u : SX} {v : SY} (I : i_Rel k u v) (hk : k + 4 ≤ 2050) : wpX_wordsUsed (fun r => wpY_wordsUsed (fun r' => r' = r ∧ i_Rel (k + 4) u v) v) u := by
  have I0 := I
  obtain ⟨n, lim, op, mk, U, kc, ld, H, wd, ce, W, S, P, R, O, px, cd, K, sr, st, sz, pc, L, py, fb, rfl, rfl, hn2, hn8, hl, hpp, hG⟩ := I
  have hG0 := hG
  obtain ⟨hS, hD, hF, hX, hXW, hXZ, hC, hP0, hO, hT, hU1, hU2, hL, hop2, hmk⟩ := hG
  have hb : ∀ s, s < 30 → st s ≤ 1255 ∧ sz s ≤ 4 := fun s hs => ⟨(hS s hs).1, (hS s hs).2.1⟩
  have hr : ∀ s, s < 30 → 0 < sz s → sr s ≤ 4095 := fun s hs hz => by
    have := (hS s hs).2.2 hz
    omega
  unfold wpX_wordsUsed
  refine my_used ⟨?_, I0⟩
  rw [hU1]
