/-! the component's methods: one answer and one state for every post -/
def pv_Gd (n lim mk : Nat) (u : St2) : Prop :=
  ∃ (op U : Nat) (kc : Int32) (H wd ce : Nat → Int32) (W S P R O px cd K sr st sz pc : Nat → Nat), u = ((nI n), (nI lim), kc, (mc_oI op), (nI mk), (nI U), H, wd, (fun j => nI (W j)), (fun j => nI (S j)), (fun j => nI (P j)), (fun j => nI (R j)), (fun j => nI (O j)), (fun j => nI (px j)), (fun j => nI (cd j)), (fun j => nI (K j))) ∧ mc_G mk lim op sr st sz pc ce wd S P R W O U
section
variable {n lim op mk U : Nat} {kc ld oo : Int32} {H wd ce : Nat → Int32} {W S P R O px cd K sr st sz pc L py fb : Nat → Nat} {u : St2}
theorem pv_gd (hG : mc_G mk lim op sr st sz pc ce wd S P R W O U) : pv_Gd n lim mk ((nI n), (nI lim), kc, (mc_oI op), (nI mk), (nI U), H, wd, (fun j => nI (W j)), (fun j => nI (S j)), (fun j => nI (P j)), (fun j => nI (R j)), (fun j => nI (O j)), (fun j => nI (px j)), (fun j => nI (cd j)), (fun j => nI (K j))) :=
  ⟨op, U, kc, H, wd, ce, W, S, P, R, O, px, cd, K, sr, st, sz, pc, rfl, hG⟩
theorem pv_setRoot (hn8 : n ≤ 8) (h : pv_Gd n lim mk u) (v1 v2 : Int32) : ∃ (r : Int32) (u' : St2), pv_Gd n lim mk u' ∧ ∀ post : Int32 → St2 → Prop, post r u' → wpX_setRoot post u v1 v2 := by
  obtain ⟨op, U, kc, H, wd, ce, W, S, P, R, O, px, cd, K, sr, st, sz, pc, rfl, hG⟩ := h
  have hG0 := hG
  obtain ⟨hS, hD, hF, hX, hXW, hXZ, hC, hP0, hO, hT, hU1, hU2, hL, hop2, hmk⟩ := hG
  have hb : ∀ s, s < 30 → st s ≤ 1255 ∧ sz s ≤ 4 := fun s hs => ⟨(hS s hs).1, (hS s hs).2.1⟩
  have hr : ∀ s, s < 30 → 0 < sz s → sr s ≤ 4095 := fun s hs hz => by
    have := (hS s hs).2.2 hz
    omega
  by_cases hi : ∃ j, j < n ∧ v1 = nI j
  · obtain ⟨j, hj, rfl⟩ := hi
    refine ⟨0, ((nI n), (nI lim), kc, (mc_oI op), (nI mk), (nI U), (upd H (nI j).toNatClampNeg v2), wd, (fun j => nI (W j)), (fun j => nI (S j)), (fun j => nI (P j)), (fun j => nI (R j)), (fun j => nI (O j)), (fun j => nI (px j)), (fun j => nI (cd j)), (fun j => nI (K j))), pv_gd hG0, fun post hp => ?_⟩
    unfold wpX_setRoot
    exact mx_bad_f hn8 hj (br_t rfl ⟨vp_in_nI (by omega) (by omega), nm_e hp⟩)
  · refine ⟨-1, ((nI n), (nI lim), kc, (mc_oI op), (nI mk), (nI U), H, wd, (fun j => nI (W j)), (fun j => nI (S j)), (fun j => nI (P j)), (fun j => nI (R j)), (fun j => nI (O j)), (fun j => nI (px j)), (fun j => nI (cd j)), (fun j => nI (K j))), pv_gd hG0, fun post hp => ?_⟩
    unfold wpX_setRoot
    exact mx_bad_t (mn_out (by omega) hi) (br_f (by decide) hp)
theorem pv_root (hn8 : n ≤ 8) (h : pv_Gd n lim mk u) (v1 : Int32) : ∃ r : Int32, ∀ post : Int32 → Prop, post r → wpX_root post u v1 := by
  obtain ⟨op, U, kc, H, wd, ce, W, S, P, R, O, px, cd, K, sr, st, sz, pc, rfl, hG⟩ := h
  have hG0 := hG
  obtain ⟨hS, hD, hF, hX, hXW, hXZ, hC, hP0, hO, hT, hU1, hU2, hL, hop2, hmk⟩ := hG
  have hb : ∀ s, s < 30 → st s ≤ 1255 ∧ sz s ≤ 4 := fun s hs => ⟨(hS s hs).1, (hS s hs).2.1⟩
  have hr : ∀ s, s < 30 → 0 < sz s → sr s ≤ 4095 := fun s hs hz => by
    have := (hS s hs).2.2 hz
    omega
  by_cases hi : ∃ j, j < n ∧ v1 = nI j
  · obtain ⟨j, hj, rfl⟩ := hi
    refine ⟨H (nI j).toNatClampNeg, fun post hp => ?_⟩
    unfold wpX_root
    exact mx_bad_f hn8 hj (br_t rfl ⟨vp_in_nI (by omega) (by omega), hp⟩)
  · refine ⟨0, fun post hp => ?_⟩
    unfold wpX_root
    exact mx_bad_t (mn_out (by omega) hi) (br_f (by decide) hp)
theorem pv_put (hn8 : n ≤ 8) (h : pv_Gd n lim mk u) (v1 v2 v3 : Int32) : ∃ (r : Int32) (u' : St2), pv_Gd n lim mk u' ∧ ∀ post : Int32 → St2 → Prop, post r u' → wpX_put post u v1 v2 v3 := by
  obtain ⟨op, U, kc, H, wd, ce, W, S, P, R, O, px, cd, K, sr, st, sz, pc, rfl, hG⟩ := h
  have hG0 := hG
  obtain ⟨hS, hD, hF, hX, hXW, hXZ, hC, hP0, hO, hT, hU1, hU2, hL, hop2, hmk⟩ := hG
  have hb : ∀ s, s < 30 → st s ≤ 1255 ∧ sz s ≤ 4 := fun s hs => ⟨(hS s hs).1, (hS s hs).2.1⟩
  have hr : ∀ s, s < 30 → 0 < sz s → sr s ≤ 4095 := fun s hs hz => by
    have := (hS s hs).2.2 hz
    omega
  by_cases hi : ∃ j, j < n ∧ v1 = nI j
  · obtain ⟨i, hi, rfl⟩ := hi
    have hv : vp_in (nI i) 8 := vp_in_nI (by omega) (by omega)
    rcases mc_own hS hX hXW (H (nI i).toNatClampNeg) with ⟨s, hA⟩ | hN
    · have hs := hA.1
      have hz := hA.2.1
      have hr1 := hr s hs hz
      have hS1 := (hS s hs).2.2 hz
      have hb1 := hb s hs
      obtain ⟨x1, x2, x3, x4⟩ := hX s hs hz
      have hm : P (sr s) + R (sr s) = sz s - 1 := by omega
      have h0 : ¬ nI (sr s) = 0 := nI_ne0 (by omega) (by omega)
      have hv2 : vp_in (nI (sr s)) 4096 := vp_in_nI (by omega) (by omega)
      by_cases hj : ∃ j, j < sz s - 1 ∧ v2 = nI j
      · obtain ⟨j, hj, rfl⟩ := hj
        by_cases c : pc s ≤ j
        · refine ⟨0, ((nI n), (nI lim), kc, (mc_oI op), (nI mk), (nI U), H, (upd wd (st s - 1000 + 1 + j) v3), (fun j => nI (W j)), (fun j => nI (S j)), (fun j => nI (P j)), (fun j => nI (R j)), (fun j => nI (O j)), (fun j => nI (px j)), (fun j => nI (cd j)), (fun j => nI (K j))), pv_gd (mc_G_put (c := v3) hG0 hs (by omega) ⟨fun z => absurd z (by omega), fun _ => rfl⟩), fun post hp => ?_⟩
          unfold wpX_put
          refine mx_bad_f hn8 hi (br_t rfl ⟨hv, mx_own_at hA (br_f h0 (mx_lack_f (by omega) hm hj (by omega) (br_t rfl ⟨hv2, ?_⟩)))⟩)
          rw [nI_clamp (by omega)]
          refine br_t ?_ (mx_fi (by omega) x1 (by omega) ⟨vp_in_nI (by omega) (by omega), nm_r (e' := upd wd (st s - 1000 + 1 + j) v3) ?_ hp⟩)
          · show nI (P (sr s)) ≤ nI j
            rw [x2]
            exact nI_le c (by omega)
          · rw [nI_clamp (by omega)]
        · refine ⟨-4, ((nI n), (nI lim), kc, (mc_oI op), (nI mk), (nI U), H, wd, (fun j => nI (W j)), (fun j => nI (S j)), (fun j => nI (P j)), (fun j => nI (R j)), (fun j => nI (O j)), (fun j => nI (px j)), (fun j => nI (cd j)), (fun j => nI (K j))), pv_gd hG0, fun post hp => ?_⟩
          unfold wpX_put
          refine mx_bad_f hn8 hi (br_t rfl ⟨hv, mx_own_at hA (br_f h0 (mx_lack_f (by omega) hm hj (by omega) (br_t rfl ⟨hv2, ?_⟩)))⟩)
          rw [nI_clamp (by omega)]
          refine br_f ?_ hp
          show ¬ nI (P (sr s)) ≤ nI j
          rw [x2]
          exact nI_ge (by omega) (by omega)
      · have ho := mn_out (by omega) hj
        refine ⟨-3, ((nI n), (nI lim), kc, (mc_oI op), (nI mk), (nI U), H, wd, (fun j => nI (W j)), (fun j => nI (S j)), (fun j => nI (P j)), (fun j => nI (R j)), (fun j => nI (O j)), (fun j => nI (px j)), (fun j => nI (cd j)), (fun j => nI (K j))), pv_gd hG0, fun post hp => ?_⟩
        unfold wpX_put
        exact mx_bad_f hn8 hi (br_t rfl ⟨hv, mx_own_at hA (br_f h0 (mx_lack_t (by omega) hm ho (br_f (by decide) hp)))⟩)
    · refine ⟨-2, ((nI n), (nI lim), kc, (mc_oI op), (nI mk), (nI U), H, wd, (fun j => nI (W j)), (fun j => nI (S j)), (fun j => nI (P j)), (fun j => nI (R j)), (fun j => nI (O j)), (fun j => nI (px j)), (fun j => nI (cd j)), (fun j => nI (K j))), pv_gd hG0, fun post hp => ?_⟩
      unfold wpX_put
      exact mx_bad_f hn8 hi (br_t rfl ⟨hv, mx_own_no hN (br_t rfl hp)⟩)
  · refine ⟨-1, ((nI n), (nI lim), kc, (mc_oI op), (nI mk), (nI U), H, wd, (fun j => nI (W j)), (fun j => nI (S j)), (fun j => nI (P j)), (fun j => nI (R j)), (fun j => nI (O j)), (fun j => nI (px j)), (fun j => nI (cd j)), (fun j => nI (K j))), pv_gd hG0, fun post hp => ?_⟩
    unfold wpX_put
    exact mx_bad_t (mn_out (by omega) hi) (br_f (by decide) hp)
theorem pv_load (hn8 : n ≤ 8) (h : pv_Gd n lim mk u) (v1 v2 v3 : Int32) : ∃ (r : Int32) (u' : St2), pv_Gd n lim mk u' ∧ ∀ post : Int32 → St2 → Prop, post r u' → wpX_load post u v1 v2 v3 := by
  obtain ⟨op, U, kc, H, wd, ce, W, S, P, R, O, px, cd, K, sr, st, sz, pc, rfl, hG⟩ := h
  have hG0 := hG
  obtain ⟨hS, hD, hF, hX, hXW, hXZ, hC, hP0, hO, hT, hU1, hU2, hL, hop2, hmk⟩ := hG
  have hb : ∀ s, s < 30 → st s ≤ 1255 ∧ sz s ≤ 4 := fun s hs => ⟨(hS s hs).1, (hS s hs).2.1⟩
  have hr : ∀ s, s < 30 → 0 < sz s → sr s ≤ 4095 := fun s hs hz => by
    have := (hS s hs).2.2 hz
    omega
  by_cases hi1 : ∃ j, j < n ∧ v1 = nI j
  · obtain ⟨i1, hi1, rfl⟩ := hi1
    have hv1 : vp_in (nI i1) 8 := vp_in_nI (by omega) (by omega)
    by_cases hi : ∃ j, j < n ∧ v2 = nI j
    · obtain ⟨i, hi, rfl⟩ := hi
      have hv : vp_in (nI i) 8 := vp_in_nI (by omega) (by omega)
      rcases mc_own hS hX hXW (H (nI i).toNatClampNeg) with ⟨s, hA⟩ | hN
      · have hs := hA.1
        have hz := hA.2.1
        have hr1 := hr s hs hz
        have hS1 := (hS s hs).2.2 hz
        have hb1 := hb s hs
        obtain ⟨x1, x2, x3, x4⟩ := hX s hs hz
        have hm : P (sr s) + R (sr s) = sz s - 1 := by omega
        have h0 : ¬ nI (sr s) = 0 := nI_ne0 (by omega) (by omega)
        by_cases hj : ∃ j, j < sz s - 1 ∧ v3 = nI j
        · obtain ⟨j, hj, rfl⟩ := hj
          refine ⟨0, ((nI n), (nI lim), kc, (mc_oI op), (nI mk), (nI U), (upd H (nI i1).toNatClampNeg (wd (st s - 1000 + 1 + j))), wd, (fun j => nI (W j)), (fun j => nI (S j)), (fun j => nI (P j)), (fun j => nI (R j)), (fun j => nI (O j)), (fun j => nI (px j)), (fun j => nI (cd j)), (fun j => nI (K j))), pv_gd hG0, fun post hp => ?_⟩
          unfold wpX_load
          refine mx_bad_f hn8 hi1 (br_t rfl (mx_bad_f hn8 hi (br_t rfl ⟨hv, mx_own_at hA (br_f h0 (mx_lack_f (by omega) hm hj (by omega) (br_t rfl (mx_fi (by omega) x1 (by omega) ⟨vp_in_nI (by omega) (by omega), hv1, nm_r (e' := upd H (nI i1).toNatClampNeg (wd (st s - 1000 + 1 + j))) ?_ hp⟩))))⟩)))
          rw [nI_clamp (n := st s - 1000 + 1 + j) (by omega)]
        · have ho := mn_out (by omega) hj
          refine ⟨-3, ((nI n), (nI lim), kc, (mc_oI op), (nI mk), (nI U), H, wd, (fun j => nI (W j)), (fun j => nI (S j)), (fun j => nI (P j)), (fun j => nI (R j)), (fun j => nI (O j)), (fun j => nI (px j)), (fun j => nI (cd j)), (fun j => nI (K j))), pv_gd hG0, fun post hp => ?_⟩
          unfold wpX_load
          exact mx_bad_f hn8 hi1 (br_t rfl (mx_bad_f hn8 hi (br_t rfl ⟨hv, mx_own_at hA (br_f h0 (mx_lack_t (by omega) hm ho (br_f (by decide) hp)))⟩)))
      · refine ⟨-2, ((nI n), (nI lim), kc, (mc_oI op), (nI mk), (nI U), H, wd, (fun j => nI (W j)), (fun j => nI (S j)), (fun j => nI (P j)), (fun j => nI (R j)), (fun j => nI (O j)), (fun j => nI (px j)), (fun j => nI (cd j)), (fun j => nI (K j))), pv_gd hG0, fun post hp => ?_⟩
        unfold wpX_load
        exact mx_bad_f hn8 hi1 (br_t rfl (mx_bad_f hn8 hi (br_t rfl ⟨hv, mx_own_no hN (br_t rfl hp)⟩)))
    · refine ⟨-1, ((nI n), (nI lim), kc, (mc_oI op), (nI mk), (nI U), H, wd, (fun j => nI (W j)), (fun j => nI (S j)), (fun j => nI (P j)), (fun j => nI (R j)), (fun j => nI (O j)), (fun j => nI (px j)), (fun j => nI (cd j)), (fun j => nI (K j))), pv_gd hG0, fun post hp => ?_⟩
      unfold wpX_load
      exact mx_bad_f hn8 hi1 (br_t rfl (mx_bad_t (mn_out (by omega) hi) (br_f (by decide) hp)))
  · refine ⟨-1, ((nI n), (nI lim), kc, (mc_oI op), (nI mk), (nI U), H, wd, (fun j => nI (W j)), (fun j => nI (S j)), (fun j => nI (P j)), (fun j => nI (R j)), (fun j => nI (O j)), (fun j => nI (px j)), (fun j => nI (cd j)), (fun j => nI (K j))), pv_gd hG0, fun post hp => ?_⟩
    unfold wpX_load
    exact mx_bad_t (mn_out (by omega) hi1) (br_f (by decide) hp)
theorem pv_link (hn8 : n ≤ 8) (h : pv_Gd n lim mk u) (v1 v2 v3 : Int32) : ∃ (r : Int32) (u' : St2), pv_Gd n lim mk u' ∧ ∀ post : Int32 → St2 → Prop, post r u' → wpX_link post u v1 v2 v3 := by
  obtain ⟨op, U, kc, H, wd, ce, W, S, P, R, O, px, cd, K, sr, st, sz, pc, rfl, hG⟩ := h
  have hG0 := hG
  obtain ⟨hS, hD, hF, hX, hXW, hXZ, hC, hP0, hO, hT, hU1, hU2, hL, hop2, hmk⟩ := hG
  have hb : ∀ s, s < 30 → st s ≤ 1255 ∧ sz s ≤ 4 := fun s hs => ⟨(hS s hs).1, (hS s hs).2.1⟩
  have hr : ∀ s, s < 30 → 0 < sz s → sr s ≤ 4095 := fun s hs hz => by
    have := (hS s hs).2.2 hz
    omega
  by_cases hi : ∃ j, j < n ∧ v1 = nI j
  · obtain ⟨i, hi, rfl⟩ := hi
    have hv : vp_in (nI i) 8 := vp_in_nI (by omega) (by omega)
    by_cases hi2 : ∃ j, j < n ∧ v3 = nI j
    · obtain ⟨i2, hi2, rfl⟩ := hi2
      have hv2 : vp_in (nI i2) 8 := vp_in_nI (by omega) (by omega)
      rcases mc_own hS hX hXW (H (nI i).toNatClampNeg) with ⟨s, hA⟩ | hN
      · have hs := hA.1
        have hz := hA.2.1
        have hr1 := hr s hs hz
        have hS1 := (hS s hs).2.2 hz
        have hb1 := hb s hs
        obtain ⟨x1, x2, x3, x4⟩ := hX s hs hz
        have hm : P (sr s) + R (sr s) = sz s - 1 := by omega
        have h0 : ¬ nI (sr s) = 0 := nI_ne0 (by omega) (by omega)
        have hvs : vp_in (nI (sr s)) 4096 := vp_in_nI (by omega) (by omega)
        by_cases hj : ∃ j, j < sz s - 1 ∧ v2 = nI j
        · obtain ⟨j, hj, rfl⟩ := hj
          by_cases c : j < pc s
          · have c' : (fun j => nI (P j)) (sr s) = nI (pc s) := congrArg nI x2
            have hc : nI j < nI (P (sr s)) := by
              rw [x2]
              exact nI_lt c (by omega)
            rcases mc_own hS hX hXW (H (nI i2).toNatClampNeg) with ⟨t, hB⟩ | hN
            · have ht := hB.1
              have hzt := hB.2.1
              have hrt := hr t ht hzt
              have hSt := (hS t ht).2.2 hzt
              have hne2 : ¬ nI (sr t) = 0 := nI_ne0 (by omega) (by omega)
              refine ⟨0, ((nI n), (nI lim), kc, (mc_oI op), (nI mk), (nI U), H, (upd wd (st s - 1000 + 1 + j) (nI (st t))), (fun j => nI (W j)), (fun j => nI (S j)), (fun j => nI (P j)), (fun j => nI (R j)), (fun j => nI (O j)), (fun j => nI (px j)), (fun j => nI (cd j)), (fun j => nI (K j))), pv_gd (mc_G_put (c := nI (sr t)) hG0 hs (by omega) ⟨fun _ => Or.inr ⟨t, ht, hzt, rfl, rfl⟩, fun z => absurd z (by omega)⟩), fun post hp => ?_⟩
              unfold wpX_link
              refine mx_bad_f hn8 hi (br_t rfl (mx_bad_f hn8 hi2 (br_t rfl ⟨hv, mx_own_at hA (br_f h0 (mx_lack_f (by omega) hm hj (by omega) (br_t rfl ⟨hvs, ?_⟩)))⟩)))
              rw [nI_clamp (n := sr s) (by omega)]
              exact br_t hc ⟨hv2, mx_own_at hB (br_f hne2 (mx_l94 (by omega) x1 (by omega) (by omega) (by omega) (hX t ht hzt).1 hp))⟩
            · by_cases hw : H (nI i2).toNatClampNeg = 0
              · have hS0 : S 0 = 0 := by
                  rcases hXZ 0 with z | ⟨s, hs, hz, z⟩
                  · exact z
                  · have := (hS s hs).2.2 hz
                    omega
                refine ⟨0, ((nI n), (nI lim), kc, (mc_oI op), (nI mk), (nI U), H, (upd wd (st s - 1000 + 1 + j) (nI 0)), (fun j => nI (W j)), (fun j => nI (S j)), (fun j => nI (P j)), (fun j => nI (R j)), (fun j => nI (O j)), (fun j => nI (px j)), (fun j => nI (cd j)), (fun j => nI (K j))), pv_gd (mc_G_put (c := 0) hG0 hs (by omega) ⟨fun _ => Or.inl ⟨rfl, rfl⟩, fun z => absurd z (by omega)⟩), fun post hp => ?_⟩
                unfold wpX_link
                refine mx_bad_f hn8 hi (br_t rfl (mx_bad_f hn8 hi2 (br_t rfl ⟨hv, mx_own_at hA (br_f h0 (mx_lack_f (by omega) hm hj (by omega) (br_t rfl ⟨hvs, ?_⟩)))⟩)))
                rw [nI_clamp (n := sr s) (by omega)]
                exact br_t hc ⟨hv2, mx_own_no hN (br_t rfl ⟨hv2, br_t hw (mx_l94 (v5 := 0) (by omega) x1 (by omega) (by omega) (by omega) hS0 hp)⟩)⟩
              · refine ⟨-2, ((nI n), (nI lim), kc, (mc_oI op), (nI mk), (nI U), H, wd, (fun j => nI (W j)), (fun j => nI (S j)), (fun j => nI (P j)), (fun j => nI (R j)), (fun j => nI (O j)), (fun j => nI (px j)), (fun j => nI (cd j)), (fun j => nI (K j))), pv_gd hG0, fun post hp => ?_⟩
                unfold wpX_link
                refine mx_bad_f hn8 hi (br_t rfl (mx_bad_f hn8 hi2 (br_t rfl ⟨hv, mx_own_at hA (br_f h0 (mx_lack_f (by omega) hm hj (by omega) (br_t rfl ⟨hvs, ?_⟩)))⟩)))
                rw [nI_clamp (n := sr s) (by omega)]
                exact br_t hc ⟨hv2, mx_own_no hN (br_t rfl ⟨hv2, br_f hw hp⟩)⟩
          · refine ⟨-4, ((nI n), (nI lim), kc, (mc_oI op), (nI mk), (nI U), H, wd, (fun j => nI (W j)), (fun j => nI (S j)), (fun j => nI (P j)), (fun j => nI (R j)), (fun j => nI (O j)), (fun j => nI (px j)), (fun j => nI (cd j)), (fun j => nI (K j))), pv_gd hG0, fun post hp => ?_⟩
            unfold wpX_link
            refine mx_bad_f hn8 hi (br_t rfl (mx_bad_f hn8 hi2 (br_t rfl ⟨hv, mx_own_at hA (br_f h0 (mx_lack_f (by omega) hm hj (by omega) (br_t rfl ⟨hvs, ?_⟩)))⟩)))
            rw [nI_clamp (n := sr s) (by omega)]
            refine br_f ?_ hp
            show ¬ nI j < nI (P (sr s))
            rw [x2]
            exact nI_nlt (by omega) (by omega)
        · have ho := mn_out (by omega) hj
          refine ⟨-3, ((nI n), (nI lim), kc, (mc_oI op), (nI mk), (nI U), H, wd, (fun j => nI (W j)), (fun j => nI (S j)), (fun j => nI (P j)), (fun j => nI (R j)), (fun j => nI (O j)), (fun j => nI (px j)), (fun j => nI (cd j)), (fun j => nI (K j))), pv_gd hG0, fun post hp => ?_⟩
          unfold wpX_link
          exact mx_bad_f hn8 hi (br_t rfl (mx_bad_f hn8 hi2 (br_t rfl ⟨hv, mx_own_at hA (br_f h0 (mx_lack_t (by omega) hm ho (br_f (by decide) hp)))⟩)))
      · refine ⟨-2, ((nI n), (nI lim), kc, (mc_oI op), (nI mk), (nI U), H, wd, (fun j => nI (W j)), (fun j => nI (S j)), (fun j => nI (P j)), (fun j => nI (R j)), (fun j => nI (O j)), (fun j => nI (px j)), (fun j => nI (cd j)), (fun j => nI (K j))), pv_gd hG0, fun post hp => ?_⟩
        unfold wpX_link
        exact mx_bad_f hn8 hi (br_t rfl (mx_bad_f hn8 hi2 (br_t rfl ⟨hv, mx_own_no hN (br_t rfl hp)⟩)))
    · refine ⟨-1, ((nI n), (nI lim), kc, (mc_oI op), (nI mk), (nI U), H, wd, (fun j => nI (W j)), (fun j => nI (S j)), (fun j => nI (P j)), (fun j => nI (R j)), (fun j => nI (O j)), (fun j => nI (px j)), (fun j => nI (cd j)), (fun j => nI (K j))), pv_gd hG0, fun post hp => ?_⟩
      unfold wpX_link
      exact mx_bad_f hn8 hi (br_t rfl (mx_bad_t (mn_out (by omega) hi2) (br_f (by decide) hp)))
  · refine ⟨-1, ((nI n), (nI lim), kc, (mc_oI op), (nI mk), (nI U), H, wd, (fun j => nI (W j)), (fun j => nI (S j)), (fun j => nI (P j)), (fun j => nI (R j)), (fun j => nI (O j)), (fun j => nI (px j)), (fun j => nI (cd j)), (fun j => nI (K j))), pv_gd hG0, fun post hp => ?_⟩
    unfold wpX_link
    exact mx_bad_t (mn_out (by omega) hi) (br_f (by decide) hp)
theorem pv_alloc (hn8 : n ≤ 8) (h : pv_Gd n lim mk u) (v1 v2 v3 : Int32) : ∃ (r : Int32) (u' : St2), ((r ≤ 0 ∧ pv_Gd n lim mk u') ∨ (¬ r ≤ 0 ∧ pv_Gd n lim (mk + 1) u')) ∧ ∀ post : Int32 → St2 → Prop, post r u' → wpX_alloc post u v1 v2 v3 := by
  obtain ⟨op, U, kc, H, wd, ce, W, S, P, R, O, px, cd, K, sr, st, sz, pc, rfl, hG⟩ := h
  have hG0 := hG
  obtain ⟨hS, hD, hF, hX, hXW, hXZ, hC, hP0, hO, hT, hU1, hU2, hL, hop2, hmk⟩ := hG
  have hb : ∀ s, s < 30 → st s ≤ 1255 ∧ sz s ≤ 4 := fun s hs => ⟨(hS s hs).1, (hS s hs).2.1⟩
  have hr : ∀ s, s < 30 → 0 < sz s → sr s ≤ 4095 := fun s hs hz => by
    have := (hS s hs).2.2 hz
    omega
  by_cases hi : ∃ j, j < n ∧ v1 = nI j
  · obtain ⟨i, hi, rfl⟩ := hi
    have hv : vp_in (nI i) 8 := vp_in_nI (by omega) (by omega)
    rcases mc_shape v2 v3 with ⟨np, nr, rfl, rfl, g1, g2, g3, g4⟩ | ⟨hbX, _⟩
    · have e4 : (1 + nI np) + nI nr = nI (1 + np + nr) := by rw [mn_1a, nI_add]
      by_cases c1 : U + (1 + np + nr) ≤ lim
      · have c1' : nI U + nI (1 + np + nr) ≤ nI lim := by
          rw [nI_add]
          exact nI_le c1 (by omega)
        by_cases c2 : mk < 4095
        · have c2' : nI mk < 4095 := nI_lt (b := 4095) c2 (by omega)
          obtain ⟨s, hs, hz, hlast⟩ := mc_last (mc_slot0 hS (by omega))
          have hph : mc_PH st sz O (mc_fbn st sz (fun _ => 0) 32) op (1 + np + nr) := by
            refine ⟨hb, by omega, fun p hp => ?_, fun p hp => (mc_fbn_32 hp).1, fun p hp => ?_, fun h => hO op h, hop2, by omega, by omega, fun _ => ?_⟩
            · have := hO p hp
              have := mc_wo_le st sz p
              omega
            · rw [hO p hp]
              exact ⟨fun z => ⟨(mc_fbn_32 hp).2.mpr z, z⟩, fun z => z.2⟩
            · obtain ⟨p, hp, hp0⟩ := mc_free0 hS (by omega)
              exact ⟨p, hp, by rw [hO p hp]; exact hp0⟩
          have hg := mc_pgs hph
          have hpl := fun post => mx_pl (post := post) (n := n) (lim := lim) (mk := mk) (U := U) (kc := kc) (H := H) (wd := wd) (W := W) (S := S) (P := P) (R := R) (px := px) (cd := cd) (K := K) hph
          generalize hpe : mc_pg O op (mc_wo st sz op) (1 + np + nr) = p at hg hpl
          obtain ⟨hp, hw8, hwp, hpo⟩ := hg
          generalize hwe : O p = w at hw8 hwp hpo hpl
          have hn4095 : vp_in (nI (mk + 1)) 4096 := vp_in_nI (by omega) (by omega)
          have ecm : (nI (mk + 1)).toNatClampNeg = mk + 1 := nI_clamp (by omega)
          have ea : 1000 + 8 * p + w - 1000 = 8 * p + w := by omega
          refine ⟨nI (1000 + 8 * p + w), ((nI n), (nI lim), kc, (mc_oI p), (nI (mk + 1)), (nI (U + (1 + np + nr))), (upd H (nI i).toNatClampNeg (nI (1000 + 8 * p + w))), (mc_rI wd (1000 + 8 * p + w - 1000) (1 + np + nr) 0), (fun j => nI (mc_rg W (1000 + 8 * p + w - 1000) (1 + np + nr) (mk + 1) j)), (fun j => nI (mc_up S (mk + 1) (1000 + 8 * p + w) j)), (fun j => nI (mc_up P (mk + 1) np j)), (fun j => nI (mc_up R (mk + 1) nr j)), (fun j => nI (mc_up O p (w + (1 + np + nr)) j)), (fun j => nI (px j)), (fun j => nI (cd j)), (fun j => nI (K j))), Or.inr ⟨nI_nle (by omega) (by omega), ?_⟩, fun post hq => ?_⟩
          · rw [ea]
            refine pv_gd (mc_alloc (cell' := mc_rI ce (3 * s) 3 0) hG0 hs hz rfl (by omega) (by omega) c1 c2 hp hwp rfl hw8 ?_ (fun j hj => mc_rI_in hj) (fun j hj => mc_rI_out hj) (fun j hj => ⟨mc_rI_in hj, mc_rg_in hj⟩) (fun j hj => ⟨mc_rI_out hj, mc_rg_out hj⟩))
            rcases hpo with z | ⟨z1, _, z3⟩
            · exact Or.inl z
            · exact Or.inr ⟨z1, z3⟩
          · unfold wpX_alloc
            refine mx_bad_f hn8 hi (br_t rfl (mx_shape_f g1 g2 g3 g4 (br_t rfl (nm_r e4 (br_t c1' (br_t c2' (hpl _ ?_)))))))
            refine nm_r (nI_1 mk) ⟨hn4095, nm_r (e' := fun j => nI (mc_up P (mk + 1) np j)) (by rw [ecm, mc_upI]) ⟨hn4095, nm_r (e' := fun j => nI (mc_up R (mk + 1) nr j)) (by rw [ecm, mc_upI]) ?_⟩⟩
            refine mx_settle (v := mk + 1) (a := 1000 + 8 * p + w) (m := 1 + np + nr) (by omega) (by omega) (by omega) (by omega) (by rw [mc_us, mc_us]) ?_
            refine mx_clear (by omega) (by omega) (by omega) ?_
            exact nm_r (nI_add U (1 + np + nr)) ⟨hv, nm_e hq⟩
        · have c2' : ¬ nI mk < 4095 := nI_nlt (b := 4095) (by omega) (by omega)
          refine ⟨-7, ((nI n), (nI lim), kc, (mc_oI op), (nI mk), (nI U), H, wd, (fun j => nI (W j)), (fun j => nI (S j)), (fun j => nI (P j)), (fun j => nI (R j)), (fun j => nI (O j)), (fun j => nI (px j)), (fun j => nI (cd j)), (fun j => nI (K j))), Or.inl ⟨by decide, pv_gd hG0⟩, fun post hp => ?_⟩
          unfold wpX_alloc
          exact mx_bad_f hn8 hi (br_t rfl (mx_shape_f g1 g2 g3 g4 (br_t rfl (nm_r e4 (br_t c1' (br_f c2' hp))))))
      · have c1' : ¬ nI U + nI (1 + np + nr) ≤ nI lim := by
          rw [nI_add]
          exact nI_ge (by omega) (by omega)
        refine ⟨-6, ((nI n), (nI lim), kc, (mc_oI op), (nI mk), (nI U), H, wd, (fun j => nI (W j)), (fun j => nI (S j)), (fun j => nI (P j)), (fun j => nI (R j)), (fun j => nI (O j)), (fun j => nI (px j)), (fun j => nI (cd j)), (fun j => nI (K j))), Or.inl ⟨by decide, pv_gd hG0⟩, fun post hp => ?_⟩
        unfold wpX_alloc
        exact mx_bad_f hn8 hi (br_t rfl (mx_shape_f g1 g2 g3 g4 (br_t rfl (nm_r e4 (br_f c1' hp)))))
    · refine ⟨-5, ((nI n), (nI lim), kc, (mc_oI op), (nI mk), (nI U), H, wd, (fun j => nI (W j)), (fun j => nI (S j)), (fun j => nI (P j)), (fun j => nI (R j)), (fun j => nI (O j)), (fun j => nI (px j)), (fun j => nI (cd j)), (fun j => nI (K j))), Or.inl ⟨by decide, pv_gd hG0⟩, fun post hp => ?_⟩
      unfold wpX_alloc
      exact mx_bad_f hn8 hi (br_t rfl (hbX _ (br_f (by decide) hp)))
  · refine ⟨-1, ((nI n), (nI lim), kc, (mc_oI op), (nI mk), (nI U), H, wd, (fun j => nI (W j)), (fun j => nI (S j)), (fun j => nI (P j)), (fun j => nI (R j)), (fun j => nI (O j)), (fun j => nI (px j)), (fun j => nI (cd j)), (fun j => nI (K j))), Or.inl ⟨by decide, pv_gd hG0⟩, fun post hp => ?_⟩
    unfold wpX_alloc
    exact mx_bad_t (mn_out (by omega) hi) (br_f (by decide) hp)
end
