/-! fields: field, put, link, load -/
section
variable {n lim op mk U : Nat} {kc ld oo : Int32} {H wd ce : Nat → Int32} {W S P R O px cd K sr st sz pc L py fb : Nat → Nat}
theorem my_tg_bad {post : Int32 → Prop} {i k : Int32} (ho : i < 0 ∨ (¬ i < 0 ∧ nI n ≤ i)) (h : post (-1)) : wpY_target post ((nI n), (nI lim), (nI mk), (mc_oI op), ld, H, (fun j => nI (sr j)), (fun j => nI (st j)), (fun j => nI (sz j)), (fun j => nI (pc j)), ce, (fun j => nI (L j)), (fun j => nI (py j)), (fun j => nI (fb j))) i k := by
  unfold wpY_target
  exact my_bad_t ho (br_f (by decide) h)
theorem my_tg_no {post : Int32 → Prop} {j : Nat} {k : Int32} (hn8 : n ≤ 8) (hj : j < n) (hN : mc_No st sz W (H (nI j).toNatClampNeg)) (h : post (-2)) : wpY_target post ((nI n), (nI lim), (nI mk), (mc_oI op), ld, H, (fun j => nI (sr j)), (fun j => nI (st j)), (fun j => nI (sz j)), (fun j => nI (pc j)), ce, (fun j => nI (L j)), (fun j => nI (py j)), (fun j => nI (fb j))) (nI j) k := by
  unfold wpY_target
  exact my_bad_f hn8 hj (br_t rfl ⟨vp_in_nI (by omega) (by omega), my_no hN (br_f (by decide) h)⟩)
theorem my_tg_f {post : Int32 → Prop} {j s : Nat} {k : Int32} (hb : ∀ s, s < 30 → st s ≤ 1255 ∧ sz s ≤ 4) (hD : mc_Dis sr st sz) (hn8 : n ≤ 8) (hj : j < n) (hA : mc_At sr st sz W (H (nI j).toNatClampNeg) s)
    (hk : k < 0 ∨ (¬ k < 0 ∧ nI (sz s - 1) ≤ k)) (h : post (-3)) : wpY_target post ((nI n), (nI lim), (nI mk), (mc_oI op), ld, H, (fun j => nI (sr j)), (fun j => nI (st j)), (fun j => nI (sz j)), (fun j => nI (pc j)), ce, (fun j => nI (L j)), (fun j => nI (py j)), (fun j => nI (fb j))) (nI j) k := by
  have hs := hA.1
  have hz := hA.2.1
  unfold wpY_target
  refine my_bad_f hn8 hj (br_t rfl ⟨vp_in_nI (by omega) (by omega), my_at hb hD hA (br_t (nI_pos' (by omega)) ?_)⟩)
  rcases hk with c | ⟨c, d⟩
  · exact br_t c h
  · refine br_f c ⟨vp_in_nI hs (by omega), br_f ?_ h⟩
    show ¬ k < nI (sz (nI s).toNatClampNeg) - nI 1
    rw [nI_clamp (by omega), pk_sub (by omega)]
    exact Int32.not_lt.mpr d
theorem my_tg_ok {post : Int32 → Prop} {j s kk : Nat} (hb : ∀ s, s < 30 → st s ≤ 1255 ∧ sz s ≤ 4) (hD : mc_Dis sr st sz) (hn8 : n ≤ 8) (hj : j < n) (hA : mc_At sr st sz W (H (nI j).toNatClampNeg) s)
    (hk : kk < sz s - 1) (h : post (nI s)) : wpY_target post ((nI n), (nI lim), (nI mk), (mc_oI op), ld, H, (fun j => nI (sr j)), (fun j => nI (st j)), (fun j => nI (sz j)), (fun j => nI (pc j)), ce, (fun j => nI (L j)), (fun j => nI (py j)), (fun j => nI (fb j))) (nI j) (nI kk) := by
  have hs := hA.1
  have hz := hA.2.1
  have hb1 := hb s hs
  unfold wpY_target
  refine my_bad_f hn8 hj (br_t rfl ⟨vp_in_nI (by omega) (by omega), my_at hb hD hA (br_t (nI_pos' (by omega)) (br_f (nI_pos (by omega)) ⟨vp_in_nI hs (by omega), br_t ?_ h⟩))⟩)
  show nI kk < nI (sz (nI s).toNatClampNeg) - nI 1
  rw [nI_clamp (by omega), pk_sub (by omega)]
  exact nI_lt hk (by omega)
theorem my_field {post : Int32 → Prop} {w : Int32} {s kk : Nat} (hb : ∀ s, s < 30 → st s ≤ 1255 ∧ sz s ≤ 4) (hS : mc_Slot mk sr st sz pc) (hmk : mk ≤ 4095) (hD : mc_Dis sr st sz) (hA : mc_At sr st sz W w s) (hk : kk < sz s - 1)
    (hC : mc_CG st sz (fun s k w => mc_LC sr st sz pc s k (ce (3 * s + k)) w) wd) (h : post (wd (st s - 1000 + 1 + kk))) : wpY_field post ((nI n), (nI lim), (nI mk), (mc_oI op), ld, H, (fun j => nI (sr j)), (fun j => nI (st j)), (fun j => nI (sz j)), (fun j => nI (pc j)), ce, (fun j => nI (L j)), (fun j => nI (py j)), (fun j => nI (fb j))) w (nI kk) := by
  have hs := hA.1
  have hz := hA.2.1
  have hb1 := hb s hs
  have hS1 := (hS s hs).2.2 hz
  have hr : ∀ s, s < 30 → 0 < sz s → sr s ≤ 4095 := fun s hs hz => by
    have := (hS s hs).2.2 hz
    omega
  have hv : vp_in (nI s) 30 := vp_in_nI hs (by omega)
  have ei : 3 * nI s + nI kk = nI (3 * s + kk) := by rw [mn_3m, nI_add]
  have hvi : vp_in (3 * nI s + nI kk) 90 := by rw [ei]; exact vp_in_nI (by omega) (by omega)
  have q : mc_LC sr st sz pc s kk (ce (3 * s + kk)) (wd (st s - 1000 + 1 + kk)) := hC s hs hz kk (by omega)
  unfold wpY_field
  refine my_at hb hD hA (br_f (nI_pos (by omega)) (br_f (nI_pos (by omega)) ⟨hv, br_t ?_ ⟨hv, ?_⟩⟩))
  · show nI kk < nI (sz (nI s).toNatClampNeg) - nI 1
    rw [nI_clamp (by omega), pk_sub (by omega)]
    exact nI_lt hk (by omega)
  · by_cases c : pc s ≤ kk
    · refine br_t ?_ ⟨hvi, ?_⟩
      · show nI (pc (nI s).toNatClampNeg) ≤ nI kk
        rw [nI_clamp (by omega)]
        exact nI_le c (by omega)
      · rw [ei, nI_clamp (by omega), ← q.2 c]
        exact h
    · refine br_f ?_ ⟨hvi, ?_⟩
      · show ¬ nI (pc (nI s).toNatClampNeg) ≤ nI kk
        rw [nI_clamp (by omega)]
        exact nI_ge (by omega) (by omega)
      · rw [ei, nI_clamp (by omega)]
        rcases q.1 (by omega) with ⟨q1, q2⟩ | ⟨t, ht, hzt, q1, q2⟩
        · rw [q1]
          refine my_adr_0 hb (fun t ht hzt e => ?_) ?_
          · have := (hS t ht).2.2 hzt
            rw [← nI_0] at e
            have := (nI_eq (by omega) (by omega)).mp e
            omega
          · rw [q2] at h
            exact h
        · rw [q1]
          refine my_adr_t hb hr hD ht hzt ?_
          rw [q2] at h
          exact h
theorem mc_G_put {s kk : Nat} {c w : Int32} (hG : mc_G mk lim op sr st sz pc ce wd S P R W O U) (hs : s < 30) (hk : kk + 1 < sz s) (hq : mc_LC sr st sz pc s kk c w) :
    mc_G mk lim op sr st sz pc (upd ce (3 * s + kk) c) (upd wd (st s - 1000 + 1 + kk) w) S P R W O U := by
  obtain ⟨hS, hD, hF, hX, hXW, hXZ, hC, hrest⟩ := hG
  refine ⟨hS, hD, hF, hX, hXW, hXZ, ?_, hrest⟩
  have hb1 := (hS s hs).2.1
  refine mc_CG_upd (Q' := fun s' k w => mc_LC sr st sz pc s' k (upd ce (3 * s + kk) c (3 * s' + k)) w) hS hD hC hs hk w ?_ (fun s' k' y h1 h2 h3 h4 => ?_)
  · show mc_LC sr st sz pc s kk (upd ce (3 * s + kk) c (3 * s + kk)) w
    rw [pk_us]
    exact hq
  · show mc_LC sr st sz pc s' k' (upd ce (3 * s + kk) c (3 * s' + k')) y
    have hb2 := (hS s' h1).2.1
    rw [pk_un (by omega)]
    exact h4
end
theorem i_vc_field {k : Nat} {u : SX} {v : SY} (I : i_Rel k u v) (hk : k + 4 ≤ 2050) (v1 : Int32) (v2 : Int32) : wpX_field (fun r => wpY_field (fun r' => r' = r ∧ i_Rel (k + 4) u v) v v1 v2) u v1 v2 := by
  have I0 := I
  obtain ⟨n, lim, op, mk, U, kc, ld, H, wd, ce, W, S, P, R, O, px, cd, K, sr, st, sz, pc, L, py, fb, rfl, rfl, hn2, hn8, hl, hpp, hG⟩ := I
  have hG0 := hG
  obtain ⟨hS, hD, hF, hX, hXW, hXZ, hC, hP0, hO, hT, hU1, hU2, hL, hop2, hmk⟩ := hG
  have hb : ∀ s, s < 30 → st s ≤ 1255 ∧ sz s ≤ 4 := fun s hs => ⟨(hS s hs).1, (hS s hs).2.1⟩
  have hr : ∀ s, s < 30 → 0 < sz s → sr s ≤ 4095 := fun s hs hz => by
    have := (hS s hs).2.2 hz
    omega
  unfold wpX_field
  rcases mc_own hS hX hXW v1 with ⟨s, hA⟩ | hN
  · have hs := hA.1
    have hz := hA.2.1
    have hr1 := hr s hs hz
    have hS1 := (hS s hs).2.2 hz
    have hb1 := hb s hs
    obtain ⟨x1, x2, x3, x4⟩ := hX s hs hz
    have hm : P (sr s) + R (sr s) = sz s - 1 := by omega
    by_cases hi : ∃ j, j < sz s - 1 ∧ v2 = nI j
    · obtain ⟨j, hj, rfl⟩ := hi
      refine mx_own_at hA (mx_lack_f (by omega) hm hj (by omega) (br_t rfl (mx_fi (by omega) x1 (by omega) ⟨vp_in_nI (by omega) (by omega), ?_⟩)))
      refine my_field hb hS hmk hD hA hj hC ⟨?_, I0⟩
      rw [nI_clamp (by omega)]
    · have ho := mn_out (by omega) hi
      refine mx_own_at hA (mx_lack_t (by omega) hm ho (br_f (by decide) ?_))
      unfold wpY_field
      refine my_at hb hD hA (br_f (nI_pos (by omega)) ?_)
      rcases ho with c | ⟨c, d⟩
      · exact br_t c ⟨rfl, I0⟩
      · refine br_f c ⟨vp_in_nI hs (by omega), br_f ?_ ⟨rfl, I0⟩⟩
        show ¬ v2 < nI (sz (nI s).toNatClampNeg) - nI 1
        rw [nI_clamp (by omega), pk_sub (by omega)]
        exact Int32.not_lt.mpr d
  · have ho : v2 < 0 ∨ (¬ v2 < 0 ∧ nI 0 ≤ v2) := mn_out (by omega) (fun z => by
      obtain ⟨j, hj, _⟩ := z
      omega)
    refine mx_own_no hN (mx_lack_t (v := 0) (m := 0) (by omega) (by omega) ho (br_f (by decide) ?_))
    unfold wpY_field
    exact my_no hN (br_t (by decide) ⟨rfl, I0⟩)
theorem i_vc_put {k : Nat} {u : SX} {v : SY} (I : i_Rel k u v) (hk : k + 4 ≤ 2050) (v1 : Int32) (v2 : Int32) (v3 : Int32) : wpX_put (fun r u' => wpY_put (fun r' v' => r' = r ∧ i_Rel (k + 4) u' v') v v1 v2 v3) u v1 v2 v3 := by
  have I0 := I
  obtain ⟨n, lim, op, mk, U, kc, ld, H, wd, ce, W, S, P, R, O, px, cd, K, sr, st, sz, pc, L, py, fb, rfl, rfl, hn2, hn8, hl, hpp, hG⟩ := I
  have hG0 := hG
  obtain ⟨hS, hD, hF, hX, hXW, hXZ, hC, hP0, hO, hT, hU1, hU2, hL, hop2, hmk⟩ := hG
  have hb : ∀ s, s < 30 → st s ≤ 1255 ∧ sz s ≤ 4 := fun s hs => ⟨(hS s hs).1, (hS s hs).2.1⟩
  have hr : ∀ s, s < 30 → 0 < sz s → sr s ≤ 4095 := fun s hs hz => by
    have := (hS s hs).2.2 hz
    omega
  unfold wpX_put
  by_cases hi : ∃ j, j < n ∧ v1 = nI j
  · obtain ⟨i, hi, rfl⟩ := hi
    have hv : vp_in (nI i) 8 := vp_in_nI (by omega) (by omega)
    rcases mc_own hS hX hXW (H (nI i).toNatClampNeg) with ⟨s, hA⟩ | hN
    · have hs := hA.1
      have hz := hA.2.1
      have hr1 := hr s hs hz
      have hS1 := (hS s hs).2.2 hz
      have hb1 := hb s hs
      obtain ⟨x1, x2, x3, x4⟩ := hX s hs hz
      have hm : P (sr s) + R (sr s) = sz s - 1 := by omega
      have h0 : ¬ nI (sr s) = 0 := nI_ne0 (by omega) (by omega)
      have hv2 : vp_in (nI (sr s)) 4096 := vp_in_nI (by omega) (by omega)
      by_cases hj : ∃ j, j < sz s - 1 ∧ v2 = nI j
      · obtain ⟨j, hj, rfl⟩ := hj
        have ei : 3 * nI s + nI j = nI (3 * s + j) := by rw [mn_3m, nI_add]
        refine mx_bad_f hn8 hi (br_t rfl ⟨hv, mx_own_at hA (br_f h0 (mx_lack_f (by omega) hm hj (by omega) (br_t rfl ⟨hv2, ?_⟩)))⟩)
        rw [nI_clamp (by omega)]
        by_cases c : pc s ≤ j
        · refine br_t ?_ (mx_fi (by omega) x1 (by omega) ⟨vp_in_nI (by omega) (by omega), nm_r (e' := upd wd (st s - 1000 + 1 + j) v3) ?_ ?_⟩)
          · show nI (P (sr s)) ≤ nI j
            rw [x2]
            exact nI_le c (by omega)
          · rw [nI_clamp (by omega)]
          · unfold wpY_put
            refine my_tg_ok hb hD hn8 hi hA hj (br_t (nI_pos' (by omega)) ⟨vp_in_nI hs (by omega), ?_⟩)
            refine br_t ?_ ⟨?_, nm_r (e' := upd ce (3 * s + j) v3) ?_ ⟨rfl, ?_⟩⟩
            · show nI (pc (nI s).toNatClampNeg) ≤ nI j
              rw [nI_clamp (by omega)]
              exact nI_le c (by omega)
            · rw [ei]
              exact vp_in_nI (by omega) (by omega)
            · rw [ei, nI_clamp (by omega)]
            · exact mc_rel hn2 hn8 hl hpp (mc_G_put hG0 hs (by omega) ⟨fun z => absurd z (by omega), fun _ => rfl⟩)
        · refine br_f ?_ ?_
          · show ¬ nI (P (sr s)) ≤ nI j
            rw [x2]
            exact nI_ge (by omega) (by omega)
          · unfold wpY_put
            refine my_tg_ok hb hD hn8 hi hA hj (br_t (nI_pos' (by omega)) ⟨vp_in_nI hs (by omega), br_f ?_ ⟨rfl, I0⟩⟩)
            show ¬ nI (pc (nI s).toNatClampNeg) ≤ nI j
            rw [nI_clamp (by omega)]
            exact nI_ge (by omega) (by omega)
      · have ho := mn_out (by omega) hj
        refine mx_bad_f hn8 hi (br_t rfl ⟨hv, mx_own_at hA (br_f h0 (mx_lack_t (by omega) hm ho (br_f (by decide) ?_)))⟩)
        unfold wpY_put
        exact my_tg_f hb hD hn8 hi hA ho (br_f (by decide) ⟨rfl, I0⟩)
    · refine mx_bad_f hn8 hi (br_t rfl ⟨hv, mx_own_no hN (br_t rfl ?_)⟩)
      unfold wpY_put
      exact my_tg_no hn8 hi hN (br_f (by decide) ⟨rfl, I0⟩)
  · have ho := mn_out (by omega) hi
    refine mx_bad_t ho (br_f (by decide) ?_)
    unfold wpY_put
    exact my_tg_bad ho (br_f (by decide) ⟨rfl, I0⟩)
theorem i_vc_load {k : Nat} {u : SX} {v : SY} (I : i_Rel k u v) (hk : k + 4 ≤ 2050) (v1 : Int32) (v2 : Int32) (v3 : Int32) : wpX_load (fun r u' => wpY_load (fun r' v' => r' = r ∧ i_Rel (k + 4) u' v') v v1 v2 v3) u v1 v2 v3 := by
  have I0 := I
  obtain ⟨n, lim, op, mk, U, kc, ld, H, wd, ce, W, S, P, R, O, px, cd, K, sr, st, sz, pc, L, py, fb, rfl, rfl, hn2, hn8, hl, hpp, hG⟩ := I
  have hG0 := hG
  obtain ⟨hS, hD, hF, hX, hXW, hXZ, hC, hP0, hO, hT, hU1, hU2, hL, hop2, hmk⟩ := hG
  have hb : ∀ s, s < 30 → st s ≤ 1255 ∧ sz s ≤ 4 := fun s hs => ⟨(hS s hs).1, (hS s hs).2.1⟩
  have hr : ∀ s, s < 30 → 0 < sz s → sr s ≤ 4095 := fun s hs hz => by
    have := (hS s hs).2.2 hz
    omega
  unfold wpX_load
  by_cases hi1 : ∃ j, j < n ∧ v1 = nI j
  · obtain ⟨i1, hi1, rfl⟩ := hi1
    have hv1 : vp_in (nI i1) 8 := vp_in_nI (by omega) (by omega)
    by_cases hi : ∃ j, j < n ∧ v2 = nI j
    · obtain ⟨i, hi, rfl⟩ := hi
      have hv : vp_in (nI i) 8 := vp_in_nI (by omega) (by omega)
      rcases mc_own hS hX hXW (H (nI i).toNatClampNeg) with ⟨s, hA⟩ | hN
      · have hs := hA.1
        have hz := hA.2.1
        have hr1 := hr s hs hz
        have hS1 := (hS s hs).2.2 hz
        have hb1 := hb s hs
        obtain ⟨x1, x2, x3, x4⟩ := hX s hs hz
        have hm : P (sr s) + R (sr s) = sz s - 1 := by omega
        have h0 : ¬ nI (sr s) = 0 := nI_ne0 (by omega) (by omega)
        by_cases hj : ∃ j, j < sz s - 1 ∧ v3 = nI j
        · obtain ⟨j, hj, rfl⟩ := hj
          refine mx_bad_f hn8 hi1 (br_t rfl (mx_bad_f hn8 hi (br_t rfl ⟨hv, mx_own_at hA (br_f h0 (mx_lack_f (by omega) hm hj (by omega) (br_t rfl (mx_fi (by omega) x1 (by omega) ⟨vp_in_nI (by omega) (by omega), hv1, nm_r (e' := upd H (nI i1).toNatClampNeg (wd (st s - 1000 + 1 + j))) ?_ ?_⟩))))⟩)))
          · rw [nI_clamp (n := st s - 1000 + 1 + j) (by omega)]
          · unfold wpY_load
            exact my_bad_f hn8 hi1 (br_t rfl (my_tg_ok hb hD hn8 hi hA hj (br_t (nI_pos' (by omega)) ⟨hv, my_field hb hS hmk hD hA hj hC ⟨hv1, nm_e ⟨rfl, mc_rel hn2 hn8 hl hpp hG0⟩⟩⟩)))
        · have ho := mn_out (by omega) hj
          refine mx_bad_f hn8 hi1 (br_t rfl (mx_bad_f hn8 hi (br_t rfl ⟨hv, mx_own_at hA (br_f h0 (mx_lack_t (by omega) hm ho (br_f (by decide) ?_)))⟩)))
          unfold wpY_load
          exact my_bad_f hn8 hi1 (br_t rfl (my_tg_f hb hD hn8 hi hA ho (br_f (by decide) ⟨rfl, I0⟩)))
      · refine mx_bad_f hn8 hi1 (br_t rfl (mx_bad_f hn8 hi (br_t rfl ⟨hv, mx_own_no hN (br_t rfl ?_)⟩)))
        unfold wpY_load
        exact my_bad_f hn8 hi1 (br_t rfl (my_tg_no hn8 hi hN (br_f (by decide) ⟨rfl, I0⟩)))
    · have ho := mn_out (by omega) hi
      refine mx_bad_f hn8 hi1 (br_t rfl (mx_bad_t ho (br_f (by decide) ?_)))
      unfold wpY_load
      exact my_bad_f hn8 hi1 (br_t rfl (my_tg_bad ho (br_f (by decide) ⟨rfl, I0⟩)))
  · have ho := mn_out (by omega) hi1
    refine mx_bad_t ho (br_f (by decide) ?_)
    unfold wpY_load
    exact my_bad_t ho (br_f (by decide) ⟨rfl, I0⟩)
