/-! link -/
section
variable {n lim op mk U : Nat} {kc ld oo : Int32} {H wd ce : Nat → Int32} {W S P R O px cd K sr st sz pc L py fb : Nat → Nat}
theorem mc_At_ne {w : Int32} {s : Nat} (h : mc_At sr st sz W w s) : ¬ w = 0 := by
  obtain ⟨_, _, i, hi, rfl, _⟩ := h
  exact nI_ne0 (by omega) (by omega)
theorem mx_l94 {post : Int32 → SX → Prop} {j v5 v a x : Nat} (hv : v < 4096) (ha : S v = a) (h1 : 1000 ≤ a) (h2 : a - 1000 + 1 + j < 256) (hv5 : v5 < 4096) (hx : S v5 = x)
    (h : post 0 ((nI n), (nI lim), kc, (mc_oI op), (nI mk), (nI U), H, (upd wd (a - 1000 + 1 + j) (nI x)), (fun j => nI (W j)), (fun j => nI (S j)), (fun j => nI (P j)), (fun j => nI (R j)), (fun j => nI (O j)), (fun j => nI (px j)), (fun j => nI (cd j)), (fun j => nI (K j)))) : wX_link_94 post (nI j) (nI v) (nI v5) (nI n) (nI lim) kc (mc_oI op) (nI mk) (nI U) H wd (fun j => nI (W j)) (fun j => nI (S j)) (fun j => nI (P j)) (fun j => nI (R j)) (fun j => nI (O j)) (fun j => nI (px j)) (fun j => nI (cd j)) (fun j => nI (K j)) := by
  unfold wX_link_94
  refine mx_fi hv ha h1 ⟨vp_in_nI hv5 (by omega), vp_in_nI h2 (by omega), nm_r (e' := upd wd (a - 1000 + 1 + j) (nI x)) ?_ h⟩
  show upd wd (nI (a - 1000 + 1 + j)).toNatClampNeg (nI (S (nI v5).toNatClampNeg)) = _
  rw [nI_clamp (by omega), nI_clamp (by omega), hx]
theorem my_l65_at {post : Int32 → SY → Prop} {j i2 s t : Nat} (hb : ∀ s, s < 30 → st s ≤ 1255 ∧ sz s ≤ 4) (hD : mc_Dis sr st sz) (hi : i2 < 8) (hs : s < 30) (hj : j < 3) (hA : mc_At sr st sz W (H (nI i2).toNatClampNeg) t)
    (h : post 0 ((nI n), (nI lim), (nI mk), (mc_oI op), ld, H, (fun j => nI (sr j)), (fun j => nI (st j)), (fun j => nI (sz j)), (fun j => nI (pc j)), (upd ce (3 * s + j) (nI (sr t))), (fun j => nI (L j)), (fun j => nI (py j)), (fun j => nI (fb j)))) : wY_link_65 post (nI j) (nI i2) (nI s) (nI n) (nI lim) (nI mk) (mc_oI op) ld H (fun j => nI (sr j)) (fun j => nI (st j)) (fun j => nI (sz j)) (fun j => nI (pc j)) ce (fun j => nI (L j)) (fun j => nI (py j)) (fun j => nI (fb j)) := by
  have ei : 3 * nI s + nI j = nI (3 * s + j) := by rw [mn_3m, nI_add]
  have ht := hA.1
  unfold wY_link_65
  refine ⟨vp_in_nI hi (by omega), ?_⟩
  unfold wpY_serialAt
  refine my_at hb hD hA (br_t (nI_pos' (by omega)) ⟨vp_in_nI ht (by omega), ?_, nm_r (e' := upd ce (3 * s + j) (nI (sr t))) ?_ h⟩)
  · rw [ei]
    exact vp_in_nI (by omega) (by omega)
  · rw [ei, nI_clamp (by omega), nI_clamp (by omega)]
theorem my_l65_no {post : Int32 → SY → Prop} {j i2 s : Nat} (hi : i2 < 8) (hs : s < 30) (hj : j < 3) (hN : mc_No st sz W (H (nI i2).toNatClampNeg))
    (h : post 0 ((nI n), (nI lim), (nI mk), (mc_oI op), ld, H, (fun j => nI (sr j)), (fun j => nI (st j)), (fun j => nI (sz j)), (fun j => nI (pc j)), (upd ce (3 * s + j) 0), (fun j => nI (L j)), (fun j => nI (py j)), (fun j => nI (fb j)))) : wY_link_65 post (nI j) (nI i2) (nI s) (nI n) (nI lim) (nI mk) (mc_oI op) ld H (fun j => nI (sr j)) (fun j => nI (st j)) (fun j => nI (sz j)) (fun j => nI (pc j)) ce (fun j => nI (L j)) (fun j => nI (py j)) (fun j => nI (fb j)) := by
  have ei : 3 * nI s + nI j = nI (3 * s + j) := by rw [mn_3m, nI_add]
  unfold wY_link_65
  refine ⟨vp_in_nI hi (by omega), ?_⟩
  unfold wpY_serialAt
  refine my_no hN (br_f (by decide) ⟨?_, nm_r (e' := upd ce (3 * s + j) 0) ?_ h⟩)
  · rw [ei]
    exact vp_in_nI (by omega) (by omega)
  · rw [ei, nI_clamp (by omega)]
end
theorem i_vc_link {k : Nat} {u : SX} {v : SY} (I : i_Rel k u v) (hk : k + 4 ≤ 2050) (v1 : Int32) (v2 : Int32) (v3 : Int32) : wpX_link (fun r u' => wpY_link (fun r' v' => r' = r ∧ i_Rel (k + 4) u' v') v v1 v2 v3) u v1 v2 v3 := by
  have I0 := I
  obtain ⟨n, lim, op, mk, U, kc, ld, H, wd, ce, W, S, P, R, O, px, cd, K, sr, st, sz, pc, L, py, fb, rfl, rfl, hn2, hn8, hl, hpp, hG⟩ := I
  have hG0 := hG
  obtain ⟨hS, hD, hF, hX, hXW, hXZ, hC, hP0, hO, hT, hU1, hU2, hL, hop2, hmk⟩ := hG
  have hb : ∀ s, s < 30 → st s ≤ 1255 ∧ sz s ≤ 4 := fun s hs => ⟨(hS s hs).1, (hS s hs).2.1⟩
  have hr : ∀ s, s < 30 → 0 < sz s → sr s ≤ 4095 := fun s hs hz => by
    have := (hS s hs).2.2 hz
    omega
  unfold wpX_link
  by_cases hi : ∃ j, j < n ∧ v1 = nI j
  · obtain ⟨i, hi, rfl⟩ := hi
    have hv : vp_in (nI i) 8 := vp_in_nI (by omega) (by omega)
    by_cases hi2 : ∃ j, j < n ∧ v3 = nI j
    · obtain ⟨i2, hi2, rfl⟩ := hi2
      have hv2 : vp_in (nI i2) 8 := vp_in_nI (by omega) (by omega)
      rcases mc_own hS hX hXW (H (nI i).toNatClampNeg) with ⟨s, hA⟩ | hN
      · have hs := hA.1
        have hz := hA.2.1
        have hr1 := hr s hs hz
        have hS1 := (hS s hs).2.2 hz
        have hb1 := hb s hs
        obtain ⟨x1, x2, x3, x4⟩ := hX s hs hz
        have hm : P (sr s) + R (sr s) = sz s - 1 := by omega
        have h0 : ¬ nI (sr s) = 0 := nI_ne0 (by omega) (by omega)
        have hvs : vp_in (nI (sr s)) 4096 := vp_in_nI (by omega) (by omega)
        by_cases hj : ∃ j, j < sz s - 1 ∧ v2 = nI j
        · obtain ⟨j, hj, rfl⟩ := hj
          refine mx_bad_f hn8 hi (br_t rfl (mx_bad_f hn8 hi2 (br_t rfl ⟨hv, mx_own_at hA (br_f h0 (mx_lack_f (by omega) hm hj (by omega) (br_t rfl ⟨hvs, ?_⟩)))⟩)))
          rw [nI_clamp (n := sr s) (by omega)]
          by_cases c : j < pc s
          · refine br_t ?_ ⟨hv2, ?_⟩
            · show nI j < nI (P (sr s))
              rw [x2]
              exact nI_lt c (by omega)
            · have hY : ∀ (r : Int32) (u' : SX), ((H (nI i2).toNatClampNeg = 0 → wY_link_65 (fun r' v' => r' = r ∧ i_Rel (k + 4) u' v') (nI j) (nI i2) (nI s) (nI n) (nI lim) (nI mk) (mc_oI op) ld H (fun j => nI (sr j)) (fun j => nI (st j)) (fun j => nI (sz j)) (fun j => nI (pc j)) ce (fun j => nI (L j)) (fun j => nI (py j)) (fun j => nI (fb j))) ∧
                    (¬ H (nI i2).toNatClampNeg = 0 → wpY_slotAt (fun r_56 => (((0 ≤ r_56 → (wY_link_65 (fun r' v' => r' = r ∧ i_Rel (k + 4) u' v') (nI j) (nI i2) (nI s) (nI n) (nI lim) (nI mk) (mc_oI op) ld H (fun j => nI (sr j)) (fun j => nI (st j)) (fun j => nI (sz j)) (fun j => nI (pc j)) ce (fun j => nI (L j)) (fun j => nI (py j)) (fun j => nI (fb j)))) ∧ (¬ 0 ≤ r_56 → ((-2) = r ∧ i_Rel (k + 4) u' ((nI n), (nI lim), (nI mk), (mc_oI op), ld, H, (fun j => nI (sr j)), (fun j => nI (st j)), (fun j => nI (sz j)), (fun j => nI (pc j)), ce, (fun j => nI (L j)), (fun j => nI (py j)), (fun j => nI (fb j)))))))) ((nI n), (nI lim), (nI mk), (mc_oI op), ld, H, (fun j => nI (sr j)), (fun j => nI (st j)), (fun j => nI (sz j)), (fun j => nI (pc j)), ce, (fun j => nI (L j)), (fun j => nI (py j)), (fun j => nI (fb j))) (H (nI i2).toNatClampNeg))) →
                  wpY_link (fun r' v' => r' = r ∧ i_Rel (k + 4) u' v') ((nI n), (nI lim), (nI mk), (mc_oI op), ld, H, (fun j => nI (sr j)), (fun j => nI (st j)), (fun j => nI (sz j)), (fun j => nI (pc j)), ce, (fun j => nI (L j)), (fun j => nI (py j)), (fun j => nI (fb j))) (nI i) (nI j) (nI i2) := by
                intro r u' hh
                unfold wpY_link
                refine my_bad_f hn8 hi2 (br_t rfl (my_tg_ok hb hD hn8 hi hA hj (br_t (nI_pos' (by omega)) ⟨vp_in_nI hs (by omega), br_t ?_ ⟨hv2, hh.1, fun z => ⟨hv2, hh.2 z⟩⟩⟩)))
                show nI j < nI (pc (nI s).toNatClampNeg)
                rw [nI_clamp (by omega)]
                exact nI_lt c (by omega)
              rcases mc_own hS hX hXW (H (nI i2).toNatClampNeg) with ⟨t, hB⟩ | hN
              · have ht := hB.1
                have hzt := hB.2.1
                have hrt := hr t ht hzt
                have hSt := (hS t ht).2.2 hzt
                have hne := mc_At_ne hB
                have hne2 : ¬ nI (sr t) = 0 := nI_ne0 (by omega) (by omega)
                have hR : i_Rel (k + 4) ((nI n), (nI lim), kc, (mc_oI op), (nI mk), (nI U), H, (upd wd (st s - 1000 + 1 + j) (nI (st t))), (fun j => nI (W j)), (fun j => nI (S j)), (fun j => nI (P j)), (fun j => nI (R j)), (fun j => nI (O j)), (fun j => nI (px j)), (fun j => nI (cd j)), (fun j => nI (K j))) ((nI n), (nI lim), (nI mk), (mc_oI op), ld, H, (fun j => nI (sr j)), (fun j => nI (st j)), (fun j => nI (sz j)), (fun j => nI (pc j)), (upd ce (3 * s + j) (nI (sr t))), (fun j => nI (L j)), (fun j => nI (py j)), (fun j => nI (fb j))) :=
                  mc_rel hn2 hn8 hl hpp (mc_G_put hG0 hs (by omega) ⟨fun _ => Or.inr ⟨t, ht, hzt, rfl, rfl⟩, fun z => absurd z (by omega)⟩)
                refine mx_own_at hB (br_f hne2 (mx_l94 (by omega) x1 (by omega) (by omega) (by omega) (hX t ht hzt).1 ?_))
                refine hY _ _ ⟨fun z => absurd z hne, fun _ => my_at hb hD hB (br_t (nI_pos' (by omega)) ?_)⟩
                exact my_l65_at hb hD (by omega) hs (by omega) hB ⟨rfl, hR⟩
              · by_cases hw : H (nI i2).toNatClampNeg = 0
                · have hS0 : S 0 = 0 := by
                    rcases hXZ 0 with z | ⟨s, hs, hz, z⟩
                    · exact z
                    · have := (hS s hs).2.2 hz
                      omega
                  have hR : i_Rel (k + 4) ((nI n), (nI lim), kc, (mc_oI op), (nI mk), (nI U), H, (upd wd (st s - 1000 + 1 + j) (nI 0)), (fun j => nI (W j)), (fun j => nI (S j)), (fun j => nI (P j)), (fun j => nI (R j)), (fun j => nI (O j)), (fun j => nI (px j)), (fun j => nI (cd j)), (fun j => nI (K j))) ((nI n), (nI lim), (nI mk), (mc_oI op), ld, H, (fun j => nI (sr j)), (fun j => nI (st j)), (fun j => nI (sz j)), (fun j => nI (pc j)), (upd ce (3 * s + j) 0), (fun j => nI (L j)), (fun j => nI (py j)), (fun j => nI (fb j))) :=
                    mc_rel hn2 hn8 hl hpp (mc_G_put hG0 hs (by omega) ⟨fun _ => Or.inl ⟨rfl, rfl⟩, fun z => absurd z (by omega)⟩)
                  refine mx_own_no hN (br_t rfl ⟨hv2, br_t hw (mx_l94 (v5 := 0) (by omega) x1 (by omega) (by omega) (by omega) hS0 ?_)⟩)
                  exact hY _ _ ⟨fun _ => my_l65_no (by omega) hs (by omega) hN ⟨rfl, hR⟩, fun z => absurd hw z⟩
                · refine mx_own_no hN (br_t rfl ⟨hv2, br_f hw ?_⟩)
                  exact hY _ _ ⟨fun z => absurd z hw, fun _ => my_no hN (br_f (by decide) ⟨rfl, I0⟩)⟩
          · refine br_f ?_ ?_
            · show ¬ nI j < nI (P (sr s))
              rw [x2]
              exact nI_nlt (by omega) (by omega)
            · unfold wpY_link
              refine my_bad_f hn8 hi2 (br_t rfl (my_tg_ok hb hD hn8 hi hA hj (br_t (nI_pos' (by omega)) ⟨vp_in_nI hs (by omega), br_f ?_ ⟨rfl, I0⟩⟩)))
              show ¬ nI j < nI (pc (nI s).toNatClampNeg)
              rw [nI_clamp (by omega)]
              exact nI_nlt (by omega) (by omega)
        · have ho := mn_out (by omega) hj
          refine mx_bad_f hn8 hi (br_t rfl (mx_bad_f hn8 hi2 (br_t rfl ⟨hv, mx_own_at hA (br_f h0 (mx_lack_t (by omega) hm ho (br_f (by decide) ?_)))⟩)))
          unfold wpY_link
          exact my_bad_f hn8 hi2 (br_t rfl (my_tg_f hb hD hn8 hi hA ho (br_f (by decide) ⟨rfl, I0⟩)))
      · refine mx_bad_f hn8 hi (br_t rfl (mx_bad_f hn8 hi2 (br_t rfl ⟨hv, mx_own_no hN (br_t rfl ?_)⟩)))
        unfold wpY_link
        exact my_bad_f hn8 hi2 (br_t rfl (my_tg_no hn8 hi hN (br_f (by decide) ⟨rfl, I0⟩)))
    · have ho := mn_out (by omega) hi2
      refine mx_bad_f hn8 hi (br_t rfl (mx_bad_t ho (br_f (by decide) ?_)))
      unfold wpY_link
      exact my_bad_t ho (br_f (by decide) ⟨rfl, I0⟩)
  · have ho := mn_out (by omega) hi
    refine mx_bad_t ho (br_f (by decide) ?_)
    unfold wpY_link
    by_cases hi2 : ∃ j, j < n ∧ v3 = nI j
    · obtain ⟨i2, hi2, rfl⟩ := hi2
      exact my_bad_f hn8 hi2 (br_t rfl (my_tg_bad ho (br_f (by decide) ⟨rfl, I0⟩)))
    · exact my_bad_t (mn_out (by omega) hi2) (br_f (by decide) ⟨rfl, I0⟩)
