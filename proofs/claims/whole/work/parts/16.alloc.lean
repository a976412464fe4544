/-! alloc -/
section
variable {n lim op mk U : Nat} {kc ld oo : Int32} {H wd ce : Nat → Int32} {W S P R O px cd K sr st sz pc L py fb : Nat → Nat}
theorem mc_place {need : Nat} (hb : ∀ s, s < 30 → st s ≤ 1255 ∧ sz s ≤ 4) (hU : mc_sm sz 30 ≤ 60) (hO : ∀ p, p < 32 → O p < 1000) (hfb : ∀ p, p < 32 → fb p < 2)
    (hfree : ∀ p, p < 32 → (O p = 0 ↔ (fb p ≠ 0 ∧ mc_wo st sz p = 0))) (hopen : op < 32 → O op = mc_wo st sz op) (hop : op ≤ 32)
    (hn : 0 < need) (hn8 : need ≤ 8) (hex : (op = 32 ∨ 8 < mc_wo st sz op + need) → ∃ p, p < 32 ∧ O p = 0) :
    ∃ p w, p < 32 ∧ w + need ≤ 8 ∧ mc_wo st sz p = w ∧ O p = w ∧ (p = op ∨ (w = 0 ∧ fb p ≠ 0 ∧ (op = 32 ∨ 8 < mc_wo st sz op + need))) ∧
      (∀ post : Int32 → SX → Prop, post (nI (1000 + 8 * p + w)) ((nI n), (nI lim), kc, (mc_oI p), (nI mk), (nI U), H, wd, (fun j => nI (W j)), (fun j => nI (S j)), (fun j => nI (P j)), (fun j => nI (R j)), (fun j => nI (mc_up O p (w + need) j)), (fun j => nI (px j)), (fun j => nI (cd j)), (fun j => nI (K j))) → wpX_place post ((nI n), (nI lim), kc, (mc_oI op), (nI mk), (nI U), H, wd, (fun j => nI (W j)), (fun j => nI (S j)), (fun j => nI (P j)), (fun j => nI (R j)), (fun j => nI (O j)), (fun j => nI (px j)), (fun j => nI (cd j)), (fun j => nI (K j))) (nI need)) ∧
      (∀ post : Int32 → SY → Prop, post (nI (1000 + 8 * p + w)) ((nI n), (nI lim), (nI mk), (mc_oI p), ld, H, (fun j => nI (sr j)), (fun j => nI (st j)), (fun j => nI (sz j)), (fun j => nI (pc j)), ce, (fun j => nI (L j)), (fun j => nI (py j)), (fun j => nI (fb j))) → wpY_place post ((nI n), (nI lim), (nI mk), (mc_oI op), ld, H, (fun j => nI (sr j)), (fun j => nI (st j)), (fun j => nI (sz j)), (fun j => nI (pc j)), ce, (fun j => nI (L j)), (fun j => nI (py j)), (fun j => nI (fb j))) (nI need)) := by
  by_cases c : op < 32 ∧ mc_wo st sz op + need ≤ 8
  · refine ⟨op, mc_wo st sz op, c.1, c.2, rfl, hopen c.1, Or.inl rfl, fun post h => ?_, fun post h => ?_⟩
    · exact mx_place_o c.1 (hopen c.1) c.2 h
    · exact my_place_o hb c.1 rfl c.2 h
  · have c2 : op = 32 ∨ (op < 32 ∧ 8 < mc_wo st sz op + need) := by omega
    have c3 : op = 32 ∨ 8 < mc_wo st sz op + need := by omega
    obtain ⟨q, hq, hmin⟩ := pk_least (fun p => p < 32 ∧ O p = 0) (hex c3)
    have hq1 := (hfree q hq.1).mp hq.2
    have hm : ∀ p, p < q → O p ≠ 0 := fun p hp z => hmin p hp ⟨by have := hq.1; omega, z⟩
    have c4 : op = 32 ∨ (op < 32 ∧ 8 < O op + need) := by
      rcases c2 with z | ⟨z, z2⟩
      · exact Or.inl z
      · exact Or.inr ⟨z, by rw [hopen z]; exact z2⟩
    refine ⟨q, 0, hq.1, by omega, hq1.2, hq.2, Or.inr ⟨rfl, hq1.1, c3⟩, fun post h => ?_, fun post h => ?_⟩
    · rw [Nat.zero_add] at h
      exact mx_place_n c4 (by omega) hq.1 hq.2 hm hO h
    · refine my_place_n hb (by omega) hfb hn (by omega) c2 hq.1 hq1.1 hq1.2 (fun p hp => ?_) h
      by_cases z : fb p = 0
      · exact Or.inl z
      · exact Or.inr (fun z2 => hm p hp ((hfree p (by have := hq.1; omega)).mpr ⟨z, z2⟩))
theorem mc_shape (p1 p2 : Int32) : (∃ np nr, p1 = nI np ∧ p2 = nI nr ∧ np ≤ 3 ∧ nr ≤ 3 ∧ 1 ≤ np + nr ∧ np + nr ≤ 3) ∨
    ((∀ post : Int32 → Prop, post 1 → wpX_isBadShape post p1 p2) ∧ ∀ A B : Prop, A → ((p1 < 0 → A) ∧ (¬ p1 < 0 → ((3 < p1 → A) ∧ (¬ 3 < p1 → ((p2 < 0 → A) ∧ (¬ p2 < 0 → ((3 < p2 → A) ∧ (¬ 3 < p2 → ((p1 + p2 < 1 → A) ∧ (¬ p1 + p2 < 1 → ((p1 + p2 ≤ 3 → B) ∧ (¬ p1 + p2 ≤ 3 → A))))))))))))) := by
  by_cases c1 : p1 < 0
  · exact Or.inr ⟨fun post h => br_t c1 h, fun A B h => br_t c1 h⟩
  by_cases c2 : 3 < p1
  · exact Or.inr ⟨fun post h => br_f c1 (br_t c2 h), fun A B h => br_f c1 (br_t c2 h)⟩
  by_cases c3 : p2 < 0
  · exact Or.inr ⟨fun post h => br_f c1 (br_f c2 (br_t c3 h)), fun A B h => br_f c1 (br_f c2 (br_t c3 h))⟩
  by_cases c4 : 3 < p2
  · have c4' : ¬ p2 ≤ 3 := fun z => Int32.not_lt.mpr z c4
    exact Or.inr ⟨fun post h => br_f c1 (br_f c2 (br_f c3 (br_f c4' h))), fun A B h => br_f c1 (br_f c2 (br_f c3 (br_t c4 h)))⟩
  have c4' : p2 ≤ 3 := Int32.not_lt.mp c4
  by_cases c5 : p1 + p2 < 1
  · exact Or.inr ⟨fun post h => br_f c1 (br_f c2 (br_f c3 (br_t c4' (nm_e (br_t c5 h))))), fun A B h => br_f c1 (br_f c2 (br_f c3 (br_f c4 (br_t c5 h))))⟩
  by_cases c6 : p1 + p2 ≤ 3
  · left
    obtain ⟨np, h1, rfl⟩ := nI_of c1
    obtain ⟨nr, h2, rfl⟩ := nI_of c3
    have d1 : np ≤ 3 := by
      by_cases z : np ≤ 3
      · exact z
      · exact absurd (nI_lt (a := 3) (by omega) h1) c2
    have d2 : nr ≤ 3 := by
      by_cases z : nr ≤ 3
      · exact z
      · exact absurd (nI_lt (a := 3) (by omega) h2) c4
    rw [nI_add] at c5 c6
    refine ⟨np, nr, rfl, rfl, d1, d2, ?_, ?_⟩
    · by_cases z : 1 ≤ np + nr
      · exact z
      · exact absurd (nI_lt (b := 1) (by omega) (by omega)) c5
    · exact (nI_leI (b := 3) (by omega) (by omega)).mp c6
  · exact Or.inr ⟨fun post h => br_f c1 (br_f c2 (br_f c3 (br_t c4' (nm_e (br_f c5 (br_f c6 h)))))), fun A B h => br_f c1 (br_f c2 (br_f c3 (br_f c4 (br_f c5 (br_f c6 h)))))⟩
theorem mx_shape_f {post : Int32 → Prop} {np nr : Nat} (h1 : np ≤ 3) (h2 : nr ≤ 3) (h3 : 1 ≤ np + nr) (h4 : np + nr ≤ 3) (h : post 0) : wpX_isBadShape post (nI np) (nI nr) := by
  refine br_f (nI_pos (by omega)) (br_f (nI_nlt (a := 3) h1 (by omega)) (br_f (nI_pos (by omega)) (br_t (nI_le (b := 3) h2 (by omega)) (nm_r (nI_add np nr) ?_))))
  exact br_f (nI_nlt (b := 1) h3 (by omega)) (br_t (nI_le (b := 3) h4 (by omega)) h)
theorem mc_last (h : ∃ s, s < 30 ∧ sz s = 0) : ∃ s, s < 30 ∧ sz s = 0 ∧ ∀ t, s < t → t < 30 → sz t ≠ 0 := by
  obtain ⟨s, hs, hz⟩ := h
  obtain ⟨k, hk, hmin⟩ := pk_least (fun k => k < 30 ∧ sz (29 - k) = 0) ⟨29 - s, by omega, by
    have e : 29 - (29 - s) = s := by omega
    rw [e]; exact hz⟩
  refine ⟨29 - k, by omega, hk.2, fun t h1 h2 h3 => ?_⟩
  refine hmin (29 - t) (by omega) ⟨by omega, ?_⟩
  have e : 29 - (29 - t) = t := by omega
  rw [e]; exact h3
/-- freeBefore, filled below page i -/
def mc_fbn (st sz fb : Nat → Nat) (i p : Nat) : Nat := if p < i then (if mc_wo st sz p = 0 then 1 else 0) else fb p
theorem mc_fbn_0 : mc_fbn st sz fb 0 = fb := by
  funext p
  exact if_neg (by omega)
theorem mc_fbn_s (i : Nat) : mc_up (mc_fbn st sz fb i) i (if mc_wo st sz i = 0 then 1 else 0) = mc_fbn st sz fb (i + 1) := by
  funext p
  by_cases e : p = i
  · rw [e, mc_us]
    exact (if_pos (by omega)).symm
  · rw [mc_un e]
    unfold mc_fbn
    by_cases c : p < i
    · rw [if_pos c, if_pos (c := p < i + 1) (by omega)]
    · rw [if_neg c, if_neg (c := p < i + 1) (by omega)]
theorem mc_fbn_32 {p : Nat} (hp : p < 32) : mc_fbn st sz fb 32 p < 2 ∧ (mc_fbn st sz fb 32 p ≠ 0 ↔ mc_wo st sz p = 0) := by
  have e : mc_fbn st sz fb 32 p = (if mc_wo st sz p = 0 then 1 else 0) := if_pos hp
  rw [e]
  by_cases c : mc_wo st sz p = 0
  · rw [if_pos c]
    exact ⟨by omega, fun _ => c, fun _ => by omega⟩
  · rw [if_neg c]
    exact ⟨by omega, fun z => absurd rfl z, fun z => absurd z c⟩
theorem my_al_206 {post : Int32 → SY → Prop} {i s a : Nat} (hi : i < 8) (hs : s < 30) (ha : st s = a)
    (h : post (nI a) ((nI n), (nI lim), (nI mk), (mc_oI op), ld, (upd H (nI i).toNatClampNeg (nI a)), (fun j => nI (sr j)), (fun j => nI (st j)), (fun j => nI (sz j)), (fun j => nI (pc j)), (mc_rI ce (3 * s) 3 0), (fun j => nI (L j)), (fun j => nI (py j)), (fun j => nI (fb j)))) :
    ∀ d j, j + d = 3 → wY_alloc_206 post (nI i) (nI s) (nI n) (nI lim) (nI mk) (mc_oI op) ld (d + 1) (nI j) H (fun j => nI (sr j)) (fun j => nI (st j)) (fun j => nI (sz j)) (fun j => nI (pc j)) (mc_rI ce (3 * s) j 0) (fun j => nI (L j)) (fun j => nI (py j)) (fun j => nI (fb j)) := by
  have hv : vp_in (nI s) 30 := vp_in_nI hs (by omega)
  have ec : (nI s).toNatClampNeg = s := nI_clamp (by omega)
  intro d
  induction d with
  | zero =>
    intro j hj
    have ej : j = 3 := by omega
    rw [ej]
    refine br_t (nI_le (a := 3) (by omega) (by omega)) ⟨hv, vp_in_nI hi (by omega), nm_r (e' := upd H (nI i).toNatClampNeg (nI a)) ?_ ⟨hv, ?_⟩⟩
    · show upd H (nI i).toNatClampNeg (nI (st (nI s).toNatClampNeg)) = _
      rw [ec, ha]
    · show post (nI (st (nI s).toNatClampNeg)) _
      rw [ec, ha]
      exact h
  | succ d ih =>
    intro j hj
    have ei : 3 * nI s + nI j = nI (3 * s + j) := by rw [mn_3m, nI_add]
    refine br_f (nI_ge (b := 3) (by omega) (by omega)) ⟨?_, nm_r (e' := mc_rI ce (3 * s) (j + 1) 0) ?_ (nm_r (nI_1 j) (ih (j + 1) (by omega)))⟩
    · rw [ei]
      exact vp_in_nI (by omega) (by omega)
    · rw [ei, nI_clamp (by omega), mc_rI_s]
theorem my_al_118 {post : Int32 → SY → Prop} {i s np need p w a : Nat} (hb : ∀ s, s < 30 → st s ≤ 1255 ∧ sz s ≤ 4) (hU : mc_sm sz 30 < 1000) (hi : i < 8) (hs : s < 30) (hp : p < 32) (ha : 1000 + 8 * p + w = a)
    (hpl : ∀ post : Int32 → SY → Prop, post (nI (1000 + 8 * p + w)) ((nI n), (nI lim), (nI mk), (mc_oI p), ld, H, (fun j => nI (sr j)), (fun j => nI (st j)), (fun j => nI (sz j)), (fun j => nI (pc j)), ce, (fun j => nI (L j)), (fun j => nI (py j)), (fun j => nI (mc_fbn st sz fb 32 j))) → wpY_place post ((nI n), (nI lim), (nI mk), (mc_oI op), ld, H, (fun j => nI (sr j)), (fun j => nI (st j)), (fun j => nI (sz j)), (fun j => nI (pc j)), ce, (fun j => nI (L j)), (fun j => nI (py j)), (fun j => nI (mc_fbn st sz fb 32 j))) (nI need))
    (h : post (nI a) ((nI n), (nI lim), (nI (mk + 1)), (mc_oI p), ld, (upd H (nI i).toNatClampNeg (nI a)), (fun j => nI (mc_up sr s (mk + 1) j)), (fun j => nI (mc_up st s a j)), (fun j => nI (mc_up sz s need j)), (fun j => nI (mc_up pc s np j)), (mc_rI ce (3 * s) 3 0), (fun j => nI (L j)), (fun j => nI (py j)), (fun j => nI (mc_fbn st sz fb 32 j)))) :
    ∀ d j, j + d = 32 → wY_alloc_118 post (nI i) (nI np) (nI need) (nI s) (nI n) (nI lim) (nI mk) (mc_oI op) ld (d + 1) (nI j) H (fun j => nI (sr j)) (fun j => nI (st j)) (fun j => nI (sz j)) (fun j => nI (pc j)) ce (fun j => nI (L j)) (fun j => nI (py j)) (fun q => nI (mc_fbn st sz fb j q)) := by
  have hv : vp_in (nI s) 30 := vp_in_nI hs (by omega)
  have ec : (nI s).toNatClampNeg = s := nI_clamp (by omega)
  intro d
  induction d with
  | zero =>
    intro j hj
    have ej : j = 32 := by omega
    rw [ej]
    refine br_t (nI_le (a := 32) (by omega) (by omega)) (hpl _ ⟨hv, nm_r (e' := fun j => nI (mc_up st s a j)) ?_ (nm_r (nI_1 mk) ⟨hv, nm_r (e' := fun j => nI (mc_up sr s (mk + 1) j)) ?_ ⟨hv, nm_r (e' := fun j => nI (mc_up sz s need j)) ?_ ⟨hv, nm_r (e' := fun j => nI (mc_up pc s np j)) ?_ ⟨4, ?_⟩⟩⟩⟩)⟩)
    · rw [ec, ha, mc_upI]
    · rw [ec, mc_upI]
    · rw [ec, mc_upI]
    · rw [ec, mc_upI]
    · have := my_al_206 (st := mc_up st s a) (sr := mc_up sr s (mk + 1)) (sz := mc_up sz s need) (pc := mc_up pc s np) (mk := mk + 1) hi hs mc_us h 3 0 (by omega)
      rw [mc_rI_0] at this
      exact this
  | succ d ih =>
    intro j hj
    have hle := mc_wo_le st sz j
    have nx := ih (j + 1) (by omega)
    have es := mc_fbn_s (st := st) (sz := sz) (fb := fb) j
    refine br_f (nI_ge (b := 32) (by omega) (by omega)) (my_won (by omega) hb ?_)
    by_cases c : mc_wo st sz j = 0
    · rw [if_pos c] at es
      refine br_t (by rw [c, nI_0]) ⟨vp_in_nI (by omega) (by omega), nm_r (e' := fun q => nI (mc_fbn st sz fb (j + 1) q)) ?_ (nm_r (nI_1 j) nx)⟩
      rw [nI_clamp (by omega), mn_vb1, ← es]
      exact mc_upI _ j 1
    · rw [if_neg c] at es
      refine br_f (nI_ne0 (by omega) (by omega)) ⟨vp_in_nI (by omega) (by omega), nm_r (e' := fun q => nI (mc_fbn st sz fb (j + 1) q)) ?_ (nm_r (nI_1 j) nx)⟩
      rw [nI_clamp (by omega), mn_vb0, ← es]
      exact mc_upI _ j 0
theorem my_al_88 {post : Int32 → SY → Prop} {i s np need : Nat} (hb : ∀ s, s < 30 → st s ≤ 1255 ∧ sz s ≤ 4) (hs : s < 30) (hz : sz s = 0) (hl : ∀ t, s < t → t < 30 → sz t ≠ 0)
    (h : ∃ n118, wY_alloc_118 post (nI i) (nI np) (nI need) (nI s) (nI n) (nI lim) (nI mk) (mc_oI op) ld n118 0 H (fun j => nI (sr j)) (fun j => nI (st j)) (fun j => nI (sz j)) (fun j => nI (pc j)) ce (fun j => nI (L j)) (fun j => nI (py j)) (fun j => nI (fb j))) :
    ∀ d j x, j + d = 30 → (s < j → x = nI s) → wY_alloc_88 post (nI i) (nI np) (nI need) (nI n) (nI lim) (nI mk) (mc_oI op) ld H (fun j => nI (sr j)) (fun j => nI (st j)) (fun j => nI (sz j)) (fun j => nI (pc j)) ce (fun j => nI (L j)) (fun j => nI (py j)) (fun j => nI (fb j)) (d + 1) x (nI j) := by
  intro d
  induction d with
  | zero =>
    intro j x hj hx
    have ej : j = 30 := by omega
    rw [ej, hx (by omega)]
    exact br_t (nI_le (a := 30) (by omega) (by omega)) h
  | succ d ih =>
    intro j x hj hx
    have hbj := hb j (by omega)
    refine br_f (nI_ge (b := 30) (by omega) (by omega)) ⟨vp_in_nI (by omega) (by omega), ?_⟩
    rw [nI_clamp (by omega)]
    by_cases c : sz j = 0
    · refine br_t ?_ (nm_r (nI_1 j) (ih (j + 1) (nI j) (by omega) (fun z => ?_)))
      · show nI (sz j) = 0
        rw [c, nI_0]
      · by_cases e : j = s
        · rw [e]
        · exact absurd c (hl j (by omega) (by omega))
    · refine br_f (nI_ne0 (by omega) (by omega)) (nm_r (nI_1 j) (ih (j + 1) x (by omega) (fun z => ?_)))
      by_cases e : j = s
      · rw [e] at c
        exact absurd hz c
      · exact hx (by omega)
end
theorem i_vc_alloc {k : Nat} {u : SX} {v : SY} (I : i_Rel k u v) (hk : k + 4 ≤ 2050) (v1 : Int32) (v2 : Int32) (v3 : Int32) : wpX_alloc (fun r u' => wpY_alloc (fun r' v' => r' = r ∧ i_Rel (k + 4) u' v') v v1 v2 v3) u v1 v2 v3 := by
  have I0 := I
  obtain ⟨n, lim, op, mk, U, kc, ld, H, wd, ce, W, S, P, R, O, px, cd, K, sr, st, sz, pc, L, py, fb, rfl, rfl, hn2, hn8, hl, hpp, hG⟩ := I
  have hG0 := hG
  obtain ⟨hS, hD, hF, hX, hXW, hXZ, hC, hP0, hO, hT, hU1, hU2, hL, hop2, hmk⟩ := hG
  have hb : ∀ s, s < 30 → st s ≤ 1255 ∧ sz s ≤ 4 := fun s hs => ⟨(hS s hs).1, (hS s hs).2.1⟩
  have hr : ∀ s, s < 30 → 0 < sz s → sr s ≤ 4095 := fun s hs hz => by
    have := (hS s hs).2.2 hz
    omega
  unfold wpX_alloc
  by_cases hi : ∃ j, j < n ∧ v1 = nI j
  · obtain ⟨i, hi, rfl⟩ := hi
    have hv : vp_in (nI i) 8 := vp_in_nI (by omega) (by omega)
    refine mx_bad_f hn8 hi (br_t rfl ?_)
    rcases mc_shape v2 v3 with ⟨np, nr, rfl, rfl, g1, g2, g3, g4⟩ | ⟨hbX, hbY⟩
    · have e4 : (1 + nI np) + nI nr = nI (1 + np + nr) := by rw [mn_1a, nI_add]
      have hY : ∀ (r : Int32) (u' : SX), (((nI U + nI (1 + np + nr)) ≤ nI lim → ((nI mk < 4095 → ∃ n88, wY_alloc_88 (fun r' v' => r' = r ∧ i_Rel (k + 4) u' v') (nI i) (nI np) (nI (1 + np + nr)) (nI n) (nI lim) (nI mk) (mc_oI op) ld H (fun j => nI (sr j)) (fun j => nI (st j)) (fun j => nI (sz j)) (fun j => nI (pc j)) ce (fun j => nI (L j)) (fun j => nI (py j)) (fun j => nI (fb j)) n88 0 0) ∧ (¬ nI mk < 4095 → (-7 = r ∧ i_Rel (k + 4) u' ((nI n), (nI lim), (nI mk), (mc_oI op), ld, H, (fun j => nI (sr j)), (fun j => nI (st j)), (fun j => nI (sz j)), (fun j => nI (pc j)), ce, (fun j => nI (L j)), (fun j => nI (py j)), (fun j => nI (fb j))))))) ∧ (¬ (nI U + nI (1 + np + nr)) ≤ nI lim → (-6 = r ∧ i_Rel (k + 4) u' ((nI n), (nI lim), (nI mk), (mc_oI op), ld, H, (fun j => nI (sr j)), (fun j => nI (st j)), (fun j => nI (sz j)), (fun j => nI (pc j)), ce, (fun j => nI (L j)), (fun j => nI (py j)), (fun j => nI (fb j)))))) →
          wpY_alloc (fun r' v' => r' = r ∧ i_Rel (k + 4) u' v') ((nI n), (nI lim), (nI mk), (mc_oI op), ld, H, (fun j => nI (sr j)), (fun j => nI (st j)), (fun j => nI (sz j)), (fun j => nI (pc j)), ce, (fun j => nI (L j)), (fun j => nI (py j)), (fun j => nI (fb j))) (nI i) (nI np) (nI nr) := by
        intro r u' hh
        unfold wpY_alloc
        refine my_bad_f hn8 hi (br_t rfl (br_f (nI_pos (by omega)) (br_f (nI_nlt (a := 3) g1 (by omega)) (br_f (nI_pos (by omega)) (br_f (nI_nlt (a := 3) g2 (by omega)) (br_f ?_ (br_t ?_ (nm_r e4 (my_used ?_)))))))))
        · rw [nI_add]
          exact nI_nlt (b := 1) g3 (by omega)
        · rw [nI_add]
          exact nI_le (b := 3) g4 (by omega)
        · rw [← hU1]
          exact hh
      refine mx_shape_f g1 g2 g3 g4 (br_t rfl (nm_r e4 ?_))
      by_cases c1 : U + (1 + np + nr) ≤ lim
      · have c1' : nI U + nI (1 + np + nr) ≤ nI lim := by
          rw [nI_add]
          exact nI_le c1 (by omega)
        by_cases c2 : mk < 4095
        · have c2' : nI mk < 4095 := nI_lt (b := 4095) c2 (by omega)
          obtain ⟨s, hs, hz, hlast⟩ := mc_last (mc_slot0 hS (by omega))
          obtain ⟨p, w, hp, hw8, hwp, hOp, hpo, hX1, hY1⟩ := mc_place (n := n) (lim := lim) (mk := mk) (U := U) (kc := kc) (ld := ld) (H := H) (wd := wd) (ce := ce) (W := W) (S := S) (P := P) (R := R) (O := O) (px := px) (cd := cd) (K := K) (sr := sr) (pc := pc) (L := L) (py := py) (op := op) (st := st) (sz := sz) (fb := mc_fbn st sz fb 32) (need := 1 + np + nr) hb (by omega)
            (fun p hp => by
              have := hO p hp
              have := mc_wo_le st sz p
              omega) (fun p hp => (mc_fbn_32 hp).1) (fun p hp => by
              rw [hO p hp]
              exact ⟨fun z => ⟨(mc_fbn_32 hp).2.mpr z, z⟩, fun z => z.2⟩) (fun h => hO op h) hop2 (by omega) (by omega) (fun _ => by
              obtain ⟨p, hp, hp0⟩ := mc_free0 hS (by omega)
              exact ⟨p, hp, by rw [hO p hp]; exact hp0⟩)
          have hn4095 : vp_in (nI (mk + 1)) 4096 := vp_in_nI (by omega) (by omega)
          have ecm : (nI (mk + 1)).toNatClampNeg = mk + 1 := nI_clamp (by omega)
          have hR : i_Rel (k + 4) ((nI n), (nI lim), kc, (mc_oI p), (nI (mk + 1)), (nI (U + (1 + np + nr))), (upd H (nI i).toNatClampNeg (nI (1000 + 8 * p + w))), (mc_rI wd (1000 + 8 * p + w - 1000) (1 + np + nr) 0), (fun j => nI (mc_rg W (1000 + 8 * p + w - 1000) (1 + np + nr) (mk + 1) j)), (fun j => nI (mc_up S (mk + 1) (1000 + 8 * p + w) j)), (fun j => nI (mc_up P (mk + 1) np j)), (fun j => nI (mc_up R (mk + 1) nr j)), (fun j => nI (mc_up O p (w + (1 + np + nr)) j)), (fun j => nI (px j)), (fun j => nI (cd j)), (fun j => nI (K j))) ((nI n), (nI lim), (nI (mk + 1)), (mc_oI p), ld, (upd H (nI i).toNatClampNeg (nI (1000 + 8 * p + w))), (fun j => nI (mc_up sr s (mk + 1) j)), (fun j => nI (mc_up st s (1000 + 8 * p + w) j)), (fun j => nI (mc_up sz s (1 + np + nr) j)), (fun j => nI (mc_up pc s np j)), (mc_rI ce (3 * s) 3 0), (fun j => nI (L j)), (fun j => nI (py j)), (fun j => nI (mc_fbn st sz fb 32 j))) := by
            have ea : 1000 + 8 * p + w - 1000 = 8 * p + w := by omega
            rw [ea]
            refine mc_rel hn2 hn8 hl hpp (mc_alloc hG0 hs hz rfl (by omega) (by omega) c1 c2 hp hwp rfl hw8 ?_ (fun j hj => mc_rI_in hj) (fun j hj => mc_rI_out hj) (fun j hj => ⟨mc_rI_in hj, mc_rg_in hj⟩) (fun j hj => ⟨mc_rI_out hj, mc_rg_out hj⟩))
            rcases hpo with z | ⟨z1, _, z3⟩
            · exact Or.inl z
            · exact Or.inr ⟨z1, z3⟩
          refine br_t c1' (br_t c2' (hX1 _ ?_))
          refine nm_r (nI_1 mk) ⟨hn4095, nm_r (e' := fun j => nI (mc_up P (mk + 1) np j)) (by rw [ecm, mc_upI]) ⟨hn4095, nm_r (e' := fun j => nI (mc_up R (mk + 1) nr j)) (by rw [ecm, mc_upI]) ?_⟩⟩
          refine mx_settle (v := mk + 1) (a := 1000 + 8 * p + w) (m := 1 + np + nr) (by omega) (by omega) (by omega) (by omega) (by rw [mc_us, mc_us]) ?_
          refine mx_clear (by omega) (by omega) (by omega) ?_
          refine nm_r (nI_add U (1 + np + nr)) ⟨hv, nm_e ?_⟩
          refine hY _ _ (br_t c1' (br_t c2' ⟨31, my_al_88 hb hs hz hlast ⟨33, ?_⟩ 30 0 0 (by omega) (fun z => absurd z (by omega))⟩))
          have := my_al_118 (post := fun r' v' => r' = nI (1000 + 8 * p + w) ∧ i_Rel (k + 4) ((nI n), (nI lim), kc, (mc_oI p), (nI (mk + 1)), (nI (U + (1 + np + nr))), (upd H (nI i).toNatClampNeg (nI (1000 + 8 * p + w))), (mc_rI wd (1000 + 8 * p + w - 1000) (1 + np + nr) 0), (fun j => nI (mc_rg W (1000 + 8 * p + w - 1000) (1 + np + nr) (mk + 1) j)), (fun j => nI (mc_up S (mk + 1) (1000 + 8 * p + w) j)), (fun j => nI (mc_up P (mk + 1) np j)), (fun j => nI (mc_up R (mk + 1) nr j)), (fun j => nI (mc_up O p (w + (1 + np + nr)) j)), (fun j => nI (px j)), (fun j => nI (cd j)), (fun j => nI (K j))) v') hb (by omega) (by omega : i < 8) hs hp rfl hY1 ⟨rfl, hR⟩ 32 0 (by omega)
          rw [mc_fbn_0] at this
          exact this
        · have c2' : ¬ nI mk < 4095 := nI_nlt (b := 4095) (by omega) (by omega)
          exact br_t c1' (br_f c2' (hY _ _ (br_t c1' (br_f c2' ⟨rfl, I0⟩))))
      · have c1' : ¬ nI U + nI (1 + np + nr) ≤ nI lim := by
          rw [nI_add]
          exact nI_ge (by omega) (by omega)
        exact br_f c1' (hY _ _ (br_f c1' ⟨rfl, I0⟩))
    · refine hbX _ (br_f (by decide) ?_)
      unfold wpY_alloc
      exact my_bad_f hn8 hi (br_t rfl (hbY _ _ ⟨rfl, I0⟩))
  · have ho := mn_out (by omega) hi
    refine mx_bad_t ho (br_f (by decide) ?_)
    unfold wpY_alloc
    exact my_bad_t ho (br_f (by decide) ⟨rfl, I0⟩)
