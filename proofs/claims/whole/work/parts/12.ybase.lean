/-! the reference's small methods -/
section
variable {n lim op mk U : Nat} {kc ld oo : Int32} {H wd ce : Nat → Int32} {W S P R O px cd K sr st sz pc L py fb : Nat → Nat}
theorem my_bad_f {post : Int32 → Prop} {k : Nat} (hn : n ≤ 8) (hk : k < n) (h : post 0) : wpY_bad post ((nI n), (nI lim), (nI mk), oo, ld, H, (fun j => nI (sr j)), (fun j => nI (st j)), (fun j => nI (sz j)), (fun j => nI (pc j)), ce, (fun j => nI (L j)), (fun j => nI (py j)), (fun j => nI (fb j))) (nI k) :=
  br_f (nI_pos (by omega)) (br_t (nI_lt hk (by omega)) h)
theorem my_bad_t {post : Int32 → Prop} {i : Int32} (hi : i < 0 ∨ (¬ i < 0 ∧ nI n ≤ i)) (h : post 1) : wpY_bad post ((nI n), (nI lim), (nI mk), oo, ld, H, (fun j => nI (sr j)), (fun j => nI (st j)), (fun j => nI (sz j)), (fun j => nI (pc j)), ce, (fun j => nI (L j)), (fun j => nI (py j)), (fun j => nI (fb j))) i := by
  rcases hi with c | ⟨c, d⟩
  · exact br_t c h
  · exact br_f c (br_f (Int32.not_lt.mpr d) h)
theorem my_slot_l {post : Int32 → Prop} {w : Int32} {s F : Nat} (hs : s ≤ 30) (hn : ∀ i, i < s → ¬ (nI (st i) ≤ w ∧ w < nI (st i + sz i))) (h : wY_slotAt_2 post w (nI n) (nI lim) (nI mk) oo ld H (fun j => nI (sr j)) (fun j => nI (st j)) (fun j => nI (sz j)) (fun j => nI (pc j)) ce (fun j => nI (L j)) (fun j => nI (py j)) (fun j => nI (fb j)) F (nI s)) :
    ∀ d i, i + d = s → wY_slotAt_2 post w (nI n) (nI lim) (nI mk) oo ld H (fun j => nI (sr j)) (fun j => nI (st j)) (fun j => nI (sz j)) (fun j => nI (pc j)) ce (fun j => nI (L j)) (fun j => nI (py j)) (fun j => nI (fb j)) (F + d) (nI i) := by
  intro d
  induction d with
  | zero =>
    intro i hi
    have ei : i = s := by omega
    rw [ei]
    exact h
  | succ d ih =>
    intro i hi
    have e : F + (d + 1) = (F + d) + 1 := rfl
    have hv : vp_in (nI i) 30 := vp_in_nI (by omega) (by omega)
    have ec : (nI i).toNatClampNeg = i := nI_clamp (by omega)
    rw [e]
    refine br_f (nI_ge (b := 30) (by omega) (by omega)) ⟨hv, ?_⟩
    rw [ec]
    by_cases c : w < nI (st i)
    · exact br_t c (nm_r (nI_1 i) (ih (i + 1) (by omega)))
    · refine br_f c ⟨hv, hv, br_t ?_ (nm_r (nI_1 i) (ih (i + 1) (by omega)))⟩
      show nI (st i) + nI (sz i) ≤ w
      rw [nI_add]
      exact Int32.not_lt.mp (fun z => hn i (by omega) ⟨Int32.not_lt.mp c, z⟩)
theorem my_no {post : Int32 → Prop} {w : Int32} (h : mc_No st sz W w) (hp : post (-1)) : wpY_slotAt post ((nI n), (nI lim), (nI mk), oo, ld, H, (fun j => nI (sr j)), (fun j => nI (st j)), (fun j => nI (sz j)), (fun j => nI (pc j)), ce, (fun j => nI (L j)), (fun j => nI (py j)), (fun j => nI (fb j))) w := by
  refine ⟨1 + 30, my_slot_l (s := 30) (F := 1) (by omega) (fun i hi => h.2 i hi) ?_ 30 0 (by omega)⟩
  exact br_t (nI_le (a := 30) (by omega) (by omega)) hp
theorem my_at {post : Int32 → Prop} {w : Int32} {s : Nat} (hS : ∀ s, s < 30 → st s ≤ 1255 ∧ sz s ≤ 4) (hD : mc_Dis sr st sz) (h : mc_At sr st sz W w s) (hp : post (nI s)) : wpY_slotAt post ((nI n), (nI lim), (nI mk), oo, ld, H, (fun j => nI (sr j)), (fun j => nI (st j)), (fun j => nI (sz j)), (fun j => nI (pc j)), ce, (fun j => nI (L j)), (fun j => nI (py j)), (fun j => nI (fb j))) w := by
  obtain ⟨hs, hz, a, ha, rfl, h1, h2, h3⟩ := h
  have b := hS s hs
  refine ⟨1 + s, my_slot_l (s := s) (F := 1) (by omega) (fun i hi hc => ?_) ?_ s 0 (by omega)⟩
  · have bi := hS i (by omega)
    rw [nI_leI (by omega) (by omega), nI_ltI (by omega) (by omega)] at hc
    have := (hD i s (by omega) hs (by omega) (by omega) hz).2
    omega
  · have hv : vp_in (nI s) 30 := vp_in_nI (by omega) (by omega)
    have ec : (nI s).toNatClampNeg = s := nI_clamp (by omega)
    refine br_f (nI_ge (b := 30) (by omega) (by omega)) ⟨hv, ?_⟩
    rw [ec]
    refine br_f (nI_nlt (by omega) (by omega)) ⟨hv, hv, br_f ?_ hp⟩
    show ¬ nI (st s) + nI (sz s) ≤ nI (1000 + a)
    rw [nI_add]
    exact nI_ge (by omega) (by omega)
theorem my_adr_l {post : Int32 → Prop} {c : Int32} {t F : Nat} (ht : t ≤ 30) (hS : ∀ s, s < 30 → st s ≤ 1255 ∧ sz s ≤ 4) (hn : ∀ i, i < t → 0 < sz i → ¬ nI (sr i) = c) (h : wY_addressOf_2 post c (nI n) (nI lim) (nI mk) oo ld H (fun j => nI (sr j)) (fun j => nI (st j)) (fun j => nI (sz j)) (fun j => nI (pc j)) ce (fun j => nI (L j)) (fun j => nI (py j)) (fun j => nI (fb j)) F (nI t)) :
    ∀ d i, i + d = t → wY_addressOf_2 post c (nI n) (nI lim) (nI mk) oo ld H (fun j => nI (sr j)) (fun j => nI (st j)) (fun j => nI (sz j)) (fun j => nI (pc j)) ce (fun j => nI (L j)) (fun j => nI (py j)) (fun j => nI (fb j)) (F + d) (nI i) := by
  intro d
  induction d with
  | zero =>
    intro i hi
    have ei : i = t := by omega
    rw [ei]
    exact h
  | succ d ih =>
    intro i hi
    have e : F + (d + 1) = (F + d) + 1 := rfl
    have hv : vp_in (nI i) 30 := vp_in_nI (by omega) (by omega)
    have ec : (nI i).toNatClampNeg = i := nI_clamp (by omega)
    have b := hS i (by omega)
    rw [e]
    refine br_f (nI_ge (b := 30) (by omega) (by omega)) ⟨hv, ?_⟩
    rw [ec]
    by_cases c : sz i = 0
    · exact br_t (nI_le (b := 0) (by omega) (by omega)) (nm_r (nI_1 i) (ih (i + 1) (by omega)))
    · exact br_f (nI_nle (by omega) (by omega)) ⟨hv, br_f (hn i (by omega) (by omega)) (nm_r (nI_1 i) (ih (i + 1) (by omega)))⟩
theorem my_adr_0 {post : Int32 → Prop} {c : Int32} (hS : ∀ s, s < 30 → st s ≤ 1255 ∧ sz s ≤ 4) (h : ∀ t, t < 30 → 0 < sz t → ¬ nI (sr t) = c) (hp : post 0) : wpY_addressOf post ((nI n), (nI lim), (nI mk), oo, ld, H, (fun j => nI (sr j)), (fun j => nI (st j)), (fun j => nI (sz j)), (fun j => nI (pc j)), ce, (fun j => nI (L j)), (fun j => nI (py j)), (fun j => nI (fb j))) c := by
  refine ⟨1 + 30, my_adr_l (t := 30) (F := 1) (by omega) hS h ?_ 30 0 (by omega)⟩
  exact br_t (nI_le (a := 30) (by omega) (by omega)) hp
theorem my_adr_t {post : Int32 → Prop} {t : Nat} (hS : ∀ s, s < 30 → st s ≤ 1255 ∧ sz s ≤ 4) (hr : ∀ s, s < 30 → 0 < sz s → sr s ≤ 4095) (hD : mc_Dis sr st sz) (ht : t < 30) (hz : 0 < sz t) (hp : post (nI (st t))) : wpY_addressOf post ((nI n), (nI lim), (nI mk), oo, ld, H, (fun j => nI (sr j)), (fun j => nI (st j)), (fun j => nI (sz j)), (fun j => nI (pc j)), ce, (fun j => nI (L j)), (fun j => nI (py j)), (fun j => nI (fb j))) (nI (sr t)) := by
  have b := hS t ht
  have r := hr t ht hz
  refine ⟨1 + t, my_adr_l (t := t) (F := 1) (by omega) hS (fun i hi hzi hc => ?_) ?_ t 0 (by omega)⟩
  · have ri := hr i (by omega) hzi
    exact (hD i t (by omega) ht (by omega) hzi hz).1 ((nI_eq (by omega) (by omega)).mp hc)
  · have hv : vp_in (nI t) 30 := vp_in_nI (by omega) (by omega)
    have ec : (nI t).toNatClampNeg = t := nI_clamp (by omega)
    refine br_f (nI_ge (b := 30) (by omega) (by omega)) ⟨hv, ?_⟩
    rw [ec]
    exact br_f (nI_nle hz (by omega)) ⟨hv, br_t rfl ⟨hv, hp⟩⟩
theorem my_won_l {post : Int32 → Prop} {p : Nat} (hp : p < 32) (hS : ∀ s, s < 30 → st s ≤ 1255 ∧ sz s ≤ 4) (h : post (nI (mc_wo st sz p))) :
    ∀ d i, i + d = 30 → wY_wordsOn_14 post (nI (1000 + 8 * p)) (nI n) (nI lim) (nI mk) oo ld H (fun j => nI (sr j)) (fun j => nI (st j)) (fun j => nI (sz j)) (fun j => nI (pc j)) ce (fun j => nI (L j)) (fun j => nI (py j)) (fun j => nI (fb j)) (d + 1) (nI (mc_sm (mc_w st sz p) i)) (nI i) := by
  intro d
  induction d with
  | zero =>
    intro i hi
    have ei : i = 30 := by omega
    rw [ei]
    exact br_t (nI_le (a := 30) (by omega) (by omega)) h
  | succ d ih =>
    intro i hi
    have hv : vp_in (nI i) 30 := vp_in_nI (by omega) (by omega)
    have ec : (nI i).toNatClampNeg = i := nI_clamp (by omega)
    have b := hS i (by omega)
    have nx := ih (i + 1) (by omega)
    refine br_f (nI_ge (b := 30) (by omega) (by omega)) ⟨hv, ?_⟩
    rw [ec]
    by_cases c : st i < 1000 + 8 * p
    · rw [mc_sm_s, mc_w_f (by omega), Nat.add_zero] at nx
      exact br_t (nI_lt c (by omega)) (nm_r (nI_1 i) nx)
    · refine br_f (nI_nlt (by omega) (by omega)) ⟨hv, ?_⟩
      by_cases c2 : 1000 + 8 * p + 8 ≤ st i
      · rw [mc_sm_s, mc_w_f (by omega), Nat.add_zero] at nx
        refine br_t ?_ (nm_r (nI_1 i) nx)
        rw [mn_a8]
        exact nI_le c2 (by omega)
      · rw [mc_sm_s, mc_w_t (by omega)] at nx
        refine br_f ?_ ⟨hv, nm_r (nI_add _ _) (nm_r (nI_1 i) nx)⟩
        rw [mn_a8]
        exact nI_ge (by omega) (by omega)
theorem my_won {post : Int32 → Prop} {p : Nat} (hp : p < 32) (hS : ∀ s, s < 30 → st s ≤ 1255 ∧ sz s ≤ 4) (h : post (nI (mc_wo st sz p))) : wpY_wordsOn post ((nI n), (nI lim), (nI mk), oo, ld, H, (fun j => nI (sr j)), (fun j => nI (st j)), (fun j => nI (sz j)), (fun j => nI (pc j)), ce, (fun j => nI (L j)), (fun j => nI (py j)), (fun j => nI (fb j))) (nI p) := by
  refine nm_r (e' := nI (1000 + 8 * p)) ?_ ⟨31, my_won_l hp hS h 30 0 (by omega)⟩
  rw [mn_m8, mn_a1000]
theorem my_used_l {post : Int32 → Prop} (h : post (nI (mc_sm sz 30))) :
    ∀ d i, i + d = 30 → wY_wordsUsed_4 post (nI n) (nI lim) (nI mk) oo ld H (fun j => nI (sr j)) (fun j => nI (st j)) (fun j => nI (sz j)) (fun j => nI (pc j)) ce (fun j => nI (L j)) (fun j => nI (py j)) (fun j => nI (fb j)) (d + 1) (nI (mc_sm sz i)) (nI i) := by
  intro d
  induction d with
  | zero =>
    intro i hi
    have ei : i = 30 := by omega
    rw [ei]
    exact br_t (nI_le (a := 30) (by omega) (by omega)) h
  | succ d ih =>
    intro i hi
    have hv : vp_in (nI i) 30 := vp_in_nI (by omega) (by omega)
    have ec : (nI i).toNatClampNeg = i := nI_clamp (by omega)
    have nx := ih (i + 1) (by omega)
    rw [mc_sm_s] at nx
    refine br_f (nI_ge (b := 30) (by omega) (by omega)) ⟨hv, ?_⟩
    rw [ec]
    exact nm_r (nI_add _ _) (nm_r (nI_1 i) nx)
theorem my_used {post : Int32 → Prop} (h : post (nI (mc_sm sz 30))) : wpY_wordsUsed post ((nI n), (nI lim), (nI mk), oo, ld, H, (fun j => nI (sr j)), (fun j => nI (st j)), (fun j => nI (sz j)), (fun j => nI (pc j)), ce, (fun j => nI (L j)), (fun j => nI (py j)), (fun j => nI (fb j))) :=
  ⟨31, my_used_l h 30 0 (by omega)⟩
theorem my_place_o {post : Int32 → SY → Prop} {need w : Nat} (hS : ∀ s, s < 30 → st s ≤ 1255 ∧ sz s ≤ 4) (ho : op < 32) (hw : mc_wo st sz op = w) (hn : w + need ≤ 8)
    (h : post (nI (1000 + 8 * op + w)) ((nI n), (nI lim), (nI mk), (mc_oI op), ld, H, (fun j => nI (sr j)), (fun j => nI (st j)), (fun j => nI (sz j)), (fun j => nI (pc j)), ce, (fun j => nI (L j)), (fun j => nI (py j)), (fun j => nI (fb j)))) : wpY_place post ((nI n), (nI lim), (nI mk), (mc_oI op), ld, H, (fun j => nI (sr j)), (fun j => nI (st j)), (fun j => nI (sz j)), (fun j => nI (pc j)), ce, (fun j => nI (L j)), (fun j => nI (py j)), (fun j => nI (fb j))) (nI need) := by
  rw [mc_oI_t ho] at h ⊢
  refine br_t (nI_pos' (by omega)) (my_won ho hS ?_)
  rw [hw]
  refine br_t ?_ ?_
  · rw [nI_add]
    exact nI_le (b := 8) hn (by omega)
  · show post ((1000 + nI op * 8) + nI w) _
    rw [mn_m8, mn_a1000, nI_add]
    exact h
section
variable {post : Int32 → SY → Prop} {q : Nat}
theorem my_place_a (hS : ∀ s, s < 30 → st s ≤ 1255 ∧ sz s ≤ 4) (hU : mc_sm sz 30 < 1000) (hb : ∀ p, p < 32 → fb p < 2) (hq : q < 32) (hm : ∀ p, p < q → fb p = 0 ∨ mc_wo st sz p ≠ 0)
    (h : post (nI (1000 + 8 * q)) ((nI n), (nI lim), (nI mk), (nI q), ld, H, (fun j => nI (sr j)), (fun j => nI (st j)), (fun j => nI (sz j)), (fun j => nI (pc j)), ce, (fun j => nI (L j)), (fun j => nI (py j)), (fun j => nI (fb j)))) :
    ∀ i, i < q → wY_place_32 post (nI n) (nI lim) (nI mk) ld H (fun j => nI (sr j)) (fun j => nI (st j)) (fun j => nI (sz j)) (fun j => nI (pc j)) ce (fun j => nI (L j)) (fun j => nI (py j)) (fun j => nI (fb j)) (i + 2) (nI i) (nI q) := by
  have hx : ∀ F, wY_place_32 post (nI n) (nI lim) (nI mk) ld H (fun j => nI (sr j)) (fun j => nI (st j)) (fun j => nI (sz j)) (fun j => nI (pc j)) ce (fun j => nI (L j)) (fun j => nI (py j)) (fun j => nI (fb j)) (F + 1) (-1) (nI q) := by
    intro F
    refine br_t mn_m1 ?_
    show post ((1000 + nI q * 8) + 0) _
    rw [mn_m8, mn_a1000, Int32.add_zero]
    exact h
  intro i
  induction i with
  | zero =>
    intro hi
    have e0 : nI 0 + (-1) = -1 := by decide
    refine br_f (nI_pos (by omega)) ⟨vp_in_nI (by omega) (by omega), ?_⟩
    have hb0 := hb 0 (by omega)
    rw [nI_clamp (by omega)]
    by_cases c : fb 0 = 0
    · refine br_t ?_ (nm_r e0 (hx 0))
      show nI (fb 0) = 0
      rw [c, nI_0]
    · refine br_f (nI_ne0 (by omega) (by omega)) (my_won (by omega) hS ?_)
      have hw : mc_wo st sz 0 ≠ 0 := by
        rcases hm 0 hi with z | z
        · exact absurd z c
        · exact z
      have := mc_wo_le st sz 0
      exact br_f (nI_ne0 (by omega) (by omega)) (nm_r e0 (hx 0))
  | succ i ih =>
    intro hi
    have nx := ih (by omega)
    refine br_f (nI_pos (by omega)) ⟨vp_in_nI (by omega) (by omega), ?_⟩
    have hb0 := hb (i + 1) (by omega)
    rw [nI_clamp (by omega)]
    by_cases c : fb (i + 1) = 0
    · refine br_t ?_ (nm_r (pk_m1 i) nx)
      show nI (fb (i + 1)) = 0
      rw [c, nI_0]
    · refine br_f (nI_ne0 (by omega) (by omega)) (my_won (by omega) hS ?_)
      have hw : mc_wo st sz (i + 1) ≠ 0 := by
        rcases hm (i + 1) hi with z | z
        · exact absurd z c
        · exact z
      have := mc_wo_le st sz (i + 1)
      exact br_f (nI_ne0 (by omega) (by omega)) (nm_r (pk_m1 i) nx)
theorem my_place_b (hS : ∀ s, s < 30 → st s ≤ 1255 ∧ sz s ≤ 4) (hU : mc_sm sz 30 < 1000) (hb : ∀ p, p < 32 → fb p < 2) (hq : q < 32) (hf : fb q ≠ 0) (h0 : mc_wo st sz q = 0) (hm : ∀ p, p < q → fb p = 0 ∨ mc_wo st sz p ≠ 0)
    (h : post (nI (1000 + 8 * q)) ((nI n), (nI lim), (nI mk), (nI q), ld, H, (fun j => nI (sr j)), (fun j => nI (st j)), (fun j => nI (sz j)), (fun j => nI (pc j)), ce, (fun j => nI (L j)), (fun j => nI (py j)), (fun j => nI (fb j)))) :
    ∀ d o, q + d < 32 → wY_place_32 post (nI n) (nI lim) (nI mk) ld H (fun j => nI (sr j)) (fun j => nI (st j)) (fun j => nI (sz j)) (fun j => nI (pc j)) ce (fun j => nI (L j)) (fun j => nI (py j)) (fun j => nI (fb j)) (q + d + 2) (nI (q + d)) o := by
  intro d
  induction d with
  | zero =>
    intro o hd
    have hbq := hb q hq
    refine br_f (nI_pos (by omega)) ⟨vp_in_nI (by omega) (by omega), ?_⟩
    rw [nI_clamp (by omega)]
    refine br_f (nI_ne0 (by show 0 < fb q; omega) (by show fb q < 2 ^ 31; omega)) (my_won (by omega) hS ?_)
    refine br_t ?_ ?_
    · show nI (mc_wo st sz q) = 0
      rw [h0, nI_0]
    · by_cases c : q = 0
      · subst c
        refine nm_r (e' := -1) (by decide) ?_
        refine br_t mn_m1 ?_
        show post ((1000 + nI 0 * 8) + 0) _
        rw [mn_m8, mn_a1000, Int32.add_zero]
        exact h
      · obtain ⟨q', rfl⟩ : ∃ q', q = q' + 1 := ⟨q - 1, by omega⟩
        exact nm_r (pk_m1 q') (my_place_a hS hU hb hq hm h q' (by omega))
  | succ d ih =>
    intro o hd
    have hb0 := hb (q + (d + 1)) hd
    have e1 : nI (q + (d + 1)) + (-1) = nI (q + d) := pk_m1 (q + d)
    refine br_f (nI_pos (by omega)) ⟨vp_in_nI (by omega) (by omega), ?_⟩
    rw [nI_clamp (by omega)]
    by_cases c : fb (q + (d + 1)) = 0
    · refine br_t ?_ (nm_r e1 (ih o (by omega)))
      show nI (fb (q + (d + 1))) = 0
      rw [c, nI_0]
    · refine br_f (nI_ne0 (by omega) (by omega)) (my_won (by omega) hS ?_)
      have := mc_wo_le st sz (q + (d + 1))
      by_cases c2 : mc_wo st sz (q + (d + 1)) = 0
      · refine br_t ?_ (nm_r e1 (ih _ (by omega)))
        rw [c2, nI_0]
      · exact br_f (nI_ne0 (by omega) (by omega)) (nm_r e1 (ih o (by omega)))
theorem my_place_n {need : Nat} (hS : ∀ s, s < 30 → st s ≤ 1255 ∧ sz s ≤ 4) (hU : mc_sm sz 30 < 1000) (hb : ∀ p, p < 32 → fb p < 2) (hn : 0 < need) (hn2 : need < 1000) (hop : op = 32 ∨ (op < 32 ∧ 8 < mc_wo st sz op + need))
    (hq : q < 32) (hf : fb q ≠ 0) (h0 : mc_wo st sz q = 0) (hm : ∀ p, p < q → fb p = 0 ∨ mc_wo st sz p ≠ 0)
    (h : post (nI (1000 + 8 * q)) ((nI n), (nI lim), (nI mk), (mc_oI q), ld, H, (fun j => nI (sr j)), (fun j => nI (st j)), (fun j => nI (sz j)), (fun j => nI (pc j)), ce, (fun j => nI (L j)), (fun j => nI (py j)), (fun j => nI (fb j)))) : wpY_place post ((nI n), (nI lim), (nI mk), (mc_oI op), ld, H, (fun j => nI (sr j)), (fun j => nI (st j)), (fun j => nI (sz j)), (fun j => nI (pc j)), ce, (fun j => nI (L j)), (fun j => nI (py j)), (fun j => nI (fb j))) (nI need) := by
  rw [mc_oI_t hq] at h
  have key : ∀ (z : Nat) (o : Int32), 8 < z + need → z < 1000 → wY_place_20 post (nI need) (nI z) (nI n) (nI lim) (nI mk) o ld H (fun j => nI (sr j)) (fun j => nI (st j)) (fun j => nI (sz j)) (fun j => nI (pc j)) ce (fun j => nI (L j)) (fun j => nI (py j)) (fun j => nI (fb j)) := by
    intro z o hz hz2
    refine br_f ?_ ⟨q + (31 - q) + 2, ?_⟩
    · rw [nI_add]
      exact nI_ge (a := 8) hz (by omega)
    · have := my_place_b hS hU hb hq hf h0 hm h (31 - q) o (by omega)
      have e : q + (31 - q) = 31 := by omega
      rw [e] at this ⊢
      exact this
  rcases hop with c | ⟨c, d⟩
  · rw [c, mc_oI_32]
    exact br_f (by decide) (key 8 (-1) (by omega) (by omega))
  · rw [mc_oI_t c]
    have := mc_wo_le st sz op
    exact br_t (nI_pos' (by omega)) (my_won c hS (key _ _ d (by omega)))
end
end
