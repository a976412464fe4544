/-! collect in the reference -/
section
variable {n lim op mk U : Nat} {kc ld oo : Int32} {H wd ce : Nat → Int32} {W S P R O px cd K sr st sz pc L py fb : Nat → Nat} {l : (Nat → Nat) × Nat} {s : Nat}
theorem my_inl {post : Int32 → Prop} {sz0 : Nat → Nat} (hl : mc_LG sz0 l) (hL : ∀ i, i < l.2 → L i = l.1 i) (hs : s < 30) (h1 : mc_in l s → post 1) (h0 : ¬ mc_in l s → post 0) : wpY_inList post ((nI n), (nI lim), (nI mk), oo, (nI l.2), H, (fun j => nI (sr j)), (fun j => nI (st j)), (fun j => nI (sz j)), (fun j => nI (pc j)), ce, (fun j => nI (L j)), (fun j => nI (py j)), (fun j => nI (fb j))) (nI s) := by
  have h30 := mc_LG_le hl
  have key : ∀ d i, i + d = l.2 → (∀ j, j < i → l.1 j ≠ s) → wY_inList_2 post (nI s) (nI n) (nI lim) (nI mk) oo (nI l.2) H (fun j => nI (sr j)) (fun j => nI (st j)) (fun j => nI (sz j)) (fun j => nI (pc j)) ce (fun j => nI (L j)) (fun j => nI (py j)) (fun j => nI (fb j)) (d + 1) (nI i) := by
    intro d
    induction d with
    | zero =>
      intro i hi hj
      have ei : i = l.2 := by omega
      rw [ei] at hj ⊢
      refine br_t (nI_le (by omega) (by omega)) (h0 ?_)
      rintro ⟨j, j1, j2⟩
      exact hj j j1 j2
    | succ d ih =>
      intro i hi hj
      have hli := hl.1 i (by omega)
      refine br_f (nI_ge (by omega) (by omega)) ⟨vp_in_nI (by omega) (by omega), ?_⟩
      rw [nI_clamp (by omega)]
      by_cases c : l.1 i = s
      · refine br_t ?_ (h1 ⟨i, by omega, c⟩)
        show nI (L i) = nI s
        rw [hL i (by omega), c]
      · refine br_f ?_ (nm_r (nI_1 i) (ih (i + 1) (by omega) (fun j hj2 => ?_)))
        · show ¬ nI (L i) = nI s
          rw [hL i (by omega), nI_eq (by omega) (by omega)]
          exact c
        · by_cases e : j = i
          · rw [e]; exact c
          · exact hj j (by omega)
  exact ⟨l.2 + 1, key l.2 0 (by omega) (fun j hj => absurd hj (by omega))⟩
theorem my_add_no {post : SY → Prop} {w : Int32} (hN : mc_No st sz W w) (h : post ((nI n), (nI lim), (nI mk), oo, ld, H, (fun j => nI (sr j)), (fun j => nI (st j)), (fun j => nI (sz j)), (fun j => nI (pc j)), ce, (fun j => nI (L j)), (fun j => nI (py j)), (fun j => nI (fb j)))) : wpY_addAt post ((nI n), (nI lim), (nI mk), oo, ld, H, (fun j => nI (sr j)), (fun j => nI (st j)), (fun j => nI (sz j)), (fun j => nI (pc j)), ce, (fun j => nI (L j)), (fun j => nI (py j)), (fun j => nI (fb j))) w :=
  my_no hN (br_t (by decide) h)
theorem my_add_at {post : SY → Prop} {w : Int32} (hb : ∀ s, s < 30 → st s ≤ 1255 ∧ sz s ≤ 4) (hD : mc_Dis sr st sz) (hA : mc_At sr st sz W w s) (hl : mc_LG sz l) (hL : ∀ i, i < l.2 → L i = l.1 i)
    (h : ∀ L' : Nat → Nat, (∀ i, i < (mc_ad l s).2 → L' i = (mc_ad l s).1 i) → post ((nI n), (nI lim), (nI mk), oo, (nI (mc_ad l s).2), H, (fun j => nI (sr j)), (fun j => nI (st j)), (fun j => nI (sz j)), (fun j => nI (pc j)), ce, (fun j => nI (L' j)), (fun j => nI (py j)), (fun j => nI (fb j)))) : wpY_addAt post ((nI n), (nI lim), (nI mk), oo, (nI l.2), H, (fun j => nI (sr j)), (fun j => nI (st j)), (fun j => nI (sz j)), (fun j => nI (pc j)), ce, (fun j => nI (L j)), (fun j => nI (py j)), (fun j => nI (fb j))) w := by
  have hs := hA.1
  have hz := hA.2.1
  have h30 := mc_LG_le hl
  refine my_at hb hD hA (br_f (nI_pos (by omega)) ?_)
  by_cases c : mc_in l s
  · have h1 := h L
    rw [mc_ad_isin c] at h1
    by_cases c2 : 30 ≤ l.2
    · exact br_t (nI_le (a := 30) c2 (by omega)) (h1 hL)
    · exact br_f (nI_ge (b := 30) (by omega) (by omega)) (my_inl hl hL hs (fun _ => br_f (by decide) (h1 hL)) (fun z => absurd c z))
  · have hlt := mc_LG_lt hl hs hz c
    have h1 := h (mc_up L l.2 s)
    rw [mc_ad_new hs c] at h1
    refine br_f (nI_ge (b := 30) hlt (by omega)) (my_inl hl hL hs (fun z => absurd z c) (fun _ => br_t rfl ⟨vp_in_nI hlt (by omega), nm_r (e' := fun j => nI (mc_up L l.2 s j)) ?_ (nm_r (nI_1 l.2) (h1 (fun i hi => ?_)))⟩))
    · rw [nI_clamp (by omega)]
      exact mc_upI _ _ _
    · have hi : i < l.2 + 1 := hi
      show mc_up L l.2 s i = mc_up l.1 l.2 s i
      by_cases e : i = l.2
      · rw [e, mc_us, mc_us]
      · rw [mc_un e, mc_un e]
        exact hL i (by omega)
theorem my_base_at {post : Int32 → Prop} {w : Int32} (hb : ∀ s, s < 30 → st s ≤ 1255 ∧ sz s ≤ 4) (hD : mc_Dis sr st sz) (hA : mc_At sr st sz W w s) (h : post (nI (st s))) : wpY_baseOf post ((nI n), (nI lim), (nI mk), oo, ld, H, (fun j => nI (sr j)), (fun j => nI (st j)), (fun j => nI (sz j)), (fun j => nI (pc j)), ce, (fun j => nI (L j)), (fun j => nI (py j)), (fun j => nI (fb j))) w := by
  have hs := hA.1
  unfold wpY_baseOf
  refine my_at hb hD hA (br_t (nI_pos' (by omega)) ⟨vp_in_nI hs (by omega), ?_⟩)
  rw [nI_clamp (by omega)]
  exact h
theorem my_base_no {post : Int32 → Prop} {w : Int32} (hN : mc_No st sz W w) (h : post 0) : wpY_baseOf post ((nI n), (nI lim), (nI mk), oo, ld, H, (fun j => nI (sr j)), (fun j => nI (st j)), (fun j => nI (sz j)), (fun j => nI (pc j)), ce, (fun j => nI (L j)), (fun j => nI (py j)), (fun j => nI (fb j))) w := by
  unfold wpY_baseOf
  exact my_no hN (br_f (by decide) h)
section
variable {post : Int32 → SY → Prop} {p : Nat} {pn : Nat → Nat}
theorem my_c50 {J : Int32 → Int32 → Int32 → Int32 → Int32 → Int32 → (Nat → Int32) → (Nat → Int32) → (Nat → Int32) → (Nat → Int32) → (Nat → Int32) → (Nat → Int32) → (Nat → Int32) → (Nat → Int32) → (Nat → Int32) → Prop} (hn8 : n ≤ 8) (hp : p < 32) (hS : mc_Slot mk sr st sz pc) (hD : mc_Dis sr st sz) (hX : mc_XS sr st sz pc S P R W) (hXW : mc_XW sr st sz W) (hPN : mc_PN n H sr st sz W pn)
    (h : ∃ n100, wY_collect_100 post J (nI p) (nI (1000 + 8 * p)) n100 (nI (1000 + 8 * p)) (nI n) (nI lim) (nI mk) oo ld H (fun j => nI (sr j)) (fun j => nI (st j)) (fun j => nI (sz j)) (fun j => nI (pc j)) ce (fun j => nI (L j)) (fun j => nI (mc_up py p (pn p) j)) (fun j => nI (fb j))) :
    ∀ d i v, i + d = n → v < 2 → (v = 1 ↔ ∃ r s, r < i ∧ mc_At sr st sz W (H r) s ∧ (st s - 1000) / 8 = p) →
      wY_collect_50 post J (nI p) (nI (1000 + 8 * p)) (nI n) (nI lim) (nI mk) oo ld (d + 1) (nI i) H (fun j => nI (sr j)) (fun j => nI (st j)) (fun j => nI (sz j)) (fun j => nI (pc j)) ce (fun j => nI (L j)) (fun j => nI (mc_up py p v j)) (fun j => nI (fb j)) := by
  have hb : ∀ s, s < 30 → st s ≤ 1255 ∧ sz s ≤ 4 := fun s hs => ⟨(hS s hs).1, (hS s hs).2.1⟩
  intro d
  induction d with
  | zero =>
    intro i v hi hv hiff
    have ei : i = n := by omega
    rw [ei] at hiff ⊢
    have h1 := hPN.1 p hp
    have ev : v = pn p := by
      by_cases z : v = 1
      · rw [z]
        exact (h1.2.mpr (hiff.mp z)).symm
      · have z2 : ¬ pn p = 1 := fun y => z (hiff.mpr (h1.2.mp y))
        have := h1.1
        clear hiff h1
        omega
    rw [ev]
    exact br_t (nI_le (by omega) (by omega)) h
  | succ d ih =>
    intro i v hi hv hiff
    refine br_f (nI_ge (by omega) (by omega)) ⟨vp_in_nI (by omega) (by omega), ?_⟩
    rw [nI_clamp (n := i) (by omega)]
    rcases mc_own hS hX hXW (H i) with ⟨s, hA⟩ | hN
    · have hbs := (hS s hA.1).2.2 hA.2.1
      have hb1 := (hS s hA.1).1
      refine my_base_at hb hD hA ?_
      by_cases c : (st s - 1000) / 8 = p
      · refine br_f (nI_nlt (by omega) (by omega)) (br_f ?_ ⟨vp_in_nI hp (by omega), nm_r (e' := fun j => nI (mc_up py p 1 j)) ?_ (nm_r (nI_1 i) (ih (i + 1) 1 (by omega) (by omega) ⟨fun _ => ⟨i, s, by omega, hA, c⟩, fun _ => rfl⟩))⟩)
        · rw [mn_a8]
          exact nI_ge (by omega) (by omega)
        · rw [nI_clamp (by omega), mn_vb1]
          refine Eq.trans (mc_upI _ p 1) ?_
          funext j
          by_cases e : j = p
          · rw [e, mc_us, mc_us]
          · rw [mc_un e, mc_un e, mc_un e]
      · have nx := ih (i + 1) v (by omega) hv (by
          rw [hiff]
          constructor
          · rintro ⟨r, t, hr, h1, h2⟩
            exact ⟨r, t, by omega, h1, h2⟩
          · rintro ⟨r, t, hr, h1, h2⟩
            by_cases er : r = i
            · rw [er] at h1
              have := mc_At_u hD h1 hA
              rw [this] at h2
              exact absurd h2 c
            · exact ⟨r, t, by omega, h1, h2⟩)
        by_cases c2 : st s < 1000 + 8 * p
        · exact br_t (nI_lt c2 (by omega)) (nm_r (nI_1 i) nx)
        · refine br_f (nI_nlt (by omega) (by omega)) (br_t ?_ (nm_r (nI_1 i) nx))
          rw [mn_a8]
          exact nI_le (by omega) (by omega)
    · have nx := ih (i + 1) v (by omega) hv (by
        rw [hiff]
        constructor
        · rintro ⟨r, t, hr, h1, h2⟩
          exact ⟨r, t, by omega, h1, h2⟩
        · rintro ⟨r, t, hr, h1, h2⟩
          by_cases er : r = i
          · rw [er] at h1
            exact absurd hN (mc_At_No hS h1)
          · exact ⟨r, t, by omega, h1, h2⟩)
      exact my_base_no hN (br_t (nI_lt (a := 0) (by omega) (by omega)) (nm_r (nI_1 i) nx))
theorem my_c100 {J : Int32 → Int32 → Int32 → Int32 → Int32 → Int32 → (Nat → Int32) → (Nat → Int32) → (Nat → Int32) → (Nat → Int32) → (Nat → Int32) → (Nat → Int32) → (Nat → Int32) → (Nat → Int32) → (Nat → Int32) → Prop} (hp : p < 32) (hS : mc_Slot mk sr st sz pc) (hD : mc_Dis sr st sz) (hX : mc_XS sr st sz pc S P R W) (hv : pn p < 2) (hpy : py p = pn p)
    (hL : ∀ i, i < (mc_pl pn (fun a => mc_fd st sz a 30) (8 * p)).2 → L i = (mc_pl pn (fun a => mc_fd st sz a 30) (8 * p)).1 i)
    (hJ : ∀ L' : Nat → Nat, (∀ i, i < (mc_pl pn (fun a => mc_fd st sz a 30) (8 * (p + 1))).2 → L' i = (mc_pl pn (fun a => mc_fd st sz a 30) (8 * (p + 1))).1 i) → J (nI (p + 1)) (nI n) (nI lim) (nI mk) oo (nI (mc_pl pn (fun a => mc_fd st sz a 30) (8 * (p + 1))).2) H (fun j => nI (sr j)) (fun j => nI (st j)) (fun j => nI (sz j)) (fun j => nI (pc j)) ce (fun j => nI (L' j)) (fun j => nI (py j)) (fun j => nI (fb j))) :
    ∃ n100, wY_collect_100 post J (nI p) (nI (1000 + 8 * p)) n100 (nI (1000 + 8 * p)) (nI n) (nI lim) (nI mk) oo (nI (mc_pl pn (fun a => mc_fd st sz a 30) (8 * p)).2) H (fun j => nI (sr j)) (fun j => nI (st j)) (fun j => nI (sz j)) (fun j => nI (pc j)) ce (fun j => nI (L j)) (fun j => nI (py j)) (fun j => nI (fb j)) := by
  have hb : ∀ s, s < 30 → st s ≤ 1255 ∧ sz s ≤ 4 := fun s hs => ⟨(hS s hs).1, (hS s hs).2.1⟩
  have hvp : vp_in (nI p) 32 := vp_in_nI hp (by omega)
  have ecp : (nI p).toNatClampNeg = p := nI_clamp (by omega)
  by_cases c : pn p = 1
  · have hne : ¬ nI (py p) = 0 := nI_ne0 (by omega) (by omega)
    have key : ∀ (d a : Nat) (L' : Nat → Nat), a + d = 8 * (p + 1) → 8 * p ≤ a → (∀ i, i < (mc_pl pn (fun a => mc_fd st sz a 30) a).2 → L' i = (mc_pl pn (fun a => mc_fd st sz a 30) a).1 i) →
        wY_collect_100 post J (nI p) (nI (1000 + 8 * p)) (d + 1) (nI (1000 + a)) (nI n) (nI lim) (nI mk) oo (nI (mc_pl pn (fun a => mc_fd st sz a 30) a).2) H (fun j => nI (sr j)) (fun j => nI (st j)) (fun j => nI (sz j)) (fun j => nI (pc j)) ce (fun j => nI (L' j)) (fun j => nI (py j)) (fun j => nI (fb j)) := by
      intro d
      induction d with
      | zero =>
        intro a L' ha h8 hL'
        have ea : a = 8 * (p + 1) := by omega
        rw [ea] at hL' ⊢
        refine ⟨hvp, ?_⟩
        rw [ecp]
        refine br_f hne (br_t ?_ (nm_r (nI_1 p) (hJ L' hL')))
        rw [mn_a8]
        exact nI_le (by omega) (by omega)
      | succ d ih =>
        intro a L' ha h8 hL'
        have epg : a / 8 = p := by omega
        have hlg := mc_pl_LG (pn := pn) (fd := fun a => mc_fd st sz a 30) (mc_fdz st sz) a
        have nx := fun L2 => ih (a + 1) L2 (by omega) (by omega)
        rw [mc_pl_t (by rw [epg]; exact c)] at nx
        refine ⟨hvp, ?_⟩
        rw [ecp]
        refine br_f hne (br_f ?_ ?_)
        · rw [mn_a8]
          exact nI_ge (by omega) (by omega)
        · rcases mc_fd_spec st sz (1000 + a) 30 (by omega) with ⟨f1, f2, f3⟩ | ⟨f1, f2⟩
          · exact my_add_at hb hD (mc_At_i hX hS f1 f2 f3) hlg hL' (fun L2 hL2 => nm_r (nI_1 (1000 + a)) (nx L2 hL2))
          · rw [f1, mc_ad_30] at nx
            have hN : mc_No st sz (fun _ => 0) (nI (1000 + a)) := ⟨fun _ _ _ => rfl, fun t ht hc => by
              have hbt := hb t ht
              rw [nI_leI (by omega) (by omega), nI_ltI (by omega) (by omega)] at hc
              exact f2 t ht hc⟩
            exact my_add_no hN (nm_r (nI_1 (1000 + a)) (nx L' hL'))
    exact ⟨9, key 8 (8 * p) L (by omega) (by omega) hL⟩
  · have e := mc_pl_skip (pn := pn) (fd := fun a => mc_fd st sz a 30) c 8 (by omega)
    have e8 : 8 * p + 8 = 8 * (p + 1) := by omega
    rw [e8] at e
    rw [e] at hJ
    refine ⟨1, hvp, ?_⟩
    rw [ecp]
    refine br_t ?_ (nm_r (nI_1 p) (hJ L hL))
    show nI (py p) = 0
    have e0 : py p = 0 := by omega
    rw [e0, nI_0]
theorem my_c7 (hn8 : n ≤ 8) (hS : mc_Slot mk sr st sz pc) (hD : mc_Dis sr st sz) (hX : mc_XS sr st sz pc S P R W) (hXW : mc_XW sr st sz W) (hU : mc_sm sz 30 ≤ 60) (hPN : mc_PN n H sr st sz W pn)
    (h : ∀ (L' fb' py' : Nat → Nat), (∀ i, i < (mc_pl pn (fun a => mc_fd st sz a 30) 256).2 → L' i = (mc_pl pn (fun a => mc_fd st sz a 30) 256).1 i) → (∀ q, q < 32 → fb' q < 2 ∧ (fb' q ≠ 0 ↔ mc_wo st sz q = 0)) → (∀ q, q < 32 → py' q = pn q) →
      ∃ n141, wY_collect_141 post (nI (mc_pl pn (fun a => mc_fd st sz a 30) 256).2) n141 0 (nI n) (nI lim) (nI mk) oo (nI (mc_pl pn (fun a => mc_fd st sz a 30) 256).2) H (fun j => nI (sr j)) (fun j => nI (st j)) (fun j => nI (sz j)) (fun j => nI (pc j)) ce (fun j => nI (L' j)) (fun j => nI (py' j)) (fun j => nI (fb' j))) :
    wpY_collect post ((nI n), (nI lim), (nI mk), oo, ld, H, (fun j => nI (sr j)), (fun j => nI (st j)), (fun j => nI (sz j)), (fun j => nI (pc j)), ce, (fun j => nI (L j)), (fun j => nI (py j)), (fun j => nI (fb j))) := by
  have hb : ∀ s, s < 30 → st s ≤ 1255 ∧ sz s ≤ 4 := fun s hs => ⟨(hS s hs).1, (hS s hs).2.1⟩
  have key : ∀ (d p : Nat) (L' fb' py' : Nat → Nat), p + d = 32 → (∀ i, i < (mc_pl pn (fun a => mc_fd st sz a 30) (8 * p)).2 → L' i = (mc_pl pn (fun a => mc_fd st sz a 30) (8 * p)).1 i) → (∀ q, q < p → fb' q < 2 ∧ (fb' q ≠ 0 ↔ mc_wo st sz q = 0)) → (∀ q, q < p → py' q = pn q) →
      wY_collect_7 post (d + 1) (nI p) (nI n) (nI lim) (nI mk) oo (nI (mc_pl pn (fun a => mc_fd st sz a 30) (8 * p)).2) H (fun j => nI (sr j)) (fun j => nI (st j)) (fun j => nI (sz j)) (fun j => nI (pc j)) ce (fun j => nI (L' j)) (fun j => nI (py' j)) (fun j => nI (fb' j)) := by
    intro d
    induction d with
    | zero =>
      intro p L' fb' py' hp hL hf hy
      have ep : p = 32 := by omega
      rw [ep] at hL hf hy ⊢
      exact br_t (nI_le (a := 32) (by omega) (by omega)) (h L' fb' py' hL hf hy)
    | succ d ih =>
      intro p L' fb' py' hp hL hf hy
      have hp32 : p < 32 := by omega
      have hvp : vp_in (nI p) 32 := vp_in_nI hp32 (by omega)
      have ecp : (nI p).toNatClampNeg = p := nI_clamp (by omega)
      have e1 : 1000 + nI p * 8 = nI (1000 + 8 * p) := by rw [mn_m8, mn_a1000]
      have hle := mc_wo_le st sz p
      have h40 : ∀ z : Nat, z < 2 → (z ≠ 0 ↔ mc_wo st sz p = 0) → vp_nar .boolean (nI z) = nI z → wY_collect_40 post (wY_collect_7 post (d + 1)) (nI p) (nI (1000 + 8 * p)) (nI z) (nI p) (nI n) (nI lim) (nI mk) oo (nI (mc_pl pn (fun a => mc_fd st sz a 30) (8 * p)).2) H (fun j => nI (sr j)) (fun j => nI (st j)) (fun j => nI (sz j)) (fun j => nI (pc j)) ce (fun j => nI (L' j)) (fun j => nI (py' j)) (fun j => nI (fb' j)) := by
        intro z hz hzi hnar
        unfold wY_collect_40
        refine ⟨hvp, nm_r (e' := fun j => nI (mc_up fb' p z j)) ?_ ⟨hvp, nm_r (e' := fun j => nI (mc_up py' p 0 j)) ?_ ⟨n + 1, ?_⟩⟩⟩
        · rw [ecp, hnar]
          exact mc_upI _ p z
        · rw [ecp, mn_vb0]
          exact mc_upI _ p 0
        · refine my_c50 hn8 hp32 hS hD hX hXW hPN ?_ n 0 0 (by omega) (by omega) ⟨fun z => absurd z (by omega), fun z => ?_⟩
          · refine my_c100 hp32 hS hD hX (hPN.1 p hp32).1 mc_us hL (fun L2 hL2 => ?_)
            refine ih (p + 1) L2 _ _ (by omega) hL2 (fun q hq => ?_) (fun q hq => ?_)
            · by_cases e : q = p
              · rw [e, mc_us]
                exact ⟨hz, hzi⟩
              · rw [mc_un e]
                exact hf q (by omega)
            · by_cases e : q = p
              · rw [e, mc_us]
              · rw [mc_un e]
                exact hy q (by omega)
          · obtain ⟨r, s, hr, _⟩ := z
            omega
      refine br_f (nI_ge (b := 32) (by omega) (by omega)) (nm_r e1 (my_won hp32 hb ?_))
      by_cases c : mc_wo st sz p = 0
      · refine br_t (by rw [c, nI_0]) (h40 1 (by omega) ⟨fun _ => c, fun _ => by omega⟩ mn_vb1)
      · refine br_f (nI_ne0 (by omega) (by omega)) (h40 0 (by omega) ⟨fun z => absurd rfl z, fun z => absurd z c⟩ mn_vb0)
  exact ⟨33, key 32 0 L fb py (by omega) (fun i hi => absurd hi (Nat.not_lt_zero i)) (fun q hq => absurd hq (by omega)) (fun q hq => absurd hq (by omega))⟩
theorem my_c149 {J : Int32 → Int32 → Int32 → Int32 → Int32 → Int32 → (Nat → Int32) → (Nat → Int32) → (Nat → Int32) → (Nat → Int32) → (Nat → Int32) → (Nat → Int32) → (Nat → Int32) → (Nat → Int32) → (Nat → Int32) → Prop} {x1 : Int32} {a : Nat} (ha : a < 30) (hS : mc_Slot mk sr st sz pc) (hmk : mk ≤ 4095) (hD : mc_Dis sr st sz) (hX : mc_XS sr st sz pc S P R W)
    (hC : mc_CG st sz (fun s k w => mc_LC sr st sz pc s k (ce (3 * s + k)) w) wd) (hl : mc_LG sz l) (hal : a < l.2) (hL : ∀ i, i < l.2 → L i = l.1 i)
    (hJ : ∀ L' : Nat → Nat, (∀ i, i < (mc_ri (mc_tg st sz wd) (l.1 a) l (pc (l.1 a))).2 → L' i = (mc_ri (mc_tg st sz wd) (l.1 a) l (pc (l.1 a))).1 i) → J (nI (a + 1)) (nI n) (nI lim) (nI mk) oo (nI (mc_ri (mc_tg st sz wd) (l.1 a) l (pc (l.1 a))).2) H (fun j => nI (sr j)) (fun j => nI (st j)) (fun j => nI (sz j)) (fun j => nI (pc j)) ce (fun j => nI (L' j)) (fun j => nI (py j)) (fun j => nI (fb j))) :
    ∃ n149, wY_collect_149 post J x1 (nI a) n149 0 (nI n) (nI lim) (nI mk) oo (nI l.2) H (fun j => nI (sr j)) (fun j => nI (st j)) (fun j => nI (sz j)) (fun j => nI (pc j)) ce (fun j => nI (L j)) (fun j => nI (py j)) (fun j => nI (fb j)) := by
  have hb : ∀ s, s < 30 → st s ≤ 1255 ∧ sz s ≤ 4 := fun s hs => ⟨(hS s hs).1, (hS s hs).2.1⟩
  have hr : ∀ s, s < 30 → 0 < sz s → sr s ≤ 4095 := fun s hs hz => by
    have := (hS s hs).2.2 hz
    omega
  have hs := hl.1 a hal
  have hbs := (hS _ hs.1).2.2 hs.2
  have hb4 := (hS _ hs.1).2.1
  have hva : vp_in (nI a) 30 := vp_in_nI ha (by omega)
  have eca : (nI a).toNatClampNeg = a := nI_clamp (by omega)
  have key : ∀ (d k : Nat) (L' : Nat → Nat), k + d = pc (l.1 a) → (∀ i, i < (mc_ri (mc_tg st sz wd) (l.1 a) l k).2 → L' i = (mc_ri (mc_tg st sz wd) (l.1 a) l k).1 i) →
      wY_collect_149 post J x1 (nI a) (d + 1) (nI k) (nI n) (nI lim) (nI mk) oo (nI (mc_ri (mc_tg st sz wd) (l.1 a) l k).2) H (fun j => nI (sr j)) (fun j => nI (st j)) (fun j => nI (sz j)) (fun j => nI (pc j)) ce (fun j => nI (L' j)) (fun j => nI (py j)) (fun j => nI (fb j)) := by
    intro d
    induction d with
    | zero =>
      intro k L' hk hL'
      have ek : k = pc (l.1 a) := by omega
      have hlg := mc_ri_LG (tg := mc_tg st sz wd) hl (mc_tgz st sz wd) (l.1 a) k
      have hle := mc_LG_le hlg
      have hpre := mc_ri_pre (mc_tg st sz wd) (l.1 a) l k
      have eL : L' a = l.1 a := by rw [hL' a (by omega), hpre.2 a hal]
      refine br_f (nI_ge (by omega) (by omega)) ⟨hva, ?_⟩
      rw [eca]
      show vp_in (nI (L' a)) 30 ∧ _
      rw [eL]
      refine ⟨vp_in_nI hs.1 (by omega), br_t ?_ (nm_r (nI_1 a) ?_)⟩
      · show nI (pc (nI (L' a)).toNatClampNeg) ≤ nI k
        rw [eL, nI_clamp (by omega)]
        exact nI_le (by omega) (by omega)
      · rw [ek] at hL' ⊢
        exact hJ L' hL'
    | succ d ih =>
      intro k L' hk hL'
      have hlg := mc_ri_LG (tg := mc_tg st sz wd) hl (mc_tgz st sz wd) (l.1 a) k
      have hle := mc_LG_le hlg
      have hpre := mc_ri_pre (mc_tg st sz wd) (l.1 a) l k
      have eL : L' a = l.1 a := by rw [hL' a (by omega), hpre.2 a hal]
      have nx := fun L2 => ih (k + 1) L2 (by omega)
      rw [mc_ri_s] at nx
      have ei : 3 * nI (l.1 a) + nI k = nI (3 * l.1 a + k) := by rw [mn_3m, nI_add]
      have q : mc_LC sr st sz pc (l.1 a) k (ce (3 * l.1 a + k)) (wd (st (l.1 a) - 1000 + 1 + k)) := hC _ hs.1 hs.2 k (by omega)
      refine br_f (nI_ge (by omega) (by omega)) ⟨hva, ?_⟩
      rw [eca]
      show vp_in (nI (L' a)) 30 ∧ ((nI (pc (nI (L' a)).toNatClampNeg) ≤ nI k → _) ∧ (¬ nI (pc (nI (L' a)).toNatClampNeg) ≤ nI k → (_ ∧ (vp_in (3 * nI (L' a) + nI k) 90 ∧ wpY_addressOf _ _ (ce (3 * nI (L' a) + nI k).toNatClampNeg)))))
      rw [eL, ei]
      refine ⟨vp_in_nI hs.1 (by omega), br_f ?_ ⟨hva, vp_in_nI (by omega) (by omega), ?_⟩⟩
      · rw [nI_clamp (by omega)]
        exact nI_ge (by omega) (by omega)
      · rw [nI_clamp (by omega)]
        rcases q.1 (by omega) with ⟨q1, q2⟩ | ⟨t, ht, hzt, q1, q2⟩
        · have htg := mc_tg_0 (words := wd) (s := l.1 a) (k := k) hS q2
          rw [htg, mc_ad_30] at nx
          rw [q1]
          refine my_adr_0 hb (fun t ht hzt e => ?_) (my_add_no (mc_No_0 (st := st) (sz := sz) (W := W) hS) (nm_r (nI_1 k) (nx L' hL')))
          have := (hS t ht).2.2 hzt
          rw [← nI_0] at e
          have := (nI_eq (by omega) (by omega)).mp e
          omega
        · have htg := mc_tg_t (words := wd) (s := l.1 a) (k := k) hS hD ht hzt q2
          rw [htg] at nx
          rw [q1]
          exact my_adr_t hb hr hD ht hzt (my_add_at hb hD (mc_At_i hX hS ht (Nat.le_refl _) (by omega)) hlg hL' (fun L2 hL2 => nm_r (nI_1 k) (nx L2 hL2)))
  exact ⟨pc (l.1 a) + 1, key _ 0 L (by omega) hL⟩
theorem my_c141 {x1 : Int32} (hS : mc_Slot mk sr st sz pc) (hmk : mk ≤ 4095) (hD : mc_Dis sr st sz) (hX : mc_XS sr st sz pc S P R W)
    (hC : mc_CG st sz (fun s k w => mc_LC sr st sz pc s k (ce (3 * s + k)) w) wd) (hl : mc_LG sz l) (hL : ∀ i, i < l.2 → L i = l.1 i)
    (h : ∀ L' : Nat → Nat, (∀ i, i < (mc_ro (mc_tg st sz wd) pc l 30).2 → L' i = (mc_ro (mc_tg st sz wd) pc l 30).1 i) → ∃ n218, wY_collect_218 post n218 x1 (nI n) (nI lim) (nI mk) (-1) (nI (mc_ro (mc_tg st sz wd) pc l 30).2) H (fun j => nI (sr j)) (fun j => nI (st j)) (fun j => nI (sz j)) (fun j => nI (pc j)) ce (fun j => nI (L' j)) (fun j => nI (py j)) (fun j => nI (fb j))) :
    ∃ n141, wY_collect_141 post x1 n141 0 (nI n) (nI lim) (nI mk) oo (nI l.2) H (fun j => nI (sr j)) (fun j => nI (st j)) (fun j => nI (sz j)) (fun j => nI (pc j)) ce (fun j => nI (L j)) (fun j => nI (py j)) (fun j => nI (fb j)) := by
  have key : ∀ (d a : Nat) (L' : Nat → Nat), a + d = 30 → (∀ i, i < (mc_ro (mc_tg st sz wd) pc l a).2 → L' i = (mc_ro (mc_tg st sz wd) pc l a).1 i) →
      wY_collect_141 post x1 (d + 1) (nI a) (nI n) (nI lim) (nI mk) oo (nI (mc_ro (mc_tg st sz wd) pc l a).2) H (fun j => nI (sr j)) (fun j => nI (st j)) (fun j => nI (sz j)) (fun j => nI (pc j)) ce (fun j => nI (L' j)) (fun j => nI (py j)) (fun j => nI (fb j)) := by
    intro d
    induction d with
    | zero =>
      intro a L' ha hL'
      have ea : a = 30 := by omega
      rw [ea] at hL' ⊢
      exact br_t (nI_le (a := 30) (by omega) (by omega)) (h L' hL')
    | succ d ih =>
      intro a L' ha hL'
      have hlg := mc_ro_LG (tg := mc_tg st sz wd) (pc := pc) hl (mc_tgz st sz wd) a
      have hle := mc_LG_le hlg
      refine br_f (nI_ge (b := 30) (by omega) (by omega)) ?_
      have nx := fun L2 => ih (a + 1) L2 (by omega)
      by_cases c : a < (mc_ro (mc_tg st sz wd) pc l a).2
      · rw [mc_ro_t c] at nx
        exact my_c149 (l := mc_ro (mc_tg st sz wd) pc l a) (by omega) hS hmk hD hX hC hlg c hL' nx
      · rw [mc_ro_f c] at nx
        exact ⟨1, br_t (nI_le (by omega) (by omega)) (nm_r (nI_1 a) (nx L' hL'))⟩
  exact ⟨31, key 30 0 L (by omega) hL⟩
theorem mc_run_0 {m0 : Nat} : ∀ i, i ≤ m0 → mc_run sz l m0 st O i = (st, O, 32) := by
  intro i
  induction i with
  | zero => intro _; rfl
  | succ i ih =>
    intro hi
    rw [mc_run_f (by omega)]
    exact ih (by omega)
theorem my_c218 {m0 : Nat} (hS : mc_Slot mk sr st sz pc) (hD : mc_Dis sr st sz) (hT : mc_Thin st sz op) (hU : mc_sm sz 30 ≤ 60) (hl : mc_LG sz l) (hm : m0 ≤ l.2)
    (hM0 : mc_Mv sr st sz W wd st S W O wd 32) (hL : ∀ i, i < l.2 → L i = l.1 i) (hfb : ∀ p, p < 32 → fb p < 2 ∧ (fb p ≠ 0 ↔ mc_wo st sz p = 0))
    (h : ∀ (st' O' : Nat → Nat) (op' : Nat), mc_run sz l m0 st O l.2 = (st', O', op') → ∃ n262, wY_collect_262 post (nI n) (nI lim) (nI mk) (mc_oI op') (nI l.2) n262 0 0 H (fun j => nI (sr j)) (fun j => nI (st' j)) (fun j => nI (sz j)) (fun j => nI (pc j)) ce (fun j => nI (L j)) (fun j => nI (py j)) (fun j => nI (fb j))) :
    ∃ n218, wY_collect_218 post n218 (nI m0) (nI n) (nI lim) (nI mk) (-1) (nI l.2) H (fun j => nI (sr j)) (fun j => nI (st j)) (fun j => nI (sz j)) (fun j => nI (pc j)) ce (fun j => nI (L j)) (fun j => nI (py j)) (fun j => nI (fb j)) := by
  have hle := mc_LG_le hl
  have key : ∀ (d i : Nat) (st' S' W' O' : Nat → Nat) (words' : Nat → Int32) (op' : Nat), i + d = l.2 → m0 ≤ i → mc_run sz l m0 st O i = (st', O', op') → mc_Mv sr st sz W wd st' S' W' O' words' op' → mc_MI l m0 i st st' →
      wY_collect_218 post (d + 1) (nI i) (nI n) (nI lim) (nI mk) (mc_oI op') (nI l.2) H (fun j => nI (sr j)) (fun j => nI (st' j)) (fun j => nI (sz j)) (fun j => nI (pc j)) ce (fun j => nI (L j)) (fun j => nI (py j)) (fun j => nI (fb j)) := by
    intro d
    induction d with
    | zero =>
      intro i st' S' W' O' words' op' hi h0 hr hM hI
      have ei : i = l.2 := by omega
      rw [ei] at hr ⊢
      exact br_t (nI_le (by omega) (by omega)) (h st' O' op' hr)
    | succ d ih =>
      intro i st' S' W' O' words' op' hi h0 hr hM hI
      have hs := hl.1 i (by omega)
      have hvi : vp_in (nI i) 30 := vp_in_nI (by omega) (by omega)
      have eci : (nI i).toNatClampNeg = i := nI_clamp (by omega)
      have hvs : vp_in (nI (l.1 i)) 30 := vp_in_nI hs.1 (by omega)
      have ecs : (nI (l.1 i)).toNatClampNeg = l.1 i := nI_clamp (by omega)
      obtain ⟨g1, g2, g3, g4, g5, g6⟩ := mc_run_s hS hD hT hU hl hM hI h0 (by omega) rfl
      have hph := mc_run_h (fb := fb) hS hT hU hM hs.1 hs.2 hfb
      have hrt := mc_run_t (sz := sz) (l := l) (m0 := m0) (st := st) (O := O) h0 hr rfl
      have eL := hL i (by omega)
      refine br_f (nI_ge (by omega) (by omega)) ⟨hvi, hvi, ?_⟩
      rw [eci]
      show vp_in (nI (L i)) 30 ∧ wpY_place _ _ (nI (sz (nI (L i)).toNatClampNeg))
      rw [eL]
      refine ⟨hvs, ?_⟩
      rw [ecs]
      refine my_pl hph ⟨?_, nm_r (e' := fun j => nI (mc_up st' (l.1 i) (1000 + 8 * mc_pg O' op' (mc_wo st' sz op') (sz (l.1 i)) + O' (mc_pg O' op' (mc_wo st' sz op') (sz (l.1 i)))) j)) ?_ (nm_r (nI_1 i) (ih (i + 1) _ _ _ _ _ _ (by omega) (by omega) hrt g5 g6))⟩
      · show vp_in (nI (L i)) 30
        rw [eL]
        exact hvs
      · show upd (fun j => nI (st' j)) (nI (L i)).toNatClampNeg _ = _
        rw [eL, ecs]
        exact mc_upI _ _ _
  obtain ⟨d, hd⟩ : ∃ d, m0 + d = l.2 := ⟨l.2 - m0, by omega⟩
  have := key d m0 st S W O wd 32 hd (Nat.le_refl _) (mc_run_0 m0 (Nat.le_refl _)) hM0 mc_MI_0
  rw [mc_oI_32] at this
  exact ⟨d + 1, this⟩
theorem my_c262 (hS : mc_Slot mk sr st sz pc) (hl : mc_LG sz l) (hL : ∀ i, i < l.2 → L i = l.1 i)
    (h : post (nI (mc_sm (mc_kc l sz) 30)) ((nI n), (nI lim), (nI mk), oo, (nI l.2), H, (fun j => nI (sr j)), (fun j => nI (st j)), (fun j => nI (mc_kz l sz 30 j)), (fun j => nI (pc j)), ce, (fun j => nI (L j)), (fun j => nI (py j)), (fun j => nI (fb j)))) :
    ∃ n262, wY_collect_262 post (nI n) (nI lim) (nI mk) oo (nI l.2) n262 0 0 H (fun j => nI (sr j)) (fun j => nI (st j)) (fun j => nI (sz j)) (fun j => nI (pc j)) ce (fun j => nI (L j)) (fun j => nI (py j)) (fun j => nI (fb j)) := by
  have key : ∀ d i, i + d = 30 → wY_collect_262 post (nI n) (nI lim) (nI mk) oo (nI l.2) (d + 1) (nI (mc_sm (mc_kc l sz) i)) (nI i) H (fun j => nI (sr j)) (fun j => nI (st j)) (fun j => nI (mc_kz l sz i j)) (fun j => nI (pc j)) ce (fun j => nI (L j)) (fun j => nI (py j)) (fun j => nI (fb j)) := by
    intro d
    induction d with
    | zero =>
      intro i hi
      have ei : i = 30 := by omega
      rw [ei]
      exact br_t (nI_le (a := 30) (by omega) (by omega)) h
    | succ d ih =>
      intro i hi
      have nx := ih (i + 1) (by omega)
      rw [mc_sm_s] at nx
      have hb4 := (hS i (by omega)).2.1
      refine br_f (nI_ge (b := 30) (by omega) (by omega)) ⟨vp_in_nI (by omega) (by omega), ?_⟩
      rw [nI_clamp (by omega)]
      by_cases c : sz i = 0
      · have e0 : mc_kc l sz i = 0 := mc_if_f (fun z => absurd z.1 (by omega))
        rw [mc_kz_same (Or.inl c), e0, Nat.add_zero] at nx
        refine br_t ?_ (nm_r (nI_1 i) nx)
        show nI (mc_kz l sz i i) ≤ 0
        rw [mc_kz_n, c]
        exact nI_le (b := 0) (by omega) (by omega)
      · refine br_f ?_ (my_inl hl hL (by omega) (fun z => ?_) (fun z => ?_))
        · show ¬ nI (mc_kz l sz i i) ≤ 0
          rw [mc_kz_n]
          exact nI_nle (by omega) (by omega)
        · have e0 : mc_kc l sz i = 0 := mc_if_f (fun y => y.2 z)
          rw [mc_kz_same (Or.inr z), e0, Nat.add_zero] at nx
          exact br_f (by decide) (nm_r (nI_1 i) nx)
        · have e0 : mc_kc l sz i = 1 := mc_if_t ⟨by omega, z⟩
          rw [e0, ← mc_kz_die z] at nx
          refine br_t rfl ⟨vp_in_nI (by omega) (by omega), nm_r (e' := fun j => nI (mc_up (mc_kz l sz i) i 0 j)) ?_ (nm_r (nI_1 _) (nm_r (nI_1 i) nx))⟩
          exact mc_upI _ i 0
  have := key 30 0 (by omega)
  rw [mc_kz_0] at this
  exact ⟨31, this⟩
end
end
