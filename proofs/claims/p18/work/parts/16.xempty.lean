/-! collect in the component: redirecting, emptying -/
section
variable {n lim op mk U : Nat} {kc ld oo : Int32} {H wd ce : Nat → Int32} {W S P R O px cd K sr st sz pc L py fb : Nat → Nat} {l : (Nat → Nat) × Nat}
variable {st' S' W' O' : Nat → Nat} {words' : Nat → Int32} {op' m0 : Nat}
theorem mx_rd_30 {i : Nat} (hS : mc_Slot mk sr st sz pc) (hmk : mk ≤ 4095) (hX : mc_XS sr st sz pc S P R W) (hl : mc_LG sz l)
    (hM : mc_Mv sr st sz W wd st' S' W' O' words' op') (hi : i < l.2) :
    ∀ (d k : Nat) (w2 : Nat → Int32), k + d = pc (l.1 i) → mc_CG st' sz (mc_RQ l sr st st' sz pc ce i k) w2 →
      ∃ w3 : Nat → Int32, mc_CG st' sz (mc_RQ l sr st st' sz pc ce i (pc (l.1 i))) w3 ∧ ∀ (post : St2 → Prop) (J : Int32 → (Nat → Int32) → (Nat → Int32) → (Nat → Int32) → (Nat → Int32) → (Nat → Int32) → (Nat → Int32) → (Nat → Int32) → (Nat → Int32) → (Nat → Int32) → (Nat → Int32) → Prop), J (nI (i + 1)) H w3 (fun j => nI (W' j)) (fun j => nI (S' j)) (fun j => nI (P j)) (fun j => nI (R j)) (fun j => nI (O j)) (fun j => nI (px j)) (fun j => nI (cd j)) (fun j => nI (K j)) →
      wX_redirectPointers_30 post J (nI l.2) (nI i) (nI (sr (l.1 i))) (nI (pc (l.1 i))) (nI n) (nI lim) kc (mc_oI op) (nI mk) (nI U) (d + 1) (nI k) H w2 (fun j => nI (W' j)) (fun j => nI (S' j)) (fun j => nI (P j)) (fun j => nI (R j)) (fun j => nI (O j)) (fun j => nI (px j)) (fun j => nI (cd j)) (fun j => nI (K j)) := by
  have hS' := mc_Mv_Slot hS hM
  have hM0 := hM
  obtain ⟨m1, m2, m3, m4, m5, m6, m7, m8, m9, m10, m11⟩ := hM
  have hs := hl.1 i hi
  have hb := (hS' _ hs.1).2.2 hs.2
  have hb1 := (hS' _ hs.1).1
  have hb4 := (hS' _ hs.1).2.1
  have hS0 : S' 0 = 0 := by
    rcases m7 0 with z | ⟨s, hs, hz, z⟩
    · exact z
    · have := (hS s hs).2.2 hz
      omega
  intro d
  induction d with
  | zero =>
    intro k w2 hk hR
    have ek : k = pc (l.1 i) := by omega
    rw [ek] at hR ⊢
    exact ⟨w2, hR, fun post J h => br_t (nI_le (by omega) (by omega)) (nm_r (nI_1 i) h)⟩
  | succ d ih =>
    intro k w2 hk hR
    have hv : vp_in (nI (st' (l.1 i) - 1000 + 1 + k)) 256 := vp_in_nI (by omega) (by omega)
    have ec : (nI (st' (l.1 i) - 1000 + 1 + k)).toNatClampNeg = st' (l.1 i) - 1000 + 1 + k := nI_clamp (by omega)
    rcases mc_RD_r hl hS' hR hi (by omega) with ⟨q1, q2⟩ | ⟨t, ht, hzt, q1, q2⟩
    · obtain ⟨w3, h1, h2⟩ := ih (k + 1) _ (by omega) (mc_RD_s hl hS' m3 hR hi (by omega) (x := 0) ⟨fun _ => Or.inl ⟨q1, rfl⟩, fun z => absurd z (by omega)⟩)
      refine ⟨w3, h1, fun post J h => br_f (nI_ge (by omega) (by omega)) (mx_fi (a := st' (l.1 i)) (by omega) (m6 _ hs.1 hs.2) (by omega) ⟨hv, ?_⟩)⟩
      rw [ec, q2]
      refine mx_own_no (mc_No_0 (st := st) (sz := sz) (W := W') hS) ⟨vp_in_nI (n := 0) (by omega) (by omega), hv, nm_r (e' := upd w2 (st' (l.1 i) - 1000 + 1 + k) 0) ?_ (nm_r (nI_1 k) (h2 post J h))⟩
      show upd w2 (st' (l.1 i) - 1000 + 1 + k) (nI (S' (nI 0).toNatClampNeg)) = _
      rw [nI_clamp (by omega), hS0, nI_0]
    · have hbt := (hS t ht).2.2 hzt
      have hbt1 := (hS t ht).1
      have e0 : st t = 1000 + (st t - 1000) := by omega
      have eW : W' (st t - 1000) = sr t := by
        rw [(m4 (st t - 1000) (by omega) (mc_wo_pos hS ht hzt)).1]
        exact (hX t ht hzt).2.2.2 0 hzt
      obtain ⟨w3, h1, h2⟩ := ih (k + 1) _ (by omega) (mc_RD_s hl hS' m3 hR hi (by omega) (x := nI (st' t)) ⟨fun _ => Or.inr ⟨t, ht, hzt, q1, rfl⟩, fun z => absurd z (by omega)⟩)
      refine ⟨w3, h1, fun post J h => br_f (nI_ge (by omega) (by omega)) (mx_fi (a := st' (l.1 i)) (by omega) (m6 _ hs.1 hs.2) (by omega) ⟨hv, ?_⟩)⟩
      rw [ec, q2, e0]
      refine mx_own_i (by omega) ?_
      rw [eW]
      refine ⟨vp_in_nI (by omega) (by omega), hv, nm_r (e' := upd w2 (st' (l.1 i) - 1000 + 1 + k) (nI (st' t))) ?_ (nm_r (nI_1 k) (h2 post J h))⟩
      show upd w2 (st' (l.1 i) - 1000 + 1 + k) (nI (S' (nI (sr t)).toNatClampNeg)) = _
      rw [nI_clamp (by omega), m6 t ht hzt]
theorem mx_rd (hS : mc_Slot mk sr st sz pc) (hmk : mk ≤ 4095) (hX : mc_XS sr st sz pc S P R W) (hl : mc_LG sz l)
    (hM : mc_Mv sr st sz W wd st' S' W' O' words' op') (hC : mc_CG st sz (fun s k w => mc_LC sr st sz pc s k (ce (3 * s + k)) w) wd) (hK : ∀ i, i < l.2 → K i = sr (l.1 i)) :
    ∃ w2 : Nat → Int32, mc_CG st' sz (mc_RQ l sr st st' sz pc ce l.2 0) w2 ∧ ∀ post : St2 → Prop, post ((nI n), (nI lim), (nI l.2), (mc_oI op), (nI mk), (nI U), H, w2, (fun j => nI (W' j)), (fun j => nI (S' j)), (fun j => nI (P j)), (fun j => nI (R j)), (fun j => nI (O j)), (fun j => nI (px j)), (fun j => nI (cd j)), (fun j => nI (K j))) →
    wpX_redirectPointers post ((nI n), (nI lim), (nI l.2), (mc_oI op), (nI mk), (nI U), H, words', (fun j => nI (W' j)), (fun j => nI (S' j)), (fun j => nI (P j)), (fun j => nI (R j)), (fun j => nI (O j)), (fun j => nI (px j)), (fun j => nI (cd j)), (fun j => nI (K j))) := by
  have hle := mc_LG_le hl
  have key : ∀ (d i : Nat) (w2 : Nat → Int32), i + d = l.2 → mc_CG st' sz (mc_RQ l sr st st' sz pc ce i 0) w2 →
      ∃ w3 : Nat → Int32, mc_CG st' sz (mc_RQ l sr st st' sz pc ce l.2 0) w3 ∧ ∀ post : St2 → Prop, post ((nI n), (nI lim), (nI l.2), (mc_oI op), (nI mk), (nI U), H, w3, (fun j => nI (W' j)), (fun j => nI (S' j)), (fun j => nI (P j)), (fun j => nI (R j)), (fun j => nI (O j)), (fun j => nI (px j)), (fun j => nI (cd j)), (fun j => nI (K j))) →
      wX_redirectPointers_7 post (nI l.2) (nI n) (nI lim) (nI l.2) (mc_oI op) (nI mk) (nI U) (d + 1) (nI i) H w2 (fun j => nI (W' j)) (fun j => nI (S' j)) (fun j => nI (P j)) (fun j => nI (R j)) (fun j => nI (O j)) (fun j => nI (px j)) (fun j => nI (cd j)) (fun j => nI (K j)) := by
    intro d
    induction d with
    | zero =>
      intro i w2 hi hR
      have ei : i = l.2 := by omega
      rw [ei] at hR ⊢
      exact ⟨w2, hR, fun post h => br_t (nI_le (by omega) (by omega)) h⟩
    | succ d ih =>
      intro i w2 hi hR
      have hs := hl.1 i (by omega)
      have hb := (hS _ hs.1).2.2 hs.2
      obtain ⟨w3, hR3, hk3⟩ := mx_rd_30 (n := n) (lim := lim) (op := op) (mk := mk) (U := U) (kc := nI l.2) (H := H) (ce := ce) (O := O) (px := px) (cd := cd) (K := K) hS hmk hX hl hM (by omega : i < l.2) _ 0 w2 (Nat.zero_add _) hR
      obtain ⟨w4, h1, h2⟩ := ih (i + 1) w3 (by omega) (mc_RD_e hl hR3 (by omega))
      refine ⟨w4, h1, fun post h => br_f (nI_ge (by omega) (by omega)) ⟨vp_in_nI (by omega) (by omega), nm_r (e' := nI (sr (l.1 i))) ?_ ⟨vp_in_nI (by omega) (by omega), nm_r (e' := nI (pc (l.1 i))) ?_ ⟨pc (l.1 i) + 1, hk3 post _ (h2 post h)⟩⟩⟩⟩
      · show nI (K (nI i).toNatClampNeg) = _
        rw [nI_clamp (by omega), hK i (by omega)]
      · show nI (P (nI (sr (l.1 i))).toNatClampNeg) = _
        rw [nI_clamp (by omega), (hX _ hs.1 hs.2).2.1]
  obtain ⟨w3, h1, h2⟩ := key l.2 0 words' (by omega) (mc_RD_0 hS hC hM)
  exact ⟨w3, h1, fun post h => ⟨l.2 + 1, h2 post h⟩⟩
theorem mx_ep_74 {post : Int32 → St2 → Prop} {J : Int32 → Int32 → Int32 → (Nat → Int32) → (Nat → Int32) → (Nat → Int32) → (Nat → Int32) → (Nat → Int32) → (Nat → Int32) → (Nat → Int32) → (Nat → Int32) → (Nat → Int32) → (Nat → Int32) → Prop} {x1 x2 x4 : Int32} {i : Nat} (hi : i < 256)
    (h : J x2 (nI (1000 + (i + 1))) (nI U) H wd (fun j => nI (mc_up W i 0 j)) (fun j => nI (S j)) (fun j => nI (P j)) (fun j => nI (R j)) (fun j => nI (O j)) (fun j => nI (px j)) (fun j => nI (cd j)) (fun j => nI (K j))) : wX_emptyPage_74 post J x1 x2 x4 (nI (1000 + i)) (nI n) (nI lim) kc (mc_oI op) (nI mk) (nI U) H wd (fun j => nI (W j)) (fun j => nI (S j)) (fun j => nI (P j)) (fun j => nI (R j)) (fun j => nI (O j)) (fun j => nI (px j)) (fun j => nI (cd j)) (fun j => nI (K j)) := by
  have e : nI (1000 + i) - 1000 = nI i := by
    rw [mn_s1000 (by omega)]
    exact congrArg nI (by omega)
  unfold wX_emptyPage_74
  refine ⟨?_, nm_r (e' := fun j => nI (mc_up W i 0 j)) ?_ (nm_r (nI_1 (1000 + i)) h)⟩
  · rw [e]
    exact vp_in_nI hi (by omega)
  · rw [e, nI_clamp (by omega)]
    exact mc_upI W i 0
section
variable {pn : Nat → Nat} {wd0 : Nat → Int32}
theorem mx_ep {p D0 U0 : Nat} {S0 W0 O0 : Nat → Nat} (hp : p < 32) (hS : mc_Slot mk sr st sz pc) (hmk : mk ≤ 4095) (hD : mc_Dis sr st sz) (hX : mc_XS sr st sz pc S P R W) (hXW : mc_XW sr st sz W)
    (hl : mc_LG sz l) (hM : mc_Mv sr st sz W wd0 st' S' W' O' words' op') (hI : mc_MI l m0 l.2 st st') (hpn : ∀ s, s < 30 → 0 < sz s → (pn ((st s - 1000) / 8) = 1 ↔ ∃ i, i < m0 ∧ i < l.2 ∧ l.1 i = s))
    (hu : mc_wo st sz p ≠ 0) (hq : pn p ≠ 1) (hES : mc_ES l sr st sz st' S' (8 * p) S0 U0 D0) (hEW : mc_EW st sz pn W' (8 * p) W0) :
    ∃ (S2 W2 : Nat → Nat) (U2 c : Nat), mc_ES l sr st sz st' S' (8 * p + 8) S2 U2 (D0 + c) ∧ mc_EW st sz pn W' (8 * p + 8) W2 ∧ ∀ post : Int32 → St2 → Prop, post (nI c) ((nI n), (nI lim), kc, (mc_oI op), (nI mk), (nI U2), H, wd, (fun j => nI (W2 j)), (fun j => nI (S2 j)), (fun j => nI (P j)), (fun j => nI (R j)), (fun j => nI (mc_up O0 p 0 j)), (fun j => nI (px j)), (fun j => nI (cd j)), (fun j => nI (K j))) →
    wpX_emptyPage post ((nI n), (nI lim), kc, (mc_oI op), (nI mk), (nI U0), H, wd, (fun j => nI (W0 j)), (fun j => nI (S0 j)), (fun j => nI (P j)), (fun j => nI (R j)), (fun j => nI (O0 j)), (fun j => nI (px j)), (fun j => nI (cd j)), (fun j => nI (K j))) (nI p) := by
  have key : ∀ (d i : Nat) (S2 W2 : Nat → Nat) (U2 c : Nat), i + d = 8 * p + 8 → 8 * p ≤ i → mc_ES l sr st sz st' S' i S2 U2 (D0 + c) → mc_EW st sz pn W' i W2 →
      ∃ (S3 W3 : Nat → Nat) (U3 c3 : Nat), mc_ES l sr st sz st' S' (8 * p + 8) S3 U3 (D0 + c3) ∧ mc_EW st sz pn W' (8 * p + 8) W3 ∧ ∀ post : Int32 → St2 → Prop, post (nI c3) ((nI n), (nI lim), kc, (mc_oI op), (nI mk), (nI U3), H, wd, (fun j => nI (W3 j)), (fun j => nI (S3 j)), (fun j => nI (P j)), (fun j => nI (R j)), (fun j => nI (mc_up O0 p 0 j)), (fun j => nI (px j)), (fun j => nI (cd j)), (fun j => nI (K j))) →
      wX_emptyPage_16 post (nI p) (nI (1000 + (8 * p + 8))) (nI n) (nI lim) kc (mc_oI op) (nI mk) (d + 1) (nI c) (nI (1000 + i)) (nI U2) H wd (fun j => nI (W2 j)) (fun j => nI (S2 j)) (fun j => nI (P j)) (fun j => nI (R j)) (fun j => nI (O0 j)) (fun j => nI (px j)) (fun j => nI (cd j)) (fun j => nI (K j)) := by
    intro d
    induction d with
    | zero =>
      intro i S2 W2 U2 c hi h8 hE hW
      have ei : i = 8 * p + 8 := by omega
      rw [ei] at hE hW ⊢
      refine ⟨S2, W2, U2, c, hE, hW, fun post h => br_t (nI_le (by omega) (by omega)) ⟨vp_in_nI hp (by omega), nm_r (e' := fun j => nI (mc_up O0 p 0 j)) ?_ h⟩⟩
      rw [nI_clamp (by omega)]
      exact mc_upI O0 p 0
    | succ d ih =>
      intro i S2 W2 U2 c hi h8 hE hW
      have epg : i / 8 = p := by omega
      have hu' : mc_wo st sz (i / 8) ≠ 0 := by rw [epg]; exact hu
      have hq' : pn (i / 8) ≠ 1 := by rw [epg]; exact hq
      have hWs := mc_EW_s hW hu' hq'
      by_cases z : W2 i = 0
      · have hno := mc_em_0 (l := l) hS hX hM (by omega) hW hu' z
        obtain ⟨S3, W3, U3, c3, h1, h2, h3⟩ := ih (i + 1) S2 _ U2 c (by omega) (by omega) (mc_ES_same hE (by omega) hno) hWs
        refine ⟨S3, W3, U3, c3, h1, h2, fun post h => br_f (nI_ge (by omega) (by omega)) (mx_own_i (by omega) ?_)⟩
        rw [z]
        exact br_t rfl (mx_ep_74 (by omega) (h3 post h))
      · obtain ⟨s, hs, hz, e1, e2, e3⟩ := mc_em_s hS hD hX hXW hM hl hI hpn (by omega) hW hE hu' hq' z
        have hb := (hS s hs).2.2 hz
        have hb1 := (hS s hs).1
        have hm1 := hM.1 s hs
        have hv : vp_in (nI (sr s)) 4096 := vp_in_nI (by omega) (by omega)
        have ec : (nI (sr s)).toNatClampNeg = sr s := nI_clamp (by omega)
        have hS2 : S2 (sr s) ≤ 1255 := by
          rw [hE.1 s hs hz]
          by_cases y : ¬ mc_in l s ∧ st s < 1000 + i
          · rw [mc_if_t y]; omega
          · rw [mc_if_f y]; exact hm1
        obtain ⟨x1, x2, x3, x4⟩ := hX s hs hz
        by_cases y : S2 (sr s) = 1000 + i
        · obtain ⟨f1, f2⟩ := e2 y
          have hUge : sz s ≤ U2 := by
            rw [hE.2.2.1]
            have g1 := mc_sm_ge (f := mc_ez l st sz i) (k := s) (n := 30) hs
            have g2 : mc_ez l st sz i s = sz s := mc_if_f (fun w => absurd w.2 (by omega))
            omega
          obtain ⟨S3, W3, U3, c3, h1, h2, h3⟩ := ih (i + 1) _ _ (U2 - sz s) (c + 1) (by omega) (by omega) (mc_ES_die hD hE hs hz f1 f2) hWs
          refine ⟨S3, W3, U3, c3, h1, h2, fun post h => br_f (nI_ge (by omega) (by omega)) (mx_own_i (by omega) ?_)⟩
          rw [e1]
          refine br_f (nI_ne0 (by omega) (by omega)) ⟨hv, ?_⟩
          rw [ec]
          refine br_t ?_ ⟨hv, nm_r (e' := fun j => nI (mc_up S2 (sr s) 0 j)) (mc_upI S2 (sr s) 0) (mx_size (m := sz s) (by omega) (by omega) (nm_r (pk_sub hUge) (nm_r (nI_1 c) ?_)))⟩
          · show nI (S2 (sr s)) = nI (1000 + i)
            rw [y]
          · exact mx_ep_74 (S := mc_up S2 (sr s) 0) (U := U2 - sz s) (by omega) (h3 post h)
        · obtain ⟨S3, W3, U3, c3, h1, h2, h3⟩ := ih (i + 1) S2 _ U2 c (by omega) (by omega) (mc_ES_same hE (by omega) (e3 y)) hWs
          refine ⟨S3, W3, U3, c3, h1, h2, fun post h => br_f (nI_ge (by omega) (by omega)) (mx_own_i (by omega) ?_)⟩
          rw [e1]
          refine br_f (nI_ne0 (by omega) (by omega)) ⟨hv, ?_⟩
          rw [ec]
          refine br_f ?_ (mx_ep_74 (by omega) (h3 post h))
          show ¬ nI (S2 (sr s)) = nI (1000 + i)
          rw [nI_eq (by omega) (by omega)]
          exact y
  have e1 : 1000 + nI p * 8 = nI (1000 + 8 * p) := by rw [mn_m8, mn_a1000]
  have e2 : nI (1000 + 8 * p) + 8 = nI (1000 + (8 * p + 8)) := mn_a8 (1000 + 8 * p)
  obtain ⟨S3, W3, U3, c3, h1, h2, h3⟩ := key 8 (8 * p) S0 W0 U0 0 (by omega) (by omega) hES hEW
  refine ⟨S3, W3, U3, c3, h1, h2, fun post h => ?_⟩
  unfold wpX_emptyPage
  show wpX_firstAddress _ _ _
  unfold wpX_firstAddress
  rw [e1]
  exact nm_r e2 ⟨9, h3 post h⟩
def mc_EO (st sz pn O' : Nat → Nat) (p : Nat) (O2 : Nat → Nat) : Prop :=
  ∀ q, q < 32 → (q < p → mc_wo st sz q ≠ 0 → pn q ≠ 1 → O2 q = 0) ∧ ((p ≤ q ∨ mc_wo st sz q = 0 ∨ pn q = 1) → O2 q = O' q)
theorem mx_ec (hS : mc_Slot mk sr st sz pc) (hmk : mk ≤ 4095) (hD : mc_Dis sr st sz) (hX : mc_XS sr st sz pc S P R W) (hXW : mc_XW sr st sz W)
    (hl : mc_LG sz l) (hM : mc_Mv sr st sz W wd0 st' S' W' O' words' op') (hI : mc_MI l m0 l.2 st st') (hpn : ∀ s, s < 30 → 0 < sz s → (pn ((st s - 1000) / 8) = 1 ↔ ∃ i, i < m0 ∧ i < l.2 ∧ l.1 i = s))
    (hcd : ∀ p, p < 32 → cd p < 2 ∧ (cd p = 0 ↔ (mc_wo st sz p = 0 ∨ pn p = 1))) :
    ∃ (S2 W2 O2 : Nat → Nat) (U2 dc : Nat), mc_ES l sr st sz st' S' 256 S2 U2 dc ∧ mc_EW st sz pn W' 256 W2 ∧ mc_EO st sz pn O' 32 O2 ∧ ∀ post : Int32 → St2 → Prop, post (nI dc) ((nI n), (nI lim), kc, (mc_oI op), (nI mk), (nI U2), H, wd, (fun j => nI (W2 j)), (fun j => nI (S2 j)), (fun j => nI (P j)), (fun j => nI (R j)), (fun j => nI (O2 j)), (fun j => nI (px j)), (fun j => nI (cd j)), (fun j => nI (K j))) →
    wpX_emptyCondemnedPages post ((nI n), (nI lim), kc, (mc_oI op), (nI mk), (nI (mc_sm sz 30)), H, wd, (fun j => nI (W' j)), (fun j => nI (S' j)), (fun j => nI (P j)), (fun j => nI (R j)), (fun j => nI (O' j)), (fun j => nI (px j)), (fun j => nI (cd j)), (fun j => nI (K j))) := by
  have key : ∀ (d p : Nat) (S2 W2 O2 : Nat → Nat) (U2 dc : Nat), p + d = 32 → mc_ES l sr st sz st' S' (8 * p) S2 U2 dc → mc_EW st sz pn W' (8 * p) W2 → mc_EO st sz pn O' p O2 →
      ∃ (S3 W3 O3 : Nat → Nat) (U3 dc3 : Nat), mc_ES l sr st sz st' S' 256 S3 U3 dc3 ∧ mc_EW st sz pn W' 256 W3 ∧ mc_EO st sz pn O' 32 O3 ∧ ∀ post : Int32 → St2 → Prop, post (nI dc3) ((nI n), (nI lim), kc, (mc_oI op), (nI mk), (nI U3), H, wd, (fun j => nI (W3 j)), (fun j => nI (S3 j)), (fun j => nI (P j)), (fun j => nI (R j)), (fun j => nI (O3 j)), (fun j => nI (px j)), (fun j => nI (cd j)), (fun j => nI (K j))) →
      wX_emptyCondemnedPages_4 post (d + 1) (nI dc) (nI p) (nI n) (nI lim) kc (mc_oI op) (nI mk) (nI U2) H wd (fun j => nI (W2 j)) (fun j => nI (S2 j)) (fun j => nI (P j)) (fun j => nI (R j)) (fun j => nI (O2 j)) (fun j => nI (px j)) (fun j => nI (cd j)) (fun j => nI (K j)) := by
    intro d
    induction d with
    | zero =>
      intro p S2 W2 O2 U2 dc hp hE hW hO
      have ep : p = 32 := by omega
      rw [ep] at hE hW hO ⊢
      exact ⟨S2, W2, O2, U2, dc, hE, hW, hO, fun post h => br_t (nI_le (a := 32) (by omega) (by omega)) h⟩
    | succ d ih =>
      intro p S2 W2 O2 U2 dc hp hE hW hO
      have hc := hcd p (by omega)
      by_cases c : cd p = 0
      · have c2 := hc.2.mp c
        have nx : ∃ (S3 W3 O3 : Nat → Nat) (U3 dc3 : Nat), mc_ES l sr st sz st' S' 256 S3 U3 dc3 ∧ mc_EW st sz pn W' 256 W3 ∧ mc_EO st sz pn O' 32 O3 ∧ ∀ post : Int32 → St2 → Prop, post (nI dc3) ((nI n), (nI lim), kc, (mc_oI op), (nI mk), (nI U3), H, wd, (fun j => nI (W3 j)), (fun j => nI (S3 j)), (fun j => nI (P j)), (fun j => nI (R j)), (fun j => nI (O3 j)), (fun j => nI (px j)), (fun j => nI (cd j)), (fun j => nI (K j))) →
            wX_emptyCondemnedPages_4 post (d + 1) (nI dc) (nI (p + 1)) (nI n) (nI lim) kc (mc_oI op) (nI mk) (nI U2) H wd (fun j => nI (W2 j)) (fun j => nI (S2 j)) (fun j => nI (P j)) (fun j => nI (R j)) (fun j => nI (O2 j)) (fun j => nI (px j)) (fun j => nI (cd j)) (fun j => nI (K j)) := by
          refine ih (p + 1) S2 W2 O2 U2 dc (by omega) (mc_ES_same hE (by omega) (fun s hs hz hi => ?_)) (mc_EW_p hW c2) (fun q hq => ⟨fun a b e => ?_, fun z => (hO q hq).2 ?_⟩)
          · by_cases z : (st s - 1000) / 8 = p
            · exfalso
              have hw := mc_wo_pos hS hs hz
              rw [z] at hw
              rcases c2 with c3 | c3
              · exact hw c3
              · obtain ⟨i, i1, i2, i3⟩ := (hpn s hs hz).mp (by rw [z]; exact c3)
                exact hi ⟨i, i2, i3⟩
            · have hb := (hS s hs).2.2 hz
              omega
          · by_cases z : q = p
            · rw [z] at b e
              rcases c2 with c3 | c3
              · exact absurd c3 b
              · exact absurd c3 e
            · exact (hO q hq).1 (by omega) b e
          · rcases z with z | z
            · exact Or.inl (by omega)
            · exact Or.inr z
        obtain ⟨S3, W3, O3, U3, dc3, h1, h2, h3, h4⟩ := nx
        refine ⟨S3, W3, O3, U3, dc3, h1, h2, h3, fun post h => br_f (nI_ge (b := 32) (by omega) (by omega)) ⟨vp_in_nI (by omega) (by omega), ?_⟩⟩
        rw [nI_clamp (by omega)]
        refine br_t ?_ (nm_r (nI_1 p) (h4 post h))
        show nI (cd p) = 0
        rw [c, nI_0]
      · have c2 : mc_wo st sz p ≠ 0 ∧ pn p ≠ 1 := ⟨fun z => c (hc.2.mpr (Or.inl z)), fun z => c (hc.2.mpr (Or.inr z))⟩
        obtain ⟨S3, W3, U3, c', hE3, hW3, hk3⟩ := mx_ep (n := n) (lim := lim) (op := op) (kc := kc) (H := H) (wd := wd) (P := P) (R := R) (px := px) (cd := cd) (K := K) (O0 := O2) (p := p) (by omega) hS hmk hD hX hXW hl hM hI hpn c2.1 c2.2 hE hW
        have hO3 : mc_EO st sz pn O' (p + 1) (mc_up O2 p 0) := by
          intro q hq
          by_cases z : q = p
          · rw [z, mc_us]
            refine ⟨fun _ _ _ => rfl, fun y => ?_⟩
            rcases y with y | y | y
            · omega
            · exact absurd y c2.1
            · exact absurd y c2.2
          · rw [mc_un z]
            refine ⟨fun a => (hO q hq).1 (by omega), fun y => (hO q hq).2 ?_⟩
            rcases y with y | y
            · exact Or.inl (by omega)
            · exact Or.inr y
        obtain ⟨S4, W4, O4, U4, dc4, h1, h2, h3, h4⟩ := ih (p + 1) S3 W3 _ U3 (dc + c') (by omega) hE3 hW3 hO3
        refine ⟨S4, W4, O4, U4, dc4, h1, h2, h3, fun post h => br_f (nI_ge (b := 32) (by omega) (by omega)) ⟨vp_in_nI (by omega) (by omega), ?_⟩⟩
        rw [nI_clamp (by omega)]
        exact br_f (nI_ne0 (by omega) (by omega)) (hk3 _ (nm_r (nI_add dc c') (nm_r (nI_1 p) (h4 post h))))
  obtain ⟨S4, W4, O4, U4, dc4, h1, h2, h3, h4⟩ := key 32 0 S' W' O' (mc_sm sz 30) 0 (by omega) (mc_ES_0 hS hM.2.2.2.2.2.1) mc_EW_0 (fun q _ => ⟨fun z => absurd z (by omega), fun _ => rfl⟩)
  exact ⟨S4, W4, O4, U4, dc4, h1, h2, h3, fun post h => ⟨33, h4 post h⟩⟩
end
end
