/-! the law at a collection: object by object -/
section
variable {n lim op mk U op2 U2 m0 : Nat} {kc kc2 : Int32} {H wd ce w2 : Nat → Int32} {W S P R O px cd K sr st sz pc pn st2 S2 W2 O2 px2 cd2 K2 : Nat → Nat} {l : (Nat → Nat) × Nat}
variable {post : Int32 → Prop} {Ln : Nat} {xs : Nat → Int32} {J : Int32 → Int32 → Int32 → Int32 → Int32 → Int32 → Int32 → Int32 → Int32 → Int32 → (Nat → Int32) → (Nat → Int32) → (Nat → Int32) → (Nat → Int32) → (Nat → Int32) → (Nat → Int32) → (Nat → Int32) → (Nat → Int32) → (Nat → Int32) → (Nat → Int32) → Int32 → Int32 → Int32 → Int32 → Int32 → Int32 → (Nat → Int32) → (Nat → Int32) → (Nat → Int32) → (Nat → Int32) → (Nat → Int32) → (Nat → Int32) → (Nat → Int32) → (Nat → Int32) → (Nat → Int32) → (Nat → Int32) → Prop} {x5 x6 x7 x8 x14 : Int32} {kcn ksn : Nat} {pins : Int64}
variable {J2 : Int32 → Int32 → Prop} {x17 x19 : Int64} {x22 : Int32} {t : Nat}
theorem pl_1387 (hC0 : pv_C n mk lim op op2 U U2 H ce wd w2 W S P R O sr st sz pc pn st2 S2 W2 O2 l m0) (ht : t < 30) (hz : 0 < sz t) (hin : mc_in l t) (hJ : J2 x22 (nI (sr t + 1))) :
    ∀ d e, e + d = sz t → wL_law_1387 post Ln xs J J2 (nI n) x5 x6 x7 x8 x14 pins x17 x19 x22 (nI (sr t)) (nI (st2 t)) (nI (sz t - 1)) kcn ksn (nI n) (nI lim) kc2 (mc_oI op2) (nI mk) (nI U2) H w2 (fun j => nI (W2 j)) (fun j => nI (S2 j)) (fun j => nI (P j)) (fun j => nI (R j)) (fun j => nI (O2 j)) (fun j => nI (px2 j)) (fun j => nI (cd2 j)) (fun j => nI (K2 j)) (nI n) (nI lim) kc (mc_oI op) (nI mk) (nI U) H wd (fun j => nI (W j)) (fun j => nI (S j)) (fun j => nI (P j)) (fun j => nI (R j)) (fun j => nI (O j)) (fun j => nI (px j)) (fun j => nI (cd j)) (fun j => nI (K j)) (d + 1) (nI e) := by
  have hCC := hC0
  obtain ⟨hG, hG2, hPN, hlg, hpn, hcl, hsrc, hpin⟩ := hC0
  obtain ⟨hS, hD, hF, hX, hXW, hXZ, hC, hP0, hO, hT, hU1, hU2, hL, hop2, hmk⟩ := hG
  obtain ⟨hSx, hDx, hFx, hXx, hXWx, hXZx, hCx, _, hOx, hTx, hU1x, hU2x, _, hop2x, _⟩ := hG2
  have hz1 : ∀ s, mc_in l s → mc_kz l sz 30 s = sz s := fun s hi => mc_if_f (fun c => c.2 hi)
  have hz0 : ∀ s, s < 30 → ¬ mc_in l s → mc_kz l sz 30 s = 0 := fun s hs hi => mc_if_t ⟨hs, hi⟩
  have hb4 := (hS t ht).2.1
  have ezt := hz1 t hin
  have hbx := (hSx t ht).2.2 (by omega)
  intro d
  induction d with
  | zero =>
    intro e he
    have ee : e = sz t := by omega
    rw [ee]
    by_cases c : sz t = 4
    · exact br_t (nI_le (a := 4) (by omega) (by omega)) (nm_r (nI_1 (sr t)) hJ)
    · exact br_f (nI_ge (b := 4) (by omega) (by omega)) (br_t (nI_lt (by omega) (by omega)) (nm_r (nI_1 (sr t)) hJ))
  | succ d ih =>
    intro e he
    have hAx : mc_At sr st2 (mc_kz l sz 30) W2 (nI (st2 t) + nI e) t := by
      rw [nI_add]
      exact mc_At_i hXx hSx ht (by omega) (by omega)
    exact br_f (nI_ge (b := 4) (by omega) (by omega)) (br_f (nI_nlt (by omega) (by omega)) (po_base_at hSx hmk hXx hAx (br_t rfl (po_ser_at hAx (br_t rfl (nm_r (nI_1 e) (ih (e + 1) (by omega))))))))
theorem pl_1366 (hC0 : pv_C n mk lim op op2 U U2 H ce wd w2 W S P R O sr st sz pc pn st2 S2 W2 O2 l m0) (ht : t < 30) (hz : 0 < sz t) (hin : mc_in l t) (hJ : J2 x22 (nI (sr t + 1))) :
    wL_law_1366 post Ln xs J J2 (nI n) x5 x6 x7 x8 x14 pins x17 x19 x22 (nI (sr t)) (nI (st2 t)) (nI (sz t - 1)) kcn ksn (nI n) (nI lim) kc2 (mc_oI op2) (nI mk) (nI U2) H w2 (fun j => nI (W2 j)) (fun j => nI (S2 j)) (fun j => nI (P j)) (fun j => nI (R j)) (fun j => nI (O2 j)) (fun j => nI (px2 j)) (fun j => nI (cd2 j)) (fun j => nI (K2 j)) (nI n) (nI lim) kc (mc_oI op) (nI mk) (nI U) H wd (fun j => nI (W j)) (fun j => nI (S j)) (fun j => nI (P j)) (fun j => nI (R j)) (fun j => nI (O j)) (fun j => nI (px j)) (fun j => nI (cd j)) (fun j => nI (K j)) := by
  have hCC := hC0
  obtain ⟨hG, hG2, hPN, hlg, hpn, hcl, hsrc, hpin⟩ := hC0
  obtain ⟨hS, hD, hF, hX, hXW, hXZ, hC, hP0, hO, hT, hU1, hU2, hL, hop2, hmk⟩ := hG
  obtain ⟨hSx, hDx, hFx, hXx, hXWx, hXZx, hCx, _, hOx, hTx, hU1x, hU2x, _, hop2x, _⟩ := hG2
  have hz1 : ∀ s, mc_in l s → mc_kz l sz 30 s = sz s := fun s hi => mc_if_f (fun c => c.2 hi)
  have hz0 : ∀ s, s < 30 → ¬ mc_in l s → mc_kz l sz 30 s = 0 := fun s hs hi => mc_if_t ⟨hs, hi⟩
  have hb4 := (hS t ht).2.1
  have ezt := hz1 t hin
  have hbx := (hSx t ht).2.2 (by omega)
  have hbx1 := (hSx t ht).1
  unfold wL_law_1366
  refine pv_page (by omega) (by omega) ?_
  rw [nI_add]
  refine pv_page (by omega) (by omega) (br_t ?_ ⟨sz t + 1, pl_1387 hCC ht hz hin hJ (sz t) 0 (by omega)⟩)
  exact congrArg nI (by omega)
theorem pl_1237 (hC0 : pv_C n mk lim op op2 U U2 H ce wd w2 W S P R O sr st sz pc pn st2 S2 W2 O2 l m0) (ht : t < 30) (hz : 0 < sz t) (hin : mc_in l t) (hJ : J2 x22 (nI (sr t + 1))) :
    ∀ d k, k + d = sz t - 1 → wL_law_1237 post Ln xs J J2 (nI n) x5 x6 x7 x8 x14 pins x17 x19 x22 (nI (sr t)) (nI (st t)) (nI (st2 t)) (nI (pc t)) (nI (sz t - 1)) kcn ksn (nI n) (nI lim) kc2 (mc_oI op2) (nI mk) (nI U2) H w2 (fun j => nI (W2 j)) (fun j => nI (S2 j)) (fun j => nI (P j)) (fun j => nI (R j)) (fun j => nI (O2 j)) (fun j => nI (px2 j)) (fun j => nI (cd2 j)) (fun j => nI (K2 j)) (nI n) (nI lim) kc (mc_oI op) (nI mk) (nI U) H wd (fun j => nI (W j)) (fun j => nI (S j)) (fun j => nI (P j)) (fun j => nI (R j)) (fun j => nI (O j)) (fun j => nI (px j)) (fun j => nI (cd j)) (fun j => nI (K j)) (d + 1) (nI k) := by
  have h66 := pl_1366 (post := post) (Ln := Ln) (xs := xs) (J := J) (x5 := x5) (x6 := x6) (x7 := x7) (x8 := x8) (x14 := x14) (kcn := kcn) (ksn := ksn) (pins := pins) (x17 := x17) (x19 := x19) (px := px) (cd := cd) (K := K) (px2 := px2) (cd2 := cd2) (K2 := K2) (kc := kc) (kc2 := kc2) hC0 ht hz hin hJ
  have hCC := hC0
  obtain ⟨hG, hG2, hPN, hlg, hpn, hcl, hsrc, hpin⟩ := hC0
  obtain ⟨hS, hD, hF, hX, hXW, hXZ, hC, hP0, hO, hT, hU1, hU2, hL, hop2, hmk⟩ := hG
  obtain ⟨hSx, hDx, hFx, hXx, hXWx, hXZx, hCx, _, hOx, hTx, hU1x, hU2x, _, hop2x, _⟩ := hG2
  have hz1 : ∀ s, mc_in l s → mc_kz l sz 30 s = sz s := fun s hi => mc_if_f (fun c => c.2 hi)
  have hz0 : ∀ s, s < 30 → ¬ mc_in l s → mc_kz l sz 30 s = 0 := fun s hs hi => mc_if_t ⟨hs, hi⟩
  have hb := (hS t ht).2.2 hz
  have hb4 := (hS t ht).2.1
  have ezt := hz1 t hin
  have hbx := (hSx t ht).2.2 (by omega)
  have hA : mc_At sr st sz W (nI (st t)) t := mc_At_i hX hS ht (Nat.le_refl _) (by omega)
  have hAx : mc_At sr st2 (mc_kz l sz 30) W2 (nI (st2 t)) t := mc_At_i hXx hSx ht (Nat.le_refl _) (by omega)
  intro d
  induction d with
  | zero =>
    intro k hk
    have ek : k = sz t - 1 := by omega
    rw [ek]
    by_cases c : sz t - 1 = 3
    · exact br_t (nI_le (a := 3) (by omega) (by omega)) h66
    · exact br_f (nI_ge (b := 3) (by omega) (by omega)) (br_t (nI_le (by omega) (by omega)) h66)
  | succ d ih =>
    intro k hk
    have nx := ih (k + 1) (by omega)
    have q : mc_LC sr st sz pc t k (ce (3 * t + k)) (wd (st t - 1000 + 1 + k)) := hC t ht hz k (by omega)
    have qx : mc_LC sr st2 (mc_kz l sz 30) pc t k (ce (3 * t + k)) (w2 (st2 t - 1000 + 1 + k)) := hCx t ht (by omega) k (by omega)
    refine br_f (nI_ge (b := 3) (by omega) (by omega)) (br_f (nI_ge (by omega) (by omega)) (po_field hS hmk hX hA (by omega) (po_field hSx hmk hXx hAx (by omega) ?_)))
    by_cases c : k < pc t
    · refine br_t (nI_lt c (by omega)) (br_f (nI_ge c (by omega)) ?_)
      have hge : ¬ nI (pc t) ≤ nI k := nI_ge c (by omega)
      rcases q.1 c with ⟨q1, q2⟩ | ⟨s, hs, hzs, q1, q2⟩
      · have e2 : w2 (st2 t - 1000 + 1 + k) = 0 := by
          rcases qx.1 c with ⟨_, y⟩ | ⟨s, hs, hzs, y, _⟩
          · exact y
          · have hb := (hSx s hs).2.2 hzs
            rw [q1, ← nI_0] at y
            have := (nI_eq (by omega) (by omega)).mp y
            omega
        rw [q2, e2]
        exact br_t rfl (br_t rfl (br_t rfl (br_f hge (br_t rfl (nm_r (nI_1 k) nx)))))
      · have hbs := (hS s hs).2.2 hzs
        have hins := hcl t k s hin c hs hzs q1
        have ezs := hz1 s hins
        have hbsx := (hSx s hs).2.2 (by omega)
        have hb1 := (hS s hs).1
        have hbx1 := (hSx s hs).1
        have e2 : w2 (st2 t - 1000 + 1 + k) = nI (st2 s) := by
          rcases qx.1 c with ⟨y, _⟩ | ⟨s', hs', hzs', y, y2⟩
          · rw [q1, ← nI_0] at y
            have := (nI_eq (by omega) (by omega)).mp y
            omega
          · have hb' := (hSx s' hs').2.2 hzs'
            rw [q1] at y
            have e := (nI_eq (by omega) (by omega)).mp y
            by_cases es : s = s'
            · rw [es]; exact y2
            · exact absurd e (hDx s s' hs hs' es (by omega) hzs').1
        have hAs : mc_At sr st sz W (nI (st s)) s := mc_At_i hX hS hs (Nat.le_refl _) (by omega)
        have hAsx : mc_At sr st2 (mc_kz l sz 30) W2 (nI (st2 s)) s := mc_At_i hXx hSx hs (Nat.le_refl _) (by omega)
        have n1 : ¬ nI (st s) = 0 := nI_ne0 (by omega) (by omega)
        have n2 : ¬ nI (st2 s) = 0 := nI_ne0 (by omega) (by omega)
        rw [q2, e2]
        exact br_f n2 (br_f n1 (br_t rfl (br_f hge (br_f n2 (po_base_at hSx hmk hXx hAsx (br_t rfl (po_ser_at hAsx (po_ser_at hAs (br_t rfl (nm_r (nI_1 k) nx))))))))))
    · have hle : nI (pc t) ≤ nI k := nI_le (by omega) (by omega)
      refine br_f (nI_nlt (by omega) (by omega)) (br_t ?_ (br_t hle (br_t hle (nm_r (nI_1 k) nx))))
      rw [q.2 (by omega), qx.2 (by omega)]
theorem pl_1197 (hC0 : pv_C n mk lim op op2 U U2 H ce wd w2 W S P R O sr st sz pc pn st2 S2 W2 O2 l m0) (ht : t < 30) (hz : 0 < sz t) (hin : mc_in l t) (hJ : J2 x22 (nI (sr t + 1))) :
    wL_law_1197 post Ln xs J J2 (nI n) x5 x6 x7 x8 x14 pins x17 x19 x22 (nI (sr t)) (nI (st t)) (nI (st2 t)) kcn ksn (nI n) (nI lim) kc2 (mc_oI op2) (nI mk) (nI U2) H w2 (fun j => nI (W2 j)) (fun j => nI (S2 j)) (fun j => nI (P j)) (fun j => nI (R j)) (fun j => nI (O2 j)) (fun j => nI (px2 j)) (fun j => nI (cd2 j)) (fun j => nI (K2 j)) (nI n) (nI lim) kc (mc_oI op) (nI mk) (nI U) H wd (fun j => nI (W j)) (fun j => nI (S j)) (fun j => nI (P j)) (fun j => nI (R j)) (fun j => nI (O j)) (fun j => nI (px j)) (fun j => nI (cd j)) (fun j => nI (K j)) := by
  have h37 := pl_1237 (post := post) (Ln := Ln) (xs := xs) (J := J) (x5 := x5) (x6 := x6) (x7 := x7) (x8 := x8) (x14 := x14) (kcn := kcn) (ksn := ksn) (pins := pins) (x17 := x17) (x19 := x19) (px := px) (cd := cd) (K := K) (px2 := px2) (cd2 := cd2) (K2 := K2) (kc := kc) (kc2 := kc2) hC0 ht hz hin hJ
  have hCC := hC0
  obtain ⟨hG, hG2, hPN, hlg, hpn, hcl, hsrc, hpin⟩ := hC0
  obtain ⟨hS, hD, hF, hX, hXW, hXZ, hC, hP0, hO, hT, hU1, hU2, hL, hop2, hmk⟩ := hG
  obtain ⟨hSx, hDx, hFx, hXx, hXWx, hXZx, hCx, _, hOx, hTx, hU1x, hU2x, _, hop2x, _⟩ := hG2
  have hz1 : ∀ s, mc_in l s → mc_kz l sz 30 s = sz s := fun s hi => mc_if_f (fun c => c.2 hi)
  have hz0 : ∀ s, s < 30 → ¬ mc_in l s → mc_kz l sz 30 s = 0 := fun s hs hi => mc_if_t ⟨hs, hi⟩
  have hb := (hS t ht).2.2 hz
  have hb4 := (hS t ht).2.1
  have ezt := hz1 t hin
  have hbx := (hSx t ht).2.2 (by omega)
  have hA : mc_At sr st sz W (nI (st t)) t := mc_At_i hX hS ht (Nat.le_refl _) (by omega)
  have hAx : mc_At sr st2 (mc_kz l sz 30) W2 (nI (st2 t)) t := mc_At_i hXx hSx ht (Nat.le_refl _) (by omega)
  have e4 : nI (4 * pc t + (sz t - 1 - pc t)) / 4 = nI (pc t) := by
    have := pk_div (a := 4 * pc t + (sz t - 1 - pc t)) (d := 4) (by omega) (by omega) (by omega)
    have e : (4 * pc t + (sz t - 1 - pc t)) / 4 = pc t := by omega
    rw [e] at this
    exact this
  have e5 : nI (pc t) + (nI (4 * pc t + (sz t - 1 - pc t)) - nI (4 * pc t + (sz t - 1 - pc t)) / 4 * 4) = nI (sz t - 1) := by
    have := pk_rem (a := 4 * pc t + (sz t - 1 - pc t)) (d := 4) (by omega) (by omega) (by omega)
    have e : (4 * pc t + (sz t - 1 - pc t)) % 4 = sz t - 1 - pc t := by omega
    rw [e] at this
    refine Eq.trans (congrArg (fun z => nI (pc t) + z) this) ?_
    show nI (pc t) + nI (sz t - 1 - pc t) = _
    rw [nI_add]
    exact congrArg nI (by omega)
  unfold wL_law_1197
  refine po_shape hS hmk hX hA (po_shape hSx hmk hXx hAx (br_t ?_ ⟨by decide, nm_r e4 ⟨by decide, nm_r e5 ⟨sz t, ?_⟩⟩⟩))
  · rw [ezt]
  · have := h37 (sz t - 1) 0 (by omega)
    have e : sz t - 1 + 1 = sz t := by omega
    rw [e] at this
    exact this
noncomputable def pv_lost (sr sz : Nat → Nat) (l : (Nat → Nat) × Nat) (v : Nat) : Nat := mc_sm (fun t => mc_if (0 < sz t ∧ ¬ mc_in l t ∧ sr t < v) 1 0) 30
theorem pl_1109 {lo hi : Int64} (hC0 : pv_C n mk lim op op2 U U2 H ce wd w2 W S P R O sr st sz pc pn st2 S2 W2 O2 l m0) (hpins : ∀ p, p < 32 → (pv_b pins p ↔ pn p = 1)) (hm : ∀ t, t < 30 → 0 < sz t → (pv_m lo hi ((st t - 1000) / 2) ↔ mc_in l t))
    (hcol : ∀ post : Int32 → St2 → Prop, post (nI (mc_sm (mc_kc l sz) 30)) ((nI n), (nI lim), kc2, (mc_oI op2), (nI mk), (nI U2), H, w2, (fun j => nI (W2 j)), (fun j => nI (S2 j)), (fun j => nI (P j)), (fun j => nI (R j)), (fun j => nI (O2 j)), (fun j => nI (px2 j)), (fun j => nI (cd2 j)), (fun j => nI (K2 j))) → wpX_collect post ((nI n), (nI lim), kc, (mc_oI op), (nI mk), (nI U), H, wd, (fun j => nI (W j)), (fun j => nI (S j)), (fun j => nI (P j)), (fun j => nI (R j)), (fun j => nI (O j)), (fun j => nI (px j)), (fun j => nI (cd j)), (fun j => nI (K j))))
    (hJ : ∀ x, x = x8 + 1 → J (nI mk) x6 x7 x (nI n) (nI lim) kc2 (mc_oI op2) (nI mk) (nI U2) H w2 (fun j => nI (W2 j)) (fun j => nI (S2 j)) (fun j => nI (P j)) (fun j => nI (R j)) (fun j => nI (O2 j)) (fun j => nI (px2 j)) (fun j => nI (cd2 j)) (fun j => nI (K2 j)) (nI n) (nI lim) kc2 (mc_oI op2) (nI mk) (nI U2) H w2 (fun j => nI (W2 j)) (fun j => nI (S2 j)) (fun j => nI (P j)) (fun j => nI (R j)) (fun j => nI (O2 j)) (fun j => nI (px2 j)) (fun j => nI (cd2 j)) (fun j => nI (K2 j))) :
    ∀ d v, v + d = mk + 1 → 1 ≤ v → wL_law_1109 post Ln xs J (nI n) (nI mk) x6 x7 x8 (nI (mc_sm (mc_kc l sz) 30)) pins lo hi kcn ksn (nI n) (nI lim) kc2 (mc_oI op2) (nI mk) (nI U2) H w2 (fun j => nI (W2 j)) (fun j => nI (S2 j)) (fun j => nI (P j)) (fun j => nI (R j)) (fun j => nI (O2 j)) (fun j => nI (px2 j)) (fun j => nI (cd2 j)) (fun j => nI (K2 j)) (nI n) (nI lim) kc (mc_oI op) (nI mk) (nI U) H wd (fun j => nI (W j)) (fun j => nI (S j)) (fun j => nI (P j)) (fun j => nI (R j)) (fun j => nI (O j)) (fun j => nI (px j)) (fun j => nI (cd j)) (fun j => nI (K j)) (d + 1) (nI (pv_lost sr sz l v)) (nI v) := by
  have hCC := hC0
  obtain ⟨hG, hG2, hPN, hlg, hpn, hcl, hsrc, hpin⟩ := hC0
  obtain ⟨hS, hD, hF, hX, hXW, hXZ, hC, hP0, hO, hT, hU1, hU2, hL, hop2, hmk⟩ := hG
  obtain ⟨hSx, hDx, hFx, hXx, hXWx, hXZx, hCx, _, hOx, hTx, hU1x, hU2x, _, hop2x, _⟩ := hG2
  have hz1 : ∀ s, mc_in l s → mc_kz l sz 30 s = sz s := fun s hi => mc_if_f (fun c => c.2 hi)
  have hz0 : ∀ s, s < 30 → ¬ mc_in l s → mc_kz l sz 30 s = 0 := fun s hs hi => mc_if_t ⟨hs, hi⟩
  intro d
  induction d with
  | zero =>
    intro v hv h1
    refine br_t (nI_lt (by omega) (by omega)) (br_t ?_ (hcol _ hJ))
    refine congrArg nI (mc_sm_congr 30 (fun t ht => mc_if_cg ?_))
    constructor
    · rintro ⟨a1, a2, _⟩; exact ⟨a1, a2⟩
    · rintro ⟨a1, a2⟩
      have := (hS t ht).2.2 a1
      exact ⟨a1, a2, by omega⟩
  | succ d ih =>
    intro v hv h1
    have nx := ih (v + 1) (by omega) (by omega)
    refine br_f (nI_nlt (by omega) (by omega)) (po_adr h1 (by omega) (po_adr h1 (by omega) ?_))
    have hx0 : (∀ s, s < 30 → 0 < sz s → mc_in l s → sr s ≠ v) → S2 v = 0 := by
      intro hno
      rcases hXZx v with y | ⟨s, a1, a2, a3⟩
      · exact y
      · by_cases c : mc_in l s
        · rw [hz1 s c] at a2
          exact absurd a3.symm (hno s a1 a2 c)
        · rw [hz0 s a1 c] at a2
          omega
    rcases po_Sv hX hXZ v with ⟨z, hno⟩ | ⟨s, hs, hz, e, z⟩
    · have hno2 : ∀ s, s < 30 → 0 < sz s → sr s ≠ v := fun s a1 a2 a3 => by
        have h2 := hno s a1 a2 a3
        have := (hS s a1).2.2 a2
        omega
      have e0 : pv_lost sr sz l (v + 1) = pv_lost sr sz l v := by
        refine mc_sm_congr 30 (fun t ht => mc_if_cg ?_)
        constructor
        · rintro ⟨a1, a2, a3⟩
          have := hno2 t ht a1
          exact ⟨a1, a2, by omega⟩
        · rintro ⟨a1, a2, a3⟩
          exact ⟨a1, a2, by omega⟩
      rw [e0] at nx
      rw [z, hx0 (fun s a1 a2 _ => hno2 s a1 a2)]
      exact br_t rfl (br_t rfl (br_t rfl (nm_r (nI_1 v) nx)))
    · have hb := (hS s hs).2.2 hz
      have hb1 := (hS s hs).1
      have huniq : ∀ t, t < 30 → 0 < sz t → sr t = v → t = s := by
        intro t a1 a2 a3
        by_cases et : t = s
        · exact et
        · exact absurd (a3.trans e) (hD t s a1 hs et a2 hz).1
      have nz : ¬ nI (st s) = 0 := nI_ne0 (by omega) (by omega)
      rw [z]
      refine br_f nz (pv_in (by omega) (by omega) (fun hmk2 => ?_) (fun hmk2 => ?_))
      · have hin := (hm s hs hz).mp hmk2
        have ezs := hz1 s hin
        have hbx := (hSx s hs).2.2 (by omega)
        have hbx1 := (hSx s hs).1
        have eS2 : S2 v = st2 s := by rw [e]; exact (hXx s hs (by omega)).1
        have e0 : pv_lost sr sz l (v + 1) = pv_lost sr sz l v := by
          refine mc_sm_congr 30 (fun t ht => mc_if_cg ?_)
          constructor
          · rintro ⟨a1, a2, a3⟩
            have hne : sr t ≠ v := fun y => by
              rw [huniq t ht a1 y] at a2
              exact a2 hin
            exact ⟨a1, a2, by omega⟩
          · rintro ⟨a1, a2, a3⟩
            exact ⟨a1, a2, by omega⟩
        rw [e0] at nx
        have h97 : ∀ x5 : Int32, wL_law_1197 post Ln xs J (wL_law_1109 post Ln xs J (nI n) (nI mk) x6 x7 x8 (nI (mc_sm (mc_kc l sz) 30)) pins lo hi kcn ksn (nI n) (nI lim) kc2 (mc_oI op2) (nI mk) (nI U2) H w2 (fun j => nI (W2 j)) (fun j => nI (S2 j)) (fun j => nI (P j)) (fun j => nI (R j)) (fun j => nI (O2 j)) (fun j => nI (px2 j)) (fun j => nI (cd2 j)) (fun j => nI (K2 j)) (nI n) (nI lim) kc (mc_oI op) (nI mk) (nI U) H wd (fun j => nI (W j)) (fun j => nI (S j)) (fun j => nI (P j)) (fun j => nI (R j)) (fun j => nI (O j)) (fun j => nI (px j)) (fun j => nI (cd j)) (fun j => nI (K j)) (d + 1)) (nI n) x5 x6 x7 x8 (nI (mc_sm (mc_kc l sz) 30)) pins lo hi (nI (pv_lost sr sz l v)) (nI v) (nI (st s)) (nI (st2 s)) kcn ksn (nI n) (nI lim) kc2 (mc_oI op2) (nI mk) (nI U2) H w2 (fun j => nI (W2 j)) (fun j => nI (S2 j)) (fun j => nI (P j)) (fun j => nI (R j)) (fun j => nI (O2 j)) (fun j => nI (px2 j)) (fun j => nI (cd2 j)) (fun j => nI (K2 j)) (nI n) (nI lim) kc (mc_oI op) (nI mk) (nI U) H wd (fun j => nI (W j)) (fun j => nI (S j)) (fun j => nI (P j)) (fun j => nI (R j)) (fun j => nI (O j)) (fun j => nI (px j)) (fun j => nI (cd j)) (fun j => nI (K j)) := by
          intro x5
          rw [e] at nx ⊢
          exact pl_1197 hCC hs hz hin nx
        rw [eS2]
        refine br_f (by decide) (br_f (nI_ne0 (by omega) (by omega)) (pv_page (by omega) (by omega) ?_))
        by_cases c : pn ((st s - 1000) / 8) = 1
        · refine br_f (fun y => (pv_bt (by omega)).mp y ((hpins _ (by omega)).mpr c)) (br_t ?_ (h97 _))
          rw [hpin s hs hz hin c]
        · exact br_t ((pv_bt (by omega)).mpr (fun y => c ((hpins _ (by omega)).mp y))) (h97 _)
      · have hin : ¬ mc_in l s := fun y => hmk2 ((hm s hs hz).mpr y)
        have e0 : pv_lost sr sz l (v + 1) = pv_lost sr sz l v + 1 := by
          refine mc_sm_pt (k := s) 30 hs ?_ (fun t ht hne => mc_if_cg ?_)
          · show mc_if (0 < sz s ∧ ¬ mc_in l s ∧ sr s < v + 1) 1 0 = mc_if (0 < sz s ∧ ¬ mc_in l s ∧ sr s < v) 1 0 + 1
            rw [mc_if_t ⟨hz, hin, by omega⟩, mc_if_f (fun y => by omega)]
          · constructor
            · rintro ⟨a1, a2, a3⟩
              have hnv : sr t ≠ v := fun y => hne (huniq t ht a1 y)
              exact ⟨a1, a2, by omega⟩
            · rintro ⟨a1, a2, a3⟩
              exact ⟨a1, a2, by omega⟩
        rw [e0] at nx
        rw [hx0 (fun t a1 a2 a3 a4 => by
          rw [huniq t a1 a2 a4] at a3
          exact hin a3)]
        exact br_t rfl (br_t rfl (br_f nz (nm_r (nI_1 _) (nm_r (nI_1 v) nx))))
end
