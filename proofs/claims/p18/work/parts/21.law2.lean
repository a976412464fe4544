/-! the law at a collection: its own reach -/
noncomputable def pv_cnt (st sz : Nat → Nat) (lo hi : Int64) : Nat := mc_sm (fun t => mc_if (0 < sz t ∧ pv_m lo hi ((st t - 1000) / 2)) 1 0) 30
theorem pv_cnt_le (st sz : Nat → Nat) (lo hi : Int64) : pv_cnt st sz lo hi ≤ 30 := by
  have := mc_sm_bd (f := fun t => mc_if (0 < sz t ∧ pv_m lo hi ((st t - 1000) / 2)) 1 0) 1 30 (fun t _ => by
    by_cases c : 0 < sz t ∧ pv_m lo hi ((st t - 1000) / 2)
    · show mc_if _ 1 0 ≤ 1
      rw [mc_if_t c]; exact Nat.le_refl _
    · show mc_if _ 1 0 ≤ 1
      rw [mc_if_f c]; exact Nat.zero_le _)
  exact this
def pv_IM (st sz pn : Nat → Nat) (l : (Nat → Nat) × Nat) (lo hi : Int64) : Prop :=
  (∀ q, q < 128 → pv_m lo hi q → ∃ t, t < 30 ∧ 0 < sz t ∧ mc_in l t ∧ (st t - 1000) / 2 = q) ∧ (∀ t, t < 30 → 0 < sz t → pn ((st t - 1000) / 8) = 1 → pv_m lo hi ((st t - 1000) / 2))
def pv_RN (st sz pn : Nat → Nat) (l : (Nat → Nat) × Nat) (lo0 hi0 lo hi : Int64) (g : Nat) : Prop :=
  pv_IM st sz pn l lo hi ∧ ((g = 0 ∧ lo = lo0 ∧ hi = hi0) ∨ (g = 1 ∧ pv_cnt st sz lo0 hi0 + 1 ≤ pv_cnt st sz lo hi))
def pv_cl (ce : Nat → Int32) (sr st sz : Nat → Nat) (lo hi : Int64) (t k : Nat) : Prop :=
  ∀ t', t' < 30 → 0 < sz t' → ce (3 * t + k) = nI (sr t') → pv_m lo hi ((st t' - 1000) / 2)
section
variable {n lim op mk U op2 U2 m0 : Nat} {kc kc2 : Int32} {H wd ce w2 : Nat → Int32} {W S P R O px cd K sr st sz pc pn st2 S2 W2 O2 px2 cd2 K2 : Nat → Nat} {l : (Nat → Nat) × Nat}
variable {post : Int32 → Prop} {Ln : Nat} {xs : Nat → Int32} {J : Int32 → Int32 → Int32 → Int32 → Int32 → Int32 → Int32 → Int32 → Int32 → Int32 → (Nat → Int32) → (Nat → Int32) → (Nat → Int32) → (Nat → Int32) → (Nat → Int32) → (Nat → Int32) → (Nat → Int32) → (Nat → Int32) → (Nat → Int32) → (Nat → Int32) → Int32 → Int32 → Int32 → Int32 → Int32 → Int32 → (Nat → Int32) → (Nat → Int32) → (Nat → Int32) → (Nat → Int32) → (Nat → Int32) → (Nat → Int32) → (Nat → Int32) → (Nat → Int32) → (Nat → Int32) → (Nat → Int32) → Prop} {x5 x6 x7 x8 x14 : Int32} {kcn ksn : Nat} {pins : Int64}
theorem pv_mark {lo0 hi0 lo hi lo' hi' : Int64} {g t : Nat} (hS : mc_Slot mk sr st sz pc) (hD : mc_Dis sr st sz) (h : pv_RN st sz pn l lo0 hi0 lo hi g) (ht : t < 30) (hz : 0 < sz t) (hin : mc_in l t)
    (hn : ¬ pv_m lo hi ((st t - 1000) / 2)) (hs : ∀ q, q < 128 → (pv_m lo' hi' q ↔ pv_m lo hi q ∨ q = (st t - 1000) / 2)) : pv_RN st sz pn l lo0 hi0 lo' hi' 1 := by
  have hb : ∀ s, s < 30 → (st s - 1000) / 2 < 128 := fun s hs => by
    have := (hS s hs).1
    omega
  refine ⟨⟨fun q hq hm => ?_, fun s a1 a2 a3 => ?_⟩, Or.inr ⟨rfl, ?_⟩⟩
  · rcases (hs q hq).mp hm with z | z
    · exact h.1.1 q hq z
    · exact ⟨t, ht, hz, hin, z.symm⟩
  · exact (hs _ (hb s a1)).mpr (Or.inl (h.1.2 s a1 a2 a3))
  · have e : pv_cnt st sz lo' hi' = pv_cnt st sz lo hi + 1 := by
      refine mc_sm_pt (k := t) 30 ht ?_ (fun s a1 a2 => ?_)
      · show mc_if (0 < sz t ∧ pv_m lo' hi' ((st t - 1000) / 2)) 1 0 = mc_if (0 < sz t ∧ pv_m lo hi ((st t - 1000) / 2)) 1 0 + 1
        rw [mc_if_t ⟨hz, (hs _ (hb t ht)).mpr (Or.inr rfl)⟩, mc_if_f (fun c => hn c.2)]
      · refine mc_if_cg ?_
        constructor
        · rintro ⟨b1, b2⟩
          rcases (hs _ (hb s a1)).mp b2 with z | z
          · exact ⟨b1, z⟩
          · exact absurd (po_half hS hD a1 ht b1 hz z) a2
        · rintro ⟨b1, b2⟩
          exact ⟨b1, (hs _ (hb s a1)).mpr (Or.inl b2)⟩
    rcases h.2 with ⟨_, e1, e2⟩ | ⟨_, h2⟩
    · rw [e, e1, e2]; exact Nat.le_refl _
    · omega
theorem pl_964 {J9 JA : Int64 → Int64 → Int32 → Int32 → Prop} {x22 : Int32} {lo0 hi0 : Int64} {t gs : Nat} (hC0 : pv_C n mk lim op op2 U U2 H ce wd w2 W S P R O sr st sz pc pn st2 S2 W2 O2 l m0) (ht : t < 30) (hz : 0 < sz t) (hin : mc_in l t)
    (hJ : ∀ lo hi g, pv_RN st sz pn l lo0 hi0 lo hi g → (g = 0 → gs = 0) → (g = 0 → ∀ k, k < pc t → pv_cl ce sr st sz lo hi t k) → JA lo hi (nI g) (nI (sr t + 1))) :
    ∀ (d k : Nat) (lo hi : Int64) (g : Nat), k + d = pc t → pv_RN st sz pn l lo0 hi0 lo hi g → (g = 0 → gs = 0) → (g = 0 → ∀ k', k' < k → pv_cl ce sr st sz lo hi t k') →
      wL_law_964 post Ln xs J J9 JA (nI n) (nI mk) x6 x7 x8 x14 pins x22 (nI (sr t)) (nI (st t)) kcn ksn (nI n) (nI lim) kc2 (mc_oI op2) (nI mk) (nI U2) H w2 (fun j => nI (W2 j)) (fun j => nI (S2 j)) (fun j => nI (P j)) (fun j => nI (R j)) (fun j => nI (O2 j)) (fun j => nI (px2 j)) (fun j => nI (cd2 j)) (fun j => nI (K2 j)) (nI n) (nI lim) kc (mc_oI op) (nI mk) (nI U) H wd (fun j => nI (W j)) (fun j => nI (S j)) (fun j => nI (P j)) (fun j => nI (R j)) (fun j => nI (O j)) (fun j => nI (px j)) (fun j => nI (cd j)) (fun j => nI (K j)) (d + 1) lo hi (nI g) (nI k) := by
  have hCC := hC0
  obtain ⟨hG, hG2, hPN, hlg, hpn, hcl, hsrc, hpin⟩ := hC0
  obtain ⟨hS, hD, hF, hX, hXW, hXZ, hC, hP0, hO, hT, hU1, hU2, hL, hop2, hmk⟩ := hG
  obtain ⟨hSx, hDx, hFx, hXx, hXWx, hXZx, hCx, _, hOx, hTx, hU1x, hU2x, _, hop2x, _⟩ := hG2
  have hz1 : ∀ s, mc_in l s → mc_kz l sz 30 s = sz s := fun s hi => mc_if_f (fun c => c.2 hi)
  have hz0 : ∀ s, s < 30 → ¬ mc_in l s → mc_kz l sz 30 s = 0 := fun s hs hi => mc_if_t ⟨hs, hi⟩
  have hb := (hS t ht).2.2 hz
  have hb1 := (hS t ht).1
  have hb4 := (hS t ht).2.1
  have hA : mc_At sr st sz W (nI (st t)) t := mc_At_i hX hS ht (Nat.le_refl _) (by omega)
  have e4 : nI (4 * pc t + (sz t - 1 - pc t)) / 4 = nI (pc t) := by
    have := pk_div (a := 4 * pc t + (sz t - 1 - pc t)) (d := 4) (by omega) (by omega) (by omega)
    have e : (4 * pc t + (sz t - 1 - pc t)) / 4 = pc t := by omega
    rw [e] at this
    exact this
  intro d
  induction d with
  | zero =>
    intro k lo hi g hk hR hg hc
    have ek : k = pc t := by omega
    rw [ek] at hc ⊢
    have nx := nm_r (nI_1 (sr t)) (hJ lo hi g hR hg hc)
    by_cases c : pc t = 3
    · exact br_t (nI_le (a := 3) (by omega) (by omega)) nx
    · refine br_f (nI_ge (b := 3) (by omega) (by omega)) (po_shape hS hmk hX hA ⟨by decide, br_t ?_ nx⟩)
      rw [e4]
      exact nI_le (Nat.le_refl _) (by omega)
  | succ d ih =>
    intro k lo hi g hk hR hg hc
    have q : mc_LC sr st sz pc t k (ce (3 * t + k)) (wd (st t - 1000 + 1 + k)) := hC t ht hz k (by omega)
    refine br_f (nI_ge (b := 3) (by omega) (by omega)) (po_shape hS hmk hX hA ⟨by decide, br_f ?_ (po_field hS hmk hX hA (by omega) ?_)⟩)
    · rw [e4]
      exact nI_ge (by omega) (by omega)
    · rcases q.1 (by omega) with ⟨q1, q2⟩ | ⟨t', ht', hzt, q1, q2⟩
      · rw [q2]
        refine br_t rfl (nm_r (nI_1 k) (ih (k + 1) lo hi g (by omega) hR hg (fun z k' hk' => ?_)))
        by_cases e : k' = k
        · intro s a1 a2 a3
          rw [e, q1, ← nI_0] at a3
          have hs := (hS s a1).2.2 a2
          have := (nI_eq (by omega) (by omega)).mp a3
          omega
        · exact hc z k' (by omega)
      · have hbt := (hS t' ht').2.2 hzt
        have hbt1 := (hS t' ht').1
        have hA' : mc_At sr st sz W (nI (st t')) t' := mc_At_i hX hS ht' (Nat.le_refl _) (by omega)
        have hin' := hcl t k t' hin (by omega) ht' hzt q1
        have huq : ∀ s, s < 30 → 0 < sz s → ce (3 * t + k) = nI (sr s) → s = t' := by
          intro s a1 a2 a3
          rw [q1] at a3
          have hs := (hS s a1).2.2 a2
          have e := (nI_eq (by omega) (by omega)).mp a3
          by_cases c : s = t'
          · exact c
          · exact absurd e.symm (hD s t' a1 ht' c a2 hzt).1
        rw [q2]
        refine br_f (nI_ne0 (by omega) (by omega)) (po_ser_at hA' (po_adr (by omega) (by omega) ?_))
        rw [(hX t' ht' hzt).1]
        refine br_f (nI_ne0 (by omega) (by omega)) (pv_in (by omega) (by omega) (fun hm => ?_) (fun hm => ?_))
        · refine br_f (by decide) (nm_r (nI_1 k) (ih (k + 1) lo hi g (by omega) hR hg (fun z k' hk' => ?_)))
          by_cases e : k' = k
          · intro s a1 a2 a3
            rw [e] at a3
            rw [huq s a1 a2 a3]
            exact hm
          · exact hc z k' (by omega)
        · refine br_t rfl (pv_half (by omega) (by omega) ?_)
          by_cases c2 : 64 ≤ (st t' - 1000) / 2
          · exact br_t (nI_le (a := 64) c2 (by omega)) (pv_half (by omega) (by omega) (nm_e (nm_r (nI_1 k) (ih (k + 1) _ _ 1 (by omega) (pv_mark hS hD hR ht' hzt hin' hm (fun q hq => pv_mhi c2 (by omega) hq)) (fun z => absurd z (by omega)) (fun z => absurd z (by omega))))))
          · exact br_f (nI_ge (b := 64) (by omega) (by omega)) (pv_half (by omega) (by omega) (nm_e (nm_r (nI_1 k) (ih (k + 1) _ _ 1 (by omega) (pv_mark hS hD hR ht' hzt hin' hm (fun q hq => pv_mlo (by omega) hq)) (fun z => absurd z (by omega)) (fun z => absurd z (by omega))))))
theorem pl_925 {J9 : Int64 → Int64 → Int32 → Int32 → Prop} {r : Nat} {lo0 hi0 : Int64} (hC0 : pv_C n mk lim op op2 U U2 H ce wd w2 W S P R O sr st sz pc pn st2 S2 W2 O2 l m0)
    (hJ : ∀ lo hi g, pv_RN st sz pn l lo0 hi0 lo hi g → (g = 0 → ∀ t, t < 30 → 0 < sz t → pv_m lo hi ((st t - 1000) / 2) → ∀ k, k < pc t → pv_cl ce sr st sz lo hi t k) → J9 lo hi (nI g) (nI (r + 1))) :
    ∀ (d v : Nat) (lo hi : Int64) (g : Nat), v + d = mk + 1 → 1 ≤ v → pv_RN st sz pn l lo0 hi0 lo hi g → (g = 0 → ∀ t, t < 30 → 0 < sz t → sr t < v → pv_m lo hi ((st t - 1000) / 2) → ∀ k, k < pc t → pv_cl ce sr st sz lo hi t k) →
      wL_law_925 post Ln xs J J9 (nI n) (nI mk) x6 x7 x8 x14 pins (nI r) kcn ksn (nI n) (nI lim) kc2 (mc_oI op2) (nI mk) (nI U2) H w2 (fun j => nI (W2 j)) (fun j => nI (S2 j)) (fun j => nI (P j)) (fun j => nI (R j)) (fun j => nI (O2 j)) (fun j => nI (px2 j)) (fun j => nI (cd2 j)) (fun j => nI (K2 j)) (nI n) (nI lim) kc (mc_oI op) (nI mk) (nI U) H wd (fun j => nI (W j)) (fun j => nI (S j)) (fun j => nI (P j)) (fun j => nI (R j)) (fun j => nI (O j)) (fun j => nI (px j)) (fun j => nI (cd j)) (fun j => nI (K j)) (d + 1) lo hi (nI g) (nI v) := by
  have hCC := hC0
  obtain ⟨hG, hG2, hPN, hlg, hpn, hcl, hsrc, hpin⟩ := hC0
  obtain ⟨hS, hD, hF, hX, hXW, hXZ, hC, hP0, hO, hT, hU1, hU2, hL, hop2, hmk⟩ := hG
  obtain ⟨hSx, hDx, hFx, hXx, hXWx, hXZx, hCx, _, hOx, hTx, hU1x, hU2x, _, hop2x, _⟩ := hG2
  have hz1 : ∀ s, mc_in l s → mc_kz l sz 30 s = sz s := fun s hi => mc_if_f (fun c => c.2 hi)
  have hz0 : ∀ s, s < 30 → ¬ mc_in l s → mc_kz l sz 30 s = 0 := fun s hs hi => mc_if_t ⟨hs, hi⟩
  intro d
  induction d with
  | zero =>
    intro v lo hi g hv h1 hR hc
    refine br_t (nI_lt (by omega) (by omega)) (nm_r (nI_1 r) (hJ lo hi g hR (fun z t a1 a2 a3 => hc z t a1 a2 ?_ a3)))
    have := (hS t a1).2.2 a2
    omega
  | succ d ih =>
    intro v lo hi g hv h1 hR hc
    refine br_f (nI_nlt (by omega) (by omega)) (po_adr h1 (by omega) ?_)
    rcases po_Sv hX hXZ v with ⟨z, hno⟩ | ⟨s, hs, hz, e, z⟩
    · rw [z]
      refine br_t rfl (nm_r (nI_1 v) (ih (v + 1) lo hi g (by omega) (by omega) hR (fun y t a1 a2 a3 a4 => hc y t a1 a2 ?_ a4)))
      have hb := (hS t a1).2.2 a2
      have hn : sr t ≠ v := fun e => by
        have := hno t a1 a2 e
        omega
      omega
    · have hb := (hS s hs).2.2 hz
      have hb1 := (hS s hs).1
      have huniq : ∀ t, t < 30 → 0 < sz t → sr t = v → t = s := by
        intro t a1 a2 a3
        by_cases et : t = s
        · exact et
        · exact absurd (a3.trans e) (hD t s a1 hs et a2 hz).1
      rw [z]
      refine br_f (nI_ne0 (by omega) (by omega)) (pv_in (by omega) (by omega) (fun hm => ?_) (fun hm => ?_))
      · have hin : mc_in l s := by
          obtain ⟨t, a1, a2, a3, a4⟩ := hR.1.1 _ (by omega) hm
          rw [← po_half hS hD a1 hs a2 hz a4]
          exact a3
        refine br_f (by decide) ⟨pc s + 1, ?_⟩
        rw [e]
        refine pl_964 (gs := g) hCC hs hz hin (fun lo' hi' g' hR' hg' hc' => ?_) (pc s) 0 lo hi g (by omega) hR (fun y => y) (fun _ k' hk' => absurd hk' (by omega))
        rw [← e]
        refine ih (v + 1) lo' hi' g' (by omega) (by omega) hR' (fun y t a1 a2 a3 a4 => ?_)
        by_cases et : sr t = v
        · rw [huniq t a1 a2 et]
          exact hc' y
        · have hg0 := hg' y
          have e1 : lo' = lo ∧ hi' = hi := by
            rcases hR'.2 with ⟨_, y1, y2⟩ | ⟨y1, _⟩
            · rcases hR.2 with ⟨_, w1, w2⟩ | ⟨w1, _⟩
              · exact ⟨y1.trans w1.symm, y2.trans w2.symm⟩
              · omega
            · omega
          rw [e1.1, e1.2] at a4 ⊢
          exact hc hg0 t a1 a2 (by omega) a4
      · refine br_t rfl (nm_r (nI_1 v) (ih (v + 1) lo hi g (by omega) (by omega) hR (fun y t a1 a2 a3 a4 => ?_)))
        by_cases et : sr t = v
        · rw [huniq t a1 a2 et] at a4
          exact absurd a4 hm
        · exact hc y t a1 a2 (by omega) a4
theorem pl_907 (hC0 : pv_C n mk lim op op2 U U2 H ce wd w2 W S P R O sr st sz pc pn st2 S2 W2 O2 l m0)
    (h : ∀ lo hi, (∀ t, t < 30 → 0 < sz t → (pv_m lo hi ((st t - 1000) / 2) ↔ mc_in l t)) → ∃ f, wL_law_1109 post Ln xs J (nI n) (nI mk) x6 x7 x8 x14 pins lo hi kcn ksn (nI n) (nI lim) kc2 (mc_oI op2) (nI mk) (nI U2) H w2 (fun j => nI (W2 j)) (fun j => nI (S2 j)) (fun j => nI (P j)) (fun j => nI (R j)) (fun j => nI (O2 j)) (fun j => nI (px2 j)) (fun j => nI (cd2 j)) (fun j => nI (K2 j)) (nI n) (nI lim) kc (mc_oI op) (nI mk) (nI U) H wd (fun j => nI (W j)) (fun j => nI (S j)) (fun j => nI (P j)) (fun j => nI (R j)) (fun j => nI (O j)) (fun j => nI (px j)) (fun j => nI (cd j)) (fun j => nI (K j)) f 0 1) :
    ∀ (d r : Nat) (lo hi : Int64) (g : Nat), r + d = 32 → pv_IM st sz pn l lo hi → ((g = 1 ∧ r ≤ pv_cnt st sz lo hi) ∨ (g = 0 ∧ ∀ t, t < 30 → 0 < sz t → pv_m lo hi ((st t - 1000) / 2) → ∀ k, k < pc t → pv_cl ce sr st sz lo hi t k)) →
      wL_law_907 post Ln xs J (nI n) (nI mk) x6 x7 x8 x14 pins kcn ksn (nI n) (nI lim) kc2 (mc_oI op2) (nI mk) (nI U2) H w2 (fun j => nI (W2 j)) (fun j => nI (S2 j)) (fun j => nI (P j)) (fun j => nI (R j)) (fun j => nI (O2 j)) (fun j => nI (px2 j)) (fun j => nI (cd2 j)) (fun j => nI (K2 j)) (nI n) (nI lim) kc (mc_oI op) (nI mk) (nI U) H wd (fun j => nI (W j)) (fun j => nI (S j)) (fun j => nI (P j)) (fun j => nI (R j)) (fun j => nI (O j)) (fun j => nI (px j)) (fun j => nI (cd j)) (fun j => nI (K j)) (d + 1) lo hi (nI g) (nI r) := by
  have hCC := hC0
  obtain ⟨hG, hG2, hPN, hlg, hpn, hcl, hsrc, hpin⟩ := hC0
  obtain ⟨hS, hD, hF, hX, hXW, hXZ, hC, hP0, hO, hT, hU1, hU2, hL, hop2, hmk⟩ := hG
  obtain ⟨hSx, hDx, hFx, hXx, hXWx, hXZx, hCx, _, hOx, hTx, hU1x, hU2x, _, hop2x, _⟩ := hG2
  have hz1 : ∀ s, mc_in l s → mc_kz l sz 30 s = sz s := fun s hi => mc_if_f (fun c => c.2 hi)
  have hz0 : ∀ s, s < 30 → ¬ mc_in l s → mc_kz l sz 30 s = 0 := fun s hs hi => mc_if_t ⟨hs, hi⟩
  have hend : ∀ lo hi, pv_IM st sz pn l lo hi → (∀ t, t < 30 → 0 < sz t → pv_m lo hi ((st t - 1000) / 2) → ∀ k, k < pc t → pv_cl ce sr st sz lo hi t k) → ∀ t, t < 30 → 0 < sz t → (pv_m lo hi ((st t - 1000) / 2) ↔ mc_in l t) := by
    intro lo hi hM hc t ht hz
    have hb1 := (hS t ht).1
    constructor
    · intro hm
      obtain ⟨s, a1, a2, a3, a4⟩ := hM.1 _ (by omega) hm
      rw [← po_half hS hD a1 ht a2 hz a4]
      exact a3
    · have key : ∀ m i, i < m → i < l.2 → pv_m lo hi ((st (l.1 i) - 1000) / 2) := by
        intro m
        induction m with
        | zero => intro i hi; exact absurd hi (Nat.not_lt_zero i)
        | succ m ihm =>
          intro i him hil
          have hli := hlg.1 i hil
          by_cases c : i < m0
          · exact hM.2 _ hli.1 hli.2 ((hpn _ hli.1 hli.2).mpr ⟨i, c, hil, rfl⟩)
          · obtain ⟨j, k, a1, a2, a3⟩ := hsrc i (by omega) hil
            have hlj := hlg.1 j (by omega)
            exact hc _ hlj.1 hlj.2 (ihm j (by omega) (by omega)) k a2 _ hli.1 hli.2 a3
      rintro ⟨i, i1, i2⟩
      rw [← i2]
      exact key (i + 1) i (by omega) i1
  intro d
  induction d with
  | zero =>
    intro r lo hi g hr hM hg
    rcases hg with ⟨e, hcn⟩ | ⟨e, hcn⟩
    · have := pv_cnt_le st sz lo hi
      omega
    · rw [e]
      exact br_t rfl (h lo hi (hend lo hi hM hcn))
  | succ d ih =>
    intro r lo hi g hr hM hg
    rcases hg with ⟨e, hcn⟩ | ⟨e, hcn⟩
    · rw [e]
      refine br_f (by decide) (br_f (nI_ge (b := 32) (by omega) (by omega)) ⟨mk + 1, ?_⟩)
      refine pl_925 (lo0 := lo) (hi0 := hi) hCC (fun lo' hi' g' hR' hc' => ih (r + 1) lo' hi' g' (by omega) hR'.1 ?_) mk 1 lo hi 0 (by omega) (by omega) ⟨hM, Or.inl ⟨rfl, rfl, rfl⟩⟩ (fun _ t a1 a2 a3 => ?_)
      · rcases hR'.2 with ⟨y, _, _⟩ | ⟨y1, y2⟩
        · exact Or.inr ⟨y, hc' y⟩
        · exact Or.inl ⟨y1, by omega⟩
      · have := (hS t a1).2.2 a2
        omega
    · rw [e]
      exact br_t rfl (h lo hi (hend lo hi hM hcn))
end
