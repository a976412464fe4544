/-! the law at a collection: the roots, the pinned objects -/
def pv_C (n mk lim op op2 U U2 : Nat) (H ce wd w2 : Nat → Int32) (W S P R O sr st sz pc pn st2 S2 W2 O2 : Nat → Nat) (l : (Nat → Nat) × Nat) (m0 : Nat) : Prop :=
  mc_G mk lim op sr st sz pc ce wd S P R W O U ∧ mc_G mk lim op2 sr st2 (mc_kz l sz 30) pc ce w2 S2 P R W2 O2 U2 ∧ mc_PN n H sr st sz W pn ∧ mc_LG sz l ∧
  (∀ s, s < 30 → 0 < sz s → (pn ((st s - 1000) / 8) = 1 ↔ ∃ i, i < m0 ∧ i < l.2 ∧ l.1 i = s)) ∧
  (∀ s k t, mc_in l s → k < pc s → t < 30 → 0 < sz t → ce (3 * s + k) = nI (sr t) → mc_in l t) ∧
  (∀ i, m0 ≤ i → i < l.2 → ∃ j k, j < i ∧ k < pc (l.1 j) ∧ ce (3 * l.1 j + k) = nI (sr (l.1 i))) ∧
  (∀ s, s < 30 → 0 < sz s → mc_in l s → pn ((st s - 1000) / 8) = 1 → st2 s = st s)
section
variable {n lim op mk U op2 U2 m0 : Nat} {kc kc2 : Int32} {H wd ce w2 : Nat → Int32} {W S P R O px cd K sr st sz pc pn st2 S2 W2 O2 px2 cd2 K2 : Nat → Nat} {l : (Nat → Nat) × Nat}
variable {post : Int32 → Prop} {Ln : Nat} {xs : Nat → Int32} {J : Int32 → Int32 → Int32 → Int32 → Int32 → Int32 → Int32 → Int32 → Int32 → Int32 → (Nat → Int32) → (Nat → Int32) → (Nat → Int32) → (Nat → Int32) → (Nat → Int32) → (Nat → Int32) → (Nat → Int32) → (Nat → Int32) → (Nat → Int32) → (Nat → Int32) → Int32 → Int32 → Int32 → Int32 → Int32 → Int32 → (Nat → Int32) → (Nat → Int32) → (Nat → Int32) → (Nat → Int32) → (Nat → Int32) → (Nat → Int32) → (Nat → Int32) → (Nat → Int32) → (Nat → Int32) → (Nat → Int32) → Prop} {x5 x6 x7 x8 x14 : Int32} {kcn ksn : Nat} {pins : Int64}
theorem pl_718 (hn8 : n ≤ 8) (hC0 : pv_C n mk lim op op2 U U2 H ce wd w2 W S P R O sr st sz pc pn st2 S2 W2 O2 l m0)
    (h : ∀ pins, (∀ p, p < 32 → (pv_b pins p ↔ pn p = 1)) → ∃ f, wL_law_813 post Ln xs J (nI n) x5 x6 x7 x8 x14 pins kcn ksn (nI n) (nI lim) kc2 (mc_oI op2) (nI mk) (nI U2) H w2 (fun j => nI (W2 j)) (fun j => nI (S2 j)) (fun j => nI (P j)) (fun j => nI (R j)) (fun j => nI (O2 j)) (fun j => nI (px2 j)) (fun j => nI (cd2 j)) (fun j => nI (K2 j)) (nI n) (nI lim) kc (mc_oI op) (nI mk) (nI U) H wd (fun j => nI (W j)) (fun j => nI (S j)) (fun j => nI (P j)) (fun j => nI (R j)) (fun j => nI (O j)) (fun j => nI (px j)) (fun j => nI (cd j)) (fun j => nI (K j)) f 0 0 1) :
    ∀ (d g : Nat) (pins : Int64), g + d = n → (∀ p, p < 32 → (pv_b pins p ↔ ∃ r s, r < g ∧ mc_At sr st sz W (H r) s ∧ (st s - 1000) / 8 = p)) →
      wL_law_718 post Ln xs J (nI n) x5 x6 x7 x8 x14 0 0 kcn ksn (nI n) (nI lim) kc2 (mc_oI op2) (nI mk) (nI U2) H w2 (fun j => nI (W2 j)) (fun j => nI (S2 j)) (fun j => nI (P j)) (fun j => nI (R j)) (fun j => nI (O2 j)) (fun j => nI (px2 j)) (fun j => nI (cd2 j)) (fun j => nI (K2 j)) (nI n) (nI lim) kc (mc_oI op) (nI mk) (nI U) H wd (fun j => nI (W j)) (fun j => nI (S j)) (fun j => nI (P j)) (fun j => nI (R j)) (fun j => nI (O j)) (fun j => nI (px j)) (fun j => nI (cd j)) (fun j => nI (K j)) (d + 1) pins (nI g) := by
  have hCC := hC0
  obtain ⟨hG, hG2, hPN, hlg, hpn, hcl, hsrc, hpin⟩ := hC0
  obtain ⟨hS, hD, hF, hX, hXW, hXZ, hC, hP0, hO, hT, hU1, hU2, hL, hop2, hmk⟩ := hG
  obtain ⟨hSx, hDx, hFx, hXx, hXWx, hXZx, hCx, _, hOx, hTx, hU1x, hU2x, _, hop2x, _⟩ := hG2
  have hz1 : ∀ s, mc_in l s → mc_kz l sz 30 s = sz s := fun s hi => mc_if_f (fun c => c.2 hi)
  have hz0 : ∀ s, s < 30 → ¬ mc_in l s → mc_kz l sz 30 s = 0 := fun s hs hi => mc_if_t ⟨hs, hi⟩
  have hS0 := po_S0 hS hXZ
  intro d
  induction d with
  | zero =>
    intro g pins hg hp
    have eg : g = n := by omega
    rw [eg] at hp ⊢
    exact br_t (nI_le (by omega) (by omega)) (h pins (fun p hp2 => (hp p hp2).trans (hPN.1 p hp2).2.symm))
  | succ d ih =>
    intro g pins hg hp
    refine br_f (nI_ge (by omega) (by omega)) (po_root hn8 (by omega) (po_root hn8 (by omega) (br_t rfl ?_)))
    rcases mc_own hS hX hXW (H g) with ⟨s, hA⟩ | hN
    · have hs := hA.1
      have hz := hA.2.1
      have hb := (hS s hs).2.2 hz
      have hb1 := (hS s hs).1
      have epg : pn ((st s - 1000) / 8) = 1 := (hPN.1 _ (by omega)).2.mpr ⟨g, s, by omega, hA, rfl⟩
      have hin : mc_in l s := by
        obtain ⟨i, i1, i2, i3⟩ := (hpn s hs hz).mp epg
        exact ⟨i, i2, i3⟩
      have est := hpin s hs hz hin epg
      have hAx : mc_At sr st2 (mc_kz l sz 30) W2 (H g) s := by
        obtain ⟨_, _, i, hi, e, a1, a2, _⟩ := hA
        rw [e]
        refine mc_At_i hXx hSx hs ?_ ?_
        · rw [est]; exact a1
        · rw [est, hz1 s hin]; exact a2
      refine po_base_at hS hmk hX hA (br_f (nI_ne0 (by omega) (by omega)) (po_base_at hSx hmk hXx hAx (br_t (by rw [est]) (po_ser_at hAx (po_ser_at hA (br_t rfl (pv_page (by omega) (by omega) (nm_e (nm_r (nI_1 g) (ih (g + 1) _ (by omega) (fun p hp2 => ?_)))))))))))
      rw [pv_bs (by omega) (by omega), hp p hp2]
      constructor
      · rintro (⟨r, t, h1, h2, h3⟩ | h1)
        · exact ⟨r, t, by omega, h2, h3⟩
        · exact ⟨g, s, by omega, hA, h1.symm⟩
      · rintro ⟨r, t, h1, h2, h3⟩
        by_cases e : r = g
        · rw [e] at h2
          have := mc_At_u hD h2 hA
          rw [this] at h3
          exact Or.inr h3.symm
        · exact Or.inl ⟨r, t, by omega, h2, h3⟩
    · refine po_base_no hS0 hN (br_t rfl (nm_r (nI_1 g) (ih (g + 1) _ (by omega) (fun p hp2 => ?_))))
      rw [hp p hp2]
      constructor
      · rintro ⟨r, t, h1, h2, h3⟩
        exact ⟨r, t, by omega, h2, h3⟩
      · rintro ⟨r, t, h1, h2, h3⟩
        by_cases e : r = g
        · rw [e] at h2
          exact absurd hN (mc_At_No hS h2)
        · exact ⟨r, t, by omega, h2, h3⟩
theorem pl_813 (hC0 : pv_C n mk lim op op2 U U2 H ce wd w2 W S P R O sr st sz pc pn st2 S2 W2 O2 l m0) (hpins : ∀ p, p < 32 → (pv_b pins p ↔ pn p = 1))
    (h : ∀ lo hi, (∀ q, q < 128 → (pv_m lo hi q ↔ ∃ t, t < 30 ∧ 0 < sz t ∧ pn ((st t - 1000) / 8) = 1 ∧ (st t - 1000) / 2 = q)) → ∃ f, wL_law_907 post Ln xs J (nI n) (nI mk) x6 x7 x8 x14 pins kcn ksn (nI n) (nI lim) kc2 (mc_oI op2) (nI mk) (nI U2) H w2 (fun j => nI (W2 j)) (fun j => nI (S2 j)) (fun j => nI (P j)) (fun j => nI (R j)) (fun j => nI (O2 j)) (fun j => nI (px2 j)) (fun j => nI (cd2 j)) (fun j => nI (K2 j)) (nI n) (nI lim) kc (mc_oI op) (nI mk) (nI U) H wd (fun j => nI (W j)) (fun j => nI (S j)) (fun j => nI (P j)) (fun j => nI (R j)) (fun j => nI (O j)) (fun j => nI (px j)) (fun j => nI (cd j)) (fun j => nI (K j)) f lo hi 1 0) :
    ∀ (d v : Nat) (lo hi : Int64), v + d = mk + 1 → 1 ≤ v → (∀ q, q < 128 → (pv_m lo hi q ↔ ∃ t, t < 30 ∧ 0 < sz t ∧ sr t < v ∧ pn ((st t - 1000) / 8) = 1 ∧ (st t - 1000) / 2 = q)) →
      wL_law_813 post Ln xs J (nI n) (nI mk) x6 x7 x8 x14 pins kcn ksn (nI n) (nI lim) kc2 (mc_oI op2) (nI mk) (nI U2) H w2 (fun j => nI (W2 j)) (fun j => nI (S2 j)) (fun j => nI (P j)) (fun j => nI (R j)) (fun j => nI (O2 j)) (fun j => nI (px2 j)) (fun j => nI (cd2 j)) (fun j => nI (K2 j)) (nI n) (nI lim) kc (mc_oI op) (nI mk) (nI U) H wd (fun j => nI (W j)) (fun j => nI (S j)) (fun j => nI (P j)) (fun j => nI (R j)) (fun j => nI (O j)) (fun j => nI (px j)) (fun j => nI (cd j)) (fun j => nI (K j)) (d + 1) lo hi (nI v) := by
  have hCC := hC0
  obtain ⟨hG, hG2, hPN, hlg, hpn, hcl, hsrc, hpin⟩ := hC0
  obtain ⟨hS, hD, hF, hX, hXW, hXZ, hC, hP0, hO, hT, hU1, hU2, hL, hop2, hmk⟩ := hG
  obtain ⟨hSx, hDx, hFx, hXx, hXWx, hXZx, hCx, _, hOx, hTx, hU1x, hU2x, _, hop2x, _⟩ := hG2
  have hz1 : ∀ s, mc_in l s → mc_kz l sz 30 s = sz s := fun s hi => mc_if_f (fun c => c.2 hi)
  have hz0 : ∀ s, s < 30 → ¬ mc_in l s → mc_kz l sz 30 s = 0 := fun s hs hi => mc_if_t ⟨hs, hi⟩
  intro d
  induction d with
  | zero =>
    intro v lo hi hv h1 hm
    refine br_t (nI_lt (by omega) (by omega)) (h lo hi (fun q hq => ?_))
    rw [hm q hq]
    constructor
    · rintro ⟨t, a1, a2, a3, a4, a5⟩
      exact ⟨t, a1, a2, a4, a5⟩
    · rintro ⟨t, a1, a2, a4, a5⟩
      have := (hS t a1).2.2 a2
      exact ⟨t, a1, a2, by omega, a4, a5⟩
  | succ d ih =>
    intro v lo hi hv h1 hm
    refine br_f (nI_nlt (by omega) (by omega)) (po_adr h1 (by omega) ?_)
    rcases po_Sv hX hXZ v with ⟨z, hno⟩ | ⟨s, hs, hz, e, z⟩
    · rw [z]
      refine br_t rfl (nm_r (nI_1 v) (ih (v + 1) lo hi (by omega) (by omega) (fun q hq => ?_)))
      rw [hm q hq]
      constructor
      · rintro ⟨t, a1, a2, a3, a4, a5⟩
        exact ⟨t, a1, a2, by omega, a4, a5⟩
      · rintro ⟨t, a1, a2, a3, a4, a5⟩
        have hb := (hS t a1).2.2 a2
        have hn : sr t ≠ v := fun e => by
          have := hno t a1 a2 e
          omega
        exact ⟨t, a1, a2, by omega, a4, a5⟩
    · have hb := (hS s hs).2.2 hz
      have hb1 := (hS s hs).1
      rw [z]
      refine br_f (nI_ne0 (by omega) (by omega)) (pv_page (by omega) (by omega) ?_)
      have huniq : ∀ t, t < 30 → 0 < sz t → sr t = v → t = s := by
        intro t a1 a2 a3
        by_cases et : t = s
        · exact et
        · exact absurd (a3.trans e) (hD t s a1 hs et a2 hz).1
      by_cases c : pn ((st s - 1000) / 8) = 1
      · have hset : ∀ lo' hi', (∀ q, q < 128 → (pv_m lo' hi' q ↔ pv_m lo hi q ∨ q = (st s - 1000) / 2)) → wL_law_813 post Ln xs J (nI n) (nI mk) x6 x7 x8 x14 pins kcn ksn (nI n) (nI lim) kc2 (mc_oI op2) (nI mk) (nI U2) H w2 (fun j => nI (W2 j)) (fun j => nI (S2 j)) (fun j => nI (P j)) (fun j => nI (R j)) (fun j => nI (O2 j)) (fun j => nI (px2 j)) (fun j => nI (cd2 j)) (fun j => nI (K2 j)) (nI n) (nI lim) kc (mc_oI op) (nI mk) (nI U) H wd (fun j => nI (W j)) (fun j => nI (S j)) (fun j => nI (P j)) (fun j => nI (R j)) (fun j => nI (O j)) (fun j => nI (px j)) (fun j => nI (cd j)) (fun j => nI (K j)) (d + 1) lo' hi' (nI (v + 1)) := by
          intro lo' hi' hs'
          refine ih (v + 1) lo' hi' (by omega) (by omega) (fun q hq => ?_)
          rw [hs' q hq, hm q hq]
          constructor
          · rintro (⟨t, a1, a2, a3, a4, a5⟩ | a1)
            · exact ⟨t, a1, a2, by omega, a4, a5⟩
            · exact ⟨s, hs, hz, by omega, c, a1.symm⟩
          · rintro ⟨t, a1, a2, a3, a4, a5⟩
            by_cases et : sr t = v
            · have := huniq t a1 a2 et
              rw [this] at a5
              exact Or.inr a5.symm
            · exact Or.inl ⟨t, a1, a2, by omega, a4, a5⟩
        refine br_f (fun y => (pv_bt (by omega)).mp y ((hpins _ (by omega)).mpr c)) (pv_half (by omega) (by omega) ?_)
        by_cases c2 : 64 ≤ (st s - 1000) / 2
        · exact br_t (nI_le (a := 64) c2 (by omega)) (pv_half (by omega) (by omega) (nm_e (nm_r (nI_1 v) (hset _ _ (fun q hq => pv_mhi c2 (by omega) hq)))))
        · exact br_f (nI_ge (b := 64) (by omega) (by omega)) (pv_half (by omega) (by omega) (nm_e (nm_r (nI_1 v) (hset _ _ (fun q hq => pv_mlo (by omega) hq)))))
      · refine br_t ((pv_bt (by omega)).mpr (fun y => c ((hpins _ (by omega)).mp y))) (nm_r (nI_1 v) (ih (v + 1) lo hi (by omega) (by omega) (fun q hq => ?_)))
        rw [hm q hq]
        constructor
        · rintro ⟨t, a1, a2, a3, a4, a5⟩
          exact ⟨t, a1, a2, by omega, a4, a5⟩
        · rintro ⟨t, a1, a2, a3, a4, a5⟩
          have hn : sr t ≠ v := fun et => by
            have := huniq t a1 a2 et
            rw [this] at a4
            exact c a4
          exact ⟨t, a1, a2, by omega, a4, a5⟩
end
