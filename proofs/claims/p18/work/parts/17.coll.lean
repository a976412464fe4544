/-! collect in the component: one answer, one state, and what they say of the picture -/
section
variable {n lim op mk U : Nat} {kc ld oo : Int32} {H wd ce : Nat → Int32} {W S P R O px cd K sr st sz pc L py fb : Nat → Nat} {l : (Nat → Nat) × Nat} {tg : Nat → Nat → Nat}
theorem mc_ri_src (s : Nat) : ∀ k i, l.2 ≤ i → i < (mc_ri tg s l k).2 → ∃ k', k' < k ∧ tg s k' = (mc_ri tg s l k).1 i := by
  intro k
  induction k with
  | zero => intro i h1 h2; exact absurd h2 (Nat.not_lt.mpr h1)
  | succ k ih =>
    intro i h1 h2
    rw [mc_ri_s] at h2 ⊢
    by_cases c : tg s k < 30 ∧ ¬ mc_in (mc_ri tg s l k) (tg s k)
    · rw [mc_ad_new c.1 c.2] at h2 ⊢
      have h2 : i < (mc_ri tg s l k).2 + 1 := h2
      show ∃ k', k' < k + 1 ∧ tg s k' = mc_up (mc_ri tg s l k).1 (mc_ri tg s l k).2 (tg s k) i
      by_cases e : i = (mc_ri tg s l k).2
      · rw [e, mc_us]
        exact ⟨k, by omega, rfl⟩
      · rw [mc_un e]
        obtain ⟨k', h3, h4⟩ := ih i h1 (by omega)
        exact ⟨k', by omega, h4⟩
    · rw [mc_ad_old c] at h2 ⊢
      obtain ⟨k', h3, h4⟩ := ih i h1 h2
      exact ⟨k', by omega, h4⟩
theorem mc_ro_src : ∀ a i, l.2 ≤ i → i < (mc_ro tg pc l a).2 → ∃ j k, j < i ∧ k < pc ((mc_ro tg pc l a).1 j) ∧ tg ((mc_ro tg pc l a).1 j) k = (mc_ro tg pc l a).1 i := by
  intro a
  induction a with
  | zero => intro i h1 h2; exact absurd h2 (Nat.not_lt.mpr h1)
  | succ a ih =>
    intro i h1 h2
    by_cases c : a < (mc_ro tg pc l a).2
    · have hp := mc_ri_pre tg ((mc_ro tg pc l a).1 a) (mc_ro tg pc l a) (pc ((mc_ro tg pc l a).1 a))
      rw [mc_ro_t c] at h2 ⊢
      by_cases e : i < (mc_ro tg pc l a).2
      · obtain ⟨j, k, h3, h4, h5⟩ := ih i h1 e
        refine ⟨j, k, h3, ?_, ?_⟩
        · rw [hp.2 j (by omega)]; exact h4
        · rw [hp.2 j (by omega), hp.2 i e]; exact h5
      · obtain ⟨k', h3, h4⟩ := mc_ri_src (tg := tg) (l := mc_ro tg pc l a) _ _ i (by omega) h2
        refine ⟨a, k', by omega, ?_, ?_⟩
        · rw [hp.2 a c]; exact h3
        · rw [hp.2 a c]; exact h4
    · rw [mc_ro_f c] at h2 ⊢
      exact ih i h1 h2
theorem px_collect (hn8 : n ≤ 8) (hG : mc_G mk lim op sr st sz pc ce wd S P R W O U) :
    ∃ (pn : Nat → Nat) (l : (Nat → Nat) × Nat) (m0 op' U2 : Nat) (st' S2 W2 O2 cd' K' : Nat → Nat) (w2 : Nat → Int32),
      mc_PN n H sr st sz W pn ∧ mc_LG sz l ∧ (∀ s, s < 30 → 0 < sz s → (pn ((st s - 1000) / 8) = 1 ↔ ∃ i, i < m0 ∧ i < l.2 ∧ l.1 i = s)) ∧
      (∀ s k t, mc_in l s → k < pc s → t < 30 → 0 < sz t → ce (3 * s + k) = nI (sr t) → mc_in l t) ∧
      (∀ i, m0 ≤ i → i < l.2 → ∃ j k, j < i ∧ k < pc (l.1 j) ∧ ce (3 * l.1 j + k) = nI (sr (l.1 i))) ∧
      (∀ s, s < 30 → 0 < sz s → mc_in l s → pn ((st s - 1000) / 8) = 1 → st' s = st s) ∧
      mc_G mk lim op' sr st' (mc_kz l sz 30) pc ce w2 S2 P R W2 O2 U2 ∧
      ∀ post : Int32 → St2 → Prop, post (nI (mc_sm (mc_kc l sz) 30)) ((nI n), (nI lim), (nI l.2), (mc_oI op'), (nI mk), (nI U2), H, w2, (fun j => nI (W2 j)), (fun j => nI (S2 j)), (fun j => nI (P j)), (fun j => nI (R j)), (fun j => nI (O2 j)), (fun j => nI (pn j)), (fun j => nI (cd' j)), (fun j => nI (K' j))) → wpX_collect post ((nI n), (nI lim), kc, (mc_oI op), (nI mk), (nI U), H, wd, (fun j => nI (W j)), (fun j => nI (S j)), (fun j => nI (P j)), (fun j => nI (R j)), (fun j => nI (O j)), (fun j => nI (px j)), (fun j => nI (cd j)), (fun j => nI (K j))) := by
  have hG0 := hG
  obtain ⟨hS, hD, hF, hX, hXW, hXZ, hC, hP0, hO, hT, hU1, hU2, hL, hop2, hmk⟩ := hG
  subst hU1
  have hM0 : mc_Mv sr st sz W wd st S W O wd 32 := mc_Mv_0 hS hD hX hXW hXZ hO
  have hU60 : mc_sm sz 30 ≤ 60 := by omega
  have hO1 : ∀ p, p < 32 → O p < 1000 := fun p hp => by
    have := hO p hp
    have := mc_wo_le st sz p
    omega
  obtain ⟨pn, hPN, k1⟩ := mx_pin (n := n) (lim := lim) (op := op) (mk := mk) (U := mc_sm sz 30) (kc := kc) (H := H) (wd := wd) (W := W) (S := S) (P := P) (R := R) (O := O) (px := px) (cd := cd) (K := K) hn8 hS hmk hD hX hXW
  have hpn2 : ∀ p, p < 32 → pn p < 2 := fun p hp => (hPN.1 p hp).1
  obtain ⟨K1, hK1, k3⟩ := mx_kp (n := n) (lim := lim) (op := op) (mk := mk) (U := mc_sm sz 30) (kc := kc) (H := H) (wd := wd) (W := W) (S := S) (P := P) (R := R) (O := O) (px := pn) (cd := mc_cdn O pn cd 32) (K := K) hS hmk hD hX hXW hpn2
  have hlg0 := mc_pl_LG (pn := pn) (fd := fun a => mc_fd st sz a 30) (mc_fdz st sz) 256
  obtain ⟨K2, hK2, k4⟩ := mx_kr (n := n) (lim := lim) (op := op) (mk := mk) (U := mc_sm sz 30) (H := H) (wd := wd) (W := W) (S := S) (P := P) (R := R) (O := O) (px := pn) (cd := mc_cdn O pn cd 32) (K := K1) (ce := ce) hS hmk hD hX hC hlg0 hK1
  have hlg := mc_ro_LG (tg := mc_tg st sz wd) (pc := pc) hlg0 (mc_tgz st sz wd) 30
  have hpre := mc_ro_pre (mc_tg st sz wd) pc (mc_pl pn (fun a => mc_fd st sz a 30) 256) 30
  have hle := mc_LG_le hlg
  have hpn := mc_hpn hS hD rfl hpre
  have hcl := mc_hcl hS hD hmk hC hlg (fun i hi k hk ht => mc_ro_closed 30 i (by omega) hi k hk ht)
  have hcd : ∀ p, p < 32 → mc_cdn O pn cd 32 p < 2 ∧ (mc_cdn O pn cd 32 p = 0 ↔ (mc_wo st sz p = 0 ∨ pn p = 1)) := fun p hp => by
    have h1 := mc_cdn_32 (O := O) (px := pn) (cd := cd) hp
    have h2 := hpn2 p hp
    refine ⟨h1.1, ?_⟩
    rw [h1.2, hO p hp]
    constructor
    · rintro (z | z)
      · exact Or.inl z
      · exact Or.inr (by omega)
    · rintro (z | z)
      · exact Or.inl z
      · exact Or.inr (by omega)
  obtain ⟨st', S', W', O', words', op', hM, hI, k5⟩ := mx_mk (n := n) (lim := lim) (op := op) (mk := mk) (U := mc_sm sz 30) (H := H) (px := pn) hS hmk hD hX hT hU60 hlg hM0 hK2 hpn hcd
  obtain ⟨w2, hR, k6⟩ := mx_rd (n := n) (lim := lim) (op := op') (mk := mk) (U := mc_sm sz 30) (H := H) (O := O') (px := pn) (cd := mc_cdn O pn cd 32) (K := K2) (ce := ce) hS hmk hX hlg hM hC hK2
  obtain ⟨S2, W2, O2, U2, dc, hES, hEW, hEO, k7⟩ := mx_ec (n := n) (lim := lim) (op := op') (kc := nI (mc_ro (mc_tg st sz wd) pc (mc_pl pn (fun a => mc_fd st sz a 30) 256) 30).2) (H := H) (wd := w2) (px := pn) (K := K2) hS hmk hD hX hXW hlg hM hI hpn hcd
  refine ⟨pn, mc_ro (mc_tg st sz wd) pc (mc_pl pn (fun a => mc_fd st sz a 30) 256) 30, (mc_pl pn (fun a => mc_fd st sz a 30) 256).2, op', U2, st', S2, W2, O2, mc_cdn O pn cd 32, K2, w2, hPN, hlg, hpn, hcl, ?_, ?_, ?_, ?_⟩
  · intro i h1 h2
    obtain ⟨j, k, h3, h4, h5⟩ := mc_ro_src (tg := mc_tg st sz wd) (pc := pc) 30 i h1 h2
    have hj := hlg.1 j (by omega)
    have hi := hlg.1 i h2
    have hb := (hS _ hj.1).2.2 hj.2
    refine ⟨j, k, h3, h4, ?_⟩
    have q : mc_LC sr st sz pc _ k _ _ := hC _ hj.1 hj.2 k (by omega)
    rcases q.1 h4 with ⟨q1, q2⟩ | ⟨t, ht, hzt, q1, q2⟩
    · have := mc_tg_0 (words := wd) hS q2
      omega
    · have := mc_tg_t (words := wd) hS hD ht hzt q2
      rw [this] at h5
      rw [← h5]
      exact q1
  · intro s hs hz hi c
    obtain ⟨i, h1, h2, h3⟩ := (hpn s hs hz).mp c
    rw [← h3]
    exact mc_MI_un hlg hI h2 (Or.inl h1)
  · have eU : U2 = mc_sm (mc_kz (mc_ro (mc_tg st sz wd) pc (mc_pl pn (fun a => mc_fd st sz a 30) 256) 30) sz 30) 30 := by
      rw [hES.2.2.1, mc_ez_end hS]
    rw [eU]
    refine mc_fin hG0 hM hlg hI hpn (Nat.le_trans hPN.2 hn8) hcl (fun s hs hi => mc_if_f (fun c => c.2 hi)) (fun s hs hi => mc_if_t ⟨hs, hi⟩) (mc_RD_f hlg hR) (fun s hs hi hz => ?_) (fun s hs hi hz => ?_) hES.2.1
      (fun i hi a b => (hEW i hi).1 hi a b) (fun i hi z => (hEW i hi).2 (Or.inr z)) (fun p hp a b => (hEO p hp).1 hp a b) (fun p hp z => (hEO p hp).2 (Or.inr z))
    · rw [hES.1 s hs hz]
      exact mc_if_f (fun c => c.1 hi)
    · rw [hES.1 s hs hz]
      have := (hS s hs).1
      exact mc_if_t ⟨hi, by omega⟩
  · intro post h
    rw [← mc_ec_end (st := st) hS, ← hES.2.2.2] at h
    unfold wpX_collect
    exact k1 _ (mx_cond hO1 hpn2 (k3 _ (k4 _ (k5 _ (k6 _ (k7 _ h))))))
end
