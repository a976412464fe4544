/-! collect in the component: reach, and the moving -/
section
variable {n lim op mk U : Nat} {kc ld oo : Int32} {H wd ce : Nat → Int32} {W S P R O px cd K sr st sz pc L py fb : Nat → Nat} {l : (Nat → Nat) × Nat}
theorem mx_kr_33 {a s : Nat} (hS : mc_Slot mk sr st sz pc) (hmk : mk ≤ 4095) (hD : mc_Dis sr st sz) (hX : mc_XS sr st sz pc S P R W)
    (hC : mc_CG st sz (fun s k w => mc_LC sr st sz pc s k (ce (3 * s + k)) w) wd) (hl : mc_LG sz l) (hs : s < 30) (hz : 0 < sz s) :
    ∀ (d k : Nat) (K1 : Nat → Nat), k + d = pc s → (∀ i, i < (mc_ri (mc_tg st sz wd) s l k).2 → K1 i = sr ((mc_ri (mc_tg st sz wd) s l k).1 i)) →
      ∃ K' : Nat → Nat, (∀ i, i < (mc_ri (mc_tg st sz wd) s l (pc s)).2 → K' i = sr ((mc_ri (mc_tg st sz wd) s l (pc s)).1 i)) ∧ ∀ (post : St2 → Prop) (J : Int32 → Int32 → Int32 → Int32 → Int32 → Int32 → Int32 → (Nat → Int32) → (Nat → Int32) → (Nat → Int32) → (Nat → Int32) → (Nat → Int32) → (Nat → Int32) → (Nat → Int32) → (Nat → Int32) → (Nat → Int32) → (Nat → Int32) → Prop), J (nI (a + 1)) (nI n) (nI lim) (nI (mc_ri (mc_tg st sz wd) s l (pc s)).2) (mc_oI op) (nI mk) (nI U) H wd (fun j => nI (W j)) (fun j => nI (S j)) (fun j => nI (P j)) (fun j => nI (R j)) (fun j => nI (O j)) (fun j => nI (px j)) (fun j => nI (cd j)) (fun j => nI (K' j)) →
      wX_keepReachableObjects_33 post J (nI a) (nI (sr s)) (nI (pc s)) (d + 1) (nI k) (nI n) (nI lim) (nI (mc_ri (mc_tg st sz wd) s l k).2) (mc_oI op) (nI mk) (nI U) H wd (fun j => nI (W j)) (fun j => nI (S j)) (fun j => nI (P j)) (fun j => nI (R j)) (fun j => nI (O j)) (fun j => nI (px j)) (fun j => nI (cd j)) (fun j => nI (K1 j)) := by
  have hr : ∀ s, s < 30 → 0 < sz s → 1 ≤ sr s ∧ sr s ≤ 4095 := fun s hs hz => by
    have := (hS s hs).2.2 hz
    omega
  have hb := (hS s hs).2.2 hz
  have hb1 := (hS s hs).1
  have hb4 := (hS s hs).2.1
  intro d
  induction d with
  | zero =>
    intro k K1 hk hK
    have ek : k = pc s := by omega
    rw [ek] at hK ⊢
    exact ⟨K1, hK, fun post J h => br_t (nI_le (by omega) (by omega)) (nm_r (nI_1 a) h)⟩
  | succ d ih =>
    intro k K1 hk hK
    have hlg := mc_ri_LG (tg := mc_tg st sz wd) hl (mc_tgz st sz wd) s k
    have nx := fun K2 => ih (k + 1) K2 (by omega)
    rw [mc_ri_s] at nx
    have q : mc_LC sr st sz pc s k (ce (3 * s + k)) (wd (st s - 1000 + 1 + k)) := hC s hs hz k (by omega)
    rcases q.1 (by omega) with ⟨q1, q2⟩ | ⟨t, ht, hzt, q1, q2⟩
    · have ht := mc_tg_0 (words := wd) (s := s) (k := k) hS q2
      rw [ht, mc_ad_30] at nx
      obtain ⟨K', h1, h2⟩ := nx K1 hK
      refine ⟨K', h1, fun post J h => br_f (nI_ge (by omega) (by omega)) (mx_fi (by omega) (hX s hs hz).1 (by omega) ⟨vp_in_nI (by omega) (by omega), ?_⟩)⟩
      rw [nI_clamp (by omega), q2]
      exact mx_own_no (mc_No_0 (st := st) (sz := sz) (W := W) hS) (br_t rfl (nm_r (nI_1 k) (h2 post J h)))
    · have htg := mc_tg_t (words := wd) (s := s) (k := k) hS hD ht hzt q2
      rw [htg] at nx
      obtain ⟨K2, hK2, hk2⟩ := mx_keep_s (n := n) (lim := lim) (op := op) (mk := mk) (U := U) (H := H) (wd := wd) (W := W) (S := S) (P := P) (R := R) (O := O) (px := px) (cd := cd) hlg hr hD hK ht hzt
      obtain ⟨K', h1, h2⟩ := nx K2 hK2
      refine ⟨K', h1, fun post J h => br_f (nI_ge (by omega) (by omega)) (mx_fi (by omega) (hX s hs hz).1 (by omega) ⟨vp_in_nI (by omega) (by omega), ?_⟩)⟩
      rw [nI_clamp (by omega), q2]
      exact mx_own_at (mc_At_i hX hS ht (Nat.le_refl _) (by omega)) (hk2 _ (nm_r (nI_1 k) (h2 post J h)))
theorem mx_kr (hS : mc_Slot mk sr st sz pc) (hmk : mk ≤ 4095) (hD : mc_Dis sr st sz) (hX : mc_XS sr st sz pc S P R W)
    (hC : mc_CG st sz (fun s k w => mc_LC sr st sz pc s k (ce (3 * s + k)) w) wd) (hl : mc_LG sz l) (hK : ∀ i, i < l.2 → K i = sr (l.1 i)) :
    ∃ K' : Nat → Nat, (∀ i, i < (mc_ro (mc_tg st sz wd) pc l 30).2 → K' i = sr ((mc_ro (mc_tg st sz wd) pc l 30).1 i)) ∧ ∀ post : St2 → Prop, post ((nI n), (nI lim), (nI (mc_ro (mc_tg st sz wd) pc l 30).2), (mc_oI op), (nI mk), (nI U), H, wd, (fun j => nI (W j)), (fun j => nI (S j)), (fun j => nI (P j)), (fun j => nI (R j)), (fun j => nI (O j)), (fun j => nI (px j)), (fun j => nI (cd j)), (fun j => nI (K' j))) →
    wpX_keepReachableObjects post ((nI n), (nI lim), (nI l.2), (mc_oI op), (nI mk), (nI U), H, wd, (fun j => nI (W j)), (fun j => nI (S j)), (fun j => nI (P j)), (fun j => nI (R j)), (fun j => nI (O j)), (fun j => nI (px j)), (fun j => nI (cd j)), (fun j => nI (K j))) := by
  have key : ∀ (d a : Nat) (K1 : Nat → Nat), a + d = 30 → (∀ i, i < (mc_ro (mc_tg st sz wd) pc l a).2 → K1 i = sr ((mc_ro (mc_tg st sz wd) pc l a).1 i)) →
      ∃ K' : Nat → Nat, (∀ i, i < (mc_ro (mc_tg st sz wd) pc l 30).2 → K' i = sr ((mc_ro (mc_tg st sz wd) pc l 30).1 i)) ∧ ∀ post : St2 → Prop, post ((nI n), (nI lim), (nI (mc_ro (mc_tg st sz wd) pc l 30).2), (mc_oI op), (nI mk), (nI U), H, wd, (fun j => nI (W j)), (fun j => nI (S j)), (fun j => nI (P j)), (fun j => nI (R j)), (fun j => nI (O j)), (fun j => nI (px j)), (fun j => nI (cd j)), (fun j => nI (K' j))) →
      wX_keepReachableObjects_2 post (d + 1) (nI a) (nI n) (nI lim) (nI (mc_ro (mc_tg st sz wd) pc l a).2) (mc_oI op) (nI mk) (nI U) H wd (fun j => nI (W j)) (fun j => nI (S j)) (fun j => nI (P j)) (fun j => nI (R j)) (fun j => nI (O j)) (fun j => nI (px j)) (fun j => nI (cd j)) (fun j => nI (K1 j)) := by
    intro d
    induction d with
    | zero =>
      intro a K1 ha hK
      have ea : a = 30 := by omega
      rw [ea] at hK ⊢
      exact ⟨K1, hK, fun post h => br_t (nI_le (a := 30) (by omega) (by omega)) h⟩
    | succ d ih =>
      intro a K1 ha hK
      have hlg := mc_ro_LG (tg := mc_tg st sz wd) (pc := pc) hl (mc_tgz st sz wd) a
      have hle := mc_LG_le hlg
      by_cases c : (mc_ro (mc_tg st sz wd) pc l a).2 ≤ a
      · have e := mc_ro_stop (tg := mc_tg st sz wd) (pc := pc) (l := l) c (30 - a)
        have e2 : a + (30 - a) = 30 := by omega
        rw [e2] at e
        rw [e]
        exact ⟨K1, hK, fun post h => br_f (nI_ge (b := 30) (by omega) (by omega)) (br_t (nI_le c (by omega)) h)⟩
      · have hli := hlg.1 a (by omega)
        have hb := (hS _ hli.1).2.2 hli.2
        have nx := fun K2 => ih (a + 1) K2 (by omega)
        rw [mc_ro_t (by omega)] at nx
        obtain ⟨K2, hK2, hk2⟩ := mx_kr_33 (n := n) (lim := lim) (op := op) (mk := mk) (U := U) (H := H) (ce := ce) (O := O) (px := px) (cd := cd) (a := a) (l := mc_ro (mc_tg st sz wd) pc l a) hS hmk hD hX hC hlg hli.1 hli.2 _ 0 K1 (Nat.zero_add _) hK
        obtain ⟨K', h1, h2⟩ := nx K2 hK2
        refine ⟨K', h1, fun post h => br_f (nI_ge (b := 30) (by omega) (by omega)) (br_f (nI_ge (by omega) (by omega)) ⟨vp_in_nI (by omega) (by omega), nm_r (e' := nI (sr ((mc_ro (mc_tg st sz wd) pc l a).1 a))) ?_ ⟨vp_in_nI (by omega) (by omega), nm_r (e' := nI (pc ((mc_ro (mc_tg st sz wd) pc l a).1 a))) ?_ ⟨pc ((mc_ro (mc_tg st sz wd) pc l a).1 a) + 1, hk2 post _ (h2 post h)⟩⟩⟩)⟩
        · show nI (K1 (nI a).toNatClampNeg) = _
          rw [nI_clamp (by omega), hK a (by omega)]
        · show nI (P (nI (sr ((mc_ro (mc_tg st sz wd) pc l a).1 a))).toNatClampNeg) = _
          rw [nI_clamp (by omega), (hX _ hli.1 hli.2).2.1]
  obtain ⟨K', h1, h2⟩ := key 30 0 K (by omega) hK
  exact ⟨K', h1, fun post h => ⟨31, h2 post h⟩⟩
theorem mc_run_h {st' S' W' O' : Nat → Nat} {words' : Nat → Int32} {op' s : Nat} (hS : mc_Slot mk sr st sz pc) (hT : mc_Thin st sz op) (hU : mc_sm sz 30 ≤ 60) (hM : mc_Mv sr st sz W wd st' S' W' O' words' op')
    (hs : s < 30) (hz : 0 < sz s) (hfb : ∀ p, p < 32 → fb p < 2 ∧ (fb p ≠ 0 ↔ mc_wo st sz p = 0)) : mc_PH st' sz O' fb op' (sz s) := by
  have hM0 := hM
  obtain ⟨m1, m2, m3, m4, m5, m6, m7, m8, m9, m10, m11⟩ := hM
  have hb4 := (hS s hs).2.1
  refine ⟨fun t ht => ⟨m1 t ht, (hS t ht).2.1⟩, hU, fun p hp => ?_, fun p hp => (hfb p hp).1, fun p hp => ?_, fun h => (m8 op' h).2 (m10 h), m9, hz, by omega, fun h => ?_⟩
  · have h1 := mc_wo_le st sz p
    have h2 := mc_wo_le st' sz p
    by_cases c : mc_wo st sz p = 0
    · rw [(m8 p hp).2 c]; omega
    · rw [(m8 p hp).1 c]; omega
  · by_cases c : mc_wo st sz p = 0
    · rw [(m8 p hp).2 c]
      exact ⟨fun z => ⟨(hfb p hp).2.mpr c, z⟩, fun z => z.2⟩
    · rw [(m8 p hp).1 c]
      exact ⟨fun z => absurd z c, fun z => absurd ((hfb p hp).2.mp z.1) c⟩
  · exact mc_Mv_free hS hT hU hM0 hb4 h
theorem mc_run_s {st' S' W' O' : Nat → Nat} {words' : Nat → Int32} {op' m0 i p : Nat} (hS : mc_Slot mk sr st sz pc) (hD : mc_Dis sr st sz) (hT : mc_Thin st sz op) (hU : mc_sm sz 30 ≤ 60) (hl : mc_LG sz l)
    (hM : mc_Mv sr st sz W wd st' S' W' O' words' op') (hI : mc_MI l m0 i st st') (h0 : m0 ≤ i) (hi : i < l.2) (ep : mc_pg O' op' (mc_wo st' sz op') (sz (l.1 i)) = p) :
    p < 32 ∧ O' p + sz (l.1 i) ≤ 8 ∧ st' (l.1 i) = st (l.1 i) ∧
    (8 * p + O' p + sz (l.1 i) ≤ st (l.1 i) - 1000 ∨ st (l.1 i) - 1000 + sz (l.1 i) ≤ 8 * p + O' p) ∧
    mc_Mv sr st sz W wd (mc_up st' (l.1 i) (1000 + 8 * p + O' p)) (mc_up S' (sr (l.1 i)) (1000 + 8 * p + O' p)) (mc_rg W' (8 * p + O' p) (sz (l.1 i)) (sr (l.1 i))) (mc_up O' p (O' p + sz (l.1 i))) (mc_cp words' (8 * p + O' p) (st (l.1 i) - 1000) (sz (l.1 i))) p ∧
    mc_MI l m0 (i + 1) st (mc_up st' (l.1 i) (1000 + 8 * p + O' p)) := by
  have hs := hl.1 i hi
  have hfb : ∀ p, p < 32 → mc_fbn st sz (fun _ => 0) 32 p < 2 ∧ (mc_fbn st sz (fun _ => 0) 32 p ≠ 0 ↔ mc_wo st sz p = 0) := fun p hp => mc_fbn_32 hp
  have hph := mc_run_h (fb := mc_fbn st sz (fun _ => 0) 32) hS hT hU hM hs.1 hs.2 hfb
  have hg := mc_pgs hph
  rw [ep] at hg
  obtain ⟨g1, g2, g3, g4⟩ := hg
  have hun := mc_MI_un hl hI hi (Or.inr (Nat.le_refl i))
  have hb := (hS _ hs.1).2.2 hs.2
  have hb1 := (hS _ hs.1).1
  have hf : mc_wo st sz p = 0 := by
    rcases g4 with z | ⟨_, z, _⟩
    · have := hM.2.2.2.2.2.2.2.2.2.1
      rw [← z] at this
      exact this g1
    · exact (hfb p g1).2.mp z
  have hps : (st (l.1 i) - 1000) / 8 ≠ p := fun e => by
    have := mc_wo_pos hS hs.1 hs.2
    rw [e] at this
    exact this hf
  refine ⟨g1, g2, hun, by omega, ?_, ?_⟩
  · refine mc_Mv_s hS hD hM hs.1 hs.2 hun g1 hf g3 rfl g2 ?_ (fun j hj => ⟨mc_cp_in hj, mc_rg_in hj⟩) (fun j hj => ⟨mc_cp_out hj, mc_rg_out hj⟩)
    rcases g4 with z | ⟨z1, _, z3⟩
    · exact Or.inl z
    · exact Or.inr ⟨z1, z3⟩
  · exact mc_MI_s hl hi h0 hI (by omega)
theorem mx_move_35 {post : St2 → Prop} {v a b m : Nat} (hv : v < 4096) (ha : a + m ≤ 256) (hbm : b + m ≤ 256) (hm : m < 1000) (hP : 1 + P v + R v = m) (hd : a + m ≤ b ∨ b + m ≤ a)
    (h : post ((nI n), (nI lim), kc, (mc_oI op), (nI mk), (nI U), H, (mc_cp wd a b m), (fun j => nI (mc_rg W a m v j)), (fun j => nI (mc_up S v (1000 + a) j)), (fun j => nI (P j)), (fun j => nI (R j)), (fun j => nI (O j)), (fun j => nI (px j)), (fun j => nI (cd j)), (fun j => nI (K j)))) :
    ∀ d i, i + d = m → wX_move_35 post (nI v) (nI b) (nI m) (nI (1000 + a)) (nI a) (nI n) (nI lim) kc (mc_oI op) (nI mk) (nI U) (d + 1) (nI i) H (mc_cp wd a b i) (fun j => nI (W j)) (fun j => nI (S j)) (fun j => nI (P j)) (fun j => nI (R j)) (fun j => nI (O j)) (fun j => nI (px j)) (fun j => nI (cd j)) (fun j => nI (K j)) := by
  intro d
  induction d with
  | zero =>
    intro i hi
    have ei : i = m := by omega
    have ea : 1000 + a - 1000 = a := by omega
    rw [ei]
    refine br_t (nI_le (by omega) (by omega)) (mx_settle (m := m) hv (by omega) (by omega) hm hP ?_)
    rw [ea]
    exact h
  | succ d ih =>
    intro i hi
    refine br_f (nI_ge (by omega) (by omega)) ⟨?_, ?_, nm_r (e' := mc_cp wd a b (i + 1)) ?_ (nm_r (nI_1 i) (ih (i + 1) (by omega)))⟩
    · rw [nI_add]
      exact vp_in_nI (by omega) (by omega)
    · rw [nI_add]
      exact vp_in_nI (by omega) (by omega)
    · rw [nI_add, nI_add, nI_clamp (n := a + i) (by omega), nI_clamp (n := b + i) (by omega)]
      exact mc_cp_s wd (by omega) hd
theorem mx_move {post : St2 → Prop} {v b m a p w : Nat} (hv : v < 4096) (hs : S v = 1000 + b) (ha : a + m ≤ 256) (hbm : b + m ≤ 256) (hm : m < 1000) (hP : 1 + P v + R v = m) (hd : a + m ≤ b ∨ b + m ≤ a)
    (hpl : ∀ post : Int32 → St2 → Prop, post (nI (1000 + a)) ((nI n), (nI lim), kc, (mc_oI p), (nI mk), (nI U), H, wd, (fun j => nI (W j)), (fun j => nI (S j)), (fun j => nI (P j)), (fun j => nI (R j)), (fun j => nI (mc_up O p w j)), (fun j => nI (px j)), (fun j => nI (cd j)), (fun j => nI (K j))) → wpX_place post ((nI n), (nI lim), kc, (mc_oI op), (nI mk), (nI U), H, wd, (fun j => nI (W j)), (fun j => nI (S j)), (fun j => nI (P j)), (fun j => nI (R j)), (fun j => nI (O j)), (fun j => nI (px j)), (fun j => nI (cd j)), (fun j => nI (K j))) (nI m))
    (h : post ((nI n), (nI lim), kc, (mc_oI p), (nI mk), (nI U), H, (mc_cp wd a b m), (fun j => nI (mc_rg W a m v j)), (fun j => nI (mc_up S v (1000 + a) j)), (fun j => nI (P j)), (fun j => nI (R j)), (fun j => nI (mc_up O p w j)), (fun j => nI (px j)), (fun j => nI (cd j)), (fun j => nI (K j)))) : wpX_move post ((nI n), (nI lim), kc, (mc_oI op), (nI mk), (nI U), H, wd, (fun j => nI (W j)), (fun j => nI (S j)), (fun j => nI (P j)), (fun j => nI (R j)), (fun j => nI (O j)), (fun j => nI (px j)), (fun j => nI (cd j)), (fun j => nI (K j))) (nI v) := by
  have ea : nI (1000 + a) - 1000 = nI a := by
    rw [mn_s1000 (by omega)]
    exact congrArg nI (by omega)
  refine ⟨vp_in_nI hv (by omega), nm_r (e' := nI b) ?_ (mx_size hv hP (hpl _ (nm_r ea ⟨m + 1, ?_⟩)))⟩
  · show nI (S (nI v).toNatClampNeg) - 1000 = nI b
    rw [nI_clamp (by omega), hs, mn_s1000 (by omega)]
    exact congrArg nI (by omega)
  · have := mx_move_35 (op := p) (O := mc_up O p w) hv ha hbm hm hP hd h m 0 (by omega)
    rw [mc_cp_0] at this
    exact this
theorem mx_pgo {post : Int32 → Prop} {x : Int32} {q : Nat} (e : (x - 1000) / 8 = nI q) (h : post (nI q)) : wpX_pageOf post () x := ⟨by decide, by rw [e]; exact h⟩
theorem mx_mk {m0 : Nat} {pn : Nat → Nat} (hS : mc_Slot mk sr st sz pc) (hmk : mk ≤ 4095) (hD : mc_Dis sr st sz) (hX : mc_XS sr st sz pc S P R W) (hT : mc_Thin st sz op) (hU : mc_sm sz 30 ≤ 60) (hl : mc_LG sz l)
    (hM0 : mc_Mv sr st sz W wd st S W O wd 32) (hK : ∀ i, i < l.2 → K i = sr (l.1 i)) (hpn : ∀ s, s < 30 → 0 < sz s → (pn ((st s - 1000) / 8) = 1 ↔ ∃ i, i < m0 ∧ i < l.2 ∧ l.1 i = s))
    (hcd : ∀ p, p < 32 → cd p < 2 ∧ (cd p = 0 ↔ (mc_wo st sz p = 0 ∨ pn p = 1))) :
    ∃ (st' S' W' O' : Nat → Nat) (words' : Nat → Int32) (op' : Nat), mc_Mv sr st sz W wd st' S' W' O' words' op' ∧ mc_MI l m0 l.2 st st' ∧ ∀ post : St2 → Prop,
      post ((nI n), (nI lim), (nI l.2), (mc_oI op'), (nI mk), (nI U), H, words', (fun j => nI (W' j)), (fun j => nI (S' j)), (fun j => nI (P j)), (fun j => nI (R j)), (fun j => nI (O' j)), (fun j => nI (px j)), (fun j => nI (cd j)), (fun j => nI (K j))) →
      wpX_moveKeptObjects post ((nI n), (nI lim), (nI l.2), (mc_oI op), (nI mk), (nI U), H, wd, (fun j => nI (W j)), (fun j => nI (S j)), (fun j => nI (P j)), (fun j => nI (R j)), (fun j => nI (O j)), (fun j => nI (px j)), (fun j => nI (cd j)), (fun j => nI (K j))) := by
  have hle := mc_LG_le hl
  have key : ∀ (d i : Nat) (st' S' W' O' : Nat → Nat) (words' : Nat → Int32) (op' : Nat), i + d = l.2 → mc_Mv sr st sz W wd st' S' W' O' words' op' → mc_MI l m0 i st st' →
      ∃ (st2 S2 W2 O2 : Nat → Nat) (words2 : Nat → Int32) (op2 : Nat), mc_Mv sr st sz W wd st2 S2 W2 O2 words2 op2 ∧ mc_MI l m0 l.2 st st2 ∧ ∀ post : St2 → Prop,
      post ((nI n), (nI lim), (nI l.2), (mc_oI op2), (nI mk), (nI U), H, words2, (fun j => nI (W2 j)), (fun j => nI (S2 j)), (fun j => nI (P j)), (fun j => nI (R j)), (fun j => nI (O2 j)), (fun j => nI (px j)), (fun j => nI (cd j)), (fun j => nI (K j))) →
      wX_moveKeptObjects_12 post (nI l.2) (d + 1) (nI i) (nI n) (nI lim) (nI l.2) (mc_oI op') (nI mk) (nI U) H words' (fun j => nI (W' j)) (fun j => nI (S' j)) (fun j => nI (P j)) (fun j => nI (R j)) (fun j => nI (O' j)) (fun j => nI (px j)) (fun j => nI (cd j)) (fun j => nI (K j)) := by
    intro d
    induction d with
    | zero =>
      intro i st' S' W' O' words' op' hi hM hI
      have ei : i = l.2 := by omega
      rw [ei] at hI ⊢
      exact ⟨st', S', W', O', words', op', hM, hI, fun post h => br_t (nI_le (by omega) (by omega)) h⟩
    | succ d ih =>
      intro i st' S' W' O' words' op' hi hM hI
      have hs := hl.1 i (by omega)
      have hb := (hS _ hs.1).2.2 hs.2
      have hb1 := (hS _ hs.1).1
      have hb4 := (hS _ hs.1).2.1
      have hun := mc_MI_un hl hI (i := i) (by omega) (Or.inr (Nat.le_refl i))
      have hSs := hM.2.2.2.2.2.1 _ hs.1 hs.2
      rw [hun] at hSs
      have hpg : (st (l.1 i) - 1000) / 8 < 32 := by omega
      have epg : nI (st (l.1 i)) - 1000 = nI (st (l.1 i) - 1000) := mn_s1000 (by omega)
      have hc := hcd _ hpg
      have hwp := mc_wo_pos hS hs.1 hs.2
      have e1 : (fun j => nI (K j)) (nI i).toNatClampNeg = nI (sr (l.1 i)) := by
        show nI (K (nI i).toNatClampNeg) = _
        rw [nI_clamp (by omega), hK i (by omega)]
      have e2 : ((fun j => nI (S' j)) (nI (sr (l.1 i))).toNatClampNeg - 1000) / 8 = nI ((st (l.1 i) - 1000) / 8) := by
        show (nI (S' (nI (sr (l.1 i))).toNatClampNeg) - 1000) / 8 = _
        rw [nI_clamp (by omega), hSs, epg, mn_d8 (by omega)]
      by_cases c : m0 ≤ i
      · have hcne : cd ((st (l.1 i) - 1000) / 8) ≠ 0 := fun z => by
          rcases hc.2.mp z with z2 | z2
          · exact hwp z2
          · obtain ⟨j, j1, j2, j3⟩ := (hpn _ hs.1 hs.2).mp z2
            exact hl.2 j i (by omega) (by omega) j3
        obtain ⟨g1, g2, g3, g4, g5, g6⟩ := mc_run_s hS hD hT hU hl hM hI c (by omega) rfl
        have hfb : ∀ p, p < 32 → mc_fbn st sz (fun _ => 0) 32 p < 2 ∧ (mc_fbn st sz (fun _ => 0) 32 p ≠ 0 ↔ mc_wo st sz p = 0) := fun p hp => mc_fbn_32 hp
        have hph := mc_run_h (fb := mc_fbn st sz (fun _ => 0) 32) hS hT hU hM hs.1 hs.2 hfb
        obtain ⟨x1, x2, x3, x4⟩ := hX _ hs.1 hs.2
        obtain ⟨st2, S2, W2, O2, words2, op2, h1, h2, h3⟩ := ih (i + 1) _ _ _ _ _ _ (by omega) g5 g6
        refine ⟨st2, S2, W2, O2, words2, op2, h1, h2, fun post h => ?_⟩
        refine br_f (nI_ge (by omega) (by omega)) ⟨vp_in_nI (by omega) (by omega), nm_r e1 ⟨vp_in_nI (by omega) (by omega), mx_pgo e2 ⟨vp_in_nI hpg (by omega), ?_⟩⟩⟩
        rw [nI_clamp (by omega)]
        refine br_f (nI_ne0 (by omega) (by omega)) (mx_move (v := sr (l.1 i)) (b := st (l.1 i) - 1000) (m := sz (l.1 i)) (a := 8 * mc_pg O' op' (mc_wo st' sz op') (sz (l.1 i)) + O' (mc_pg O' op' (mc_wo st' sz op') (sz (l.1 i)))) (p := mc_pg O' op' (mc_wo st' sz op') (sz (l.1 i))) (w := O' (mc_pg O' op' (mc_wo st' sz op') (sz (l.1 i))) + sz (l.1 i))
          (by omega) (by omega) (by omega) (by omega) (by omega) (by omega) (by omega) (fun post hp => mx_pl hph (by rw [Nat.add_assoc]; exact hp)) ?_)
        rw [← Nat.add_assoc]
        exact nm_r (nI_1 i) (h3 post h)
      · have hcz : cd ((st (l.1 i) - 1000) / 8) = 0 := hc.2.mpr (Or.inr ((hpn _ hs.1 hs.2).mpr ⟨i, by omega, by omega, rfl⟩))
        obtain ⟨st2, S2, W2, O2, words2, op2, h1, h2, h3⟩ := ih (i + 1) st' S' W' O' words' op' (by omega) hM ⟨fun s hs hh => hI.1 s hs (fun j j1 j2 => absurd j2 (by omega)), fun j j1 j2 => absurd j2 (by omega)⟩
        refine ⟨st2, S2, W2, O2, words2, op2, h1, h2, fun post h => ?_⟩
        refine br_f (nI_ge (by omega) (by omega)) ⟨vp_in_nI (by omega) (by omega), nm_r e1 ⟨vp_in_nI (by omega) (by omega), mx_pgo e2 ⟨vp_in_nI hpg (by omega), ?_⟩⟩⟩
        rw [nI_clamp (by omega)]
        refine br_t ?_ (nm_r (nI_1 i) (h3 post h))
        show nI (cd ((st (l.1 i) - 1000) / 8)) = 0
        rw [hcz, nI_0]
  obtain ⟨st2, S2, W2, O2, words2, op2, h1, h2, h3⟩ := key l.2 0 st S W O wd 32 (by omega) hM0 ⟨fun _ _ _ => rfl, fun i h1 h2 => absurd h2 (by omega)⟩
  refine ⟨st2, S2, W2, O2, words2, op2, h1, h2, fun post h => ?_⟩
  have := h3 post h
  rw [mc_oI_32] at this
  exact ⟨l.2 + 1, this⟩
end
