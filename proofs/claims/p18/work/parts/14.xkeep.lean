/-! collect in the component: pins, condemned pages, the list -/
section
variable {n lim op mk U : Nat} {kc ld oo : Int32} {H wd ce : Nat → Int32} {W S P R O px cd K sr st sz pc L py fb : Nat → Nat}
def mc_PN (n : Nat) (H : Nat → Int32) (sr st sz W pn : Nat → Nat) : Prop :=
  (∀ p, p < 32 → pn p < 2 ∧ (pn p = 1 ↔ ∃ r s, r < n ∧ mc_At sr st sz W (H r) s ∧ (st s - 1000) / 8 = p)) ∧ mc_sm pn 32 ≤ n
theorem mc_PN_0 : mc_PN 0 H sr st sz W (mc_rg px 0 32 0) := by
  have h0 : ∀ p, p < 32 → mc_rg px 0 32 0 p = 0 := fun p hp => if_pos (by omega)
  refine ⟨fun p hp => ?_, ?_⟩
  · rw [h0 p hp]
    refine ⟨by omega, fun z => absurd z (by omega), ?_⟩
    rintro ⟨r, s, hr, _⟩
    omega
  · rw [mc_sm_0 32 h0]
    omega
theorem mc_At_No (hS : mc_Slot mk sr st sz pc) {w : Int32} {s : Nat} (h : mc_At sr st sz W w s) (hN : mc_No st sz W w) : False := by
  obtain ⟨hs, hz, i, hi, e, _, _, h3⟩ := h
  have h0 := hN.1 i hi e
  have := (hS s hs).2.2 hz
  omega
theorem mc_PN_no {i : Nat} {pn : Nat → Nat} (hS : mc_Slot mk sr st sz pc) (h : mc_PN i H sr st sz W pn) (hN : mc_No st sz W (H i)) : mc_PN (i + 1) H sr st sz W pn := by
  refine ⟨fun p hp => ⟨(h.1 p hp).1, ?_⟩, Nat.le_succ_of_le h.2⟩
  rw [(h.1 p hp).2]
  constructor
  · rintro ⟨r, s, hr, h1, h2⟩
    exact ⟨r, s, by omega, h1, h2⟩
  · rintro ⟨r, s, hr, h1, h2⟩
    by_cases e : r = i
    · rw [e] at h1
      exact absurd hN (mc_At_No hS h1)
    · exact ⟨r, s, by omega, h1, h2⟩
theorem mc_PN_at {i s : Nat} {pn : Nat → Nat} (hD : mc_Dis sr st sz) (h : mc_PN i H sr st sz W pn) (hA : mc_At sr st sz W (H i) s) (hq : (st s - 1000) / 8 < 32) : mc_PN (i + 1) H sr st sz W (mc_up pn ((st s - 1000) / 8) 1) := by
  refine ⟨fun p hp => ?_, ?_⟩
  · by_cases e : p = (st s - 1000) / 8
    · rw [e, mc_us]
      exact ⟨by omega, fun _ => ⟨i, s, by omega, hA, rfl⟩, fun _ => rfl⟩
    · rw [mc_un e]
      refine ⟨(h.1 p hp).1, ?_⟩
      rw [(h.1 p hp).2]
      constructor
      · rintro ⟨r, t, hr, h1, h2⟩
        exact ⟨r, t, by omega, h1, h2⟩
      · rintro ⟨r, t, hr, h1, h2⟩
        by_cases er : r = i
        · rw [er] at h1
          have := mc_At_u hD h1 hA
          rw [this] at h2
          exact absurd h2.symm e
        · exact ⟨r, t, by omega, h1, h2⟩
  · have hlt := (h.1 _ hq).1
    have h2 := h.2
    by_cases c : pn ((st s - 1000) / 8) = 0
    · rw [mc_sm_pt (f := pn) (g := mc_up pn ((st s - 1000) / 8) 1) (k := (st s - 1000) / 8) (x := 1) 32 hq (by rw [mc_us, c]) (fun j _ hj => mc_un hj)]
      omega
    · rw [mc_sm_congr (f := mc_up pn ((st s - 1000) / 8) 1) (g := pn) 32 (fun j _ => by
        by_cases e : j = (st s - 1000) / 8
        · rw [e, mc_us]; omega
        · exact mc_un e)]
      omega
theorem mc_pgI {w : Int32} {s : Nat} (hS : mc_Slot mk sr st sz pc) (h : mc_At sr st sz W w s) : (w - 1000) / 8 = nI ((st s - 1000) / 8) ∧ (st s - 1000) / 8 < 32 := by
  obtain ⟨hs, hz, i, hi, e, h1, h2, h3⟩ := h
  have hb := (hS s hs).2.2 hz
  have hb1 := (hS s hs).1
  refine ⟨?_, by omega⟩
  rw [e, mn_s1000 (by omega), mn_d8 (by omega)]
  exact congrArg nI (by omega)
theorem mx_pin_23 (hn8 : n ≤ 8) (hS : mc_Slot mk sr st sz pc) (hmk : mk ≤ 4095) (hD : mc_Dis sr st sz) (hX : mc_XS sr st sz pc S P R W) (hXW : mc_XW sr st sz W) :
    ∀ d i pn, i + d = n → mc_PN i H sr st sz W pn → ∃ pn', mc_PN n H sr st sz W pn' ∧ ∀ post : St2 → Prop, post ((nI n), (nI lim), kc, (mc_oI op), (nI mk), (nI U), H, wd, (fun j => nI (W j)), (fun j => nI (S j)), (fun j => nI (P j)), (fun j => nI (R j)), (fun j => nI (O j)), (fun j => nI (pn' j)), (fun j => nI (cd j)), (fun j => nI (K j))) → wX_pinPages_23 post (nI n) (nI lim) kc (mc_oI op) (nI mk) (nI U) (d + 1) (nI i) H wd (fun j => nI (W j)) (fun j => nI (S j)) (fun j => nI (P j)) (fun j => nI (R j)) (fun j => nI (O j)) (fun j => nI (pn j)) (fun j => nI (cd j)) (fun j => nI (K j)) := by
  intro d
  induction d with
  | zero =>
    intro i pn hi hp
    have ei : i = n := by omega
    rw [ei] at hp ⊢
    exact ⟨pn, hp, fun post h => br_t (nI_le (by omega) (by omega)) h⟩
  | succ d ih =>
    intro i pn hi hp
    rcases mc_own hS hX hXW (H i) with ⟨s, hA⟩ | hN
    · have hb := (hS s hA.1).2.2 hA.2.1
      have epg := mc_pgI hS hA
      obtain ⟨pn', h1, h2⟩ := ih (i + 1) _ (by omega) (mc_PN_at hD hp hA epg.2)
      refine ⟨pn', h1, fun post h => br_f (nI_ge (by omega) (by omega)) ⟨vp_in_nI (by omega) (by omega), nm_r (e' := H i) (by rw [nI_clamp (by omega)]) ?_⟩⟩
      refine mx_own_at hA (br_f (nI_ne0 (by omega) (by omega)) ⟨by decide, ?_, nm_r (e' := fun j => nI (mc_up pn ((st s - 1000) / 8) 1 j)) ?_ (nm_r (nI_1 i) (h2 post h))⟩)
      · rw [epg.1]
        exact vp_in_nI epg.2 (by omega)
      · rw [epg.1, nI_clamp (by omega)]
        exact mc_upI _ _ 1
    · obtain ⟨pn', h1, h2⟩ := ih (i + 1) _ (by omega) (mc_PN_no hS hp hN)
      refine ⟨pn', h1, fun post h => br_f (nI_ge (by omega) (by omega)) ⟨vp_in_nI (by omega) (by omega), nm_r (e' := H i) (by rw [nI_clamp (by omega)]) ?_⟩⟩
      exact mx_own_no hN (br_t rfl (nm_r (nI_1 i) (h2 post h)))
theorem mx_pin (hn8 : n ≤ 8) (hS : mc_Slot mk sr st sz pc) (hmk : mk ≤ 4095) (hD : mc_Dis sr st sz) (hX : mc_XS sr st sz pc S P R W) (hXW : mc_XW sr st sz W) :
    ∃ pn, mc_PN n H sr st sz W pn ∧ ∀ post : St2 → Prop, post ((nI n), (nI lim), kc, (mc_oI op), (nI mk), (nI U), H, wd, (fun j => nI (W j)), (fun j => nI (S j)), (fun j => nI (P j)), (fun j => nI (R j)), (fun j => nI (O j)), (fun j => nI (pn j)), (fun j => nI (cd j)), (fun j => nI (K j))) → wpX_pinPages post ((nI n), (nI lim), kc, (mc_oI op), (nI mk), (nI U), H, wd, (fun j => nI (W j)), (fun j => nI (S j)), (fun j => nI (P j)), (fun j => nI (R j)), (fun j => nI (O j)), (fun j => nI (px j)), (fun j => nI (cd j)), (fun j => nI (K j))) := by
  obtain ⟨pn', h1, h2⟩ := mx_pin_23 (lim := lim) (op := op) (mk := mk) (U := U) (kc := kc) (H := H) (wd := wd) (W := W) (S := S) (P := P) (R := R) (O := O) (cd := cd) (K := K) (sr := sr) (st := st) (sz := sz) (pc := pc) hn8 hS hmk hD hX hXW n 0 (mc_rg px 0 32 0) (by omega) mc_PN_0
  refine ⟨pn', h1, fun post h => ?_⟩
  have key : ∀ d i, i + d = 32 → wX_pinPages_2 post (nI n) (nI lim) kc (mc_oI op) (nI mk) (nI U) (d + 1) (nI i) H wd (fun j => nI (W j)) (fun j => nI (S j)) (fun j => nI (P j)) (fun j => nI (R j)) (fun j => nI (O j)) (fun j => nI (mc_rg px 0 i 0 j)) (fun j => nI (cd j)) (fun j => nI (K j)) := by
    intro d
    induction d with
    | zero =>
      intro i hi
      have ei : i = 32 := by omega
      rw [ei]
      exact br_t (nI_le (a := 32) (by omega) (by omega)) ⟨n + 1, h2 post h⟩
    | succ d ih =>
      intro i hi
      refine br_f (nI_ge (b := 32) (by omega) (by omega)) ⟨vp_in_nI (by omega) (by omega), nm_r (e' := fun j => nI (mc_rg px 0 (i + 1) 0 j)) ?_ (nm_r (nI_1 i) (ih (i + 1) (by omega)))⟩
      have := mc_rg_s px 0 i 0
      rw [Nat.zero_add] at this
      rw [nI_clamp (by omega), ← this]
      exact mc_upI _ i 0
  have := key 32 0 (by omega)
  rw [mc_rg_0] at this
  exact ⟨33, this⟩
def mc_cdn (O px cd : Nat → Nat) (i p : Nat) : Nat := if p < i then (if O p ≠ 0 ∧ px p = 0 then 1 else 0) else cd p
theorem mc_cdn_0 : mc_cdn O px cd 0 = cd := by
  funext p
  exact if_neg (by omega)
theorem mc_cdn_s (i : Nat) : mc_up (mc_cdn O px cd i) i (if O i ≠ 0 ∧ px i = 0 then 1 else 0) = mc_cdn O px cd (i + 1) := by
  funext p
  by_cases e : p = i
  · rw [e, mc_us]
    exact (if_pos (by omega)).symm
  · rw [mc_un e]
    unfold mc_cdn
    by_cases c : p < i
    · rw [if_pos c, if_pos (c := p < i + 1) (by omega)]
    · rw [if_neg c, if_neg (c := p < i + 1) (by omega)]
theorem mc_cdn_32 {p : Nat} (hp : p < 32) : mc_cdn O px cd 32 p < 2 ∧ (mc_cdn O px cd 32 p = 0 ↔ (O p = 0 ∨ px p ≠ 0)) := by
  have e : mc_cdn O px cd 32 p = (if O p ≠ 0 ∧ px p = 0 then 1 else 0) := if_pos hp
  rw [e]
  by_cases c : O p ≠ 0 ∧ px p = 0
  · rw [if_pos c]
    exact ⟨by omega, fun z => absurd z (by omega), fun z => by omega⟩
  · rw [if_neg c]
    exact ⟨by omega, fun _ => by omega, fun _ => rfl⟩
theorem mx_cond {post : St2 → Prop} (hO : ∀ p, p < 32 → O p < 1000) (hp : ∀ p, p < 32 → px p < 2)
    (h : post ((nI n), (nI lim), kc, (mc_oI op), (nI mk), (nI U), H, wd, (fun j => nI (W j)), (fun j => nI (S j)), (fun j => nI (P j)), (fun j => nI (R j)), (fun j => nI (O j)), (fun j => nI (px j)), (fun j => nI (mc_cdn O px cd 32 j)), (fun j => nI (K j)))) : wpX_condemnPages post ((nI n), (nI lim), kc, (mc_oI op), (nI mk), (nI U), H, wd, (fun j => nI (W j)), (fun j => nI (S j)), (fun j => nI (P j)), (fun j => nI (R j)), (fun j => nI (O j)), (fun j => nI (px j)), (fun j => nI (cd j)), (fun j => nI (K j))) := by
  have key : ∀ d i, i + d = 32 → wX_condemnPages_2 post (nI n) (nI lim) kc (mc_oI op) (nI mk) (nI U) (d + 1) (nI i) H wd (fun j => nI (W j)) (fun j => nI (S j)) (fun j => nI (P j)) (fun j => nI (R j)) (fun j => nI (O j)) (fun j => nI (px j)) (fun j => nI (mc_cdn O px cd i j)) (fun j => nI (K j)) := by
    intro d
    induction d with
    | zero =>
      intro i hi
      have ei : i = 32 := by omega
      rw [ei]
      exact br_t (nI_le (a := 32) (by omega) (by omega)) h
    | succ d ih =>
      intro i hi
      have hOi := hO i (by omega)
      have hpi := hp i (by omega)
      have es := mc_cdn_s (O := O) (px := px) (cd := cd) i
      have hv : vp_in (nI i) 32 := vp_in_nI (by omega) (by omega)
      have ec : (nI i).toNatClampNeg = i := nI_clamp (by omega)
      have nx := ih (i + 1) (by omega)
      refine br_f (nI_ge (b := 32) (by omega) (by omega)) ⟨hv, ?_⟩
      rw [ec]
      by_cases c : O i = 0
      · rw [if_neg (fun z => z.1 c)] at es
        refine br_t ?_ ⟨hv, nm_r (e' := fun j => nI (mc_cdn O px cd (i + 1) j)) ?_ (nm_r (nI_1 i) nx)⟩
        · show nI (O i) = 0
          rw [c, nI_0]
        · rw [← es]
          exact mc_upI _ i 0
      · refine br_f (nI_ne0 (by omega) (by omega)) ⟨hv, ?_⟩
        by_cases c2 : px i = 0
        · rw [if_pos ⟨c, c2⟩] at es
          refine br_t ?_ ⟨hv, nm_r (e' := fun j => nI (mc_cdn O px cd (i + 1) j)) ?_ (nm_r (nI_1 i) nx)⟩
          · show nI (px i) = 0
            rw [c2, nI_0]
          · rw [← es]
            exact mc_upI _ i 1
        · rw [if_neg (fun z => c2 z.2)] at es
          refine br_f (nI_ne0 (by omega) (by omega)) ⟨hv, nm_r (e' := fun j => nI (mc_cdn O px cd (i + 1) j)) ?_ (nm_r (nI_1 i) nx)⟩
          rw [← es]
          exact mc_upI _ i 0
  have := key 32 0 (by omega)
  rw [mc_cdn_0] at this
  exact ⟨33, this⟩
section
variable {l : (Nat → Nat) × Nat} {s : Nat}
theorem mx_isk {post : Int32 → Prop} (hl : mc_LG sz l) (hr : ∀ s, s < 30 → 0 < sz s → sr s ≤ 4095) (hD : mc_Dis sr st sz) (hK : ∀ i, i < l.2 → K i = sr (l.1 i)) (hs : s < 30) (hz : 0 < sz s)
    (h1 : mc_in l s → post 1) (h0 : ¬ mc_in l s → post 0) : wpX_isKept post ((nI n), (nI lim), (nI l.2), (mc_oI op), (nI mk), (nI U), H, wd, (fun j => nI (W j)), (fun j => nI (S j)), (fun j => nI (P j)), (fun j => nI (R j)), (fun j => nI (O j)), (fun j => nI (px j)), (fun j => nI (cd j)), (fun j => nI (K j))) (nI (sr s)) := by
  have h30 := mc_LG_le hl
  have hrs := hr s hs hz
  have key : ∀ d i, i + d = l.2 → (∀ j, j < i → l.1 j ≠ s) → wX_isKept_7 post (nI (sr s)) (nI l.2) (nI n) (nI lim) (nI l.2) (mc_oI op) (nI mk) (nI U) H wd (fun j => nI (W j)) (fun j => nI (S j)) (fun j => nI (P j)) (fun j => nI (R j)) (fun j => nI (O j)) (fun j => nI (px j)) (fun j => nI (cd j)) (fun j => nI (K j)) (d + 1) (nI i) := by
    intro d
    induction d with
    | zero =>
      intro i hi hj
      have ei : i = l.2 := by omega
      rw [ei] at hj ⊢
      refine br_t (nI_le (by omega) (by omega)) (h0 ?_)
      rintro ⟨j, j1, j2⟩
      exact hj j j1 j2
    | succ d ih =>
      intro i hi hj
      have hli := hl.1 i (by omega)
      have hri := hr _ hli.1 hli.2
      refine br_f (nI_ge (by omega) (by omega)) ⟨vp_in_nI (by omega) (by omega), ?_⟩
      rw [nI_clamp (by omega)]
      by_cases c : l.1 i = s
      · refine br_t ?_ (h1 ⟨i, by omega, c⟩)
        show nI (K i) = nI (sr s)
        rw [hK i (by omega), c]
      · refine br_f ?_ (nm_r (nI_1 i) (ih (i + 1) (by omega) (fun j hj2 => ?_)))
        · show ¬ nI (K i) = nI (sr s)
          rw [hK i (by omega), nI_eq (by omega) (by omega)]
          exact (hD _ s hli.1 hs c hli.2 hz).1
        · by_cases e : j = i
          · rw [e]; exact c
          · exact hj j (by omega)
  exact ⟨l.2 + 1, key l.2 0 (by omega) (fun j hj => absurd hj (by omega))⟩
theorem mx_keep_s (hl : mc_LG sz l) (hr : ∀ s, s < 30 → 0 < sz s → 1 ≤ sr s ∧ sr s ≤ 4095) (hD : mc_Dis sr st sz) (hK : ∀ i, i < l.2 → K i = sr (l.1 i)) (hs : s < 30) (hz : 0 < sz s) :
    ∃ K' : Nat → Nat, (∀ i, i < (mc_ad l s).2 → K' i = sr ((mc_ad l s).1 i)) ∧ ∀ post : St2 → Prop, post ((nI n), (nI lim), (nI (mc_ad l s).2), (mc_oI op), (nI mk), (nI U), H, wd, (fun j => nI (W j)), (fun j => nI (S j)), (fun j => nI (P j)), (fun j => nI (R j)), (fun j => nI (O j)), (fun j => nI (px j)), (fun j => nI (cd j)), (fun j => nI (K' j))) → wpX_keep post ((nI n), (nI lim), (nI l.2), (mc_oI op), (nI mk), (nI U), H, wd, (fun j => nI (W j)), (fun j => nI (S j)), (fun j => nI (P j)), (fun j => nI (R j)), (fun j => nI (O j)), (fun j => nI (px j)), (fun j => nI (cd j)), (fun j => nI (K j))) (nI (sr s)) := by
  have hrs := hr s hs hz
  by_cases c : mc_in l s
  · refine ⟨K, ?_, fun post h => ?_⟩
    · rw [mc_ad_isin c]
      exact hK
    · rw [mc_ad_isin c] at h
      exact br_f (nI_ne0 (by omega) (by omega)) (mx_isk hl (fun s hs hz => (hr s hs hz).2) hD hK hs hz (fun _ => br_f (by decide) h) (fun z => absurd c z))
  · have hlt := mc_LG_lt hl hs hz c
    refine ⟨mc_up K l.2 (sr s), ?_, fun post h => ?_⟩
    · rw [mc_ad_new hs c]
      intro i hi
      have hi : i < l.2 + 1 := hi
      show mc_up K l.2 (sr s) i = sr (mc_up l.1 l.2 s i)
      by_cases e : i = l.2
      · rw [e, mc_us, mc_us]
      · rw [mc_un e, mc_un e]
        exact hK i (by omega)
    · rw [mc_ad_new hs c] at h
      refine br_f (nI_ne0 (by omega) (by omega)) (mx_isk hl (fun s hs hz => (hr s hs hz).2) hD hK hs hz (fun z => absurd z c) (fun _ => ?_))
      refine br_t rfl (br_t (nI_lt (b := 30) hlt (by omega)) ⟨vp_in_nI hlt (by omega), nm_r (e' := fun j => nI (mc_up K l.2 (sr s) j)) ?_ (nm_r (nI_1 l.2) h)⟩)
      rw [nI_clamp (by omega)]
      exact mc_upI _ _ _
end
theorem mx_kp (hS : mc_Slot mk sr st sz pc) (hmk : mk ≤ 4095) (hD : mc_Dis sr st sz) (hX : mc_XS sr st sz pc S P R W) (hXW : mc_XW sr st sz W) (hp : ∀ p, p < 32 → px p < 2) :
    ∃ K' : Nat → Nat, (∀ i, i < (mc_pl px (fun a => mc_fd st sz a 30) 256).2 → K' i = sr ((mc_pl px (fun a => mc_fd st sz a 30) 256).1 i)) ∧ ∀ post : St2 → Prop, post ((nI n), (nI lim), (nI (mc_pl px (fun a => mc_fd st sz a 30) 256).2), (mc_oI op), (nI mk), (nI U), H, wd, (fun j => nI (W j)), (fun j => nI (S j)), (fun j => nI (P j)), (fun j => nI (R j)), (fun j => nI (O j)), (fun j => nI (px j)), (fun j => nI (cd j)), (fun j => nI (K' j))) → wpX_keepPinnedObjects post ((nI n), (nI lim), kc, (mc_oI op), (nI mk), (nI U), H, wd, (fun j => nI (W j)), (fun j => nI (S j)), (fun j => nI (P j)), (fun j => nI (R j)), (fun j => nI (O j)), (fun j => nI (px j)), (fun j => nI (cd j)), (fun j => nI (K j))) := by
  have hr : ∀ s, s < 30 → 0 < sz s → 1 ≤ sr s ∧ sr s ≤ 4095 := fun s hs hz => by
    have := (hS s hs).2.2 hz
    omega
  have key : ∀ (d a : Nat) (K1 : Nat → Nat), a + d = 256 → (∀ i, i < (mc_pl px (fun a => mc_fd st sz a 30) a).2 → K1 i = sr ((mc_pl px (fun a => mc_fd st sz a 30) a).1 i)) →
      ∃ K' : Nat → Nat, (∀ i, i < (mc_pl px (fun a => mc_fd st sz a 30) 256).2 → K' i = sr ((mc_pl px (fun a => mc_fd st sz a 30) 256).1 i)) ∧ ∀ post : St2 → Prop, post ((nI n), (nI lim), (nI (mc_pl px (fun a => mc_fd st sz a 30) 256).2), (mc_oI op), (nI mk), (nI U), H, wd, (fun j => nI (W j)), (fun j => nI (S j)), (fun j => nI (P j)), (fun j => nI (R j)), (fun j => nI (O j)), (fun j => nI (px j)), (fun j => nI (cd j)), (fun j => nI (K' j))) → wX_keepPinnedObjects_7 post (d + 1) (nI a) (nI n) (nI lim) (nI (mc_pl px (fun a => mc_fd st sz a 30) a).2) (mc_oI op) (nI mk) (nI U) H wd (fun j => nI (W j)) (fun j => nI (S j)) (fun j => nI (P j)) (fun j => nI (R j)) (fun j => nI (O j)) (fun j => nI (px j)) (fun j => nI (cd j)) (fun j => nI (K1 j)) := by
    intro d
    induction d with
    | zero =>
      intro a K1 ha hK
      have ea : a = 256 := by omega
      rw [ea] at hK ⊢
      exact ⟨K1, hK, fun post h => br_t (nI_le (a := 256) (by omega) (by omega)) h⟩
    | succ d ih =>
      intro a K1 ha hK
      have hpa := hp (a / 8) (by omega)
      have ed : nI a / 8 = nI (a / 8) := mn_d8 (by omega)
      have hlg := mc_pl_LG (pn := px) (fd := fun a => mc_fd st sz a 30) (mc_fdz st sz) a
      by_cases c : px (a / 8) = 1
      · have nx := fun K2 => ih (a + 1) K2 (by omega)
        rw [mc_pl_t c] at nx
        rcases hXW a (by omega) with z | ⟨s, hs, hz, z1, z2, z3⟩
        · have hf : mc_fd st sz (1000 + a) 30 = 30 := by
            refine mc_fd_no (fun t ht hc => ?_)
            have hzt : 0 < sz t := by omega
            have hbt := (hS t ht).2.2 hzt
            have := (hX t ht hzt).2.2.2 (1000 + a - st t) (by omega)
            have e : st t - 1000 + (1000 + a - st t) = a := by omega
            rw [e] at this
            omega
          rw [hf, mc_ad_30] at nx
          obtain ⟨K', h1, h2⟩ := nx K1 hK
          refine ⟨K', h1, fun post h => br_f (nI_ge (b := 256) (by omega) (by omega)) ⟨by decide, ?_⟩⟩
          rw [ed]
          refine ⟨vp_in_nI (by omega) (by omega), ?_⟩
          rw [nI_clamp (by omega)]
          refine br_f (nI_ne0 (by omega) (by omega)) ⟨vp_in_nI (by omega) (by omega), ?_⟩
          rw [nI_clamp (by omega)]
          show wpX_keep _ _ (nI (W a))
          rw [z]
          exact br_t rfl (nm_r (nI_1 a) (h2 post h))
        · have hf : mc_fd st sz (1000 + a) 30 = s := mc_fd_at hD hs z2 z3
          rw [hf] at nx
          obtain ⟨K2, hK2, hk2⟩ := mx_keep_s (n := n) (lim := lim) (op := op) (mk := mk) (U := U) (H := H) (wd := wd) (W := W) (S := S) (P := P) (R := R) (O := O) (px := px) (cd := cd) hlg hr hD hK hs hz
          obtain ⟨K', h1, h2⟩ := nx K2 hK2
          refine ⟨K', h1, fun post h => br_f (nI_ge (b := 256) (by omega) (by omega)) ⟨by decide, ?_⟩⟩
          rw [ed]
          refine ⟨vp_in_nI (by omega) (by omega), ?_⟩
          rw [nI_clamp (by omega)]
          refine br_f (nI_ne0 (by omega) (by omega)) ⟨vp_in_nI (by omega) (by omega), ?_⟩
          rw [nI_clamp (by omega)]
          show wpX_keep _ _ (nI (W a))
          rw [z1]
          exact hk2 _ (nm_r (nI_1 a) (h2 post h))
      · have nx := ih (a + 1) K1 (by omega)
        rw [mc_pl_f c] at nx
        obtain ⟨K', h1, h2⟩ := nx hK
        refine ⟨K', h1, fun post h => br_f (nI_ge (b := 256) (by omega) (by omega)) ⟨by decide, ?_⟩⟩
        rw [ed]
        refine ⟨vp_in_nI (by omega) (by omega), ?_⟩
        rw [nI_clamp (by omega)]
        refine br_t ?_ (nm_r (nI_1 a) (h2 post h))
        show nI (px (a / 8)) = 0
        have e : px (a / 8) = 0 := by omega
        rw [e, nI_0]
  obtain ⟨K', h1, h2⟩ := key 256 0 K (by omega) (fun i hi => absurd hi (Nat.not_lt_zero i))
  exact ⟨K', h1, fun post h => ⟨257, h2 post h⟩⟩
end
