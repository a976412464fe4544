/-! what ties the lists to the picture -/
section
variable {mk lim op U : Nat} {sr st sz pc S P R W O : Nat → Nat} {cell words : Nat → Int32} {l : (Nat → Nat) × Nat}
theorem mc_fdz (st sz : Nat → Nat) (a : Nat) (h : mc_fd st sz a 30 < 30) : 0 < sz (mc_fd st sz a 30) := by
  rcases mc_fd_spec st sz a 30 (by omega) with h1 | h1
  · omega
  · omega
def mc_tg (st sz : Nat → Nat) (words : Nat → Int32) (s k : Nat) : Nat := mc_fd st sz (words (st s - 1000 + 1 + k)).toNatClampNeg 30
theorem mc_tg_0 (hS : mc_Slot mk sr st sz pc) {s k : Nat} (h : words (st s - 1000 + 1 + k) = 0) : mc_tg st sz words s k = 30 := by
  unfold mc_tg
  have e : (0 : Int32).toNatClampNeg = 0 := by decide
  rw [h, e]
  refine mc_fd_no (fun t ht hc => ?_)
  have := (hS t ht).2.2 (by omega)
  omega
theorem mc_tg_t (hS : mc_Slot mk sr st sz pc) (hD : mc_Dis sr st sz) {s k t : Nat} (ht : t < 30) (hz : 0 < sz t) (h : words (st s - 1000 + 1 + k) = nI (st t)) : mc_tg st sz words s k = t := by
  unfold mc_tg
  have hb := (hS t ht).1
  rw [h, nI_clamp (by omega)]
  exact mc_fd_at hD ht (by omega) (by omega)
theorem mc_tgz (st sz : Nat → Nat) (words : Nat → Int32) (s k : Nat) (h : mc_tg st sz words s k < 30) : 0 < sz (mc_tg st sz words s k) := mc_fdz st sz _ h
theorem mc_hpn {pn : Nat → Nat} {l0 : (Nat → Nat) × Nat} (hS : mc_Slot mk sr st sz pc) (hD : mc_Dis sr st sz) (h0 : l0 = mc_pl pn (fun a => mc_fd st sz a 30) 256)
    (hp : l0.2 ≤ l.2 ∧ ∀ i, i < l0.2 → l.1 i = l0.1 i) : ∀ s, s < 30 → 0 < sz s → (pn ((st s - 1000) / 8) = 1 ↔ ∃ i, i < l0.2 ∧ i < l.2 ∧ l.1 i = s) := by
  intro s hs hz
  have hb := (hS s hs).2.2 hz
  have hb1 := (hS s hs).1
  have hi : mc_in l0 s ↔ s < 30 ∧ ∃ a, a < 256 ∧ pn (a / 8) = 1 ∧ mc_fd st sz (1000 + a) 30 = s := by
    rw [h0]; exact mc_pl_in 256
  constructor
  · intro h
    have : mc_in l0 s := hi.mpr ⟨hs, st s - 1000, by omega, h, mc_fd_at hD hs (by omega) (by omega)⟩
    obtain ⟨i, i1, i2⟩ := this
    exact ⟨i, i1, by omega, by rw [hp.2 i i1]; exact i2⟩
  · rintro ⟨i, i1, i2, i3⟩
    rw [hp.2 i i1] at i3
    obtain ⟨_, a, a1, a2, a3⟩ := hi.mp ⟨i, i1, i3⟩
    clear hi
    rcases mc_fd_spec st sz (1000 + a) 30 (by omega) with c | c
    · rw [a3] at c
      have e : (st s - 1000) / 8 = a / 8 := by omega
      rw [e]; exact a2
    · omega
theorem mc_hcl (hS : mc_Slot mk sr st sz pc) (hD : mc_Dis sr st sz) (hmk : mk ≤ 4095) (hC : mc_CG st sz (fun s k w => mc_LC sr st sz pc s k (cell (3 * s + k)) w) words) (hl : mc_LG sz l)
    (hcl : ∀ i, i < l.2 → ∀ k, k < pc (l.1 i) → mc_tg st sz words (l.1 i) k < 30 → mc_in l (mc_tg st sz words (l.1 i) k)) :
    ∀ s k t, mc_in l s → k < pc s → t < 30 → 0 < sz t → cell (3 * s + k) = nI (sr t) → mc_in l t := by
  intro s k t hi hk ht hz hc
  obtain ⟨i, i1, i2⟩ := hi
  have hs := hl.1 i i1
  have h3 := hcl i i1 k
  rw [i2] at hs h3
  have hb := (hS s hs.1).2.2 hs.2
  have ht1 := (hS t ht).2.2 hz
  have q : mc_LC sr st sz pc s k (cell (3 * s + k)) (words (st s - 1000 + 1 + k)) := hC s hs.1 hs.2 k (by omega)
  rcases q.1 hk with ⟨c0, _⟩ | ⟨t', ht', z', c1, c2⟩
  · rw [hc, ← nI_0] at c0
    have := (nI_eq (by omega) (by omega)).mp c0
    omega
  · have ht2 := (hS t' ht').2.2 z'
    rw [hc] at c1
    have e := (nI_eq (by omega) (by omega)).mp c1
    have e2 : t = t' := by
      by_cases e2 : t = t'
      · exact e2
      · exact absurd e (hD t t' ht ht' e2 hz z').1
    have e3 := mc_tg_t (words := words) (s := s) (k := k) hS hD ht' z' c2
    rw [e3] at h3
    rw [e2]
    exact h3 hk ht'
noncomputable def mc_kz (l : (Nat → Nat) × Nat) (sz : Nat → Nat) (n s : Nat) : Nat := mc_if (s < n ∧ ¬ mc_in l s) 0 (sz s)
noncomputable def mc_kc (l : (Nat → Nat) × Nat) (sz : Nat → Nat) (s : Nat) : Nat := mc_if (0 < sz s ∧ ¬ mc_in l s) 1 0
theorem mc_kz_0 (l : (Nat → Nat) × Nat) (sz : Nat → Nat) : mc_kz l sz 0 = sz := by
  funext s
  exact mc_if_f (fun c => absurd c.1 (by omega))
theorem mc_kz_same {n : Nat} (h : sz n = 0 ∨ mc_in l n) : mc_kz l sz (n + 1) = mc_kz l sz n := by
  funext s
  unfold mc_kz
  by_cases e : s = n
  · rw [e]
    rw [mc_if_f (c := n < n ∧ ¬ mc_in l n) (fun c => absurd c.1 (by omega))]
    by_cases c : mc_in l n
    · exact mc_if_f (fun z => z.2 c)
    · rw [mc_if_t ⟨by omega, c⟩]
      rcases h with h | h
      · exact h.symm
      · exact absurd h c
  · refine mc_if_cg ?_
    constructor
    · rintro ⟨a, b⟩; exact ⟨by omega, b⟩
    · rintro ⟨a, b⟩; exact ⟨by omega, b⟩
theorem mc_kz_die {n : Nat} (h : ¬ mc_in l n) : mc_up (mc_kz l sz n) n 0 = mc_kz l sz (n + 1) := by
  funext s
  by_cases e : s = n
  · rw [e, mc_us]
    exact (mc_if_t ⟨by omega, h⟩).symm
  · rw [mc_un e]
    unfold mc_kz
    refine mc_if_cg ?_
    constructor
    · rintro ⟨a, b⟩; exact ⟨by omega, b⟩
    · rintro ⟨a, b⟩; exact ⟨by omega, b⟩
theorem mc_kz_n {n : Nat} : mc_kz l sz n n = sz n := mc_if_f (fun c => absurd c.1 (by omega))
theorem mc_ez_end (hS : mc_Slot mk sr st sz pc) : mc_sm (mc_ez l st sz 256) 30 = mc_sm (mc_kz l sz 30) 30 := by
  refine mc_sm_congr 30 (fun s hs => ?_)
  have := (hS s hs).1
  refine mc_if_cg ?_
  constructor
  · rintro ⟨a, b⟩; exact ⟨hs, a⟩
  · rintro ⟨a, b⟩; exact ⟨b, by omega⟩
theorem mc_ec_end (hS : mc_Slot mk sr st sz pc) : mc_sm (mc_ec l st sz 256) 30 = mc_sm (mc_kc l sz) 30 := by
  refine mc_sm_congr 30 (fun s hs => ?_)
  have := (hS s hs).1
  refine mc_if_cg ?_
  constructor
  · rintro ⟨a, b, c⟩; exact ⟨a, b⟩
  · rintro ⟨a, b⟩; exact ⟨a, b, by omega⟩
section
variable {st' S' W' O' : Nat → Nat} {words' : Nat → Int32} {op' m0 : Nat} {pn : Nat → Nat}
theorem mc_hin (hl : mc_LG sz l) (hI : mc_MI l m0 l.2 st st') (hpn : ∀ s, s < 30 → 0 < sz s → (pn ((st s - 1000) / 8) = 1 ↔ ∃ i, i < m0 ∧ i < l.2 ∧ l.1 i = s))
    {s : Nat} (hs : s < 30) (hz : 0 < sz s) (hi : mc_in l s) (c : pn ((st s - 1000) / 8) ≠ 1) : st' s ≠ st s := by
  obtain ⟨i, h2, h3⟩ := hi
  have h1 : m0 ≤ i := by
    by_cases z : m0 ≤ i
    · exact z
    · exact absurd ((hpn s hs hz).mpr ⟨i, by omega, h2, h3⟩) c
  rw [← h3]
  exact hI.2 i h1 h2 h2
theorem mc_hout (hI : mc_MI l m0 l.2 st st') {s : Nat} (hs : s < 30) (hi : ¬ mc_in l s) : st' s = st s :=
  hI.1 s hs (fun i _ _ h3 h4 => hi ⟨i, h3, h4⟩)
/-- at heap index n of a condemned page: nobody's word -/
theorem mc_em_0 (hS : mc_Slot mk sr st sz pc) (hX : mc_XS sr st sz pc S P R W) (hM : mc_Mv sr st sz W words st' S' W' O' words' op') {n : Nat} {W2 : Nat → Nat} (hn : n < 256)
    (hE : mc_EW st sz pn W' n W2) (hu : mc_wo st sz (n / 8) ≠ 0) (h0 : W2 n = 0) :
    ∀ s, s < 30 → 0 < sz s → ¬ mc_in l s → st s < 1000 + n ∨ 1000 + (n + 1) ≤ st s := by
  intro s hs hz _
  by_cases e : st s = 1000 + n
  · exfalso
    have hb := (hS s hs).2.2 hz
    have h1 := (hE n hn).2 (Or.inl (Nat.le_refl _))
    have h2 := (hM.2.2.2.1 n hn hu).1
    have h3 := (hX s hs hz).2.2.2 0 hz
    have e2 : st s - 1000 + 0 = n := by omega
    rw [e2] at h3
    omega
  · omega
/-- somebody's word -/
theorem mc_em_s (hS : mc_Slot mk sr st sz pc) (hD : mc_Dis sr st sz) (hX : mc_XS sr st sz pc S P R W) (hXW : mc_XW sr st sz W) (hM : mc_Mv sr st sz W words st' S' W' O' words' op')
    (hl : mc_LG sz l) (hI : mc_MI l m0 l.2 st st') (hpn : ∀ s, s < 30 → 0 < sz s → (pn ((st s - 1000) / 8) = 1 ↔ ∃ i, i < m0 ∧ i < l.2 ∧ l.1 i = s))
    {n U2 dc : Nat} {W2 S2 : Nat → Nat} (hn : n < 256) (hE : mc_EW st sz pn W' n W2) (hES : mc_ES l sr st sz st' S' n S2 U2 dc)
    (hu : mc_wo st sz (n / 8) ≠ 0) (hp : pn (n / 8) ≠ 1) (h0 : W2 n ≠ 0) :
    ∃ s, s < 30 ∧ 0 < sz s ∧ W2 n = sr s ∧ (S2 (sr s) = 1000 + n → ¬ mc_in l s ∧ st s = 1000 + n) ∧
      (S2 (sr s) ≠ 1000 + n → ∀ t, t < 30 → 0 < sz t → ¬ mc_in l t → st t < 1000 + n ∨ 1000 + (n + 1) ≤ st t) := by
  have h1 := (hE n hn).2 (Or.inl (Nat.le_refl _))
  have h2 := (hM.2.2.2.1 n hn hu).1
  rcases hXW n hn with c | ⟨s, hs, hz, c1, c2, c3⟩
  · exact absurd (h1.trans (h2.trans c)) h0
  have hb := (hS s hs).2.2 hz
  have epg : (st s - 1000) / 8 = n / 8 := by omega
  refine ⟨s, hs, hz, h1.trans (h2.trans c1), fun e => ?_, fun e t ht hzt hit => ?_⟩
  · rw [hES.1 s hs hz] at e
    by_cases d : ¬ mc_in l s ∧ st s < 1000 + n
    · rw [mc_if_t d] at e; omega
    · rw [mc_if_f d] at e
      have e1 : st' s = st s := by
        rcases hM.2.1 s hs hz with f | f
        · exact f
        · have f2 := f.2.1
          have e2 : (st' s - 1000) / 8 = n / 8 := by omega
          rw [e2] at f2
          exact absurd f2 hu
      refine ⟨fun hi => ?_, by omega⟩
      exact mc_hin hl hI hpn hs hz hi (by rw [epg]; exact hp) e1
  · by_cases d : st t = 1000 + n
    · exfalso
      have et : t = s := by
        by_cases et : t = s
        · exact et
        · have := (hD t s ht hs et hzt hz).2
          omega
      rw [et] at d hit
      apply e
      rw [hES.1 s hs hz, mc_if_f (fun c => by omega), mc_hout hI hs hit]
      exact d
    · omega
end
end
