/-! the picture when a collection ends -/
section
variable {mk lim op U : Nat} {sr st sz pc S P R W O : Nat → Nat} {cell words : Nat → Int32}
theorem mc_fin {st' S' W' O' : Nat → Nat} {words' : Nat → Int32} {op' m0 : Nat} {l : (Nat → Nat) × Nat} {pn sz2 S2 W2 O2 : Nat → Nat} {words2 : Nat → Int32}
    (hG : mc_G mk lim op sr st sz pc cell words S P R W O U) (hM : mc_Mv sr st sz W words st' S' W' O' words' op') (hl : mc_LG sz l) (hI : mc_MI l m0 l.2 st st')
    (hpn : ∀ s, s < 30 → 0 < sz s → (pn ((st s - 1000) / 8) = 1 ↔ ∃ i, i < m0 ∧ i < l.2 ∧ l.1 i = s)) (hpc : mc_sm pn 32 ≤ 8)
    (hcl : ∀ s k t, mc_in l s → k < pc s → t < 30 → 0 < sz t → cell (3 * s + k) = nI (sr t) → mc_in l t)
    (hz1 : ∀ s, s < 30 → mc_in l s → sz2 s = sz s) (hz0 : ∀ s, s < 30 → ¬ mc_in l s → sz2 s = 0)
    (hC2 : ∀ s, s < 30 → mc_in l s → ∀ k, k + 1 < sz s → mc_LC sr st' sz pc s k (cell (3 * s + k)) (words2 (st' s - 1000 + 1 + k)))
    (hS1 : ∀ s, s < 30 → mc_in l s → 0 < sz s → S2 (sr s) = st' s) (hS0 : ∀ s, s < 30 → ¬ mc_in l s → 0 < sz s → S2 (sr s) = 0)
    (hSv : ∀ v, S2 v = 0 ∨ S2 v = S' v)
    (hW0 : ∀ i, i < 256 → mc_wo st sz (i / 8) ≠ 0 → pn (i / 8) ≠ 1 → W2 i = 0) (hW1 : ∀ i, i < 256 → (mc_wo st sz (i / 8) = 0 ∨ pn (i / 8) = 1) → W2 i = W' i)
    (hO0 : ∀ p, p < 32 → mc_wo st sz p ≠ 0 → pn p ≠ 1 → O2 p = 0) (hO1 : ∀ p, p < 32 → (mc_wo st sz p = 0 ∨ pn p = 1) → O2 p = O' p) :
    mc_G mk lim op' sr st' sz2 pc cell words2 S2 P R W2 O2 (mc_sm sz2 30) := by
  obtain ⟨hS, hD, hF, hX, hXW, hXZ, hC, hP0, hO, hT, hU1, hU2, hL, hop2, hmk⟩ := hG
  obtain ⟨m1, m2, m3, m4, m5, m6, m7, m8, m9, m10, m11⟩ := hM
  have hmov : ∀ s, s < 30 → 0 < sz s → st' s ≠ st s → mc_Fr sr st sz W' words st' words' s := by
    intro s hs hz hne
    rcases m2 s hs hz with h | h
    · exact absurd h hne
    · exact h
  have hin : ∀ s, s < 30 → 0 < sz s → mc_in l s → (pn ((st s - 1000) / 8) = 1 ∧ st' s = st s) ∨ (pn ((st s - 1000) / 8) ≠ 1 ∧ st' s ≠ st s) := by
    intro s hs hz hi
    by_cases c : pn ((st s - 1000) / 8) = 1
    · left
      obtain ⟨i, h1, h2, h3⟩ := (hpn s hs hz).mp c
      refine ⟨c, ?_⟩
      rw [← h3]
      exact mc_MI_un hl hI h2 (Or.inl h1)
    · right
      refine ⟨c, ?_⟩
      obtain ⟨i, h2, h3⟩ := hi
      have h1 : m0 ≤ i := by
        by_cases z : m0 ≤ i
        · exact z
        · exact absurd ((hpn s hs hz).mpr ⟨i, by omega, h2, h3⟩) c
      rw [← h3]
      exact hI.2 i h1 h2 h2
  have hout : ∀ s, s < 30 → 0 < sz s → ¬ mc_in l s → pn ((st s - 1000) / 8) ≠ 1 ∧ st' s = st s := by
    intro s hs hz hi
    refine ⟨fun c => ?_, hI.1 s hs (fun i _ h2 h3 h4 => hi ⟨i, h3, h4⟩)⟩
    obtain ⟨i, h1, h2, h3⟩ := (hpn s hs hz).mp c
    exact hi ⟨i, h2, h3⟩
  have hz2 : ∀ s, s < 30 → 0 < sz2 s → mc_in l s ∧ sz2 s = sz s ∧ 0 < sz s := by
    intro s hs hz
    by_cases c : mc_in l s
    · have := hz1 s hs c
      exact ⟨c, this, by omega⟩
    · have := hz0 s hs c
      omega
  have hwp := fun s hs hz => mc_wo_pos (s := s) hS hs hz
  have hwa : ∀ p, mc_wo st sz p = 0 → mc_wo st' sz2 p = mc_wo st' sz p := by
    intro p hp
    refine mc_sm_congr 30 (fun s hs => ?_)
    by_cases c : mc_in l s
    · exact mc_w_cg rfl (hz1 s hs c)
    · have h1 := mc_w_le st' sz2 p s
      rw [hz0 s hs c] at h1
      have h2 : mc_w st' sz p s = 0 := by
        by_cases z : 0 < sz s
        · have e := (hout s hs z c).2
          have hb := (hS s hs).2.2 z
          refine mc_w_f (fun hh => ?_)
          rw [e] at hh
          have e2 : (st s - 1000) / 8 = p := by omega
          have := hwp s hs z
          rw [e2] at this
          exact this hp
        · have := mc_w_le st' sz p s
          omega
      omega
  have hwb : ∀ p, mc_wo st sz p ≠ 0 → pn p = 1 → mc_wo st' sz2 p = mc_wo st sz p := by
    intro p hp hq
    refine mc_sm_congr 30 (fun s hs => ?_)
    have hoff : 0 < sz s → pn ((st s - 1000) / 8) ≠ 1 → mc_w st sz p s = 0 := by
      intro z hne
      have hb := (hS s hs).2.2 z
      refine mc_w_f (fun hh => ?_)
      have e2 : (st s - 1000) / 8 = p := by omega
      rw [e2] at hne
      exact hne hq
    by_cases z : 0 < sz s
    · by_cases c : mc_in l s
      · rcases hin s hs z c with ⟨_, h2⟩ | ⟨h1, h2⟩
        · exact mc_w_cg h2 (hz1 s hs c)
        · rw [hoff z h1]
          obtain ⟨f1, f2, f3, f4, f5⟩ := hmov s hs z h2
          refine mc_w_f (fun hh => ?_)
          have e2 : (st' s - 1000) / 8 = p := by omega
          rw [e2] at f2
          exact hp f2
      · have h1 := mc_w_le st' sz2 p s
        rw [hz0 s hs c] at h1
        have := hoff z (hout s hs z c).1
        omega
    · have h1 := mc_w_le st' sz2 p s
      have h2 := mc_w_le st sz p s
      have h3 : sz2 s = 0 := by
        by_cases c : mc_in l s
        · have := hz1 s hs c; omega
        · exact hz0 s hs c
      omega
  have hwc : ∀ p, mc_wo st sz p ≠ 0 → pn p ≠ 1 → mc_wo st' sz2 p = 0 := by
    intro p hp hq
    refine mc_sm_0 30 (fun s hs => ?_)
    by_cases z : 0 < sz2 s
    · obtain ⟨c, e, zz⟩ := hz2 s hs z
      have hb := (hS s hs).2.2 zz
      refine mc_w_f (fun hh => ?_)
      rcases hin s hs zz c with ⟨h1, h2⟩ | ⟨h1, h2⟩
      · rw [h2] at hh
        have e2 : (st s - 1000) / 8 = p := by omega
        rw [e2] at h1
        exact hq h1
      · obtain ⟨f1, f2, f3, f4, f5⟩ := hmov s hs zz h2
        have e2 : (st' s - 1000) / 8 = p := by omega
        rw [e2] at f2
        exact hp f2
    · have h1 := mc_w_le st' sz2 p s
      omega
  refine ⟨?_, ?_, ?_, ?_, ?_, ?_, ?_, hP0, ?_, ?_, rfl, ?_, hL, m9, hmk⟩
  · intro s hs
    obtain ⟨a1, a2, a3⟩ := hS s hs
    refine ⟨m1 s hs, ?_, fun z => ?_⟩
    · by_cases c : mc_in l s
      · rw [hz1 s hs c]; exact a2
      · rw [hz0 s hs c]; omega
    · obtain ⟨c, e, zz⟩ := hz2 s hs z
      obtain ⟨b1, b2, b3, b4, b5, b6⟩ := a3 zz
      rw [e]
      rcases hin s hs zz c with ⟨h1, h2⟩ | ⟨h1, h2⟩
      · rw [h2]; exact ⟨b1, b2, b3, b4, b5, b6⟩
      · obtain ⟨f1, f2, f3, f4, f5⟩ := hmov s hs zz h2
        exact ⟨b1, f1, f3, b4, b5, b6⟩
  · intro s t hs ht hne h1 h2
    obtain ⟨_, e1, z1⟩ := hz2 s hs h1
    obtain ⟨_, e2, z2⟩ := hz2 t ht h2
    rw [e1, e2]
    exact m3 s t hs ht hne z1 z2
  · intro s hs h1
    obtain ⟨c, e, z⟩ := hz2 s hs h1
    have hb := (hS s hs).2.2 z
    rw [e]
    rcases hin s hs z c with ⟨g1, g2⟩ | ⟨g1, g2⟩
    · rw [g2, hwb _ (hwp s hs z) g1]
      exact hF s hs z
    · obtain ⟨f1, f2, f3, f4, f5⟩ := hmov s hs z g2
      rw [hwa _ f2]
      exact f4
  · intro s hs h1
    obtain ⟨c, e, z⟩ := hz2 s hs h1
    have hb := (hS s hs).2.2 z
    have hb1 := (hS s hs).1
    obtain ⟨x1, x2, x3, x4⟩ := hX s hs z
    rw [e]
    refine ⟨hS1 s hs c z, x2, x3, fun j hj => ?_⟩
    rcases hin s hs z c with ⟨g1, g2⟩ | ⟨g1, g2⟩
    · rw [g2]
      have e3 : (st s - 1000 + j) / 8 = (st s - 1000) / 8 := by omega
      rw [hW1 (st s - 1000 + j) (by omega) (Or.inr (by rw [e3]; exact g1)), (m4 (st s - 1000 + j) (by omega) (by rw [e3]; exact hwp s hs z)).1]
      exact x4 j hj
    · obtain ⟨f1, f2, f3, f4, f5⟩ := hmov s hs z g2
      have m := m1 s hs
      have e3 : (st' s - 1000 + j) / 8 = (st' s - 1000) / 8 := by omega
      rw [hW1 (st' s - 1000 + j) (by omega) (Or.inl (by rw [e3]; exact f2))]
      exact (f5 j hj).1
  · intro i hi
    by_cases c0 : mc_wo st sz (i / 8) = 0
    · rw [hW1 i hi (Or.inl c0)]
      rcases m5 i hi c0 with h | ⟨s, hs, h1, h2, h3, h4⟩
      · exact Or.inl h
      · have c : mc_in l s := by
          by_cases c : mc_in l s
          · exact c
          · exact absurd (hout s hs h1 c).2 h2
        refine Or.inr ⟨s, hs, ?_⟩
        rw [hz1 s hs c]
        exact ⟨h1, h3, h4⟩
    · by_cases c1 : pn (i / 8) = 1
      · rw [hW1 i hi (Or.inr c1), (m4 i hi c0).1]
        rcases hXW i hi with h | ⟨s, hs, h1, h2, h3, h4⟩
        · exact Or.inl h
        · have hb := (hS s hs).2.2 h1
          have e : (st s - 1000) / 8 = i / 8 := by omega
          obtain ⟨j, j1, j2, j3⟩ := (hpn s hs h1).mp (by rw [e]; exact c1)
          have c : mc_in l s := ⟨j, j2, j3⟩
          have e2 : st' s = st s := by
            rw [← j3]
            exact mc_MI_un hl hI j2 (Or.inl j1)
          refine Or.inr ⟨s, hs, ?_⟩
          rw [hz1 s hs c, e2]
          exact ⟨h1, h2, h3, h4⟩
      · exact Or.inl (hW0 i hi c0 c1)
  · intro v
    rcases hSv v with h | h
    · exact Or.inl h
    · rcases m7 v with h2 | ⟨s, hs, h1, h2⟩
      · exact Or.inl (by rw [h]; exact h2)
      · by_cases c : mc_in l s
        · exact Or.inr ⟨s, hs, by rw [hz1 s hs c]; exact h1, h2⟩
        · left
          rw [h2]
          exact hS0 s hs c h1
  · intro s hs h1 k hk
    obtain ⟨c, e, z⟩ := hz2 s hs h1
    rw [e] at hk
    obtain ⟨q1, q2⟩ := hC2 s hs c k hk
    refine ⟨fun hk2 => ?_, q2⟩
    rcases q1 hk2 with h | ⟨t, ht, t1, t2, t3⟩
    · exact Or.inl h
    · have ct := hcl s k t c hk2 ht t1 t2
      refine Or.inr ⟨t, ht, ?_, t2, t3⟩
      rw [hz1 t ht ct]
      exact t1
  · intro p hp
    by_cases c0 : mc_wo st sz p = 0
    · rw [hO1 p hp (Or.inl c0), hwa p c0]
      exact (m8 p hp).2 c0
    · by_cases c1 : pn p = 1
      · rw [hO1 p hp (Or.inr c1), hwb p c0 c1]
        exact (m8 p hp).1 c0
      · rw [hO0 p hp c0 c1, hwc p c0 c1]
  · refine Nat.le_trans (mc_sm_le 32 (fun p hp => ?_)) hpc
    unfold mc_th
    by_cases c : 0 < mc_wo st' sz2 p ∧ mc_wo st' sz2 p < 5 ∧ p ≠ op'
    · rw [if_pos c]
      obtain ⟨d1, d2, d3⟩ := c
      by_cases c0 : mc_wo st sz p = 0
      · rw [hwa p c0] at d1 d2
        have := m11 p hp c0 d3
        omega
      · by_cases c1 : pn p = 1
        · omega
        · have := hwc p c0 c1
          omega
    · rw [if_neg c]
      exact Nat.zero_le _
  · refine Nat.le_trans (mc_sm_le 30 (fun s hs => ?_)) (by rw [← hU1]; exact hU2 : mc_sm sz 30 ≤ lim)
    by_cases c : mc_in l s
    · rw [hz1 s hs c]; exact Nat.le_refl _
    · rw [hz0 s hs c]; exact Nat.zero_le _
end
