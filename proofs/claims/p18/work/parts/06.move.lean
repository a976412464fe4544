/-! the picture in the middle of the moving: st, W, words before, st', W', words' now -/
section
variable {mk lim op U : Nat} {sr st sz pc S P R W O : Nat → Nat} {cell words : Nat → Int32}
def mc_Fr (sr st sz W' : Nat → Nat) (words : Nat → Int32) (st' : Nat → Nat) (words' : Nat → Int32) (s : Nat) : Prop :=
  1000 ≤ st' s ∧ mc_wo st sz ((st' s - 1000) / 8) = 0 ∧ (st' s - 1000) % 8 + sz s ≤ 8 ∧ (st' s - 1000) % 8 + sz s ≤ mc_wo st' sz ((st' s - 1000) / 8) ∧
  ∀ j, j < sz s → W' (st' s - 1000 + j) = sr s ∧ words' (st' s - 1000 + j) = words (st s - 1000 + j)
def mc_Mv (sr st sz W : Nat → Nat) (words : Nat → Int32) (st' S' W' O' : Nat → Nat) (words' : Nat → Int32) (op' : Nat) : Prop :=
  (∀ s, s < 30 → st' s ≤ 1255) ∧
  (∀ s, s < 30 → 0 < sz s → st' s = st s ∨ mc_Fr sr st sz W' words st' words' s) ∧
  mc_Dis sr st' sz ∧
  (∀ i, i < 256 → mc_wo st sz (i / 8) ≠ 0 → W' i = W i ∧ words' i = words i) ∧
  (∀ i, i < 256 → mc_wo st sz (i / 8) = 0 → W' i = 0 ∨ ∃ s, s < 30 ∧ 0 < sz s ∧ st' s ≠ st s ∧ W' i = sr s ∧ st' s ≤ 1000 + i ∧ 1000 + i < st' s + sz s) ∧
  (∀ s, s < 30 → 0 < sz s → S' (sr s) = st' s) ∧ mc_XZ sr sz S' ∧
  (∀ p, p < 32 → (mc_wo st sz p ≠ 0 → O' p = mc_wo st sz p) ∧ (mc_wo st sz p = 0 → O' p = mc_wo st' sz p)) ∧
  op' ≤ 32 ∧ (op' < 32 → mc_wo st sz op' = 0) ∧ (∀ p, p < 32 → mc_wo st sz p = 0 → p ≠ op' → mc_wo st' sz p = 0 ∨ 5 ≤ mc_wo st' sz p)
theorem mc_Mv_0 (hS : mc_Slot mk sr st sz pc) (hD : mc_Dis sr st sz) (hX : mc_XS sr st sz pc S P R W) (hXW : mc_XW sr st sz W) (hXZ : mc_XZ sr sz S)
    (hO : ∀ p, p < 32 → O p = mc_wo st sz p) : mc_Mv sr st sz W words st S W O words 32 := by
  refine ⟨fun s hs => (hS s hs).1, fun _ _ _ => Or.inl rfl, hD, fun _ _ _ => ⟨rfl, rfl⟩, fun i hi h0 => ?_, fun s hs hz => (hX s hs hz).1, hXZ,
    fun p hp => ⟨fun _ => hO p hp, fun _ => hO p hp⟩, Nat.le_refl _, fun h => absurd h (by omega), fun p _ h _ => Or.inl h⟩
  rcases hXW i hi with h | ⟨s, hs, hz, _, h1, h2⟩
  · exact Or.inl h
  · exfalso
    have hb := (hS s hs).2.2 hz
    have e : (st s - 1000) / 8 = i / 8 := by omega
    have := mc_wo_pos hS hs hz
    rw [e] at this
    exact this h0
/-- a free page is there when one is wanted -/
theorem mc_Mv_free {st' S' W' O' : Nat → Nat} {words' : Nat → Int32} {op' need : Nat} (hS : mc_Slot mk sr st sz pc) (hT : mc_Thin st sz op) (hU : mc_sm sz 30 ≤ 60)
    (hM : mc_Mv sr st sz W words st' S' W' O' words' op') (hn : need ≤ 4) (hw : op' = 32 ∨ 8 < mc_wo st' sz op' + need) :
    ∃ p, p < 32 ∧ O' p = 0 := by
  obtain ⟨m1, m2, m3, m4, m5, m6, m7, m8, m9, m10, m11⟩ := hM
  by_cases c : ∃ p, p < 32 ∧ O' p = 0
  · exact c
  · exfalso
    refine mc_free1 (O0 := fun p => mc_wo st sz p) (f := fun p => mc_wo st' sz p) (th := mc_th st sz op) (op := op)
      (Nat.le_trans (mc_wo_sum st sz 32) hU) (Nat.le_trans (mc_wo_sum st' sz 32) hU) hT (fun p hp => ?_)
    show 5 ≤ mc_wo st sz p + mc_wo st' sz p + 3 * mc_th st sz op p + (if p = op then 3 else 0)
    have h0 : O' p ≠ 0 := fun z => c ⟨p, hp, z⟩
    by_cases z : mc_wo st sz p = 0
    · have e := (m8 p hp).2 z
      by_cases ep : p = op'
      · rcases hw with h | h
        · omega
        · rw [← ep] at h
          omega
      · rcases m11 p hp z ep with h | h
        · omega
        · omega
    · have h2 := mc_wo_2 hS z
      unfold mc_th
      by_cases h5 : mc_wo st sz p < 5
      · by_cases eo : p = op
        · rw [if_pos eo]; omega
        · rw [if_pos (c := 0 < mc_wo st sz p ∧ mc_wo st sz p < 5 ∧ p ≠ op) ⟨by omega, h5, eo⟩]; omega
      · omega
theorem mc_Mv_s {st' S' W' O' : Nat → Nat} {words' : Nat → Int32} {op' : Nat} {W2 : Nat → Nat} {words2 : Nat → Int32} {s p w a : Nat}
    (hS : mc_Slot mk sr st sz pc) (hD : mc_Dis sr st sz)
    (hM : mc_Mv sr st sz W words st' S' W' O' words' op') (hs : s < 30) (hz : 0 < sz s) (he : st' s = st s)
    (hp : p < 32) (hf : mc_wo st sz p = 0) (hwp : mc_wo st' sz p = w) (ha : 1000 + 8 * p + w = a) (hw : w + sz s ≤ 8)
    (hop : p = op' ∨ (w = 0 ∧ (op' = 32 ∨ 8 < mc_wo st' sz op' + sz s)))
    (hw1 : ∀ j, j < sz s → words2 (8 * p + w + j) = words' (st s - 1000 + j) ∧ W2 (8 * p + w + j) = sr s)
    (hw2 : ∀ i, (i < 8 * p + w ∨ 8 * p + w + sz s ≤ i) → words2 i = words' i ∧ W2 i = W' i) :
    mc_Mv sr st sz W words (mc_up st' s a) (mc_up S' (sr s) a) W2 (mc_up O' p (w + sz s)) words2 p := by
  obtain ⟨m1, m2, m3, m4, m5, m6, m7, m8, m9, m10, m11⟩ := hM
  have hb := (hS s hs).2.2 hz
  have hb4 := (hS s hs).2.1
  have hb1 := (hS s hs).1
  have hps : (st s - 1000) / 8 ≠ p := fun e => by
    have := mc_wo_pos hS hs hz
    rw [e] at this
    exact this hf
  have h0p : mc_w st' sz p s = 0 := mc_w_f (by rw [he]; omega)
  have hwo1 : mc_wo (mc_up st' s a) sz p = w + sz s := by
    rw [← hwp]
    refine mc_sm_pt (k := s) 30 hs ?_ (fun i _ hi => mc_w_cg (mc_un hi) rfl)
    rw [mc_w_t (by rw [mc_us]; omega), h0p]; omega
  have hwo2 : ∀ q, mc_wo st sz q = 0 → q ≠ p → mc_wo (mc_up st' s a) sz q = mc_wo st' sz q := by
    intro q hq hqp
    have hqs : (st s - 1000) / 8 ≠ q := fun e => by
      have := mc_wo_pos hS hs hz
      rw [e] at this
      exact this hq
    refine mc_sm_congr 30 (fun i _ => ?_)
    by_cases e : i = s
    · rw [e, mc_w_f (st := st') (by rw [he]; omega), mc_w_f (by rw [mc_us]; omega)]
    · exact mc_w_cg (mc_un e) rfl
  have hsep : ∀ t, t < 30 → t ≠ s → 0 < sz t → st' t + sz t ≤ a ∨ a + sz s ≤ st' t := by
    intro t ht hts hzt
    have h := (hS t ht).2.2 hzt
    rw [← ha]
    rcases m2 t ht hzt with e | e
    · rw [e]
      refine mc_sep h.2.1 h.2.2.1 hw (fun e2 => ?_)
      have := mc_wo_pos hS ht hzt
      rw [e2] at this
      exact absurd hf this
    · refine mc_sep e.1 e.2.2.1 hw (fun e2 => ?_)
      have := e.2.2.2.1
      rw [e2, hwp] at this
      exact this
  refine ⟨?_, ?_, ?_, ?_, ?_, ?_, ?_, ?_, by omega, fun _ => hf, ?_⟩
  · intro t ht
    by_cases e : t = s
    · rw [e, mc_us]; omega
    · rw [mc_un e]; exact m1 t ht
  · intro t ht hzt
    by_cases e : t = s
    · right
      have e1 : (a - 1000) / 8 = p := by omega
      unfold mc_Fr
      rw [e, mc_us, e1, hwo1]
      refine ⟨by omega, hf, by omega, by omega, fun j hj => ?_⟩
      have e2 : a - 1000 + j = 8 * p + w + j := by omega
      rw [e2, (hw1 j hj).1, (hw1 j hj).2]
      refine ⟨rfl, (m4 (st s - 1000 + j) (by omega) ?_).2⟩
      have e3 : (st s - 1000 + j) / 8 = (st s - 1000) / 8 := by omega
      rw [e3]
      exact mc_wo_pos hS hs hz
    · rw [mc_un e]
      rcases m2 t ht hzt with c | c
      · exact Or.inl c
      · right
        have hd := hsep t ht e hzt
        obtain ⟨c1, c2, c3, c4, c5⟩ := c
        unfold mc_Fr
        rw [mc_un e]
        refine ⟨c1, c2, c3, ?_, fun j hj => ?_⟩
        · by_cases ep : (st' t - 1000) / 8 = p
          · rw [ep, hwp] at c4
            rw [ep, hwo1]; omega
          · rw [hwo2 _ c2 ep]; exact c4
        · have h3 := hw2 (st' t - 1000 + j) (by omega)
          rw [h3.1, h3.2]
          exact c5 j hj
  · intro x t hx ht hne h1 h2
    refine ⟨(m3 x t hx ht hne h1 h2).1, ?_⟩
    by_cases e : x = s
    · have e2 : t ≠ s := fun z => hne (by rw [e, z])
      rw [e, mc_us, mc_un e2]
      have := hsep t ht e2 h2
      omega
    · by_cases e2 : t = s
      · rw [e2, mc_us, mc_un e]
        have := hsep x hx e h1
        omega
      · rw [mc_un e, mc_un e2]
        exact (m3 x t hx ht hne h1 h2).2
  · intro i hi h
    have hin : i < 8 * p + w ∨ 8 * p + w + sz s ≤ i := by
      by_cases c : i / 8 = p
      · rw [c] at h; exact absurd hf h
      · omega
    have h3 := hw2 i hin
    rw [h3.1, h3.2]
    exact m4 i hi h
  · intro i hi h
    by_cases c : 8 * p + w ≤ i ∧ i < 8 * p + w + sz s
    · right
      refine ⟨s, hs, hz, ?_⟩
      rw [mc_us]
      refine ⟨by omega, ?_, by omega, by omega⟩
      rw [← (hw1 (i - (8 * p + w)) (by omega)).2]
      exact congrArg W2 (by omega)
    · rw [(hw2 i (by omega)).2]
      rcases m5 i hi h with c2 | ⟨t, ht, h1, h2, h3, h4⟩
      · exact Or.inl c2
      · have e : t ≠ s := fun z => h2 (by rw [z]; exact he)
        refine Or.inr ⟨t, ht, h1, ?_⟩
        rw [mc_un e]
        exact ⟨h2, h3, h4⟩
  · intro t ht hzt
    by_cases e : t = s
    · rw [e, mc_us, mc_us]
    · rw [mc_un e, mc_un (m3 t s ht hs e hzt hz).1]
      exact m6 t ht hzt
  · intro v
    by_cases e : v = sr s
    · exact Or.inr ⟨s, hs, hz, e⟩
    · rw [mc_un e]; exact m7 v
  · intro q hq
    by_cases e : q = p
    · rw [e, mc_us, hwo1]
      exact ⟨fun h => absurd hf h, fun _ => rfl⟩
    · rw [mc_un e]
      refine ⟨(m8 q hq).1, fun h => ?_⟩
      rw [hwo2 q h e]
      exact (m8 q hq).2 h
  · intro q hq h0 hne
    rw [hwo2 q h0 hne]
    by_cases e : q = op'
    · rcases hop with h | ⟨_, h | h⟩
      · omega
      · omega
      · rw [← e] at h
        omega
    · exact m11 q hq h0 e
/-- which slots have moved when the list has been walked up to n -/
def mc_MI (l : (Nat → Nat) × Nat) (m0 n : Nat) (st st' : Nat → Nat) : Prop :=
  (∀ s, s < 30 → (∀ i, m0 ≤ i → i < n → i < l.2 → l.1 i ≠ s) → st' s = st s) ∧ (∀ i, m0 ≤ i → i < n → i < l.2 → st' (l.1 i) ≠ st (l.1 i))
theorem mc_MI_0 {l : (Nat → Nat) × Nat} {m0 : Nat} {st : Nat → Nat} : mc_MI l m0 m0 st st :=
  ⟨fun _ _ _ => rfl, fun i h1 h2 _ => absurd h2 (by omega)⟩
theorem mc_MI_s {l : (Nat → Nat) × Nat} {m0 n a : Nat} {st' : Nat → Nat} (hl : mc_LG sz l) (hn : n < l.2) (h0 : m0 ≤ n) (h : mc_MI l m0 n st st') (ha : a ≠ st (l.1 n)) :
    mc_MI l m0 (n + 1) st (mc_up st' (l.1 n) a) := by
  constructor
  · intro s hs hi
    have e : s ≠ l.1 n := fun z => hi n h0 (by omega) hn z.symm
    rw [mc_un e]
    exact h.1 s hs (fun i h1 h2 h3 => hi i h1 (by omega) h3)
  · intro i h1 h2 h3
    by_cases e : i = n
    · rw [e, mc_us]; exact ha
    · rw [mc_un (hl.2 i n (by omega) hn)]
      exact h.2 i h1 (by omega) h3
theorem mc_MI_un {l : (Nat → Nat) × Nat} {m0 n : Nat} {st' : Nat → Nat} (hl : mc_LG sz l) (h : mc_MI l m0 n st st') {i : Nat} (hi : i < l.2) (hc : i < m0 ∨ n ≤ i) : st' (l.1 i) = st (l.1 i) := by
  refine h.1 _ (hl.1 i hi).1 (fun j h1 h2 h3 => ?_)
  by_cases e : j < i
  · exact hl.2 j i e hi
  · exact fun z => hl.2 i j (by omega) h3 z.symm
end
