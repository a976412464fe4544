/-! the picture when an object is placed -/
section
variable {mk : Nat} {sr st sz pc S P R W O : Nat → Nat}
theorem mc_sep {x n p w m : Nat} (h0 : 1000 ≤ x) (h1 : (x - 1000) % 8 + n ≤ 8) (h2 : w + m ≤ 8) (h3 : (x - 1000) / 8 = p → (x - 1000) % 8 + n ≤ w) :
    x + n ≤ 1000 + 8 * p + w ∨ 1000 + 8 * p + w + m ≤ x := by
  by_cases h : (x - 1000) / 8 = p
  · have := h3 h
    omega
  · omega
theorem mc_w_cg {st sz st' sz' : Nat → Nat} {p s : Nat} (h1 : st' s = st s) (h2 : sz' s = sz s) : mc_w st' sz' p s = mc_w st sz p s := by
  unfold mc_w
  rw [h1, h2]
theorem mc_sm_pos {f : Nat → Nat} {n : Nat} (h : 0 < mc_sm f n) : ∃ i, i < n ∧ 0 < f i := by
  by_cases c : ∃ i, i < n ∧ 0 < f i
  · exact c
  · have := mc_sm_0 (f := f) n (fun i hi => by
      by_cases z : f i = 0
      · exact z
      · exact absurd ⟨i, hi, by omega⟩ c)
    omega
theorem mc_wo_2 (hS : mc_Slot mk sr st sz pc) {p : Nat} (h : mc_wo st sz p ≠ 0) : 2 ≤ mc_wo st sz p := by
  obtain ⟨s, hs, h1⟩ := mc_sm_pos (f := mc_w st sz p) (n := 30) (Nat.pos_of_ne_zero h)
  have h2 := mc_w_le st sz p s
  have h3 : mc_w st sz p s ≤ mc_wo st sz p := mc_sm_ge (f := mc_w st sz p) hs
  by_cases c : 1000 + 8 * p ≤ st s ∧ st s < 1000 + 8 * p + 8
  · rw [mc_w_t c] at h3
    have := (hS s hs).2.2 (by omega)
    omega
  · rw [mc_w_f c] at h1
    omega
/-- the page of a live slot is in use -/
theorem mc_wo_pos (hS : mc_Slot mk sr st sz pc) {s : Nat} (hs : s < 30) (hz : 0 < sz s) : mc_wo st sz ((st s - 1000) / 8) ≠ 0 := by
  have h := (hS s hs).2.2 hz
  have h3 : mc_w st sz ((st s - 1000) / 8) s ≤ mc_wo st sz ((st s - 1000) / 8) := mc_sm_ge (f := mc_w st sz ((st s - 1000) / 8)) hs
  rw [mc_w_t (by omega)] at h3
  omega
theorem mc_free0 (hS : mc_Slot mk sr st sz pc) (hU : mc_sm sz 30 ≤ 60) : ∃ p, p < 32 ∧ mc_wo st sz p = 0 := by
  by_cases c : ∃ p, p < 32 ∧ mc_wo st sz p = 0
  · exact c
  · have h1 := mc_sm_le (f := fun _ => 2) (g := fun p => mc_wo st sz p) 32 (fun p hp => mc_wo_2 hS (fun z => c ⟨p, hp, z⟩))
    rw [mc_sm_c] at h1
    have h2 := mc_wo_sum st sz 32
    omega
/-- a free page in the middle of a collection: O0 are the words before, f those now -/
theorem mc_free1 {O0 f th : Nat → Nat} {op : Nat} (h1 : mc_sm O0 32 ≤ 60) (h2 : mc_sm f 32 ≤ 60) (h3 : mc_sm th 32 ≤ 8)
    (h : ∀ p, p < 32 → 5 ≤ O0 p + f p + 3 * th p + (if p = op then 3 else 0)) : False := by
  have a := mc_sm_le (f := fun _ => 5) (g := fun p => O0 p + f p + 3 * th p + (if p = op then 3 else 0)) 32 h
  rw [mc_sm_c, mc_sm_add (fun p => O0 p + f p + 3 * th p) (fun p => if p = op then 3 else 0), mc_sm_add (fun p => O0 p + f p) (fun p => 3 * th p), mc_sm_add O0 f, mc_sm_mul] at a
  have b : mc_sm (fun p => if p = op then 3 else 0) 32 ≤ 3 := mc_sm_one (k := op) 32 (fun i _ hi => if_neg hi) (fun _ => by
    show (if op = op then 3 else 0) ≤ 3
    rw [if_pos rfl]; exact Nat.le_refl _)
  omega
/-- a free slot -/
theorem mc_slot0 (hS : mc_Slot mk sr st sz pc) (hU : mc_sm sz 30 < 60) : ∃ s, s < 30 ∧ sz s = 0 := by
  by_cases c : ∃ s, s < 30 ∧ sz s = 0
  · exact c
  · have h1 := mc_sm_le (f := fun _ => 2) (g := sz) 30 (fun s hs => by
      have h0 : sz s ≠ 0 := fun z => c ⟨s, hs, z⟩
      have := (hS s hs).2.2 (by omega)
      exact this.1)
    rw [mc_sm_c] at h1
    omega
section
variable {lim op U s need np nr p w a : Nat} {cell words cell' words' : Nat → Int32} {W' : Nat → Nat}
theorem mc_wo_new (hs : s < 30) (hz : sz s = 0) (hwp : mc_wo st sz p = w) (ha : 1000 + 8 * p + w = a) (hw : w + need ≤ 8) (hn : 0 < need) :
    mc_wo (mc_up st s a) (mc_up sz s need) p = w + need ∧
    ∀ q, q ≠ p → mc_wo (mc_up st s a) (mc_up sz s need) q = mc_wo st sz q := by
  have hz0 : ∀ q, mc_w st sz q s = 0 := fun q => by have := mc_w_le st sz q s; omega
  constructor
  · rw [← hwp]
    refine mc_sm_pt (k := s) 30 hs ?_ (fun i _ hi => mc_w_cg (mc_un hi) (mc_un hi))
    rw [mc_w_t (by rw [mc_us]; omega), mc_us, hz0]; omega
  · intro q hq
    refine mc_sm_congr 30 (fun i _ => ?_)
    by_cases e : i = s
    · rw [e, hz0, mc_w_f (by rw [mc_us]; omega)]
    · exact mc_w_cg (mc_un e) (mc_un e)
theorem mc_alloc (hG : mc_G mk lim op sr st sz pc cell words S P R W O U) (hs : s < 30) (hz : sz s = 0)
    (hn : 1 + np + nr = need) (hn2 : 2 ≤ need) (hn4 : need ≤ 4) (hU : U + need ≤ lim) (hm : mk < 4095) (hp : p < 32) (hwp : mc_wo st sz p = w) (ha : 1000 + 8 * p + w = a) (hw : w + need ≤ 8)
    (hop : p = op ∨ (w = 0 ∧ (op = 32 ∨ 8 < mc_wo st sz op + need)))
    (hc1 : ∀ k, k < 3 → cell' (3 * s + k) = 0) (hc2 : ∀ j, (j < 3 * s ∨ 3 * s + 3 ≤ j) → cell' j = cell j)
    (hw1 : ∀ j, j < need → words' (8 * p + w + j) = 0 ∧ W' (8 * p + w + j) = mk + 1)
    (hw2 : ∀ i, (i < 8 * p + w ∨ 8 * p + w + need ≤ i) → words' i = words i ∧ W' i = W i) :
    mc_G (mk + 1) lim p (mc_up sr s (mk + 1)) (mc_up st s a) (mc_up sz s need) (mc_up pc s np) cell' words'
      (mc_up S (mk + 1) a) (mc_up P (mk + 1) np) (mc_up R (mk + 1) nr) W' (mc_up O p (w + need)) (U + need) := by
  obtain ⟨hS, hD, hF, hX, hXW, hXZ, hC, hP0, hO, hT, hU1, hU2, hL, hop2, hmk⟩ := hG
  have hwo := mc_wo_new (st := st) hs hz hwp ha hw (by omega : 0 < need)
  have hsep : ∀ t, t < 30 → 0 < sz t → st t + sz t ≤ a ∨ a + need ≤ st t := by
    intro t ht hzt
    have h := (hS t ht).2.2 hzt
    have hf := hF t ht hzt
    rw [← ha]
    exact mc_sep h.2.1 h.2.2.1 hw (fun e => by rw [e, hwp] at hf; exact hf)
  have hts : ∀ t, 0 < sz t → t ≠ s := fun t ht e => by rw [e] at ht; omega
  refine ⟨?_, ?_, ?_, ?_, ?_, ?_, ?_, ?_, ?_, ?_, ?_, ?_, hL, by omega, by omega⟩
  · intro t ht
    by_cases e : t = s
    · rw [e, mc_us, mc_us, mc_us, mc_us]
      refine ⟨by omega, hn4, fun _ => ⟨hn2, by omega, by omega, by omega, by omega, by omega⟩⟩
    · rw [mc_un e, mc_un e, mc_un e, mc_un e]
      obtain ⟨h1, h2, h3⟩ := hS t ht
      refine ⟨h1, h2, fun hz => ?_⟩
      obtain ⟨b1, b2, b3, b4, b5, b6⟩ := h3 hz
      exact ⟨b1, b2, b3, b4, by omega, b6⟩
  · intro x t hx ht hne h1 h2
    by_cases e : x = s
    · have e2 : t ≠ s := fun z => hne (by rw [e, z])
      rw [mc_un e2] at h2
      rw [e, mc_us, mc_us, mc_us, mc_un e2, mc_un e2, mc_un e2]
      have h := (hS t ht).2.2 h2
      have h4 := hsep t ht h2
      exact ⟨by omega, by omega⟩
    · rw [mc_un e] at h1
      by_cases e2 : t = s
      · rw [e2, mc_us, mc_us, mc_us, mc_un e, mc_un e, mc_un e]
        have h := (hS x hx).2.2 h1
        have h4 := hsep x hx h1
        exact ⟨by omega, by omega⟩
      · rw [mc_un e2] at h2
        rw [mc_un e, mc_un e, mc_un e, mc_un e2, mc_un e2, mc_un e2]
        exact hD x t hx ht hne h1 h2
  · intro t ht h
    by_cases e : t = s
    · rw [e, mc_us, mc_us]
      have e1 : (a - 1000) / 8 = p := by omega
      rw [e1, hwo.1]
      omega
    · rw [mc_un e] at h
      rw [mc_un e, mc_un e]
      have hf := hF t ht h
      by_cases e1 : (st t - 1000) / 8 = p
      · rw [e1, hwo.1]
        rw [e1, hwp] at hf
        omega
      · rw [hwo.2 _ e1]
        exact hf
  · intro t ht h
    by_cases e : t = s
    · rw [e, mc_us, mc_us, mc_us, mc_us, mc_us, mc_us, mc_us]
      refine ⟨rfl, rfl, by omega, fun j hj => ?_⟩
      rw [← (hw1 j hj).2]
      exact congrArg W' (by omega)
    · rw [mc_un e] at h
      have hb := (hS t ht).2.2 h
      have h4 := hsep t ht h
      obtain ⟨x1, x2, x3, x4⟩ := hX t ht h
      have en : sr t ≠ mk + 1 := by omega
      rw [mc_un e, mc_un e, mc_un e, mc_un e, mc_un en, mc_un en, mc_un en]
      refine ⟨x1, x2, x3, fun j hj => ?_⟩
      rw [(hw2 (st t - 1000 + j) (by omega)).2]
      exact x4 j hj
  · intro i hi
    by_cases c : 8 * p + w ≤ i ∧ i < 8 * p + w + need
    · right
      refine ⟨s, hs, ?_⟩
      rw [mc_us, mc_us, mc_us]
      refine ⟨by omega, ?_, by omega, by omega⟩
      rw [← (hw1 (i - (8 * p + w)) (by omega)).2]
      exact congrArg W' (by omega)
    · rw [(hw2 i (by omega)).2]
      rcases hXW i hi with h | ⟨t, ht, h1, h2, h3, h4⟩
      · exact Or.inl h
      · have e := hts t h1
        refine Or.inr ⟨t, ht, ?_⟩
        rw [mc_un e, mc_un e, mc_un e]
        exact ⟨h1, h2, h3, h4⟩
  · intro v
    by_cases e : v = mk + 1
    · exact Or.inr ⟨s, hs, by rw [mc_us]; omega, by rw [mc_us]; exact e⟩
    · rw [mc_un e]
      rcases hXZ v with h | ⟨t, ht, h1, h2⟩
      · exact Or.inl h
      · have e := hts t h1
        exact Or.inr ⟨t, ht, by rw [mc_un e]; exact h1, by rw [mc_un e]; exact h2⟩
  · intro t ht h k hk
    show mc_LC (mc_up sr s (mk + 1)) (mc_up st s a) (mc_up sz s need) (mc_up pc s np) t k (cell' (3 * t + k)) (words' (mc_up st s a t - 1000 + 1 + k))
    by_cases e : t = s
    · rw [e, mc_us] at hk
      rw [e, mc_us]
      have e1 : words' (a - 1000 + 1 + k) = 0 := by
        rw [← (hw1 (1 + k) (by omega)).1]
        exact congrArg words' (by omega)
      have e2 := hc1 k (by omega)
      rw [e1, e2]
      exact ⟨fun _ => Or.inl ⟨rfl, rfl⟩, fun _ => rfl⟩
    · rw [mc_un e] at h hk
      rw [mc_un e]
      have hb := (hS t ht).2.2 h
      have hb4 := (hS t ht).2.1
      have h4 := hsep t ht h
      have q : mc_LC sr st sz pc t k (cell (3 * t + k)) (words (st t - 1000 + 1 + k)) := hC t ht h k hk
      rw [(hw2 (st t - 1000 + 1 + k) (by omega)).1, hc2 (3 * t + k) (by omega)]
      obtain ⟨q1, q2⟩ := q
      refine ⟨fun hk => ?_, fun hk => ?_⟩
      · rw [mc_un e] at hk
        rcases q1 hk with z | ⟨x, hx, y1, y2, y3⟩
        · exact Or.inl z
        · have ex := hts x y1
          refine Or.inr ⟨x, hx, ?_⟩
          rw [mc_un ex, mc_un ex, mc_un ex]
          exact ⟨y1, y2, y3⟩
      · rw [mc_un e] at hk
        exact q2 hk
  · rw [mc_un (by omega), mc_un (by omega)]
    exact hP0
  · intro q hq
    by_cases e : q = p
    · rw [e, mc_us, hwo.1]
    · rw [mc_un e, hwo.2 q e]
      exact hO q hq
  · refine Nat.le_trans (mc_sm_le 32 (fun q hq => ?_)) hT
    unfold mc_th
    by_cases e : q = p
    · rw [if_neg (fun z => z.2.2 e)]
      exact Nat.zero_le _
    · rw [hwo.2 q e]
      by_cases c : 0 < mc_wo st sz q ∧ mc_wo st sz q < 5 ∧ q ≠ p
      · have hne : q ≠ op := by
          intro z
          rw [z] at c e hq
          rcases hop with h | ⟨_, h | h⟩
          · exact e h.symm
          · omega
          · omega
        rw [if_pos c, if_pos ⟨c.1, c.2.1, hne⟩]
        exact Nat.le_refl _
      · rw [if_neg c]
        exact Nat.zero_le _
  · rw [hU1]
    refine (mc_sm_pt (k := s) 30 hs ?_ (fun i _ hi => mc_un hi)).symm
    rw [mc_us, hz]; omega
  · exact hU
end
end
