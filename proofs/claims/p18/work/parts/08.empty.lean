/-! redirecting and emptying, as pictures -/
noncomputable def mc_if (c : Prop) (a b : Nat) : Nat := @ite Nat c (Classical.propDecidable c) a b
theorem mc_if_t {c : Prop} {a b : Nat} (h : c) : mc_if c a b = a := if_pos h
theorem mc_if_f {c : Prop} {a b : Nat} (h : ¬ c) : mc_if c a b = b := if_neg h
theorem mc_if_cg {c d : Prop} {a b : Nat} (h : c ↔ d) : mc_if c a b = mc_if d a b := by
  by_cases z : c
  · rw [mc_if_t z, mc_if_t (h.mp z)]
  · rw [mc_if_f z, mc_if_f (fun y => z (h.mpr y))]
section
variable {mk lim op U : Nat} {sr st sz pc S P R W O : Nat → Nat} {cell words : Nat → Int32} {l : (Nat → Nat) × Nat}
theorem mc_Mv_Slot {st' S' W' O' : Nat → Nat} {words' : Nat → Int32} {op' : Nat} (hS : mc_Slot mk sr st sz pc) (hM : mc_Mv sr st sz W words st' S' W' O' words' op') : mc_Slot mk sr st' sz pc := by
  intro s hs
  obtain ⟨a1, a2, a3⟩ := hS s hs
  refine ⟨hM.1 s hs, a2, fun z => ?_⟩
  obtain ⟨b1, b2, b3, b4, b5, b6⟩ := a3 z
  rcases hM.2.1 s hs z with h | h
  · rw [h]; exact ⟨b1, b2, b3, b4, b5, b6⟩
  · exact ⟨b1, h.1, h.2.2.1, b4, b5, b6⟩
def mc_dn (l : (Nat → Nat) × Nat) (n k s k' : Nat) : Prop := ∃ j, j < l.2 ∧ l.1 j = s ∧ (j < n ∨ (j = n ∧ k' < k))
def mc_RQ (l : (Nat → Nat) × Nat) (sr st st' sz pc : Nat → Nat) (cell : Nat → Int32) (n k s k' : Nat) (x : Int32) : Prop :=
  (mc_dn l n k s k' → mc_LC sr st' sz pc s k' (cell (3 * s + k')) x) ∧ (¬ mc_dn l n k s k' → mc_LC sr st sz pc s k' (cell (3 * s + k')) x)
theorem mc_RD_0 {st' S' W' O' : Nat → Nat} {words' : Nat → Int32} {op' : Nat} (hS : mc_Slot mk sr st sz pc) (hC : mc_CG st sz (fun s k w => mc_LC sr st sz pc s k (cell (3 * s + k)) w) words)
    (hM : mc_Mv sr st sz W words st' S' W' O' words' op') : mc_CG st' sz (mc_RQ l sr st st' sz pc cell 0 0) words' := by
  intro s hs z k hk
  have q : mc_LC sr st sz pc s k (cell (3 * s + k)) (words (st s - 1000 + 1 + k)) := hC s hs z k hk
  have hb := (hS s hs).2.2 z
  have hb1 := (hS s hs).1
  have e : words' (st' s - 1000 + 1 + k) = words (st s - 1000 + 1 + k) := by
    rcases hM.2.1 s hs z with h | h
    · rw [h]
      refine (hM.2.2.2.1 _ (by omega) ?_).2
      have e3 : (st s - 1000 + 1 + k) / 8 = (st s - 1000) / 8 := by omega
      rw [e3]
      exact mc_wo_pos hS hs z
    · have := (h.2.2.2.2 (1 + k) (by omega)).2
      rw [← Nat.add_assoc, ← Nat.add_assoc] at this
      exact this
  rw [e]
  refine ⟨fun h => ?_, fun _ => q⟩
  obtain ⟨j, h1, h2, h3⟩ := h
  omega
theorem mc_RD_s {st' : Nat → Nat} {words' : Nat → Int32} {n k : Nat} {x : Int32} (hl : mc_LG sz l) (hS' : mc_Slot mk sr st' sz pc) (hD' : mc_Dis sr st' sz)
    (h : mc_CG st' sz (mc_RQ l sr st st' sz pc cell n k) words') (hn : n < l.2) (hk : k < pc (l.1 n))
    (hx : mc_LC sr st' sz pc (l.1 n) k (cell (3 * l.1 n + k)) x) :
    mc_CG st' sz (mc_RQ l sr st st' sz pc cell n (k + 1)) (upd words' (st' (l.1 n) - 1000 + 1 + k) x) := by
  have hs := hl.1 n hn
  have hb := (hS' (l.1 n) hs.1).2.2 hs.2
  refine mc_CG_upd hS' hD' h hs.1 (by omega) x ⟨fun _ => hx, fun z => absurd ⟨n, hn, rfl, Or.inr ⟨rfl, by omega⟩⟩ z⟩ (fun s' k' y h1 h2 h3 h4 => ?_)
  have hiff : mc_dn l n (k + 1) s' k' → mc_dn l n k s' k' := by
    rintro ⟨j, j1, j2, j3 | ⟨j3, j4⟩⟩
    · exact ⟨j, j1, j2, Or.inl j3⟩
    · refine ⟨j, j1, j2, Or.inr ⟨j3, ?_⟩⟩
      rcases h3 with h3 | h3
      · exact absurd (by rw [← j2, j3]) h3
      · omega
  refine ⟨fun z => h4.1 (hiff z), fun z => h4.2 (fun y => z ?_)⟩
  obtain ⟨j, j1, j2, j3⟩ := y
  exact ⟨j, j1, j2, by omega⟩
theorem mc_RD_e {st' : Nat → Nat} {words' : Nat → Int32} {n : Nat} (hl : mc_LG sz l)
    (h : mc_CG st' sz (mc_RQ l sr st st' sz pc cell n (pc (l.1 n))) words') (hn : n < l.2) :
    mc_CG st' sz (mc_RQ l sr st st' sz pc cell (n + 1) 0) words' := by
  refine mc_CG_mono h (fun s k y hs hk q => ?_)
  have hraw : pc s ≤ k → (mc_LC sr st' sz pc s k (cell (3 * s + k)) y ↔ mc_LC sr st sz pc s k (cell (3 * s + k)) y) := by
    intro hp
    constructor
    · intro z; exact ⟨fun a => absurd a (by omega), z.2⟩
    · intro z; exact ⟨fun a => absurd a (by omega), z.2⟩
  by_cases c : mc_dn l n (pc (l.1 n)) s k
  · refine ⟨fun _ => q.1 c, fun z => absurd ?_ z⟩
    obtain ⟨j, j1, j2, j3⟩ := c
    exact ⟨j, j1, j2, by omega⟩
  · refine ⟨fun z => ?_, fun _ => q.2 c⟩
    obtain ⟨j, j1, j2, j3⟩ := z
    have e : j = n := by
      by_cases e : j = n
      · exact e
      · exact absurd ⟨j, j1, j2, by omega⟩ c
    have hp : pc s ≤ k := by
      by_cases z : k < pc s
      · refine absurd ⟨j, j1, j2, Or.inr ⟨e, ?_⟩⟩ c
        rw [← e, j2]; exact z
      · omega
    exact (hraw hp).mpr (q.2 c)
/-- the word that is read at (n, k) -/
theorem mc_RD_r {st' : Nat → Nat} {words' : Nat → Int32} {n k : Nat} (hl : mc_LG sz l) (hS' : mc_Slot mk sr st' sz pc)
    (h : mc_CG st' sz (mc_RQ l sr st st' sz pc cell n k) words') (hn : n < l.2) (hk : k < pc (l.1 n)) :
    (cell (3 * l.1 n + k) = 0 ∧ words' (st' (l.1 n) - 1000 + 1 + k) = 0) ∨ ∃ t, t < 30 ∧ 0 < sz t ∧ cell (3 * l.1 n + k) = nI (sr t) ∧ words' (st' (l.1 n) - 1000 + 1 + k) = nI (st t) := by
  have hs := hl.1 n hn
  have hb := (hS' (l.1 n) hs.1).2.2 hs.2
  have q := h (l.1 n) hs.1 hs.2 k (by omega)
  refine (q.2 (fun z => ?_)).1 hk
  obtain ⟨j, j1, j2, j3⟩ := z
  by_cases e : j < n
  · exact hl.2 j n e hn j2
  · omega
theorem mc_RD_f {st' : Nat → Nat} {words' : Nat → Int32} (hl : mc_LG sz l) (h : mc_CG st' sz (mc_RQ l sr st st' sz pc cell l.2 0) words') :
    ∀ s, s < 30 → mc_in l s → ∀ k, k + 1 < sz s → mc_LC sr st' sz pc s k (cell (3 * s + k)) (words' (st' s - 1000 + 1 + k)) := by
  intro s hs hi k hk
  have q := h s hs (by omega) k hk
  refine q.1 ?_
  obtain ⟨i, i1, i2⟩ := hi
  exact ⟨i, i1, i2, Or.inl i1⟩
/-- emptying: what has died below heap index n -/
noncomputable def mc_ez (l : (Nat → Nat) × Nat) (st sz : Nat → Nat) (n s : Nat) : Nat := mc_if (¬ mc_in l s ∧ st s < 1000 + n) 0 (sz s)
noncomputable def mc_ec (l : (Nat → Nat) × Nat) (st sz : Nat → Nat) (n s : Nat) : Nat := mc_if (0 < sz s ∧ ¬ mc_in l s ∧ st s < 1000 + n) 1 0
def mc_ES (l : (Nat → Nat) × Nat) (sr st sz st' S' : Nat → Nat) (n : Nat) (S2 : Nat → Nat) (U2 dc : Nat) : Prop :=
  (∀ s, s < 30 → 0 < sz s → S2 (sr s) = mc_if (¬ mc_in l s ∧ st s < 1000 + n) 0 (st' s)) ∧ (∀ v, S2 v = 0 ∨ S2 v = S' v) ∧
  U2 = mc_sm (mc_ez l st sz n) 30 ∧ dc = mc_sm (mc_ec l st sz n) 30
theorem mc_ES_0 {st' S' : Nat → Nat} (hS : mc_Slot mk sr st sz pc) (h6 : ∀ s, s < 30 → 0 < sz s → S' (sr s) = st' s) : mc_ES l sr st sz st' S' 0 S' (mc_sm sz 30) 0 := by
  refine ⟨fun s hs z => ?_, fun _ => Or.inr rfl, mc_sm_congr 30 (fun s hs => ?_), (mc_sm_0 30 (fun s hs => ?_)).symm⟩
  · have hb := (hS s hs).2.2 z
    rw [mc_if_f (fun c => by omega)]
    exact h6 s hs z
  · by_cases c : ¬ mc_in l s ∧ st s < 1000 + 0
    · unfold mc_ez
      rw [mc_if_t c]
      by_cases z : 0 < sz s
      · have hb := (hS s hs).2.2 z
        omega
      · omega
    · unfold mc_ez
      rw [mc_if_f c]
  · refine mc_if_f (fun c => ?_)
    have hb := (hS s hs).2.2 c.1
    omega
theorem mc_ES_same {st' S' S2 : Nat → Nat} {n m U2 dc : Nat} (h : mc_ES l sr st sz st' S' n S2 U2 dc) (hnm : n ≤ m)
    (hno : ∀ s, s < 30 → 0 < sz s → ¬ mc_in l s → st s < 1000 + n ∨ 1000 + m ≤ st s) : mc_ES l sr st sz st' S' m S2 U2 dc := by
  obtain ⟨h1, h2, h3, h4⟩ := h
  have key : ∀ s, s < 30 → 0 < sz s → ((¬ mc_in l s ∧ st s < 1000 + n) ↔ (¬ mc_in l s ∧ st s < 1000 + m)) := by
    intro s hs z
    constructor
    · rintro ⟨a, b⟩; exact ⟨a, by omega⟩
    · rintro ⟨a, b⟩
      have := hno s hs z a
      exact ⟨a, by omega⟩
  refine ⟨fun s hs z => ?_, h2, ?_, ?_⟩
  · rw [h1 s hs z]
    exact mc_if_cg (key s hs z)
  · rw [h3]
    refine mc_sm_congr 30 (fun s hs => ?_)
    unfold mc_ez
    by_cases z : 0 < sz s
    · exact mc_if_cg (key s hs z)
    · have e : sz s = 0 := by omega
      rw [e]
      by_cases c1 : ¬ mc_in l s ∧ st s < 1000 + n
      · rw [mc_if_t c1]
        by_cases c2 : ¬ mc_in l s ∧ st s < 1000 + m
        · rw [mc_if_t c2]
        · rw [mc_if_f c2]
      · rw [mc_if_f c1]
        by_cases c2 : ¬ mc_in l s ∧ st s < 1000 + m
        · rw [mc_if_t c2]
        · rw [mc_if_f c2]
  · rw [h4]
    refine mc_sm_congr 30 (fun s hs => ?_)
    unfold mc_ec
    refine mc_if_cg ?_
    constructor
    · rintro ⟨z, c⟩; exact ⟨z, (key s hs z).mp c⟩
    · rintro ⟨z, c⟩; exact ⟨z, (key s hs z).mpr c⟩
theorem mc_ES_die {st' S' S2 : Nat → Nat} {n U2 dc s : Nat} (hD : mc_Dis sr st sz) (h : mc_ES l sr st sz st' S' n S2 U2 dc) (hs : s < 30) (hz : 0 < sz s) (hi : ¬ mc_in l s)
    (he : st s = 1000 + n) : mc_ES l sr st sz st' S' (n + 1) (mc_up S2 (sr s) 0) (U2 - sz s) (dc + 1) := by
  obtain ⟨h1, h2, h3, h4⟩ := h
  have key : ∀ t, t < 30 → 0 < sz t → t ≠ s → ((¬ mc_in l t ∧ st t < 1000 + n) ↔ (¬ mc_in l t ∧ st t < 1000 + (n + 1))) := by
    intro t ht z hne
    have hd := (hD t s ht hs hne z hz).2
    constructor
    · rintro ⟨a, b⟩; exact ⟨a, by omega⟩
    · rintro ⟨a, b⟩; exact ⟨a, by omega⟩
  refine ⟨fun t ht z => ?_, fun v => ?_, ?_, ?_⟩
  · by_cases e : t = s
    · rw [e, mc_us, mc_if_t ⟨hi, by omega⟩]
    · rw [mc_un (hD t s ht hs e z hz).1, h1 t ht z]
      exact mc_if_cg (key t ht z e)
  · by_cases e : v = sr s
    · rw [e, mc_us]; exact Or.inl rfl
    · rw [mc_un e]; exact h2 v
  · have e := mc_sm_pt (f := mc_ez l st sz (n + 1)) (g := mc_ez l st sz n) (k := s) (x := sz s) 30 hs (by
      unfold mc_ez
      rw [mc_if_f (fun c => by omega), mc_if_t ⟨hi, by omega⟩]
      omega) (fun t ht hne => by
      unfold mc_ez
      by_cases z : 0 < sz t
      · exact mc_if_cg (key t ht z hne)
      · have e : sz t = 0 := by omega
        rw [e]
        by_cases c1 : ¬ mc_in l t ∧ st t < 1000 + n
        · rw [mc_if_t c1, mc_if_t ⟨c1.1, by omega⟩]
        · rw [mc_if_f c1]
          by_cases c2 : ¬ mc_in l t ∧ st t < 1000 + (n + 1)
          · rw [mc_if_t c2]
          · rw [mc_if_f c2])
    omega
  · have e := mc_sm_pt (f := mc_ec l st sz n) (g := mc_ec l st sz (n + 1)) (k := s) (x := 1) 30 hs (by
      unfold mc_ec
      rw [mc_if_t ⟨hz, hi, by omega⟩, mc_if_f (fun c => by omega)]) (fun t ht hne => by
      unfold mc_ec
      refine mc_if_cg ?_
      constructor
      · rintro ⟨z, c⟩; exact ⟨z, (key t ht z hne).mpr c⟩
      · rintro ⟨z, c⟩; exact ⟨z, (key t ht z hne).mp c⟩)
    omega
/-- owners while emptying -/
def mc_EW (st sz pn W' : Nat → Nat) (n : Nat) (W2 : Nat → Nat) : Prop :=
  ∀ i, i < 256 → (i < n → mc_wo st sz (i / 8) ≠ 0 → pn (i / 8) ≠ 1 → W2 i = 0) ∧ ((n ≤ i ∨ mc_wo st sz (i / 8) = 0 ∨ pn (i / 8) = 1) → W2 i = W' i)
theorem mc_EW_0 {pn W' : Nat → Nat} : mc_EW st sz pn W' 0 W' := fun i _ => ⟨fun h => absurd h (by omega), fun _ => rfl⟩
theorem mc_EW_s {pn W' W2 : Nat → Nat} {n : Nat} (h : mc_EW st sz pn W' n W2) (h1 : mc_wo st sz (n / 8) ≠ 0) (h2 : pn (n / 8) ≠ 1) : mc_EW st sz pn W' (n + 1) (mc_up W2 n 0) := by
  intro i hi
  by_cases e : i = n
  · rw [e, mc_us]
    refine ⟨fun _ _ _ => rfl, fun z => ?_⟩
    rcases z with z | z | z
    · omega
    · exact absurd z h1
    · exact absurd z h2
  · rw [mc_un e]
    refine ⟨fun a => (h i hi).1 (by omega), fun z => (h i hi).2 ?_⟩
    rcases z with z | z
    · exact Or.inl (by omega)
    · exact Or.inr z
theorem mc_EW_p {pn W' W2 : Nat → Nat} {p : Nat} (h : mc_EW st sz pn W' (8 * p) W2) (h1 : mc_wo st sz p = 0 ∨ pn p = 1) : mc_EW st sz pn W' (8 * (p + 1)) W2 := by
  intro i hi
  refine ⟨fun a b c => ?_, fun z => (h i hi).2 ?_⟩
  · by_cases e : i / 8 = p
    · rw [e] at b c
      rcases h1 with z | z
      · exact absurd z b
      · exact absurd z c
    · exact (h i hi).1 (by omega) b c
  · rcases z with z | z
    · exact Or.inl (by omega)
    · exact Or.inr z
end
