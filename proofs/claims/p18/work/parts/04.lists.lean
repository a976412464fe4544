/-! lists of slots: a function and a length -/
section
variable {sz : Nat → Nat} {l : (Nat → Nat) × Nat} {s t : Nat}
def mc_in (l : (Nat → Nat) × Nat) (s : Nat) : Prop := ∃ i, i < l.2 ∧ l.1 i = s
noncomputable def mc_ad (l : (Nat → Nat) × Nat) (s : Nat) : (Nat → Nat) × Nat :=
  @ite _ (s < 30 ∧ ¬ mc_in l s) (Classical.propDecidable _) (mc_up l.1 l.2 s, l.2 + 1) l
def mc_LG (sz : Nat → Nat) (l : (Nat → Nat) × Nat) : Prop :=
  (∀ i, i < l.2 → l.1 i < 30 ∧ 0 < sz (l.1 i)) ∧ (∀ i j, i < j → j < l.2 → l.1 i ≠ l.1 j)
theorem mc_ad_new (hs : s < 30) (hn : ¬ mc_in l s) : mc_ad l s = (mc_up l.1 l.2 s, l.2 + 1) := if_pos ⟨hs, hn⟩
theorem mc_ad_old (h : ¬ (s < 30 ∧ ¬ mc_in l s)) : mc_ad l s = l := if_neg h
theorem mc_ad_isin (h : mc_in l s) : mc_ad l s = l := mc_ad_old (fun z => z.2 h)
theorem mc_ad_30 : mc_ad l 30 = l := mc_ad_old (fun z => absurd z.1 (by omega))
theorem mc_LG_le (h : mc_LG sz l) : l.2 ≤ 30 := mc_inj 30 l.2 l.1 (fun i hi => (h.1 i hi).1) h.2
theorem mc_ad_LG (h : mc_LG sz l) (hz : s < 30 → 0 < sz s) : mc_LG sz (mc_ad l s) := by
  by_cases c : s < 30 ∧ ¬ mc_in l s
  · rw [mc_ad_new c.1 c.2]
    constructor
    · intro i hi
      have hi : i < l.2 + 1 := hi
      show mc_up l.1 l.2 s i < 30 ∧ 0 < sz (mc_up l.1 l.2 s i)
      by_cases e : i = l.2
      · rw [e, mc_us]; exact ⟨c.1, hz c.1⟩
      · rw [mc_un e]; exact h.1 i (by omega)
    · intro i j hij hj
      have hj : j < l.2 + 1 := hj
      show mc_up l.1 l.2 s i ≠ mc_up l.1 l.2 s j
      by_cases e : j = l.2
      · rw [e, mc_us, mc_un (by omega)]
        intro z
        exact c.2 ⟨i, by omega, z⟩
      · rw [mc_un e, mc_un (by omega)]; exact h.2 i j hij (by omega)
  · rw [mc_ad_old c]; exact h
theorem mc_ad_in : mc_in (mc_ad l s) t ↔ mc_in l t ∨ (t = s ∧ s < 30) := by
  by_cases c : s < 30 ∧ ¬ mc_in l s
  · rw [mc_ad_new c.1 c.2]
    constructor
    · rintro ⟨i, hi, e⟩
      have hi : i < l.2 + 1 := hi
      have e : mc_up l.1 l.2 s i = t := e
      by_cases ei : i = l.2
      · rw [ei, mc_us] at e; exact Or.inr ⟨e.symm, c.1⟩
      · rw [mc_un ei] at e; exact Or.inl ⟨i, by omega, e⟩
    · rintro (⟨i, hi, e⟩ | ⟨e, _⟩)
      · refine ⟨i, Nat.lt_succ_of_lt hi, ?_⟩
        show mc_up l.1 l.2 s i = t
        rw [mc_un (by omega)]; exact e
      · refine ⟨l.2, Nat.lt_succ_self _, ?_⟩
        show mc_up l.1 l.2 s l.2 = t
        rw [mc_us]; exact e.symm
  · rw [mc_ad_old c]
    constructor
    · exact Or.inl
    · rintro (h | ⟨e, hs⟩)
      · exact h
      · rw [e]
        exact Classical.byContradiction (fun z => c ⟨hs, z⟩)
theorem mc_ad_pre (l : (Nat → Nat) × Nat) (s : Nat) : l.2 ≤ (mc_ad l s).2 ∧ ∀ i, i < l.2 → (mc_ad l s).1 i = l.1 i := by
  by_cases c : s < 30 ∧ ¬ mc_in l s
  · rw [mc_ad_new c.1 c.2]
    exact ⟨Nat.le_succ _, fun i hi => mc_un (by omega)⟩
  · rw [mc_ad_old c]
    exact ⟨Nat.le_refl _, fun _ _ => rfl⟩
theorem mc_LG_lt (h : mc_LG sz l) (hs : s < 30) (hz : 0 < sz s) (hn : ¬ mc_in l s) : l.2 < 30 := by
  have h1 := mc_LG_le (mc_ad_LG (s := s) h (fun _ => hz))
  rw [mc_ad_new hs hn] at h1
  exact h1
/-- the objects on pinned pages, in the order of addresses -/
noncomputable def mc_pl (pn fd : Nat → Nat) : Nat → (Nat → Nat) × Nat
  | 0 => (fun _ => 0, 0)
  | a + 1 => if pn (a / 8) = 1 then mc_ad (mc_pl pn fd a) (fd (1000 + a)) else mc_pl pn fd a
theorem mc_pl_t {pn fd : Nat → Nat} {a : Nat} (h : pn (a / 8) = 1) : mc_pl pn fd (a + 1) = mc_ad (mc_pl pn fd a) (fd (1000 + a)) := if_pos h
theorem mc_pl_f {pn fd : Nat → Nat} {a : Nat} (h : ¬ pn (a / 8) = 1) : mc_pl pn fd (a + 1) = mc_pl pn fd a := if_neg h
theorem mc_pl_skip {pn fd : Nat → Nat} {p : Nat} (h : ¬ pn p = 1) : ∀ j, j ≤ 8 → mc_pl pn fd (8 * p + j) = mc_pl pn fd (8 * p) := by
  intro j
  induction j with
  | zero => intro _; rfl
  | succ j ih =>
    intro hj
    have e : (8 * p + j) / 8 = p := by omega
    show mc_pl pn fd (8 * p + j + 1) = _
    rw [mc_pl_f (by rw [e]; exact h)]
    exact ih (by omega)
theorem mc_pl_LG {pn fd : Nat → Nat} (hf : ∀ a, fd a < 30 → 0 < sz (fd a)) : ∀ n, mc_LG sz (mc_pl pn fd n) := by
  intro n
  induction n with
  | zero => exact ⟨fun i hi => absurd hi (Nat.not_lt_zero i), fun i j _ hj => absurd hj (Nat.not_lt_zero j)⟩
  | succ n ih =>
    by_cases h : pn (n / 8) = 1
    · rw [mc_pl_t h]; exact mc_ad_LG ih (hf _)
    · rw [mc_pl_f h]; exact ih
theorem mc_pl_in {pn fd : Nat → Nat} : ∀ n, mc_in (mc_pl pn fd n) s ↔ s < 30 ∧ ∃ a, a < n ∧ pn (a / 8) = 1 ∧ fd (1000 + a) = s := by
  intro n
  induction n with
  | zero =>
    constructor
    · rintro ⟨i, hi, _⟩; exact absurd hi (Nat.not_lt_zero i)
    · rintro ⟨_, a, ha, _⟩; exact absurd ha (Nat.not_lt_zero a)
  | succ n ih =>
    by_cases h : pn (n / 8) = 1
    · rw [mc_pl_t h, mc_ad_in, ih]
      constructor
      · rintro (⟨h1, a, ha, h2⟩ | ⟨h1, h2⟩)
        · exact ⟨h1, a, by omega, h2⟩
        · rw [h1]; exact ⟨h2, n, by omega, h, rfl⟩
      · rintro ⟨h1, a, ha, h2, h3⟩
        by_cases e : a = n
        · rw [e] at h3
          exact Or.inr ⟨h3.symm, by rw [h3]; exact h1⟩
        · exact Or.inl ⟨h1, a, by omega, h2, h3⟩
    · rw [mc_pl_f h, ih]
      constructor
      · rintro ⟨h1, a, ha, h2⟩
        exact ⟨h1, a, by omega, h2⟩
      · rintro ⟨h1, a, ha, h2, h3⟩
        by_cases e : a = n
        · rw [e] at h2; exact absurd h2 h
        · exact ⟨h1, a, by omega, h2, h3⟩
/-- reach: the pointers of one object, then the whole list -/
noncomputable def mc_ri (tg : Nat → Nat → Nat) (s : Nat) (l : (Nat → Nat) × Nat) : Nat → (Nat → Nat) × Nat
  | 0 => l
  | k + 1 => mc_ad (mc_ri tg s l k) (tg s k)
noncomputable def mc_ro (tg : Nat → Nat → Nat) (pc : Nat → Nat) (l : (Nat → Nat) × Nat) : Nat → (Nat → Nat) × Nat
  | 0 => l
  | a + 1 => if a < (mc_ro tg pc l a).2 then mc_ri tg ((mc_ro tg pc l a).1 a) (mc_ro tg pc l a) (pc ((mc_ro tg pc l a).1 a)) else mc_ro tg pc l a
section
variable {tg : Nat → Nat → Nat} {pc : Nat → Nat}
theorem mc_ri_s (tg : Nat → Nat → Nat) (s : Nat) (l : (Nat → Nat) × Nat) (k : Nat) : mc_ri tg s l (k + 1) = mc_ad (mc_ri tg s l k) (tg s k) := rfl
theorem mc_ro_t {a : Nat} (h : a < (mc_ro tg pc l a).2) : mc_ro tg pc l (a + 1) = mc_ri tg ((mc_ro tg pc l a).1 a) (mc_ro tg pc l a) (pc ((mc_ro tg pc l a).1 a)) := if_pos h
theorem mc_ro_f {a : Nat} (h : ¬ a < (mc_ro tg pc l a).2) : mc_ro tg pc l (a + 1) = mc_ro tg pc l a := if_neg h
theorem mc_ri_LG (h : mc_LG sz l) (ht : ∀ s k, tg s k < 30 → 0 < sz (tg s k)) (s : Nat) : ∀ k, mc_LG sz (mc_ri tg s l k) := by
  intro k
  induction k with
  | zero => exact h
  | succ k ih => rw [mc_ri_s]; exact mc_ad_LG ih (ht s k)
theorem mc_ri_pre (tg : Nat → Nat → Nat) (s : Nat) (l : (Nat → Nat) × Nat) : ∀ k, l.2 ≤ (mc_ri tg s l k).2 ∧ ∀ i, i < l.2 → (mc_ri tg s l k).1 i = l.1 i := by
  intro k
  induction k with
  | zero => exact ⟨Nat.le_refl _, fun _ _ => rfl⟩
  | succ k ih =>
    rw [mc_ri_s]
    have h := mc_ad_pre (mc_ri tg s l k) (tg s k)
    refine ⟨Nat.le_trans ih.1 h.1, fun i hi => ?_⟩
    rw [h.2 i (Nat.lt_of_lt_of_le hi ih.1), ih.2 i hi]
theorem mc_ri_in (s : Nat) : ∀ k, (∀ t, mc_in l t → mc_in (mc_ri tg s l k) t) ∧ ∀ j, j < k → tg s j < 30 → mc_in (mc_ri tg s l k) (tg s j) := by
  intro k
  induction k with
  | zero => exact ⟨fun _ h => h, fun j hj => by omega⟩
  | succ k ih =>
    rw [mc_ri_s]
    refine ⟨fun t h => mc_ad_in.mpr (Or.inl (ih.1 t h)), fun j hj h => ?_⟩
    by_cases e : j = k
    · rw [e] at h ⊢; exact mc_ad_in.mpr (Or.inr ⟨rfl, h⟩)
    · exact mc_ad_in.mpr (Or.inl (ih.2 j (by omega) h))
theorem mc_ro_LG (h : mc_LG sz l) (ht : ∀ s k, tg s k < 30 → 0 < sz (tg s k)) : ∀ a, mc_LG sz (mc_ro tg pc l a) := by
  intro a
  induction a with
  | zero => exact h
  | succ a ih =>
    by_cases c : a < (mc_ro tg pc l a).2
    · rw [mc_ro_t c]; exact mc_ri_LG ih ht _ _
    · rw [mc_ro_f c]; exact ih
theorem mc_ro_pre1 (tg : Nat → Nat → Nat) (pc : Nat → Nat) (l : (Nat → Nat) × Nat) (a : Nat) : (mc_ro tg pc l a).2 ≤ (mc_ro tg pc l (a + 1)).2 ∧ ∀ i, i < (mc_ro tg pc l a).2 → (mc_ro tg pc l (a + 1)).1 i = (mc_ro tg pc l a).1 i := by
  by_cases c : a < (mc_ro tg pc l a).2
  · rw [mc_ro_t c]; exact mc_ri_pre _ _ _ _
  · rw [mc_ro_f c]; exact ⟨Nat.le_refl _, fun _ _ => rfl⟩
theorem mc_ro_pre (tg : Nat → Nat → Nat) (pc : Nat → Nat) (l : (Nat → Nat) × Nat) : ∀ a, l.2 ≤ (mc_ro tg pc l a).2 ∧ ∀ i, i < l.2 → (mc_ro tg pc l a).1 i = l.1 i := by
  intro a
  induction a with
  | zero => exact ⟨Nat.le_refl _, fun _ _ => rfl⟩
  | succ a ih =>
    have h := mc_ro_pre1 tg pc l a
    refine ⟨Nat.le_trans ih.1 h.1, fun i hi => ?_⟩
    rw [h.2 i (Nat.lt_of_lt_of_le hi ih.1), ih.2 i hi]
theorem mc_ro_stop {a : Nat} (h : (mc_ro tg pc l a).2 ≤ a) : ∀ j, mc_ro tg pc l (a + j) = mc_ro tg pc l a := by
  intro j
  induction j with
  | zero => rfl
  | succ j ih =>
    show mc_ro tg pc l (a + j + 1) = _
    rw [mc_ro_f (by rw [ih]; omega)]
    exact ih
theorem mc_ro_closed : ∀ a i, i < a → i < (mc_ro tg pc l a).2 → ∀ k, k < pc ((mc_ro tg pc l a).1 i) → tg ((mc_ro tg pc l a).1 i) k < 30 → mc_in (mc_ro tg pc l a) (tg ((mc_ro tg pc l a).1 i) k) := by
  intro a
  induction a with
  | zero => intro i hi; omega
  | succ a ih =>
    intro i hi h2 k hk ht
    by_cases c : a < (mc_ro tg pc l a).2
    · have hp := mc_ri_pre tg ((mc_ro tg pc l a).1 a) (mc_ro tg pc l a) (pc ((mc_ro tg pc l a).1 a))
      have hn := mc_ri_in (tg := tg) (l := mc_ro tg pc l a) ((mc_ro tg pc l a).1 a) (pc ((mc_ro tg pc l a).1 a))
      rw [mc_ro_t c] at h2 hk ht ⊢
      have hil : i < (mc_ro tg pc l a).2 := by omega
      rw [hp.2 i hil] at hk ht ⊢
      by_cases e : i = a
      · rw [e] at hk ht ⊢
        exact hn.2 k hk ht
      · exact hn.1 _ (ih i (by omega) hil k hk ht)
    · rw [mc_ro_f c] at h2 hk ht ⊢
      exact ih i (by omega) h2 k hk ht
end
end
