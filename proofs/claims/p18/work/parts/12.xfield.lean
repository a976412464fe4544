/-! fields, places, shapes -/
section
variable {n lim op mk U : Nat} {kc ld oo : Int32} {H wd ce : Nat → Int32} {W S P R O px cd K sr st sz pc L py fb : Nat → Nat}
theorem mc_cl (x : Int32) {lo hi : Nat} (h : lo ≤ hi) (hh : hi < 2 ^ 31) : ∃ c, lo ≤ c ∧ c ≤ hi ∧ ∀ A : Int32 → Prop, A (nI c) → ((nI lo ≤ x → ((x ≤ nI hi → A x) ∧ (¬ x ≤ nI hi → A (nI hi)))) ∧ (¬ nI lo ≤ x → A (nI lo))) := by
  by_cases c1 : nI lo ≤ x
  · by_cases c2 : x ≤ nI hi
    · have h0 : ¬ x < 0 := fun z => mn_neg z lo (by omega) c1
      obtain ⟨j, hj, rfl⟩ := nI_of h0
      exact ⟨j, (nI_leI (by omega) hj).mp c1, (nI_leI hj hh).mp c2, fun A hA => br_t c1 (br_t c2 hA)⟩
    · exact ⟨hi, h, Nat.le_refl _, fun A hA => br_t c1 (br_f c2 hA)⟩
  · exact ⟨lo, Nat.le_refl _, h, fun A hA => br_f c1 hA⟩
theorem mc_wo_z (p : Nat) : mc_wo (fun _ => 0) (fun _ => 0) p = 0 := mc_sm_0 30 (fun s _ => by
  have := mc_w_le (fun _ => 0) (fun _ => 0) p s
  exact Nat.le_zero.mp this)
theorem mc_G_0 (h16 : 16 ≤ lim) (h60 : lim ≤ 60) : mc_G 0 lim 32 (fun _ => 0) (fun _ => 0) (fun _ => 0) (fun _ => 0) (fun _ => 0) (fun _ => 0) (fun _ => 0) (fun _ => 0) (fun _ => 0) (fun _ => 0) (fun _ => 0) 0 := by
  have hz : ¬ 0 < 0 := Nat.lt_irrefl 0
  refine ⟨fun s _ => ⟨Nat.zero_le _, Nat.zero_le _, fun h => absurd h hz⟩, fun s t _ _ _ h => absurd h hz, fun s _ h => absurd h hz, fun s _ h => absurd h hz, fun _ _ => Or.inl rfl, fun _ => Or.inl rfl,
    fun s _ h => absurd h hz, ⟨rfl, rfl⟩, fun p _ => (mc_wo_z p).symm, ?_, (mc_sm_0 30 (fun _ _ => rfl)).symm, Nat.zero_le _, h60, Nat.le_refl _, Nat.zero_le _⟩
  refine Nat.le_trans (Nat.le_of_eq (mc_sm_0 32 (fun p _ => ?_))) (Nat.zero_le 8)
  exact if_neg (fun h => by have := mc_wo_z p; omega)
theorem mc_G_put {s kk : Nat} {c w : Int32} (hG : mc_G mk lim op sr st sz pc ce wd S P R W O U) (hs : s < 30) (hk : kk + 1 < sz s) (hq : mc_LC sr st sz pc s kk c w) :
    mc_G mk lim op sr st sz pc (upd ce (3 * s + kk) c) (upd wd (st s - 1000 + 1 + kk) w) S P R W O U := by
  obtain ⟨hS, hD, hF, hX, hXW, hXZ, hC, hrest⟩ := hG
  refine ⟨hS, hD, hF, hX, hXW, hXZ, ?_, hrest⟩
  have hb1 := (hS s hs).2.1
  refine mc_CG_upd (Q' := fun s' k w => mc_LC sr st sz pc s' k (upd ce (3 * s + kk) c (3 * s' + k)) w) hS hD hC hs hk w ?_ (fun s' k' y h1 h2 h3 h4 => ?_)
  · show mc_LC sr st sz pc s kk (upd ce (3 * s + kk) c (3 * s + kk)) w
    rw [pk_us]
    exact hq
  · show mc_LC sr st sz pc s' k' (upd ce (3 * s + kk) c (3 * s' + k')) y
    have hb2 := (hS s' h1).2.1
    rw [pk_un (by omega)]
    exact h4
theorem mc_At_ne {w : Int32} {s : Nat} (h : mc_At sr st sz W w s) : ¬ w = 0 := by
  obtain ⟨_, _, i, hi, rfl, _⟩ := h
  exact nI_ne0 (by omega) (by omega)
theorem mx_l94 {post : Int32 → St2 → Prop} {j v5 v a x : Nat} (hv : v < 4096) (ha : S v = a) (h1 : 1000 ≤ a) (h2 : a - 1000 + 1 + j < 256) (hv5 : v5 < 4096) (hx : S v5 = x)
    (h : post 0 ((nI n), (nI lim), kc, (mc_oI op), (nI mk), (nI U), H, (upd wd (a - 1000 + 1 + j) (nI x)), (fun j => nI (W j)), (fun j => nI (S j)), (fun j => nI (P j)), (fun j => nI (R j)), (fun j => nI (O j)), (fun j => nI (px j)), (fun j => nI (cd j)), (fun j => nI (K j)))) : wX_link_94 post (nI j) (nI v) (nI v5) (nI n) (nI lim) kc (mc_oI op) (nI mk) (nI U) H wd (fun j => nI (W j)) (fun j => nI (S j)) (fun j => nI (P j)) (fun j => nI (R j)) (fun j => nI (O j)) (fun j => nI (px j)) (fun j => nI (cd j)) (fun j => nI (K j)) := by
  unfold wX_link_94
  refine mx_fi hv ha h1 ⟨vp_in_nI hv5 (by omega), vp_in_nI h2 (by omega), nm_r (e' := upd wd (a - 1000 + 1 + j) (nI x)) ?_ h⟩
  show upd wd (nI (a - 1000 + 1 + j)).toNatClampNeg (nI (S (nI v5).toNatClampNeg)) = _
  rw [nI_clamp (by omega), nI_clamp (by omega), hx]
theorem mc_shape (p1 p2 : Int32) : (∃ np nr, p1 = nI np ∧ p2 = nI nr ∧ np ≤ 3 ∧ nr ≤ 3 ∧ 1 ≤ np + nr ∧ np + nr ≤ 3) ∨
    ((∀ post : Int32 → Prop, post 1 → wpX_isBadShape post () p1 p2) ∧ True) := by
  by_cases c1 : p1 < 0
  · exact Or.inr ⟨fun post h => br_t c1 h, trivial⟩
  by_cases c2 : 3 < p1
  · exact Or.inr ⟨fun post h => br_f c1 (br_t c2 h), trivial⟩
  by_cases c3 : p2 < 0
  · exact Or.inr ⟨fun post h => br_f c1 (br_f c2 (br_t c3 h)), trivial⟩
  by_cases c4 : 3 < p2
  · have c4' : ¬ p2 ≤ 3 := fun z => Int32.not_lt.mpr z c4
    exact Or.inr ⟨fun post h => br_f c1 (br_f c2 (br_f c3 (br_f c4' h))), trivial⟩
  have c4' : p2 ≤ 3 := Int32.not_lt.mp c4
  by_cases c5 : p1 + p2 < 1
  · exact Or.inr ⟨fun post h => br_f c1 (br_f c2 (br_f c3 (br_t c4' (nm_e (br_t c5 h))))), trivial⟩
  by_cases c6 : p1 + p2 ≤ 3
  · left
    obtain ⟨np, h1, rfl⟩ := nI_of c1
    obtain ⟨nr, h2, rfl⟩ := nI_of c3
    have d1 : np ≤ 3 := by
      by_cases z : np ≤ 3
      · exact z
      · exact absurd (nI_lt (a := 3) (by omega) h1) c2
    have d2 : nr ≤ 3 := by
      by_cases z : nr ≤ 3
      · exact z
      · exact absurd (nI_lt (a := 3) (by omega) h2) c4
    rw [nI_add] at c5 c6
    refine ⟨np, nr, rfl, rfl, d1, d2, ?_, ?_⟩
    · by_cases z : 1 ≤ np + nr
      · exact z
      · exact absurd (nI_lt (b := 1) (by omega) (by omega)) c5
    · exact (nI_leI (b := 3) (by omega) (by omega)).mp c6
  · exact Or.inr ⟨fun post h => br_f c1 (br_f c2 (br_f c3 (br_t c4' (nm_e (br_f c5 (br_f c6 h)))))), trivial⟩
theorem mx_shape_f {post : Int32 → Prop} {np nr : Nat} (h1 : np ≤ 3) (h2 : nr ≤ 3) (h3 : 1 ≤ np + nr) (h4 : np + nr ≤ 3) (h : post 0) : wpX_isBadShape post () (nI np) (nI nr) := by
  refine br_f (nI_pos (by omega)) (br_f (nI_nlt (a := 3) h1 (by omega)) (br_f (nI_pos (by omega)) (br_t (nI_le (b := 3) h2 (by omega)) (nm_r (nI_add np nr) ?_))))
  exact br_f (nI_nlt (b := 1) h3 (by omega)) (br_t (nI_le (b := 3) h4 (by omega)) h)
theorem mc_last (h : ∃ s, s < 30 ∧ sz s = 0) : ∃ s, s < 30 ∧ sz s = 0 ∧ ∀ t, s < t → t < 30 → sz t ≠ 0 := by
  obtain ⟨s, hs, hz⟩ := h
  obtain ⟨k, hk, hmin⟩ := pk_least (fun k => k < 30 ∧ sz (29 - k) = 0) ⟨29 - s, by omega, by
    have e : 29 - (29 - s) = s := by omega
    rw [e]; exact hz⟩
  refine ⟨29 - k, by omega, hk.2, fun t h1 h2 h3 => ?_⟩
  refine hmin (29 - t) (by omega) ⟨by omega, ?_⟩
  have e : 29 - (29 - t) = t := by omega
  rw [e]; exact h3
def mc_fbn (st sz fb : Nat → Nat) (i p : Nat) : Nat := if p < i then (if mc_wo st sz p = 0 then 1 else 0) else fb p
theorem mc_fbn_0 : mc_fbn st sz fb 0 = fb := by
  funext p
  exact if_neg (by omega)
theorem mc_fbn_s (i : Nat) : mc_up (mc_fbn st sz fb i) i (if mc_wo st sz i = 0 then 1 else 0) = mc_fbn st sz fb (i + 1) := by
  funext p
  by_cases e : p = i
  · rw [e, mc_us]
    exact (if_pos (by omega)).symm
  · rw [mc_un e]
    unfold mc_fbn
    by_cases c : p < i
    · rw [if_pos c, if_pos (c := p < i + 1) (by omega)]
    · rw [if_neg c, if_neg (c := p < i + 1) (by omega)]
theorem mc_fbn_32 {p : Nat} (hp : p < 32) : mc_fbn st sz fb 32 p < 2 ∧ (mc_fbn st sz fb 32 p ≠ 0 ↔ mc_wo st sz p = 0) := by
  have e : mc_fbn st sz fb 32 p = (if mc_wo st sz p = 0 then 1 else 0) := if_pos hp
  rw [e]
  by_cases c : mc_wo st sz p = 0
  · rw [if_pos c]
    exact ⟨by omega, fun _ => c, fun _ => by omega⟩
  · rw [if_neg c]
    exact ⟨by omega, fun z => absurd rfl z, fun z => absurd z c⟩
noncomputable def mc_lf (O : Nat → Nat) : Nat := @dite Nat (∃ p, p < 32 ∧ O p = 0) (Classical.propDecidable _) (fun h => Classical.choose (pk_least (fun p => p < 32 ∧ O p = 0) h)) (fun _ => 32)
theorem mc_lf_spec (h : ∃ p, p < 32 ∧ O p = 0) : (mc_lf O < 32 ∧ O (mc_lf O) = 0) ∧ ∀ j, j < mc_lf O → ¬ (j < 32 ∧ O j = 0) := by
  unfold mc_lf
  rw [dif_pos h]
  exact Classical.choose_spec (pk_least (fun p => p < 32 ∧ O p = 0) h)
noncomputable def mc_pg (O : Nat → Nat) (op w need : Nat) : Nat := mc_if (op < 32 ∧ w + need ≤ 8) op (mc_lf O)
def mc_PH (st sz O fb : Nat → Nat) (op need : Nat) : Prop :=
  (∀ s, s < 30 → st s ≤ 1255 ∧ sz s ≤ 4) ∧ mc_sm sz 30 ≤ 60 ∧ (∀ p, p < 32 → O p < 1000) ∧ (∀ p, p < 32 → fb p < 2) ∧ (∀ p, p < 32 → (O p = 0 ↔ (fb p ≠ 0 ∧ mc_wo st sz p = 0))) ∧
  (op < 32 → O op = mc_wo st sz op) ∧ op ≤ 32 ∧ 0 < need ∧ need ≤ 8 ∧ ((op = 32 ∨ 8 < mc_wo st sz op + need) → ∃ p, p < 32 ∧ O p = 0)
theorem mc_pgs {need : Nat} (h : mc_PH st sz O fb op need) :
    mc_pg O op (mc_wo st sz op) need < 32 ∧ O (mc_pg O op (mc_wo st sz op) need) + need ≤ 8 ∧ mc_wo st sz (mc_pg O op (mc_wo st sz op) need) = O (mc_pg O op (mc_wo st sz op) need) ∧
    (mc_pg O op (mc_wo st sz op) need = op ∨ (O (mc_pg O op (mc_wo st sz op) need) = 0 ∧ fb (mc_pg O op (mc_wo st sz op) need) ≠ 0 ∧ (op = 32 ∨ 8 < mc_wo st sz op + need))) := by
  obtain ⟨hb, hU, hO, hfb, hfree, hopen, hop, hn, hn8, hex⟩ := h
  by_cases c : op < 32 ∧ mc_wo st sz op + need ≤ 8
  · have e : mc_pg O op (mc_wo st sz op) need = op := mc_if_t c
    have eo := hopen c.1
    rw [e]
    exact ⟨c.1, by omega, eo.symm, Or.inl rfl⟩
  · have e : mc_pg O op (mc_wo st sz op) need = mc_lf O := mc_if_f c
    have c3 : op = 32 ∨ 8 < mc_wo st sz op + need := by omega
    obtain ⟨hq, hmin⟩ := mc_lf_spec (hex c3)
    have hq1 := (hfree _ hq.1).mp hq.2
    rw [e]
    exact ⟨hq.1, by omega, by rw [hq1.2, hq.2], Or.inr ⟨hq.2, hq1.1, c3⟩⟩
theorem mx_pl {post : Int32 → St2 → Prop} {need : Nat} (h : mc_PH st sz O fb op need)
    (hp : post (nI (1000 + 8 * mc_pg O op (mc_wo st sz op) need + O (mc_pg O op (mc_wo st sz op) need))) ((nI n), (nI lim), kc, (mc_oI (mc_pg O op (mc_wo st sz op) need)), (nI mk), (nI U), H, wd, (fun j => nI (W j)), (fun j => nI (S j)), (fun j => nI (P j)), (fun j => nI (R j)), (fun j => nI (mc_up O (mc_pg O op (mc_wo st sz op) need) (O (mc_pg O op (mc_wo st sz op) need) + need) j)), (fun j => nI (px j)), (fun j => nI (cd j)), (fun j => nI (K j)))) : wpX_place post ((nI n), (nI lim), kc, (mc_oI op), (nI mk), (nI U), H, wd, (fun j => nI (W j)), (fun j => nI (S j)), (fun j => nI (P j)), (fun j => nI (R j)), (fun j => nI (O j)), (fun j => nI (px j)), (fun j => nI (cd j)), (fun j => nI (K j))) (nI need) := by
  obtain ⟨hb, hU, hO, hfb, hfree, hopen, hop, hn, hn8, hex⟩ := h
  by_cases c : op < 32 ∧ mc_wo st sz op + need ≤ 8
  · have e : mc_pg O op (mc_wo st sz op) need = op := mc_if_t c
    rw [e] at hp
    exact mx_place_o c.1 rfl (by rw [hopen c.1]; exact c.2) hp
  · have e : mc_pg O op (mc_wo st sz op) need = mc_lf O := mc_if_f c
    have c3 : op = 32 ∨ 8 < mc_wo st sz op + need := by omega
    obtain ⟨hq, hmin⟩ := mc_lf_spec (hex c3)
    have hm : ∀ p, p < mc_lf O → O p ≠ 0 := fun p hp z => hmin p hp ⟨by have := hq.1; omega, z⟩
    have c4 : op = 32 ∨ (op < 32 ∧ 8 < O op + need) := by
      by_cases z : op < 32
      · exact Or.inr ⟨z, by rw [hopen z]; omega⟩
      · exact Or.inl (by omega)
    rw [e, hq.2, Nat.zero_add] at hp
    exact mx_place_n c4 (by omega) hq.1 hq.2 hm hO hp
end
