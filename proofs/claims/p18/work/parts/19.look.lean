/-! what the looking methods answer, over a picture -/
section
variable {n lim op mk U : Nat} {kc ld oo : Int32} {H wd ce : Nat → Int32} {W S P R O px cd K sr st sz pc L py fb : Nat → Nat}
theorem po_S0 (hS : mc_Slot mk sr st sz pc) (hXZ : mc_XZ sr sz S) : S 0 = 0 := by
  rcases hXZ 0 with z | ⟨s, hs, hz, z⟩
  · exact z
  · have := (hS s hs).2.2 hz
    omega
theorem po_root {post : Int32 → Prop} {j : Nat} (hn8 : n ≤ 8) (hj : j < n) (h : post (H j)) : wpX_root post ((nI n), (nI lim), kc, (mc_oI op), (nI mk), (nI U), H, wd, (fun j => nI (W j)), (fun j => nI (S j)), (fun j => nI (P j)), (fun j => nI (R j)), (fun j => nI (O j)), (fun j => nI (px j)), (fun j => nI (cd j)), (fun j => nI (K j))) (nI j) := by
  unfold wpX_root
  refine mx_bad_f hn8 hj (br_t rfl ⟨vp_in_nI (by omega) (by omega), ?_⟩)
  rw [nI_clamp (by omega)]
  exact h
theorem po_base_at {post : Int32 → Prop} {w : Int32} {s : Nat} (hS : mc_Slot mk sr st sz pc) (hmk : mk ≤ 4095) (hX : mc_XS sr st sz pc S P R W) (hA : mc_At sr st sz W w s) (h : post (nI (st s))) : wpX_baseOf post ((nI n), (nI lim), kc, (mc_oI op), (nI mk), (nI U), H, wd, (fun j => nI (W j)), (fun j => nI (S j)), (fun j => nI (P j)), (fun j => nI (R j)), (fun j => nI (O j)), (fun j => nI (px j)), (fun j => nI (cd j)), (fun j => nI (K j))) w := by
  have hb := (hS s hA.1).2.2 hA.2.1
  unfold wpX_baseOf
  refine mx_own_at hA ⟨vp_in_nI (by omega) (by omega), ?_⟩
  show post (nI (S (nI (sr s)).toNatClampNeg))
  rw [nI_clamp (by omega), (hX s hA.1 hA.2.1).1]
  exact h
theorem po_base_no {post : Int32 → Prop} {w : Int32} (hS0 : S 0 = 0) (hN : mc_No st sz W w) (h : post 0) : wpX_baseOf post ((nI n), (nI lim), kc, (mc_oI op), (nI mk), (nI U), H, wd, (fun j => nI (W j)), (fun j => nI (S j)), (fun j => nI (P j)), (fun j => nI (R j)), (fun j => nI (O j)), (fun j => nI (px j)), (fun j => nI (cd j)), (fun j => nI (K j))) w := by
  unfold wpX_baseOf
  refine mx_own_no hN ⟨vp_in_nI (n := 0) (by omega) (by omega), ?_⟩
  show post (nI (S (nI 0).toNatClampNeg))
  rw [nI_clamp (by omega), hS0, nI_0]
  exact h
theorem po_ser_at {post : Int32 → Prop} {w : Int32} {s : Nat} (hA : mc_At sr st sz W w s) (h : post (nI (sr s))) : wpX_serialAt post ((nI n), (nI lim), kc, (mc_oI op), (nI mk), (nI U), H, wd, (fun j => nI (W j)), (fun j => nI (S j)), (fun j => nI (P j)), (fun j => nI (R j)), (fun j => nI (O j)), (fun j => nI (px j)), (fun j => nI (cd j)), (fun j => nI (K j))) w := by
  unfold wpX_serialAt
  exact mx_own_at hA h
theorem po_adr {post : Int32 → Prop} {v : Nat} (h1 : 1 ≤ v) (h2 : v ≤ 4095) (h : post (nI (S v))) : wpX_addressOf post ((nI n), (nI lim), kc, (mc_oI op), (nI mk), (nI U), H, wd, (fun j => nI (W j)), (fun j => nI (S j)), (fun j => nI (P j)), (fun j => nI (R j)), (fun j => nI (O j)), (fun j => nI (px j)), (fun j => nI (cd j)), (fun j => nI (K j))) (nI v) := by
  unfold wpX_addressOf
  refine br_f (nI_nlt (b := 1) h1 (by omega)) (br_t (nI_le (b := 4095) h2 (by omega)) ⟨vp_in_nI (by omega) (by omega), ?_⟩)
  rw [nI_clamp (by omega)]
  exact h
theorem po_shape {post : Int32 → Prop} {w : Int32} {s : Nat} (hS : mc_Slot mk sr st sz pc) (hmk : mk ≤ 4095) (hX : mc_XS sr st sz pc S P R W) (hA : mc_At sr st sz W w s) (h : post (nI (4 * pc s + (sz s - 1 - pc s)))) : wpX_shapeAt post ((nI n), (nI lim), kc, (mc_oI op), (nI mk), (nI U), H, wd, (fun j => nI (W j)), (fun j => nI (S j)), (fun j => nI (P j)), (fun j => nI (R j)), (fun j => nI (O j)), (fun j => nI (px j)), (fun j => nI (cd j)), (fun j => nI (K j))) w := by
  have hb := (hS s hA.1).2.2 hA.2.1
  have hv : vp_in (nI (sr s)) 4096 := vp_in_nI (by omega) (by omega)
  obtain ⟨x1, x2, x3, x4⟩ := hX s hA.1 hA.2.1
  unfold wpX_shapeAt
  refine mx_own_at hA ⟨hv, hv, ?_⟩
  show post (4 * nI (P (nI (sr s)).toNatClampNeg) + nI (R (nI (sr s)).toNatClampNeg))
  have e : 4 * pc s + R (sr s) = 4 * pc s + (sz s - 1 - pc s) := by omega
  rw [nI_clamp (by omega), x2, mn_4m, nI_add, e]
  exact h
theorem po_field {post : Int32 → Prop} {w : Int32} {s k : Nat} (hS : mc_Slot mk sr st sz pc) (hmk : mk ≤ 4095) (hX : mc_XS sr st sz pc S P R W) (hA : mc_At sr st sz W w s) (hk : k + 1 < sz s) (h : post (wd (st s - 1000 + 1 + k))) : wpX_field post ((nI n), (nI lim), kc, (mc_oI op), (nI mk), (nI U), H, wd, (fun j => nI (W j)), (fun j => nI (S j)), (fun j => nI (P j)), (fun j => nI (R j)), (fun j => nI (O j)), (fun j => nI (px j)), (fun j => nI (cd j)), (fun j => nI (K j))) w (nI k) := by
  have hb := (hS s hA.1).2.2 hA.2.1
  have hb1 := (hS s hA.1).1
  have hb4 := (hS s hA.1).2.1
  obtain ⟨x1, x2, x3, x4⟩ := hX s hA.1 hA.2.1
  unfold wpX_field
  refine mx_own_at hA (mx_lack_f (m := sz s - 1) (by omega) (by omega) (by omega) (by omega) (br_t rfl (mx_fi (by omega) x1 (by omega) ⟨vp_in_nI (by omega) (by omega), ?_⟩)))
  rw [nI_clamp (by omega)]
  exact h
/-- a serial's start: 0, or that of the live slot that has it -/
theorem po_Sv (hX : mc_XS sr st sz pc S P R W) (hXZ : mc_XZ sr sz S) (v : Nat) : (S v = 0 ∧ ∀ s, s < 30 → 0 < sz s → sr s = v → st s = 0) ∨ ∃ s, s < 30 ∧ 0 < sz s ∧ v = sr s ∧ S v = st s := by
  rcases hXZ v with z | ⟨s, hs, hz, e⟩
  · refine Or.inl ⟨z, fun s hs hz e => ?_⟩
    have := (hX s hs hz).1
    rw [e] at this
    omega
  · exact Or.inr ⟨s, hs, hz, e, by rw [e]; exact (hX s hs hz).1⟩
/-- halves tell live slots apart -/
theorem po_half (hS : mc_Slot mk sr st sz pc) (hD : mc_Dis sr st sz) {s t : Nat} (hs : s < 30) (ht : t < 30) (hzs : 0 < sz s) (hzt : 0 < sz t) (e : (st s - 1000) / 2 = (st t - 1000) / 2) : s = t := by
  have h1 := (hS s hs).2.2 hzs
  have h2 := (hS t ht).2.2 hzt
  by_cases c : s = t
  · exact c
  · have := (hD s t hs ht c hzs hzt).2
    omega
end
