/-! the component's small methods -/
section
variable {n lim op mk U : Nat} {kc ld : Int32} {H wd ce : Nat → Int32} {W S P R O px cd K sr st sz pc L py fb : Nat → Nat}
theorem mx_bad_f {post : Int32 → Prop} {k : Nat} (hn : n ≤ 8) (hk : k < n) (h : post 0) : wpX_isBadRoot post ((nI n), (nI lim), kc, (mc_oI op), (nI mk), (nI U), H, wd, (fun j => nI (W j)), (fun j => nI (S j)), (fun j => nI (P j)), (fun j => nI (R j)), (fun j => nI (O j)), (fun j => nI (px j)), (fun j => nI (cd j)), (fun j => nI (K j))) (nI k) :=
  br_f (nI_pos (by omega)) (br_t (nI_lt hk (by omega)) h)
theorem mx_bad_t {post : Int32 → Prop} {i : Int32} (hi : i < 0 ∨ (¬ i < 0 ∧ nI n ≤ i)) (h : post 1) : wpX_isBadRoot post ((nI n), (nI lim), kc, (mc_oI op), (nI mk), (nI U), H, wd, (fun j => nI (W j)), (fun j => nI (S j)), (fun j => nI (P j)), (fun j => nI (R j)), (fun j => nI (O j)), (fun j => nI (px j)), (fun j => nI (cd j)), (fun j => nI (K j))) i := by
  rcases hi with c | ⟨c, d⟩
  · exact br_t c h
  · exact br_f c (br_f (Int32.not_lt.mpr d) h)
theorem mx_own_at {post : Int32 → Prop} {w : Int32} {s : Nat} (h : mc_At sr st sz W w s) (hp : post (nI (sr s))) : wpX_ownerOf post ((nI n), (nI lim), kc, (mc_oI op), (nI mk), (nI U), H, wd, (fun j => nI (W j)), (fun j => nI (S j)), (fun j => nI (P j)), (fun j => nI (R j)), (fun j => nI (O j)), (fun j => nI (px j)), (fun j => nI (cd j)), (fun j => nI (K j))) w := by
  obtain ⟨hs, hz, i, hi, rfl, h1, h2, h3⟩ := h
  have e : nI (1000 + i) - 1000 = nI i := by
    rw [mn_s1000 (by omega)]
    exact congrArg nI (by omega)
  refine br_f (nI_nlt (b := 1000) (by omega) (by omega)) (br_t (nI_lt (b := 1256) (by omega) (by omega)) ⟨?_, ?_⟩)
  · rw [e]
    exact vp_in_nI hi (by omega)
  · rw [e, nI_clamp (by omega)]
    show post (nI (W i))
    rw [h3]
    exact hp
theorem mx_own_i {post : Int32 → Prop} {i : Nat} (hi : i < 256) (hp : post (nI (W i))) : wpX_ownerOf post ((nI n), (nI lim), kc, (mc_oI op), (nI mk), (nI U), H, wd, (fun j => nI (W j)), (fun j => nI (S j)), (fun j => nI (P j)), (fun j => nI (R j)), (fun j => nI (O j)), (fun j => nI (px j)), (fun j => nI (cd j)), (fun j => nI (K j))) (nI (1000 + i)) := by
  have e : nI (1000 + i) - 1000 = nI i := by
    rw [mn_s1000 (by omega)]
    exact congrArg nI (by omega)
  refine br_f (nI_nlt (b := 1000) (by omega) (by omega)) (br_t (nI_lt (b := 1256) (by omega) (by omega)) ⟨?_, ?_⟩)
  · rw [e]
    exact vp_in_nI hi (by omega)
  · rw [e, nI_clamp (by omega)]
    exact hp
theorem mx_own_no {post : Int32 → Prop} {w : Int32} (h : mc_No st sz W w) (hp : post 0) : wpX_ownerOf post ((nI n), (nI lim), kc, (mc_oI op), (nI mk), (nI U), H, wd, (fun j => nI (W j)), (fun j => nI (S j)), (fun j => nI (P j)), (fun j => nI (R j)), (fun j => nI (O j)), (fun j => nI (px j)), (fun j => nI (cd j)), (fun j => nI (K j))) w := by
  by_cases c : w < 1000
  · exact br_t c hp
  · by_cases d : w < 1256
    · have h0 : ¬ w < 0 := fun z => c (Int32.lt_trans z (by decide))
      obtain ⟨j, hj, rfl⟩ := nI_of h0
      have c2 : ¬ j < 1000 := fun z => c (nI_lt (b := 1000) z (by omega))
      have d2 : j < 1256 := (nI_ltI (b := 1256) hj (by omega)).mp d
      have e0 : j = 1000 + (j - 1000) := by omega
      have h1 := h.1 (j - 1000) (by omega) (congrArg nI e0)
      rw [e0]
      refine mx_own_i (by omega) ?_
      rw [h1]
      exact hp
    · exact br_f c (br_f d hp)
theorem mx_lack_f {post : Int32 → Prop} {v k m : Nat} (hv : v < 4096) (hm : P v + R v = m) (hk : k < m) (hm2 : m < 100) (h : post 0) : wpX_lacksField post ((nI n), (nI lim), kc, (mc_oI op), (nI mk), (nI U), H, wd, (fun j => nI (W j)), (fun j => nI (S j)), (fun j => nI (P j)), (fun j => nI (R j)), (fun j => nI (O j)), (fun j => nI (px j)), (fun j => nI (cd j)), (fun j => nI (K j))) (nI v) (nI k) := by
  have e : (nI v).toNatClampNeg = v := nI_clamp (by omega)
  refine br_f (nI_pos (by omega)) ⟨vp_in_nI hv (by omega), vp_in_nI hv (by omega), br_t ?_ h⟩
  show nI k < nI (P (nI v).toNatClampNeg) + nI (R (nI v).toNatClampNeg)
  rw [e, nI_add, hm]
  exact nI_lt hk (by omega)
theorem mx_lack_t {post : Int32 → Prop} {v m : Nat} {k : Int32} (hv : v < 4096) (hm : P v + R v = m) (hk : k < 0 ∨ (¬ k < 0 ∧ nI m ≤ k)) (h : post 1) : wpX_lacksField post ((nI n), (nI lim), kc, (mc_oI op), (nI mk), (nI U), H, wd, (fun j => nI (W j)), (fun j => nI (S j)), (fun j => nI (P j)), (fun j => nI (R j)), (fun j => nI (O j)), (fun j => nI (px j)), (fun j => nI (cd j)), (fun j => nI (K j))) (nI v) k := by
  have e : (nI v).toNatClampNeg = v := nI_clamp (by omega)
  rcases hk with c | ⟨c, d⟩
  · exact br_t c h
  · refine br_f c ⟨vp_in_nI hv (by omega), vp_in_nI hv (by omega), br_f ?_ h⟩
    show ¬ k < nI (P (nI v).toNatClampNeg) + nI (R (nI v).toNatClampNeg)
    rw [e, nI_add, hm]
    exact Int32.not_lt.mpr d
theorem mx_fi {post : Int32 → Prop} {v k a : Nat} (hv : v < 4096) (ha : S v = a) (h1 : 1000 ≤ a) (h : post (nI (a - 1000 + 1 + k))) : wpX_fieldIndex post ((nI n), (nI lim), kc, (mc_oI op), (nI mk), (nI U), H, wd, (fun j => nI (W j)), (fun j => nI (S j)), (fun j => nI (P j)), (fun j => nI (R j)), (fun j => nI (O j)), (fun j => nI (px j)), (fun j => nI (cd j)), (fun j => nI (K j))) (nI v) (nI k) := by
  have e : (nI v).toNatClampNeg = v := nI_clamp (by omega)
  refine ⟨vp_in_nI hv (by omega), ?_⟩
  show post (((nI (S (nI v).toNatClampNeg) - 1000) + 1) + nI k)
  rw [e, ha, mn_s1000 h1, nI_1, nI_add]
  exact h
theorem mx_size {post : Int32 → Prop} {v m : Nat} (hv : v < 4096) (hm : 1 + P v + R v = m) (h : post (nI m)) : wpX_sizeOf post ((nI n), (nI lim), kc, (mc_oI op), (nI mk), (nI U), H, wd, (fun j => nI (W j)), (fun j => nI (S j)), (fun j => nI (P j)), (fun j => nI (R j)), (fun j => nI (O j)), (fun j => nI (px j)), (fun j => nI (cd j)), (fun j => nI (K j))) (nI v) := by
  have e : (nI v).toNatClampNeg = v := nI_clamp (by omega)
  refine ⟨vp_in_nI hv (by omega), vp_in_nI hv (by omega), ?_⟩
  show post ((1 + nI (P (nI v).toNatClampNeg)) + nI (R (nI v).toNatClampNeg))
  rw [e, mn_1a, nI_add, hm]
  exact h
theorem mx_low_l {post : Int32 → Prop} {q : Nat} (hq : q < 32) (h0 : O q = 0) (hm : ∀ p, p < q → O p ≠ 0) (hb : ∀ p, p < 32 → O p < 1000) (h : post (nI q)) :
    ∀ d i, i + d = q → wX_lowestFreePage_5 post 31 (nI n) (nI lim) kc (mc_oI op) (nI mk) (nI U) H wd (fun j => nI (W j)) (fun j => nI (S j)) (fun j => nI (P j)) (fun j => nI (R j)) (fun j => nI (O j)) (fun j => nI (px j)) (fun j => nI (cd j)) (fun j => nI (K j)) (d + 1) (nI i) := by
  intro d
  induction d with
  | zero =>
    intro i hi
    have ei : i = q := by omega
    rw [ei]
    by_cases c : q = 31
    · refine br_t (nI_le (a := 31) (by omega) (by omega)) ?_
      rw [c] at h
      exact h
    · refine br_f (nI_ge (b := 31) (by omega) (by omega)) ⟨vp_in_nI hq (by omega), br_t ?_ h⟩
      show nI (O (nI q).toNatClampNeg) = 0
      rw [nI_clamp (by omega), h0, nI_0]
  | succ d ih =>
    intro i hi
    refine br_f (nI_ge (b := 31) (by omega) (by omega)) ⟨vp_in_nI (by omega) (by omega), br_f ?_ (nm_r (nI_1 i) (ih (i + 1) (by omega)))⟩
    show ¬ nI (O (nI i).toNatClampNeg) = 0
    have := hm i (by omega)
    have := hb i (by omega)
    rw [nI_clamp (by omega)]
    exact nI_ne0 (by omega) (by omega)
theorem mx_low {post : Int32 → Prop} {q : Nat} (hq : q < 32) (h0 : O q = 0) (hm : ∀ p, p < q → O p ≠ 0) (hb : ∀ p, p < 32 → O p < 1000) (h : post (nI q)) : wpX_lowestFreePage post ((nI n), (nI lim), kc, (mc_oI op), (nI mk), (nI U), H, wd, (fun j => nI (W j)), (fun j => nI (S j)), (fun j => nI (P j)), (fun j => nI (R j)), (fun j => nI (O j)), (fun j => nI (px j)), (fun j => nI (cd j)), (fun j => nI (K j))) :=
  ⟨q + 1, mx_low_l hq h0 hm hb h q 0 (by omega)⟩
theorem mx_place_o {post : Int32 → St2 → Prop} {need w : Nat} (ho : op < 32) (hw : O op = w) (hn : w + need ≤ 8)
    (h : post (nI (1000 + 8 * op + w)) ((nI n), (nI lim), kc, (mc_oI op), (nI mk), (nI U), H, wd, (fun j => nI (W j)), (fun j => nI (S j)), (fun j => nI (P j)), (fun j => nI (R j)), (fun j => nI (mc_up O op (w + need) j)), (fun j => nI (px j)), (fun j => nI (cd j)), (fun j => nI (K j)))) : wpX_place post ((nI n), (nI lim), kc, (mc_oI op), (nI mk), (nI U), H, wd, (fun j => nI (W j)), (fun j => nI (S j)), (fun j => nI (P j)), (fun j => nI (R j)), (fun j => nI (O j)), (fun j => nI (px j)), (fun j => nI (cd j)), (fun j => nI (K j))) (nI need) := by
  rw [mc_oI_t ho] at h ⊢
  have e : (nI op).toNatClampNeg = op := nI_clamp (by omega)
  have hv := vp_in_nI (N := 32) ho (by omega)
  refine br_f (mn_nI_m1 (by omega)) ⟨hv, br_f ?_ ?_⟩
  · show ¬ 8 < nI (O (nI op).toNatClampNeg) + nI need
    rw [e, hw, nI_add]
    exact nI_nlt (a := 8) hn (by omega)
  · refine ⟨hv, nm_r (e' := nI (1000 + 8 * op + w)) ?_ ⟨hv, hv, nm_r (e' := fun j => nI (mc_up O op (w + need) j)) ?_ h⟩⟩
    · show 1000 + nI op * 8 + nI (O (nI op).toNatClampNeg) = _
      rw [e, hw, mn_m8, mn_a1000, nI_add]
    · show upd (fun j => nI (O j)) (nI op).toNatClampNeg (nI (O (nI op).toNatClampNeg) + nI need) = _
      rw [e, hw, nI_add]
      exact mc_upI O op (w + need)
theorem mx_place_n {post : Int32 → St2 → Prop} {need q : Nat} (hop : op = 32 ∨ (op < 32 ∧ 8 < O op + need)) (hn : need < 1000) (hq : q < 32) (h0 : O q = 0) (hm : ∀ p, p < q → O p ≠ 0) (hb : ∀ p, p < 32 → O p < 1000)
    (h : post (nI (1000 + 8 * q)) ((nI n), (nI lim), kc, (mc_oI q), (nI mk), (nI U), H, wd, (fun j => nI (W j)), (fun j => nI (S j)), (fun j => nI (P j)), (fun j => nI (R j)), (fun j => nI (mc_up O q need j)), (fun j => nI (px j)), (fun j => nI (cd j)), (fun j => nI (K j)))) : wpX_place post ((nI n), (nI lim), kc, (mc_oI op), (nI mk), (nI U), H, wd, (fun j => nI (W j)), (fun j => nI (S j)), (fun j => nI (P j)), (fun j => nI (R j)), (fun j => nI (O j)), (fun j => nI (px j)), (fun j => nI (cd j)), (fun j => nI (K j))) (nI need) := by
  have key : wX_place_57 post (nI need) (nI n) (nI lim) kc (mc_oI op) (nI mk) (nI U) H wd (fun j => nI (W j)) (fun j => nI (S j)) (fun j => nI (P j)) (fun j => nI (R j)) (fun j => nI (O j)) (fun j => nI (px j)) (fun j => nI (cd j)) (fun j => nI (K j)) := by
    refine mx_low hq h0 hm hb ⟨vp_in_nI hq (by omega), nm_r (e' := fun j => nI (mc_up O q need j)) ?_ ?_⟩
    · rw [nI_clamp (by omega)]
      exact mc_upI O q need
    · show post (1000 + nI q * 8) _
      rw [mn_m8, mn_a1000]
      rw [mc_oI_t hq] at h
      exact h
  rcases hop with c | ⟨c, d⟩
  · rw [c] at key ⊢
    exact br_t mc_oI_32 key
  · rw [mc_oI_t c] at key ⊢
    have := hb op c
    refine br_f (mn_nI_m1 (by omega)) ⟨vp_in_nI c (by omega), br_t ?_ key⟩
    show 8 < nI (O (nI op).toNatClampNeg) + nI need
    rw [nI_clamp (by omega), nI_add]
    exact nI_lt (a := 8) d (by omega)
theorem mx_settle_l {post : St2 → Prop} {v a m : Nat} (hv : v < 4096) (ha : 1000 ≤ a) (ham : a + m ≤ 1256) (hm : m < 1000)
    (h : post ((nI n), (nI lim), kc, (mc_oI op), (nI mk), (nI U), H, wd, (fun j => nI (mc_rg W (a - 1000) m v j)), (fun j => nI (mc_up S v a j)), (fun j => nI (P j)), (fun j => nI (R j)), (fun j => nI (O j)), (fun j => nI (px j)), (fun j => nI (cd j)), (fun j => nI (K j)))) :
    ∀ d i, i + d = m → wX_settle_16 post (nI v) (nI a) (nI (a - 1000)) (nI m) (nI n) (nI lim) kc (mc_oI op) (nI mk) (nI U) (d + 1) (nI i) H wd (fun j => nI (mc_rg W (a - 1000) i v j)) (fun j => nI (S j)) (fun j => nI (P j)) (fun j => nI (R j)) (fun j => nI (O j)) (fun j => nI (px j)) (fun j => nI (cd j)) (fun j => nI (K j)) := by
  intro d
  induction d with
  | zero =>
    intro i hi
    have ei : i = m := by omega
    rw [ei]
    refine br_t (nI_le (by omega) (by omega)) ⟨vp_in_nI hv (by omega), nm_r (e' := fun j => nI (mc_up S v a j)) ?_ h⟩
    rw [nI_clamp (by omega)]
    exact mc_upI S v a
  | succ d ih =>
    intro i hi
    refine br_f (nI_ge (by omega) (by omega)) ⟨?_, nm_r (e' := fun j => nI (mc_rg W (a - 1000) (i + 1) v j)) ?_ (nm_r (nI_1 i) (ih (i + 1) (by omega)))⟩
    · rw [nI_add]
      exact vp_in_nI (by omega) (by omega)
    · rw [nI_add, nI_clamp (by omega), mc_upI, mc_rg_s]
theorem mx_settle {post : St2 → Prop} {v a m : Nat} (hv : v < 4096) (ha : 1000 ≤ a) (ham : a + m ≤ 1256) (hm : m < 1000) (hP : 1 + P v + R v = m)
    (h : post ((nI n), (nI lim), kc, (mc_oI op), (nI mk), (nI U), H, wd, (fun j => nI (mc_rg W (a - 1000) m v j)), (fun j => nI (mc_up S v a j)), (fun j => nI (P j)), (fun j => nI (R j)), (fun j => nI (O j)), (fun j => nI (px j)), (fun j => nI (cd j)), (fun j => nI (K j)))) : wpX_settle post ((nI n), (nI lim), kc, (mc_oI op), (nI mk), (nI U), H, wd, (fun j => nI (W j)), (fun j => nI (S j)), (fun j => nI (P j)), (fun j => nI (R j)), (fun j => nI (O j)), (fun j => nI (px j)), (fun j => nI (cd j)), (fun j => nI (K j))) (nI v) (nI a) := by
  refine nm_r (mn_s1000 ha) (mx_size hv hP ⟨m + 1, ?_⟩)
  have := mx_settle_l hv ha ham hm h m 0 (by omega)
  rw [mc_rg_0] at this
  exact this
theorem mx_clear_l {post : St2 → Prop} {a m : Nat} (ham : a + m ≤ 256) (hm : m < 1000)
    (h : post ((nI n), (nI lim), kc, (mc_oI op), (nI mk), (nI U), H, (mc_rI wd a m 0), (fun j => nI (W j)), (fun j => nI (S j)), (fun j => nI (P j)), (fun j => nI (R j)), (fun j => nI (O j)), (fun j => nI (px j)), (fun j => nI (cd j)), (fun j => nI (K j)))) :
    ∀ d i, i + d = m → wX_clearWords_9 post (nI m) (nI a) (nI n) (nI lim) kc (mc_oI op) (nI mk) (nI U) (d + 1) (nI i) H (mc_rI wd a i 0) (fun j => nI (W j)) (fun j => nI (S j)) (fun j => nI (P j)) (fun j => nI (R j)) (fun j => nI (O j)) (fun j => nI (px j)) (fun j => nI (cd j)) (fun j => nI (K j)) := by
  intro d
  induction d with
  | zero =>
    intro i hi
    have ei : i = m := by omega
    rw [ei]
    exact br_t (nI_le (by omega) (by omega)) h
  | succ d ih =>
    intro i hi
    refine br_f (nI_ge (by omega) (by omega)) ⟨?_, nm_r (e' := mc_rI wd a (i + 1) 0) ?_ (nm_r (nI_1 i) (ih (i + 1) (by omega)))⟩
    · rw [nI_add]
      exact vp_in_nI (by omega) (by omega)
    · rw [nI_add, nI_clamp (by omega), mc_rI_s]
theorem mx_clear {post : St2 → Prop} {a m : Nat} (ha : 1000 ≤ a) (ham : a + m ≤ 1256) (hm : m < 1000)
    (h : post ((nI n), (nI lim), kc, (mc_oI op), (nI mk), (nI U), H, (mc_rI wd (a - 1000) m 0), (fun j => nI (W j)), (fun j => nI (S j)), (fun j => nI (P j)), (fun j => nI (R j)), (fun j => nI (O j)), (fun j => nI (px j)), (fun j => nI (cd j)), (fun j => nI (K j)))) : wpX_clearWords post ((nI n), (nI lim), kc, (mc_oI op), (nI mk), (nI U), H, wd, (fun j => nI (W j)), (fun j => nI (S j)), (fun j => nI (P j)), (fun j => nI (R j)), (fun j => nI (O j)), (fun j => nI (px j)), (fun j => nI (cd j)), (fun j => nI (K j))) (nI a) (nI m) := by
  refine nm_r (mn_s1000 ha) ⟨m + 1, ?_⟩
  have := mx_clear_l (by omega) hm h m 0 (by omega)
  rw [mc_rI_0] at this
  exact this
end
