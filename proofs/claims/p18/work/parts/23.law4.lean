/-! the law's turns -/
section
variable {post : Int32 → Prop} {Ln : Nat} {xs : Nat → Int32} {J : Int32 → Int32 → Int32 → Int32 → Int32 → Int32 → Int32 → Int32 → Int32 → Int32 → (Nat → Int32) → (Nat → Int32) → (Nat → Int32) → (Nat → Int32) → (Nat → Int32) → (Nat → Int32) → (Nat → Int32) → (Nat → Int32) → (Nat → Int32) → (Nat → Int32) → Int32 → Int32 → Int32 → Int32 → Int32 → Int32 → (Nat → Int32) → (Nat → Int32) → (Nat → Int32) → (Nat → Int32) → (Nat → Int32) → (Nat → Int32) → (Nat → Int32) → (Nat → Int32) → (Nat → Int32) → (Nat → Int32) → Prop} {n lim mk : Nat} {kcn ksn : Nat}
theorem pv_cell {x : Int32} {p : Nat} (hL : Ln ≤ 260) (hp : p < 2 ^ 31) (ex : x = nI p) (h : ∀ c, post c) : wpL_cell post Ln xs () x := by
  subst ex
  unfold wpL_cell
  by_cases c : Ln ≤ p
  · exact br_t (nI_le c hp) (h 0)
  · exact br_f (nI_ge (by omega) (by omega)) ⟨vp_in_nI (by omega) (by omega), h _⟩
theorem pv_pick {x : Int32} {p m : Nat} (hL : Ln ≤ 260) (hp : p < 2 ^ 31) (ex : x = nI p) (hm : 0 < m) (hm2 : m < 2 ^ 31) (h : ∀ j, j < m → post (nI j)) : wpL_pick post Ln xs () x (nI m) := by
  unfold wpL_pick
  refine pv_cell hL hp ex (fun c => ⟨nI_ne0 hm hm2, ?_⟩)
  obtain ⟨j, hj, e⟩ := pk_andE c (m := 2147483647) 31 (by decide)
  rw [e, pk_rem hj hm hm2]
  exact h _ (Nat.mod_lt _ hm)
section
variable {pos stp : Nat} {x7 : Int32} {a1 a2 a3 a4 a5 a6 : Int32} {a7 a8 a9 a10 a11 a12 a13 a14 a15 a16 : Nat → Int32}
theorem pl_338 {x10 x11 x17 : Int32} (hn8 : n ≤ 8) (hG : pv_Gd n lim mk (a1, a2, a3, a4, a5, a6, a7, a8, a9, a10, a11, a12, a13, a14, a15, a16))
    (hJ : ∀ (mk' pos' : Nat) (b1 b2 b3 b4 b5 b6 : Int32) (b7 b8 b9 b10 b11 b12 b13 b14 b15 b16 : Nat → Int32), pos' ≤ pos + 4 → pv_Gd n lim mk' (b1, b2, b3, b4, b5, b6, b7, b8, b9, b10, b11, b12, b13, b14, b15, b16) → J (nI mk') (nI pos') x7 (nI (stp + 1)) b1 b2 b3 b4 b5 b6 b7 b8 b9 b10 b11 b12 b13 b14 b15 b16 b1 b2 b3 b4 b5 b6 b7 b8 b9 b10 b11 b12 b13 b14 b15 b16) :
    wL_law_338 post Ln xs J (nI n) (nI mk) (nI pos) x7 (nI stp) x10 x11 x17 kcn ksn a1 a2 a3 a4 a5 a6 a7 a8 a9 a10 a11 a12 a13 a14 a15 a16 a1 a2 a3 a4 a5 a6 a7 a8 a9 a10 a11 a12 a13 a14 a15 a16 := by
  obtain ⟨r1, ⟨b1, b2, b3, b4, b5, b6, b7, b8, b9, b10, b11, b12, b13, b14, b15, b16⟩, hG1, k1⟩ := pv_setRoot hn8 hG x10 x17
  obtain ⟨r2, ⟨c1, c2, c3, c4, c5, c6, c7, c8, c9, c10, c11, c12, c13, c14, c15, c16⟩, hG2, k2⟩ := pv_setRoot hn8 hG1 x11 0
  unfold wL_law_338
  exact k1 _ (k1 _ (k2 _ (k2 _ (nm_r (nI_add pos 4) (nm_r (nI_1 stp) (hJ mk (pos + 4) c1 c2 c3 c4 c5 c6 c7 c8 c9 c10 c11 c12 c13 c14 c15 c16 (by omega) hG2))))))
theorem pl_310 {x10 x11 x14 x15 x16 x17 : Int32} (hn8 : n ≤ 8) (hG : pv_Gd n lim mk (a1, a2, a3, a4, a5, a6, a7, a8, a9, a10, a11, a12, a13, a14, a15, a16))
    (hJ : ∀ (mk' pos' : Nat) (b1 b2 b3 b4 b5 b6 : Int32) (b7 b8 b9 b10 b11 b12 b13 b14 b15 b16 : Nat → Int32), pos' ≤ pos + 4 → pv_Gd n lim mk' (b1, b2, b3, b4, b5, b6, b7, b8, b9, b10, b11, b12, b13, b14, b15, b16) → J (nI mk') (nI pos') x7 (nI (stp + 1)) b1 b2 b3 b4 b5 b6 b7 b8 b9 b10 b11 b12 b13 b14 b15 b16 b1 b2 b3 b4 b5 b6 b7 b8 b9 b10 b11 b12 b13 b14 b15 b16) :
    wL_law_310 post Ln xs J (nI n) (nI mk) (nI pos) x7 (nI stp) x10 x11 x14 x15 x16 x17 kcn ksn a1 a2 a3 a4 a5 a6 a7 a8 a9 a10 a11 a12 a13 a14 a15 a16 a1 a2 a3 a4 a5 a6 a7 a8 a9 a10 a11 a12 a13 a14 a15 a16 := by
  obtain ⟨r1, ⟨b1, b2, b3, b4, b5, b6, b7, b8, b9, b10, b11, b12, b13, b14, b15, b16⟩, hG1, k1⟩ := pv_put hn8 hG x11 x14 x16
  unfold wL_law_310
  exact br_c (fun _ => pl_338 hn8 hG hJ) (fun _ => k1 _ (k1 _ (pl_338 hn8 hG1 hJ)))
theorem pl_670 {x10 z : Int32} (hn8 : n ≤ 8) (hG : pv_Gd n lim mk (a1, a2, a3, a4, a5, a6, a7, a8, a9, a10, a11, a12, a13, a14, a15, a16))
    (hJ : ∀ (mk' pos' : Nat) (b1 b2 b3 b4 b5 b6 : Int32) (b7 b8 b9 b10 b11 b12 b13 b14 b15 b16 : Nat → Int32), pos' ≤ pos + 4 → pv_Gd n lim mk' (b1, b2, b3, b4, b5, b6, b7, b8, b9, b10, b11, b12, b13, b14, b15, b16) → J (nI mk') (nI pos') x7 (nI (stp + 1)) b1 b2 b3 b4 b5 b6 b7 b8 b9 b10 b11 b12 b13 b14 b15 b16 b1 b2 b3 b4 b5 b6 b7 b8 b9 b10 b11 b12 b13 b14 b15 b16) :
    wL_law_670 post Ln xs J (nI n) (nI mk) (nI pos) x7 (nI stp) x10 z kcn ksn a1 a2 a3 a4 a5 a6 a7 a8 a9 a10 a11 a12 a13 a14 a15 a16 a1 a2 a3 a4 a5 a6 a7 a8 a9 a10 a11 a12 a13 a14 a15 a16 := by
  obtain ⟨r1, ⟨b1, b2, b3, b4, b5, b6, b7, b8, b9, b10, b11, b12, b13, b14, b15, b16⟩, hG1, k1⟩ := pv_setRoot hn8 hG x10 z
  unfold wL_law_670
  exact k1 _ (k1 _ (nm_r (nI_add pos 4) (nm_r (nI_1 stp) (hJ mk (pos + 4) b1 b2 b3 b4 b5 b6 b7 b8 b9 b10 b11 b12 b13 b14 b15 b16 (by omega) hG1))))
theorem pl_547 {x10 x13 z : Int32} (hn8 : n ≤ 8) (hG : pv_Gd n lim mk (a1, a2, a3, a4, a5, a6, a7, a8, a9, a10, a11, a12, a13, a14, a15, a16))
    (hJ : ∀ (mk' pos' : Nat) (b1 b2 b3 b4 b5 b6 : Int32) (b7 b8 b9 b10 b11 b12 b13 b14 b15 b16 : Nat → Int32), pos' ≤ pos + 4 → pv_Gd n lim mk' (b1, b2, b3, b4, b5, b6, b7, b8, b9, b10, b11, b12, b13, b14, b15, b16) → J (nI mk') (nI pos') x7 (nI (stp + 1)) b1 b2 b3 b4 b5 b6 b7 b8 b9 b10 b11 b12 b13 b14 b15 b16 b1 b2 b3 b4 b5 b6 b7 b8 b9 b10 b11 b12 b13 b14 b15 b16) :
    wL_law_547 post Ln xs J (nI n) (nI mk) (nI pos) x7 (nI stp) x10 x13 z kcn ksn a1 a2 a3 a4 a5 a6 a7 a8 a9 a10 a11 a12 a13 a14 a15 a16 a1 a2 a3 a4 a5 a6 a7 a8 a9 a10 a11 a12 a13 a14 a15 a16 := by
  obtain ⟨r1, ⟨b1, b2, b3, b4, b5, b6, b7, b8, b9, b10, b11, b12, b13, b14, b15, b16⟩, hG1, k1⟩ := pv_put hn8 hG x10 (x13 - x13 / 3 * 3) z
  unfold wL_law_547
  exact ⟨by decide, k1 _ ⟨by decide, k1 _ (nm_r (nI_add pos 4) (nm_r (nI_1 stp) (hJ mk (pos + 4) b1 b2 b3 b4 b5 b6 b7 b8 b9 b10 b11 b12 b13 b14 b15 b16 (by omega) hG1)))⟩⟩
theorem pl_415 {x10 x14 z : Int32} (hn8 : n ≤ 8) (hG : pv_Gd n lim mk (a1, a2, a3, a4, a5, a6, a7, a8, a9, a10, a11, a12, a13, a14, a15, a16))
    (hJ : ∀ (mk' pos' : Nat) (b1 b2 b3 b4 b5 b6 : Int32) (b7 b8 b9 b10 b11 b12 b13 b14 b15 b16 : Nat → Int32), pos' ≤ pos + 4 → pv_Gd n lim mk' (b1, b2, b3, b4, b5, b6, b7, b8, b9, b10, b11, b12, b13, b14, b15, b16) → J (nI mk') (nI pos') x7 (nI (stp + 1)) b1 b2 b3 b4 b5 b6 b7 b8 b9 b10 b11 b12 b13 b14 b15 b16 b1 b2 b3 b4 b5 b6 b7 b8 b9 b10 b11 b12 b13 b14 b15 b16) :
    wL_law_415 post Ln xs J (nI n) (nI mk) (nI pos) x7 (nI stp) x10 x14 z kcn ksn a1 a2 a3 a4 a5 a6 a7 a8 a9 a10 a11 a12 a13 a14 a15 a16 a1 a2 a3 a4 a5 a6 a7 a8 a9 a10 a11 a12 a13 a14 a15 a16 := by
  obtain ⟨r1, ⟨b1, b2, b3, b4, b5, b6, b7, b8, b9, b10, b11, b12, b13, b14, b15, b16⟩, hG1, k1⟩ := pv_alloc hn8 hG x10 x14 z
  unfold wL_law_415
  refine k1 _ ?_
  rcases hG1 with ⟨c, hG1⟩ | ⟨c, hG1⟩
  · exact br_t c (k1 _ (nm_r (nI_add pos 4) (nm_r (nI_1 stp) (hJ mk (pos + 4) b1 b2 b3 b4 b5 b6 b7 b8 b9 b10 b11 b12 b13 b14 b15 b16 (by omega) hG1))))
  · exact br_f c (nm_r (nI_1 mk) (k1 _ (nm_r (nI_add pos 4) (nm_r (nI_1 stp) (hJ (mk + 1) (pos + 4) b1 b2 b3 b4 b5 b6 b7 b8 b9 b10 b11 b12 b13 b14 b15 b16 (by omega) hG1)))))
theorem pl_coll (hn8 : n ≤ 8) (hG : pv_Gd n lim mk (a1, a2, a3, a4, a5, a6, a7, a8, a9, a10, a11, a12, a13, a14, a15, a16))
    (hJ : ∀ (mk' pos' : Nat) (b1 b2 b3 b4 b5 b6 : Int32) (b7 b8 b9 b10 b11 b12 b13 b14 b15 b16 : Nat → Int32), pos' ≤ pos + 4 → pv_Gd n lim mk' (b1, b2, b3, b4, b5, b6, b7, b8, b9, b10, b11, b12, b13, b14, b15, b16) → J (nI mk') (nI pos') x7 (nI (stp + 1)) b1 b2 b3 b4 b5 b6 b7 b8 b9 b10 b11 b12 b13 b14 b15 b16 b1 b2 b3 b4 b5 b6 b7 b8 b9 b10 b11 b12 b13 b14 b15 b16) :
    wpX_collect (fun r u => match u with | (b1, b2, b3, b4, b5, b6, b7, b8, b9, b10, b11, b12, b13, b14, b15, b16) => ∃ f, wL_law_718 post Ln xs J (nI n) (nI mk) (nI (pos + 1)) x7 (nI stp) r 0 0 kcn ksn b1 b2 b3 b4 b5 b6 b7 b8 b9 b10 b11 b12 b13 b14 b15 b16 a1 a2 a3 a4 a5 a6 a7 a8 a9 a10 a11 a12 a13 a14 a15 a16 f 0 0) (a1, a2, a3, a4, a5, a6, a7, a8, a9, a10, a11, a12, a13, a14, a15, a16) := by
  obtain ⟨op, U, kc, H, wd, ce, W, S, P, R, O, px, cd, K, sr, st, sz, pc, e, hG0⟩ := hG
  cases e
  obtain ⟨pn, l, m0, op2, U2, st2, S2, W2, O2, cd2, K2, w2, hPN, hlg, hpn, hcl, hsrc, hpin, hG2, hcol⟩ := px_collect (n := n) (kc := a3) (H := a7) (px := px) (cd := cd) (K := K) hn8 hG0
  have hCC : pv_C n mk lim op op2 U U2 a7 ce a8 w2 W S P R O sr st sz pc pn st2 S2 W2 O2 l m0 := ⟨hG0, hG2, hPN, hlg, hpn, hcl, hsrc, hpin⟩
  have hS := hG0.1
  refine hcol _ ⟨n + 1, pl_718 hn8 hCC (fun pins hpins => ?_) n 0 0 (by omega) (fun p _ => ⟨fun z => absurd z (pv_b0 p), fun ⟨r, s, hr, _⟩ => absurd hr (by omega)⟩)⟩
  refine ⟨mk + 1, pl_813 hCC hpins (fun lo hi hm => ?_) mk 1 0 0 (by omega) (by omega) (fun q _ => ⟨fun z => absurd z (pv_m0 q), fun ⟨t, a1, a2, a3, _⟩ => ?_⟩)⟩
  · refine ⟨33, pl_907 hCC (fun lo' hi' hm' => ?_) 32 0 lo hi 1 (by omega) ⟨fun q hq z => ?_, fun t a1 a2 a3 => ?_⟩ (Or.inl ⟨rfl, Nat.zero_le _⟩)⟩
    · have e0 : pv_lost sr sz l 1 = 0 := mc_sm_0 30 (fun t ht => mc_if_f (fun c => by
        have := (hS t ht).2.2 c.1
        omega))
      have := pl_1109 (post := post) (Ln := Ln) (xs := xs) (J := J) (x6 := nI (pos + 1)) (x7 := x7) (x8 := nI stp) (kcn := kcn) (ksn := ksn) hCC hpins hm' hcol (fun x ex => by
        rw [ex, nI_1]
        exact hJ mk (pos + 1) _ _ _ _ _ _ _ _ _ _ _ _ _ _ _ _ (by omega) (pv_gd hG2)) mk 1 (by omega) (by omega)
      rw [e0] at this
      exact ⟨mk + 1, this⟩
    · obtain ⟨t, a1, a2, a3, a4⟩ := (hm q hq).mp z
      obtain ⟨i, i1, i2, i3⟩ := (hpn t a1 a2).mp a3
      exact ⟨t, a1, a2, ⟨i, i2, i3⟩, a4⟩
    · have := (hS t a1).1
      exact (hm _ (by omega)).mpr ⟨t, a1, a2, a3, rfl⟩
  · have := (hS t a1).2.2 a2
    omega
theorem pl_119 {z : Int32} (hn2 : 2 ≤ n) (hn8 : n ≤ 8) (hL : Ln ≤ 260) (hpos : pos < 100000) (hG : pv_Gd n lim mk (a1, a2, a3, a4, a5, a6, a7, a8, a9, a10, a11, a12, a13, a14, a15, a16))
    (hJ : ∀ (mk' pos' : Nat) (b1 b2 b3 b4 b5 b6 : Int32) (b7 b8 b9 b10 b11 b12 b13 b14 b15 b16 : Nat → Int32), pos' ≤ pos + 4 → pv_Gd n lim mk' (b1, b2, b3, b4, b5, b6, b7, b8, b9, b10, b11, b12, b13, b14, b15, b16) → J (nI mk') (nI pos') x7 (nI (stp + 1)) b1 b2 b3 b4 b5 b6 b7 b8 b9 b10 b11 b12 b13 b14 b15 b16 b1 b2 b3 b4 b5 b6 b7 b8 b9 b10 b11 b12 b13 b14 b15 b16) :
    wL_law_119 post Ln xs J (nI n) (nI mk) (nI pos) x7 (nI stp) z kcn ksn a1 a2 a3 a4 a5 a6 a7 a8 a9 a10 a11 a12 a13 a14 a15 a16 a1 a2 a3 a4 a5 a6 a7 a8 a9 a10 a11 a12 a13 a14 a15 a16 := by
  have hne : ¬ nI n = 0 := nI_ne0 (by omega) (by omega)
  unfold wL_law_119
  refine pv_pick hL (p := pos + 1) (by omega) (nI_1 pos) (by omega) (by omega) (fun i hi => ?_)
  refine pv_pick hL (p := pos + 2) (by omega) (nI_add pos 2) (by omega) (by omega) (fun j hj => ?_)
  refine pv_cell hL (p := pos + 3) (by omega) (nI_add pos 3) (fun c => ?_)
  obtain ⟨t, ht, et⟩ := pk_andE c (m := 2147483647) 31 (by decide)
  refine nm_r et (br_c (fun _ => nm_r (nI_1 pos) (pl_coll hn8 hG hJ)) (fun _ => br_c (fun _ => br_c (fun _ => br_c (fun _ => ?_) (fun _ => ?_)) (fun _ => ?_)) (fun _ => ?_)))
  · refine br_c (fun _ => ⟨by decide, ?_⟩) (fun _ => br_c (fun _ => ⟨by decide, ?_⟩) (fun _ => br_c (fun _ => ?_) (fun _ => br_c (fun _ => ?_) (fun _ => ⟨by decide, br_c (fun _ => pl_670 hn8 hG hJ) (fun _ => ⟨by decide, pl_670 hn8 hG hJ⟩)⟩))))
    · obtain ⟨r1, ⟨b1, b2, b3, b4, b5, b6, b7, b8, b9, b10, b11, b12, b13, b14, b15, b16⟩, hG1, k1⟩ := pv_load hn8 hG (nI j) (nI i) (nI t - nI t / 3 * 3)
      exact k1 _ ⟨by decide, k1 _ (nm_r (nI_add pos 4) (nm_r (nI_1 stp) (hJ mk (pos + 4) b1 b2 b3 b4 b5 b6 b7 b8 b9 b10 b11 b12 b13 b14 b15 b16 (by omega) hG1)))⟩
    · refine br_c (fun _ => ?_) (fun _ => pl_547 hn8 hG hJ)
      obtain ⟨r1, k1⟩ := pv_root hn8 hG (nI j)
      exact k1 _ (pl_547 hn8 hG hJ)
    · obtain ⟨r1, ⟨b1, b2, b3, b4, b5, b6, b7, b8, b9, b10, b11, b12, b13, b14, b15, b16⟩, hG1, k1⟩ := pv_setRoot hn8 hG (nI i) 0
      exact k1 _ (k1 _ (nm_r (nI_add pos 4) (nm_r (nI_1 stp) (hJ mk (pos + 4) b1 b2 b3 b4 b5 b6 b7 b8 b9 b10 b11 b12 b13 b14 b15 b16 (by omega) hG1))))
    · obtain ⟨r1, k1⟩ := pv_root hn8 hG (nI i)
      refine k1 _ ⟨by decide, nm_e ?_⟩
      obtain ⟨r2, ⟨b1, b2, b3, b4, b5, b6, b7, b8, b9, b10, b11, b12, b13, b14, b15, b16⟩, hG1, k2⟩ := pv_setRoot hn8 hG (nI j) (r1 + (nI t - nI t / 4 * 4))
      exact k2 _ (k2 _ (nm_r (nI_add pos 4) (nm_r (nI_1 stp) (hJ mk (pos + 4) b1 b2 b3 b4 b5 b6 b7 b8 b9 b10 b11 b12 b13 b14 b15 b16 (by omega) hG1))))
  · obtain ⟨r1, ⟨b1, b2, b3, b4, b5, b6, b7, b8, b9, b10, b11, b12, b13, b14, b15, b16⟩, hG1, k1⟩ := pv_link hn8 hG (nI i) (nI t - nI t / 3 * 3) (nI j)
    exact ⟨by decide, k1 _ ⟨by decide, k1 _ (nm_r (nI_add pos 4) (nm_r (nI_1 stp) (hJ mk (pos + 4) b1 b2 b3 b4 b5 b6 b7 b8 b9 b10 b11 b12 b13 b14 b15 b16 (by omega) hG1)))⟩⟩
  · have e4 : nI t - nI t / 4 * 4 = nI (t % 4) := pk_rem (d := 4) ht (by omega) (by omega)
    refine ⟨by decide, nm_r e4 (br_c (fun _ => ⟨by decide, by decide, pl_415 hn8 hG hJ⟩) (fun _ => ⟨by decide, ?_, pl_415 hn8 hG hJ⟩))⟩
    have e5 : (4 : Int32) - nI (t % 4) = nI (4 - t % 4) := pk_sub (a := 4) (by omega)
    rw [e5]
    exact nI_ne0 (by omega) (by omega)
  · have e1 : nI n - 1 = nI (n - 1) := pk_sub (b := 1) (by omega)
    rw [e1]
    refine pv_pick hL (p := pos + 2) (by omega) (nI_add pos 2) (by omega) (by omega) (fun y _ => ⟨hne, nm_e ⟨by decide, ?_⟩⟩)
    have e3 : 1 + (nI t - nI t / 3 * 3) = nI (1 + t % 3) := by
      have := pk_rem (a := t) (d := 3) ht (by omega) (by omega)
      refine Eq.trans (congrArg (fun z => 1 + z) this) ?_
      exact mn_1a (t % 3)
    have e5 : (4 : Int32) - nI (1 + t % 3) = nI (4 - (1 + t % 3)) := pk_sub (a := 4) (by omega)
    refine nm_r e3 ⟨by decide, ?_, nm_e ?_⟩
    · rw [e5]
      exact nI_ne0 (by omega) (by omega)
    · obtain ⟨r0, k0⟩ := pv_root hn8 hG (nI i)
      refine k0 _ ?_
      generalize nI i + 1 + nI y - (nI i + 1 + nI y) / nI n * nI n = x11
      generalize nI t / 3 - nI t / 3 / (4 - nI (1 + t % 3)) * (4 - nI (1 + t % 3)) = x15
      obtain ⟨r1, ⟨b1, b2, b3, b4, b5, b6, b7, b8, b9, b10, b11, b12, b13, b14, b15, b16⟩, hG1, k1⟩ := pv_alloc hn8 hG x11 (nI (1 + t % 3)) x15
      refine k1 _ (k1 _ ?_)
      rcases hG1 with ⟨c, hG1⟩ | ⟨c, hG1⟩
      · exact br_t c (nm_r (nI_add pos 4) (nm_r (nI_1 stp) (hJ mk (pos + 4) b1 b2 b3 b4 b5 b6 b7 b8 b9 b10 b11 b12 b13 b14 b15 b16 (by omega) hG1)))
      · obtain ⟨r2, ⟨c1, c2, c3, c4, c5, c6, c7, c8, c9, c10, c11, c12, c13, c14, c15, c16⟩, hG2, k2⟩ := pv_link hn8 hG1 x11 0 (nI i)
        refine br_f c (nm_r (nI_1 mk) (k2 _ (k2 _ (br_c (fun _ => pl_310 hn8 hG2 hJ) (fun _ => ⟨hne, ?_⟩)))))
        obtain ⟨r3, ⟨d1, d2, d3, d4, d5, d6, d7, d8, d9, d10, d11, d12, d13, d14, d15, d16⟩, hG3, k3⟩ := pv_link hn8 hG2 x11 (nI (1 + t % 3) - 1) (nI t - nI t / nI n * nI n)
        exact k3 _ ⟨hne, k3 _ (pl_310 hn8 hG3 hJ)⟩
theorem pl_54 (hn2 : 2 ≤ n) (hn8 : n ≤ 8) (hL : Ln ≤ 260) :
    ∀ (d stp mk pos b : Nat) (a1 a2 a3 a4 a5 a6 : Int32) (a7 a8 a9 a10 a11 a12 a13 a14 a15 a16 : Nat → Int32), stp + d = Ln + 7 → pos ≤ 4 * stp + 2 → b < 2 → pv_Gd n lim mk (a1, a2, a3, a4, a5, a6, a7, a8, a9, a10, a11, a12, a13, a14, a15, a16) →
      wL_law_54 (fun r => r = 1) Ln xs (nI n) kcn ksn (d + 1) (nI mk) (nI pos) (nI b) (nI stp) a1 a2 a3 a4 a5 a6 a7 a8 a9 a10 a11 a12 a13 a14 a15 a16 a1 a2 a3 a4 a5 a6 a7 a8 a9 a10 a11 a12 a13 a14 a15 a16 := by
  have e6 : Int32.ofNat Ln + 6 = nI (Ln + 6) := nI_add Ln 6
  intro d
  induction d with
  | zero =>
    intro stp mk pos b a1 a2 a3 a4 a5 a6 a7 a8 a9 a10 a11 a12 a13 a14 a15 a16 hs hp hb hG
    by_cases c : b = 0
    · rw [c]
      refine br_t rfl (br_t ?_ rfl)
      rw [e6]
      exact nI_lt (by omega) (by omega)
    · exact br_f (nI_ne0 (by omega) (by omega)) rfl
  | succ d ih =>
    intro stp mk pos b a1 a2 a3 a4 a5 a6 a7 a8 a9 a10 a11 a12 a13 a14 a15 a16 hs hp hb hG
    by_cases c : b = 0
    · rw [c]
      have hgo : ∀ (w : Nat) (z : Int32), w < 2 → wL_law_119 (fun r => r = 1) Ln xs (wL_law_54 (fun r => r = 1) Ln xs (nI n) kcn ksn (d + 1)) (nI n) (nI mk) (nI pos) (nI w) (nI stp) z kcn ksn a1 a2 a3 a4 a5 a6 a7 a8 a9 a10 a11 a12 a13 a14 a15 a16 a1 a2 a3 a4 a5 a6 a7 a8 a9 a10 a11 a12 a13 a14 a15 a16 :=
        fun w z hw => pl_119 hn2 hn8 hL (by omega) hG (fun mk' pos' b1 b2 b3 b4 b5 b6 b7 b8 b9 b10 b11 b12 b13 b14 b15 b16 hp' hG' => ih (stp + 1) mk' pos' w b1 b2 b3 b4 b5 b6 b7 b8 b9 b10 b11 b12 b13 b14 b15 b16 (by omega) (by omega) hw hG')
      have h88 : ∀ w : Nat, w < 2 → wL_law_88 (fun r => r = 1) Ln xs (wL_law_54 (fun r => r = 1) Ln xs (nI n) kcn ksn (d + 1)) (nI n) (nI mk) (nI pos) (nI stp) (nI w) kcn ksn a1 a2 a3 a4 a5 a6 a7 a8 a9 a10 a11 a12 a13 a14 a15 a16 a1 a2 a3 a4 a5 a6 a7 a8 a9 a10 a11 a12 a13 a14 a15 a16 := by
        intro w hw
        unfold wL_law_88
        exact br_c (fun _ => br_c (fun _ => pv_pick (m := 16) hL (by omega) rfl (by omega) (by omega) (fun j _ => hgo w _ hw)) (fun _ => hgo w _ hw)) (fun _ => hgo w _ hw)
      refine br_t rfl (br_f ?_ (br_c (fun _ => h88 0 (by omega)) (fun _ => br_c (fun _ => h88 0 (by omega)) (fun _ => h88 1 (by omega)))))
      rw [e6]
      exact nI_nlt (by omega) (by omega)
    · exact br_f (nI_ne0 (by omega) (by omega)) rfl
end
end
theorem i_vc (xs : Nat → Int32) (L : Nat) (hL : L ≤ 260) : wpL_law (fun r => r = 1) L xs := by
  unfold wpL_law
  refine pv_pick (p := 0) (m := 7) hL (by omega) rfl (by omega) (by omega) (fun i hi => nm_r (nI_add 2 i) ?_)
  refine pv_pick (p := 1) (m := 37) hL (by omega) rfl (by omega) (by omega) (fun j hj => nm_r (nI_add 24 j) ?_)
  have hinit : ∀ (post : St2 → Prop), post (nI (2 + i), nI (24 + j), 0, (-1), 0, 0, (fun _ => 0), (fun _ => 0), (fun _ => 0), (fun _ => 0), (fun _ => 0), (fun _ => 0), (fun _ => 0), (fun _ => 0), (fun _ => 0), (fun _ => 0)) → wpX_init post 10 12934 (0, 0, 0, 0, 0, 0) (nI (2 + i)) (nI (24 + j)) := by
    intro post h
    refine ⟨by decide, by decide, by decide, by decide, by decide, by decide, by decide, by decide, by decide, by decide, by decide, by decide, by decide, by decide, by decide, by decide, by decide, by decide, by decide, by decide, ?_⟩
    exact br_t (nI_le (a := 2) (by omega) (by omega)) (br_t (nI_le (b := 8) (by omega) (by omega)) (br_t (nI_le (a := 16) (by omega) (by omega)) (br_t (nI_le (b := 60) (by omega) (by omega)) h)))
  have hG : pv_Gd (2 + i) (24 + j) 0 (nI (2 + i), nI (24 + j), 0, (-1), 0, 0, (fun _ => 0), (fun _ => 0), (fun _ => 0), (fun _ => 0), (fun _ => 0), (fun _ => 0), (fun _ => 0), (fun _ => 0), (fun _ => 0), (fun _ => 0)) :=
    ⟨32, 0, 0, (fun _ => 0), (fun _ => 0), (fun _ => 0), (fun _ => 0), (fun _ => 0), (fun _ => 0), (fun _ => 0), (fun _ => 0), (fun _ => 0), (fun _ => 0), (fun _ => 0), (fun _ => 0), (fun _ => 0), (fun _ => 0), (fun _ => 0), rfl, mc_G_0 (by omega) (by omega)⟩
  refine ⟨10, 12934, by decide, by decide, hinit _ ⟨by decide, by decide, 10, 12934, by decide, by decide, hinit _ ⟨L + 8, ?_⟩⟩⟩
  exact pl_54 (lim := 24 + j) (by omega) (by omega) hL (L + 7) 0 0 2 0 _ _ _ _ _ _ _ _ _ _ _ _ _ _ _ _ (by omega) (by omega) (by omega) hG
