/-! collect -/
theorem i_vc_collect {k : Nat} {u : SX} {v : SY} (I : i_Rel k u v) (hk : k + 4 ≤ 2050) : wpX_collect (fun r u' => wpY_collect (fun r' v' => r' = r ∧ i_Rel (k + 4) u' v') v) u := by
  have I0 := I
  obtain ⟨n, lim, op, mk, U, kc, ld, H, wd, ce, W, S, P, R, O, px, cd, K, sr, st, sz, pc, L, py, fb, rfl, rfl, hn2, hn8, hl, hpp, hG⟩ := I
  have hG0 := hG
  obtain ⟨hS, hD, hF, hX, hXW, hXZ, hC, hP0, hO, hT, hU1, hU2, hL, hop2, hmk⟩ := hG
  have hb : ∀ s, s < 30 → st s ≤ 1255 ∧ sz s ≤ 4 := fun s hs => ⟨(hS s hs).1, (hS s hs).2.1⟩
  have hr : ∀ s, s < 30 → 0 < sz s → sr s ≤ 4095 := fun s hs hz => by
    have := (hS s hs).2.2 hz
    omega
  subst hU1
  have hM0 : mc_Mv sr st sz W wd st S W O wd 32 := mc_Mv_0 hS hD hX hXW hXZ hO
  have hU60 : mc_sm sz 30 ≤ 60 := by omega
  have hO1 : ∀ p, p < 32 → O p < 1000 := fun p hp => by
    have := hO p hp
    have := mc_wo_le st sz p
    omega
  unfold wpX_collect
  refine mx_pin hn8 hS hmk hD hX hXW (fun pn hPN => ?_)
  have hpn2 : ∀ p, p < 32 → pn p < 2 := fun p hp => (hPN.1 p hp).1
  refine mx_cond hO1 hpn2 ?_
  refine mx_kp hS hmk hD hX hXW hpn2 (fun K1 hK1 => ?_)
  have hlg0 := mc_pl_LG (pn := pn) (fd := fun a => mc_fd st sz a 30) (mc_fdz st sz) 256
  refine mx_kr (ce := ce) hS hmk hD hX hC hlg0 hK1 (fun K2 hK2 => ?_)
  have hlg := mc_ro_LG (tg := mc_tg st sz wd) (pc := pc) hlg0 (mc_tgz st sz wd) 30
  have hpre := mc_ro_pre (mc_tg st sz wd) pc (mc_pl pn (fun a => mc_fd st sz a 30) 256) 30
  have hle := mc_LG_le hlg
  have hpn := mc_hpn hS hD rfl hpre
  have hcl := mc_hcl hS hD hmk hC hlg (fun i hi k hk ht => mc_ro_closed 30 i (by omega) hi k hk ht)
  have hcd : ∀ p, p < 32 → mc_cdn O pn cd 32 p < 2 ∧ (mc_cdn O pn cd 32 p = 0 ↔ (mc_wo st sz p = 0 ∨ pn p = 1)) := fun p hp => by
    have h1 := mc_cdn_32 (O := O) (px := pn) (cd := cd) hp
    have h2 := hpn2 p hp
    refine ⟨h1.1, ?_⟩
    rw [h1.2, hO p hp]
    constructor
    · rintro (z | z)
      · exact Or.inl z
      · exact Or.inr (by omega)
    · rintro (z | z)
      · exact Or.inl z
      · exact Or.inr (by omega)
  refine mx_mk hS hmk hD hX hT hU60 hlg hM0 hK2 hpn hcd (fun st' S' W' O' words' op' hrun hM hI => ?_)
  refine mx_rd (ce := ce) hS hmk hX hlg hM hC hK2 (fun w2 hR => ?_)
  refine mx_ec hS hmk hD hX hXW hlg hM hI hpn hcd (fun S2 W2 O2 U2 dc hES hEW hEO => ?_)
  refine my_c7 hn8 hS hD hX hXW hU60 hPN (fun L1 fb1 py1 hL1 hfb1 hpy1 => ?_)
  refine my_c141 hS hmk hD hX hC hlg0 hL1 (fun L2 hL2 => ?_)
  refine my_c218 hS hD hT hU60 hlg hpre.1 hM0 hL2 hfb1 (fun st2 O3 op2 hrun2 => ?_)
  have e := hrun.symm.trans hrun2
  injection e with e1 e2
  injection e2 with e2 e3
  subst e1 e2 e3
  refine my_c262 (mc_Mv_Slot hS hM) hlg hL2 ⟨?_, mc_rel hn2 hn8 hl (fun p hp => (hpy1 p hp).symm) ?_⟩
  · rw [hES.2.2.2, mc_ec_end hS]
  · have eU : U2 = mc_sm (mc_kz (mc_ro (mc_tg st sz wd) pc (mc_pl pn (fun a => mc_fd st sz a 30) 256) 30) sz 30) 30 := by
      rw [hES.2.2.1, mc_ez_end hS]
    rw [eU]
    refine mc_fin hG0 hM hlg hI hpn (Nat.le_trans hPN.2 hn8) hcl (fun s hs hi => mc_if_f (fun c => c.2 hi)) (fun s hs hi => mc_if_t ⟨hs, hi⟩) (mc_RD_f hlg hR) (fun s hs hi hz => ?_) (fun s hs hi hz => ?_) hES.2.1
      (fun i hi a b => (hEW i hi).1 hi a b) (fun i hi z => (hEW i hi).2 (Or.inr z)) (fun p hp a b => (hEO p hp).1 hp a b) (fun p hp z => (hEO p hp).2 (Or.inr z))
    · rw [hES.1 s hs hz]
      exact mc_if_f (fun c => c.1 hi)
    · rw [hES.1 s hs hz]
      have := (hS s hs).1
      exact mc_if_t ⟨hi, by omega⟩
