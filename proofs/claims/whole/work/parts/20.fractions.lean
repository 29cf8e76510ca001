theorem i_vc_trees {k : Nat} {u : SX} {v : SY} (I : i_Rel k u v) (hk : k + 4 ≤ 2049) : wpX_trees (fun r u' => wpY_trees (fun r' v' => r' = r ∧ i_Rel (k + 4) u' v') v) u := by
  obtain ⟨n, sn, dn, a, M, z, l, t, m, rfl, rfl, hO, hs, hd, hsd⟩ := I
  have h2 := hO.1
  have h6 := hO.2.1
  unfold wpX_trees wpY_trees
  dsimp only
  unfold wpX_everyPoint
  dsimp only
  rw [mb_1 n (by omega), mb_m n (by omega)]
  have hfull : ∀ q, q < 6 → ((2 ^ n - 1).testBit q = true ↔ q < n) := fun q hq => by
    rw [mb_fullt n (by omega) q hq, decide_eq_true_eq]
  have h64 : 2 ^ n - 1 < 64 := by
    have h : ∀ n, n < 7 → 2 ^ n - 1 < 64 := by decide
    exact h n (by omega)
  refine kx_treeSum hO h64 (kx_pos (p := 0) ((hfull 0 (by omega)).mpr (by omega))) (fun q hq => (hfull q (mb_t6 h64 hq)).mp hq) (fun lo hlo hlt hlow M' => ?_)
  have e0 : lo = 0 := by
    apply Classical.byContradiction
    intro hne
    have h1 := hlow 0 (by omega)
    rw [(hfull 0 (by omega)).mpr (by omega)] at h1
    exact absurd h1 (by decide)
  subst e0
  have hL : lc_L n (lc_x (2 ^ n - 1).testBit 0) = lc_L n (lc_x (fun _ => true) 0) := lc_cg (fun y hy => by
    rw [lc_xt, lc_xt, hfull y (by omega)]
    simp [hy])
  rw [hL]
  exact ay_allTrees hO (fun z' l' t' m' => ⟨rfl, rl_mk hO hs hd hsd⟩)
/-! refusals -/
theorem vx_ref {n sn dn p : Nat} {a : Nat → Int32} {M : Nat → Int64} {post : Int32 → Prop} (hO : cw_O n a) (hs : sn < n) (hd : dn < n) (hp : p < n)
    (h2 : ¬ lj_J (cw_w a) sn dn → post (-2)) (h3 : lj_J (cw_w a) sn dn → ¬ lj_J (cw_w a) sn p → post (-3)) (h0 : lj_J (cw_w a) sn dn → lj_J (cw_w a) sn p → post 0) : wpX_voltageRefusal post (nI n, nI sn, nI dn, a, M) (nI p) := by
  have h6 := hO.2.1
  unfold wpX_voltageRefusal
  dsimp only
  refine gx_good1 h6 hp (br_f (by decide) ?_)
  refine gx_areJoined hO hs hd (fun hj => ?_) (fun hj => br_t rfl (h2 hj))
  refine br_f (by decide) ?_
  exact gx_areJoined hO hs hp (fun hjp => br_f (by decide) (h0 hj hjp)) (fun hjp => br_t rfl (h3 hj hjp))
theorem vx_ref0 {n sn dn : Nat} {x : Int32} {a : Nat → Int32} {M : Nat → Int64} {post : Int32 → Prop} (hx : x < 0 ∨ nI n ≤ x) (h1 : post (-1)) : wpX_voltageRefusal post (nI n, nI sn, nI dn, a, M) x := by
  unfold wpX_voltageRefusal
  dsimp only
  exact gx_good0 hx (br_t rfl h1)
theorem vy_ref {n sn dn p : Nat} {z : Int32} {a l t m : Nat → Int32} {post : Int64 → SY → Prop} (hO : cw_O n a) (hs : sn < n) (hd : dn < n) (hp : p < n)
    (h2 : ¬ lj_J (cw_w a) sn dn → ∀ l, post (-2) (nI n, nI sn, nI dn, z, a, l, t, m)) (h3 : lj_J (cw_w a) sn dn → ¬ lj_J (cw_w a) sn p → ∀ l, post (-3) (nI n, nI sn, nI dn, z, a, l, t, m)) (h0 : lj_J (cw_w a) sn dn → lj_J (cw_w a) sn p → ∀ l, post 0 (nI n, nI sn, nI dn, z, a, l, t, m)) : wpY_refusal post (nI n, nI sn, nI dn, z, a, l, t, m) (nI p) := by
  have h6 := hO.2.1
  have hw := cw_W hO
  have k1 : (nI sn).toNatClampNeg = sn := nI_clamp (by omega)
  have k2 : (nI p).toNatClampNeg = p := nI_clamp (by omega)
  unfold wpY_refusal
  dsimp only
  refine gy_bad0 h6 hp (br_t rfl ?_)
  refine ay_live hO hs hd (fun hj l' hF => ?_) (fun hj l' => br_t rfl (h2 hj l'))
  refine br_f (by decide) ?_
  rw [k1, k2]
  refine ⟨vp_in_nI (by omega) (by omega), vp_in_nI (by omega) (by omega), ?_⟩
  have he := ly_eq hO hF hp hs
  by_cases e : l' p = l' sn
  · exact br_t e (h0 hj (lj_s hw (he.mp e)) l')
  · exact br_f e (h3 hj (fun h => e (he.mpr (lj_s hw h))) l')
theorem vy_ref0 {n sn dn : Nat} {x z : Int32} {a l t m : Nat → Int32} {post : Int64 → SY → Prop} (hx : x < 0 ∨ nI n ≤ x) (h1 : post (-1) (nI n, nI sn, nI dn, z, a, l, t, m)) : wpY_refusal post (nI n, nI sn, nI dn, z, a, l, t, m) x := by
  unfold wpY_refusal
  dsimp only
  exact gy_bad1 hx (br_f (by decide) h1)
theorem vx_two (x : Int) : 2 * Int64.ofInt x = Int64.ofInt (2 * x) := by
  rw [Int64.ofInt_mul]; rfl
theorem vx_62 {x : Int} (h : x.natAbs ≤ 98415000) : x.natAbs < 2 ^ 62 := by omega
theorem vx_60 {x : Int} (h : x.natAbs ≤ 98415000) : x.natAbs < 2 ^ 60 := by omega
theorem vx_t2 {x : Int} (h : x.natAbs ≤ 22143375000) : x.natAbs < 2 ^ 62 := by omega
theorem vx_f {x : Int} (h : x.natAbs < 2 ^ 60) : (2 * x).natAbs < 2 ^ 62 := by omega
theorem vx_f2 {x : Int} (h : x.natAbs < 2 ^ 60) : x.natAbs < 2 ^ 62 := by omega
theorem vx_b {x : Int} (h : x.natAbs ≤ 98415000) : (2 * x).natAbs < 2 ^ 62 := by omega
theorem i_vc_voltageTop {k : Nat} {u : SX} {v : SY} (I : i_Rel k u v) (hk : k + 4 ≤ 2049) (v1 : Int32) : wpX_voltageTop (fun r u' => wpY_voltageTop (fun r' v' => r' = r ∧ i_Rel (k + 4) u' v') v v1) u v1 := by
  have J : i_Rel (k + 4) u v := I
  obtain ⟨n, sn, dn, a, M, z, l, t, m, rfl, rfl, hO, hs, hd, hsd⟩ := I
  have h6 := hO.2.1
  have hw := cw_W hO
  unfold wpX_voltageTop wpY_voltageTop
  dsimp only
  rcases rl_pt v1 h6 with hb | ⟨p, hp, rfl⟩
  · exact vx_ref0 hb (br_f (by decide) (vy_ref0 hb (br_f (by decide) ⟨rfl, J⟩)))
  refine vx_ref hO hs hd hp (fun hj => ?_) (fun hj hjp => ?_) (fun hj hjp => ?_)
  · exact br_f (by decide) (vy_ref hO hs hd hp (fun _ l' => br_f (by decide) ⟨rfl, rl_mk hO hs hd hsd⟩) (fun h => absurd h hj) (fun h => absurd h hj))
  · exact br_f (by decide) (vy_ref hO hs hd hp (fun h => absurd hj h) (fun _ _ l' => br_f (by decide) ⟨rfl, rl_mk hO hs hd hsd⟩) (fun _ h => absurd h hjp))
  · have hMb := an_Mb hw hs hd
    have hMn := an_Mn hw hs hd
    have hsb := an_shb hw hs hd hsd (p := p)
    refine br_t rfl (kx_dvs hO hs hd hp hsd hj hjp (fun M1 => ?_))
    refine kx_split hO hs hd (fun M2 => ?_)
    refine nm_r (vx_two _) (kx_lowered (vx_b hsb) (vx_b hMb) ?_)
    rw [eu_2]
    refine vy_ref hO hs hd hp (fun h => absurd hj h) (fun _ h => absurd hjp h) (fun _ _ l' => ?_)
    refine br_t (by decide) (ay_share hO hs hd hp hsd (fun z1 l1 t1 m1 => ?_))
    refine ay_whole hO hs hd hsd (fun z2 l2 t2 m2 => ?_)
    exact ky_top (vx_62 hsb) hMn (vx_60 hMb) ⟨rfl, rl_mk hO hs hd hsd⟩
theorem i_vc_voltageBottom {k : Nat} {u : SX} {v : SY} (I : i_Rel k u v) (hk : k + 4 ≤ 2049) (v1 : Int32) : wpX_voltageBottom (fun r u' => wpY_voltageBottom (fun r' v' => r' = r ∧ i_Rel (k + 4) u' v') v v1) u v1 := by
  have J : i_Rel (k + 4) u v := I
  obtain ⟨n, sn, dn, a, M, z, l, t, m, rfl, rfl, hO, hs, hd, hsd⟩ := I
  have h6 := hO.2.1
  have hw := cw_W hO
  unfold wpX_voltageBottom wpY_voltageBottom
  dsimp only
  rcases rl_pt v1 h6 with hb | ⟨p, hp, rfl⟩
  · exact vx_ref0 hb (br_f (by decide) (vy_ref0 hb (br_f (by decide) ⟨rfl, J⟩)))
  refine vx_ref hO hs hd hp (fun hj => ?_) (fun hj hjp => ?_) (fun hj hjp => ?_)
  · exact br_f (by decide) (vy_ref hO hs hd hp (fun _ l' => br_f (by decide) ⟨rfl, rl_mk hO hs hd hsd⟩) (fun h => absurd h hj) (fun h => absurd h hj))
  · exact br_f (by decide) (vy_ref hO hs hd hp (fun h => absurd hj h) (fun _ _ l' => br_f (by decide) ⟨rfl, rl_mk hO hs hd hsd⟩) (fun _ h => absurd h hjp))
  · have hMb := an_Mb hw hs hd
    have hMn := an_Mn hw hs hd
    have hsb := an_shb hw hs hd hsd (p := p)
    refine br_t rfl (kx_dvs hO hs hd hp hsd hj hjp (fun M1 => ?_))
    refine kx_split hO hs hd (fun M2 => ?_)
    refine nm_r (vx_two _) (kx_lowered (vx_b hMb) (vx_b hsb) ?_)
    rw [eu_2]
    refine vy_ref hO hs hd hp (fun h => absurd hj h) (fun _ h => absurd hjp h) (fun _ _ l' => ?_)
    refine br_t (by decide) (ay_share hO hs hd hp hsd (fun z1 l1 t1 m1 => ?_))
    refine ay_whole hO hs hd hsd (fun z2 l2 t2 m2 => ?_)
    exact ky_bottom (vx_62 hsb) hMn (vx_60 hMb) ⟨rfl, rl_mk hO hs hd hsd⟩
theorem i_vc_currentTop {k : Nat} {u : SX} {v : SY} (I : i_Rel k u v) (hk : k + 4 ≤ 2049) : wpX_currentTop (fun r u' => wpY_currentTop (fun r' v' => r' = r ∧ i_Rel (k + 4) u' v') v) u := by
  obtain ⟨n, sn, dn, a, M, z, l, t, m, rfl, rfl, hO, hs, hd, hsd⟩ := I
  have hw := cw_W hO
  unfold wpX_currentTop wpY_currentTop
  dsimp only
  refine gx_areJoined hO hs hd (fun hj => ?_) (fun hj => ?_)
  · have hMb := an_Mb hw hs hd
    have hMn := an_Mn hw hs hd
    have hTb := an_Tb hw sn
    refine br_f (by decide) (kx_groupTree hO hs (fun M1 => kx_split hO hs hd (fun M2 => kx_lowered (vx_t2 hTb) (vx_62 hMb) ?_)))
    refine ay_live hO hs hd (fun _ l' _ => br_f (by decide) ?_) (fun h => absurd hj h)
    refine ay_local hO hs hd hj (fun z1 l1 t1 m1 => ay_whole hO hs hd hsd (fun z2 l2 t2 m2 => ?_))
    exact ky_top (vx_t2 hTb) hMn (vx_60 hMb) ⟨rfl, rl_mk hO hs hd hsd⟩
  · exact br_t rfl (ay_live hO hs hd (fun h => absurd h hj) (fun _ l' => br_t rfl ⟨rfl, rl_mk hO hs hd hsd⟩))
theorem i_vc_currentBottom {k : Nat} {u : SX} {v : SY} (I : i_Rel k u v) (hk : k + 4 ≤ 2049) : wpX_currentBottom (fun r u' => wpY_currentBottom (fun r' v' => r' = r ∧ i_Rel (k + 4) u' v') v) u := by
  obtain ⟨n, sn, dn, a, M, z, l, t, m, rfl, rfl, hO, hs, hd, hsd⟩ := I
  have hw := cw_W hO
  unfold wpX_currentBottom wpY_currentBottom
  dsimp only
  refine gx_areJoined hO hs hd (fun hj => ?_) (fun hj => ?_)
  · have hMb := an_Mb hw hs hd
    have hMn := an_Mn hw hs hd
    have hTb := an_Tb hw sn
    refine br_f (by decide) (kx_groupTree hO hs (fun M1 => kx_split hO hs hd (fun M2 => kx_lowered (vx_62 hMb) (vx_t2 hTb) ?_)))
    refine ay_live hO hs hd (fun _ l' _ => br_f (by decide) ?_) (fun h => absurd hj h)
    refine ay_local hO hs hd hj (fun z1 l1 t1 m1 => ay_whole hO hs hd hsd (fun z2 l2 t2 m2 => ?_))
    exact ky_bottom (vx_t2 hTb) hMn (vx_60 hMb) ⟨rfl, rl_mk hO hs hd hsd⟩
  · exact br_t rfl (ay_live hO hs hd (fun h => absurd h hj) (fun _ l' => br_t rfl ⟨rfl, rl_mk hO hs hd hsd⟩))
/-! resistance -/
theorem wx_ref {n p q : Nat} {s d : Int32} {a : Nat → Int32} {M : Nat → Int64} {post : Int32 → Prop} (hO : cw_O n a) (hp : p < n) (hq : q < n)
    (h2 : ¬ lj_J (cw_w a) p q → post (-2)) (h0 : lj_J (cw_w a) p q → post 0) : wpX_resistanceRefusal post (nI n, s, d, a, M) (nI p) (nI q) := by
  have h6 := hO.2.1
  unfold wpX_resistanceRefusal
  dsimp only
  refine gx_good1 h6 hp (br_f (by decide) (gx_good1 h6 hq (br_f (by decide) ?_)))
  exact gx_areJoined hO hp hq (fun hj => br_f (by decide) (h0 hj)) (fun hj => br_t rfl (h2 hj))
theorem wy_res {n p q : Nat} {s d z up : Int32} {a l t m : Nat → Int32} {post : Int64 → SY → Prop} (hO : cw_O n a) (hp : p < n) (hq : q < n)
    (h2 : ¬ lj_J (cw_w a) p q → ∀ z l t m, post (-2) (nI n, s, d, z, a, l, t, m))
    (h0 : lj_J (cw_w a) p q → up = 0 → ∀ z l t m, post (Int64.ofInt (eu_q (an_T (cw_w a) n p) (an_M (cw_w a) n p q))) (nI n, s, d, z, a, l, t, m))
    (h1 : lj_J (cw_w a) p q → ¬ up = 0 → ∀ z l t m, post (Int64.ofInt (eu_q (an_M (cw_w a) n p q) (an_T (cw_w a) n p))) (nI n, s, d, z, a, l, t, m)) : wpY_resistance post (nI n, s, d, z, a, l, t, m) (nI p) (nI q) up := by
  have h6 := hO.2.1
  have hw := cw_W hO
  have k1 : (nI p).toNatClampNeg = p := nI_clamp (by omega)
  have k2 : (nI q).toNatClampNeg = q := nI_clamp (by omega)
  unfold wpY_resistance
  dsimp only
  refine gy_bad0 h6 hp (br_t rfl (gy_bad0 h6 hq (br_t rfl (ly_group hO (fun l' hF => ?_)))))
  dsimp only
  rw [k1, k2]
  refine ⟨vp_in_nI (by omega) (by omega), vp_in_nI (by omega) (by omega), ?_⟩
  have he := ly_eq hO hF hp hq
  by_cases e : l' p = l' q
  · have hj := he.mp e
    have hTb := an_Tb hw p
    have hTp := an_tpos hw hp
    refine br_t e ?_
    by_cases epq : p = q
    · have hM0 : an_M (cw_w a) n p q = 0 := by simp [an_M, epq]
      refine br_t (by rw [epq]) ?_
      by_cases eu : up = 0
      · refine br_t eu ?_
        have := h0 hj eu z l' t m
        rw [hM0] at this
        have e1 : eu_q (an_T (cw_w a) n p) 0 = 1 := by
          unfold eu_q
          have e2 : ((Nat.gcd (an_T (cw_w a) n p).natAbs (0 : Int).natAbs : Nat) : Int) = an_T (cw_w a) n p := by
            rw [show (0 : Int).natAbs = 0 from rfl, Nat.gcd_zero_right]
            omega
          rw [e2]
          exact Int.tdiv_self (by omega)
        rw [e1] at this
        exact this
      · refine br_f eu ?_
        have := h1 hj eu z l' t m
        rw [hM0] at this
        have e1 : eu_q 0 (an_T (cw_w a) n p) = 0 := by unfold eu_q; exact Int.zero_tdiv _
        rw [e1] at this
        exact this
    · have hMb := an_Mb hw hp hq
      have hM : nd_D (la_m (cw_w a)) (lc_L n (lc_xx (lj_b (cw_w a) p) p q)) = an_M (cw_w a) n p q := by simp only [an_M, epq, if_false]
      have hT : nd_D (la_m (cw_w a)) (lc_L n (lc_xx (lj_b (cw_w a) p) q q)) = an_T (cw_w a) n p := by rw [an_xx]; exact an_t hw hp hj
      refine br_f (rl_ne h6 hp hq epq) ?_
      refine ty_take hO hp hq hq (fun l1 t1 hA1 => ?_)
      refine dy_det (ey_m hO) (ay_l5 hO hq) (lc_6 h6) hA1 (fun m1 => ?_)
      refine ty_take hO hp hp hq (fun l2 t2 hA2 => ?_)
      refine dy_det (ey_m hO) (ay_l4 hO hp hq epq) (lc_6 h6) hA2 (fun m2 => ?_)
      rw [hM, hT]
      by_cases eu : up = 0
      · exact br_t eu (ky_bottom (by omega) (by omega) (by omega) (h0 hj eu _ _ _ _))
      · exact br_f eu (ky_top (by omega) (by omega) (by omega) (h1 hj eu _ _ _ _))
  · exact br_f e (h2 (fun h => e (he.mpr h)) z l' t m)
theorem i_vc_resistanceTop {k : Nat} {u : SX} {v : SY} (I : i_Rel k u v) (hk : k + 4 ≤ 2049) (v1 : Int32) (v2 : Int32) : wpX_resistanceTop (fun r u' => wpY_resistanceTop (fun r' v' => r' = r ∧ i_Rel (k + 4) u' v') v v1 v2) u v1 v2 := by
  have J : i_Rel (k + 4) u v := I
  obtain ⟨n, sn, dn, a, M, z, l, t, m, rfl, rfl, hO, hs, hd, hsd⟩ := I
  have h6 := hO.2.1
  have hw := cw_W hO
  unfold wpX_resistanceTop wpY_resistanceTop
  dsimp only
  rcases rl_pt v1 h6 with hb | ⟨p, hp, rfl⟩
  · unfold wpX_resistanceRefusal wpY_resistance
    dsimp only
    exact gx_good0 hb (br_t rfl (br_f (by decide) (gy_bad1 hb (br_f (by decide) ⟨rfl, J⟩))))
  rcases rl_pt v2 h6 with hb | ⟨q, hq, rfl⟩
  · unfold wpX_resistanceRefusal wpY_resistance
    dsimp only
    exact gx_good1 h6 hp (br_f (by decide) (gx_good0 hb (br_t rfl (br_f (by decide) (gy_bad0 h6 hp (br_t rfl (gy_bad1 hb (br_f (by decide) ⟨rfl, J⟩))))))))
  refine wx_ref hO hp hq (fun hj => ?_) (fun hj => ?_)
  · exact br_f (by decide) (wy_res hO hp hq (fun _ _ _ _ _ => ⟨rfl, rl_mk hO hs hd hsd⟩) (fun h => absurd h hj) (fun h => absurd h hj))
  · have hMb := an_Mb hw hp hq
    have hTb := an_Tb hw p
    refine br_t rfl (kx_split hO hp hq (fun M1 => kx_groupTree hO hp (fun M2 => kx_lowered (vx_62 hMb) (vx_t2 hTb) ?_)))
    exact wy_res hO hp hq (fun h => absurd hj h) (fun _ h => absurd h (by decide)) (fun _ _ _ _ _ _ => ⟨rfl, rl_mk hO hs hd hsd⟩)
theorem i_vc_resistanceBottom {k : Nat} {u : SX} {v : SY} (I : i_Rel k u v) (hk : k + 4 ≤ 2049) (v1 : Int32) (v2 : Int32) : wpX_resistanceBottom (fun r u' => wpY_resistanceBottom (fun r' v' => r' = r ∧ i_Rel (k + 4) u' v') v v1 v2) u v1 v2 := by
  have J : i_Rel (k + 4) u v := I
  obtain ⟨n, sn, dn, a, M, z, l, t, m, rfl, rfl, hO, hs, hd, hsd⟩ := I
  have h6 := hO.2.1
  have hw := cw_W hO
  unfold wpX_resistanceBottom wpY_resistanceBottom
  dsimp only
  rcases rl_pt v1 h6 with hb | ⟨p, hp, rfl⟩
  · unfold wpX_resistanceRefusal wpY_resistance
    dsimp only
    exact gx_good0 hb (br_t rfl (br_f (by decide) (gy_bad1 hb (br_f (by decide) ⟨rfl, J⟩))))
  rcases rl_pt v2 h6 with hb | ⟨q, hq, rfl⟩
  · unfold wpX_resistanceRefusal wpY_resistance
    dsimp only
    exact gx_good1 h6 hp (br_f (by decide) (gx_good0 hb (br_t rfl (br_f (by decide) (gy_bad0 h6 hp (br_t rfl (gy_bad1 hb (br_f (by decide) ⟨rfl, J⟩))))))))
  refine wx_ref hO hp hq (fun hj => ?_) (fun hj => ?_)
  · exact br_f (by decide) (wy_res hO hp hq (fun _ _ _ _ _ => ⟨rfl, rl_mk hO hs hd hsd⟩) (fun h => absurd h hj) (fun h => absurd h hj))
  · have hMb := an_Mb hw hp hq
    have hTb := an_Tb hw p
    refine br_t rfl (kx_split hO hp hq (fun M1 => kx_groupTree hO hp (fun M2 => kx_lowered (vx_t2 hTb) (vx_62 hMb) ?_)))
    exact wy_res hO hp hq (fun h => absurd hj h) (fun _ _ _ _ _ _ => ⟨rfl, rl_mk hO hs hd hsd⟩) (fun _ h => absurd rfl h)
/-! flow -/
theorem zx_flow {n sn dn p q : Nat} {a : Nat → Int32} {M : Nat → Int64} {post : Int32 → Prop} (hO : cw_O n a) (hs : sn < n) (hd : dn < n) (hp : p < n) (hq : q < n)
    (h0 : ¬ (lj_J (cw_w a) sn dn ∧ lj_J (cw_w a) sn p ∧ lj_J (cw_w a) sn q) → post 0) (h1 : lj_J (cw_w a) sn dn → lj_J (cw_w a) sn p → lj_J (cw_w a) sn q → post 1) : wpX_hasFlow post (nI n, nI sn, nI dn, a, M) (nI p) (nI q) := by
  unfold wpX_hasFlow
  dsimp only
  refine vx_ref hO hs hd hp (fun hj => br_f (by decide) (h0 (fun h => hj h.1))) (fun _ hj => br_f (by decide) (h0 (fun h => hj h.2.1))) (fun hj hjp => br_t rfl ?_)
  exact vx_ref hO hs hd hq (fun h => absurd hj h) (fun _ hjq => br_f (by decide) (h0 (fun h => hjq h.2.2))) (fun _ hjq => br_t rfl (h1 hj hjp hjq))
theorem zx_dfs {n p q sn dn : Nat} {a : Nat → Int32} {M : Nat → Int64} {post : Int64 → SX → Prop} (hO : cw_O n a) (hs : sn < n) (hd : dn < n) (hp : p < n) (hq : q < n) (hsd : ¬ sn = dn) (hj : lj_J (cw_w a) sn dn) (hjp : lj_J (cw_w a) sn p) (hjq : lj_J (cw_w a) sn q)
    (hJ : ∀ M, post (Int64.ofInt (2 * (cw_w a p q * (an_sh (cw_w a) n sn dn p - an_sh (cw_w a) n sn dn q)))) (nI n, nI sn, nI dn, a, M)) : wpX_doubleFlowShare post (nI n, nI sn, nI dn, a, M) (nI p) (nI q) := by
  have h6 := hO.2.1
  have k1 : (nI (6 * p + q)).toNatClampNeg = 6 * p + q := nI_clamp (by omega)
  unfold wpX_doubleFlowShare
  dsimp only
  refine kx_dvs hO hs hd hp hsd hj hjp (fun M1 => kx_dvs hO hs hd hq hsd hj hjq (fun M2 => ?_))
  refine nm_r (Int64.ofInt_sub _ _).symm ?_
  rw [gx_c p q, k1, cw_l hO (by omega) (by omega), ← Int64.ofInt_mul]
  have e : cw_w a p q * (2 * an_sh (cw_w a) n sn dn p - 2 * an_sh (cw_w a) n sn dn q) = 2 * (cw_w a p q * (an_sh (cw_w a) n sn dn p - an_sh (cw_w a) n sn dn q)) := by grind
  rw [e]
  exact ⟨vp_in_nI (by omega) (by omega), hJ M2⟩
theorem zx_fb {w x y : Int} (hw : 0 ≤ w ∧ w ≤ 9) (hx : x.natAbs ≤ 98415000) (hy : y.natAbs ≤ 98415000) : (w * (x - y)).natAbs < 2 ^ 60 := by
  have h1 : w.natAbs ≤ 9 := by omega
  have h2 : (x - y).natAbs ≤ 196830000 := by omega
  have := nd_bm h1 h2
  omega
theorem zy_flow {n p q sn dn : Nat} {up : Int32} {nn : Int64} {z : Int32} {a l t m : Nat → Int32} {post : Int64 → SY → Prop} (hO : cw_O n a) (hs : sn < n) (hd : dn < n) (hp : p < n) (hq : q < n) (hsd : ¬ sn = dn)
    (hn : ¬ (lj_J (cw_w a) sn dn ∧ lj_J (cw_w a) sn p ∧ lj_J (cw_w a) sn q) → ∀ z l t m, post nn (nI n, nI sn, nI dn, z, a, l, t, m))
    (h0 : lj_J (cw_w a) sn dn → lj_J (cw_w a) sn p → lj_J (cw_w a) sn q → up = 0 → ∀ z l t m, post (Int64.ofInt (eu_q (an_M (cw_w a) n sn dn) (cw_w a p q * (an_sh (cw_w a) n sn dn p - an_sh (cw_w a) n sn dn q)))) (nI n, nI sn, nI dn, z, a, l, t, m))
    (h1 : lj_J (cw_w a) sn dn → lj_J (cw_w a) sn p → lj_J (cw_w a) sn q → ¬ up = 0 → ∀ z l t m, post (Int64.ofInt (eu_q (cw_w a p q * (an_sh (cw_w a) n sn dn p - an_sh (cw_w a) n sn dn q)) (an_M (cw_w a) n sn dn))) (nI n, nI sn, nI dn, z, a, l, t, m)) :
    wY_flow_9 post (nI p) (nI q) up nn (nI n) (nI sn) (nI dn) z a l t m := by
  have h6 := hO.2.1
  have hw := cw_W hO
  have k1 : (nI p).toNatClampNeg = p := nI_clamp (by omega)
  have k2 : (nI q).toNatClampNeg = q := nI_clamp (by omega)
  have k3 : (nI sn).toNatClampNeg = sn := nI_clamp (by omega)
  have k4 : (nI (6 * p + q)).toNatClampNeg = 6 * p + q := nI_clamp (by omega)
  unfold wY_flow_9
  refine gy_bad0 h6 hp (br_t rfl (gy_bad0 h6 hq (br_t rfl ?_)))
  refine ay_live hO hs hd (fun hj l' hF => ?_) (fun hj l' => br_t rfl (hn (fun h => hj h.1) z l' t m))
  refine br_f (by decide) ?_
  rw [k1, k2, k3]
  refine ⟨vp_in_nI (by omega) (by omega), vp_in_nI (by omega) (by omega), ?_⟩
  have he1 := ly_eq hO hF hp hs
  have he2 := ly_eq hO hF hq hs
  by_cases e1 : l' p = l' sn
  · have hjp := lj_s hw (he1.mp e1)
    refine br_t e1 ⟨vp_in_nI (by omega) (by omega), vp_in_nI (by omega) (by omega), ?_⟩
    by_cases e2 : l' q = l' sn
    · have hjq := lj_s hw (he2.mp e2)
      have hMb := an_Mb hw hs hd
      have hMn := an_Mn hw hs hd
      have hfb := zx_fb (hw.2.2.2.1 p q) (an_shb hw hs hd hsd (p := p)) (an_shb hw hs hd hsd (p := q))
      refine br_t e2 (ay_share hO hs hd hp hsd (fun z1 l1 t1 m1 => ay_share hO hs hd hq hsd (fun z2 l2 t2 m2 => ay_whole hO hs hd hsd (fun z3 l3 t3 m3 => ?_))))
      dsimp only
      rw [gy_c p q, k4, cw_l hO (by omega) (by omega), ← Int64.ofInt_sub, ← Int64.ofInt_mul]
      refine ⟨vp_in_nI (by omega) (by omega), nm_e ?_⟩
      by_cases eu : up = 0
      · exact br_t eu (ky_bottom (vx_f2 hfb) hMn (vx_60 hMb) (h0 hj hjp hjq eu _ _ _ _))
      · exact br_f eu (ky_top (vx_f2 hfb) hMn (vx_60 hMb) (h1 hj hjp hjq eu _ _ _ _))
    · exact br_f e2 (hn (fun h => e2 (he2.mpr (lj_s hw h.2.2))) z l' t m)
  · exact br_f e1 (hn (fun h => e1 (he1.mpr (lj_s hw h.2.1))) z l' t m)
theorem i_vc_flowTop {k : Nat} {u : SX} {v : SY} (I : i_Rel k u v) (hk : k + 4 ≤ 2049) (v1 : Int32) (v2 : Int32) : wpX_flowTop (fun r u' => wpY_flowTop (fun r' v' => r' = r ∧ i_Rel (k + 4) u' v') v v1 v2) u v1 v2 := by
  have J : i_Rel (k + 4) u v := I
  obtain ⟨n, sn, dn, a, M, z, l, t, m, rfl, rfl, hO, hs, hd, hsd⟩ := I
  have h6 := hO.2.1
  have hw := cw_W hO
  unfold wpX_flowTop wpY_flowTop
  dsimp only
  unfold wpY_flow
  dsimp only
  rcases rl_pt v1 h6 with hb | ⟨p, hp, rfl⟩
  · unfold wpX_hasFlow wY_flow_9
    dsimp only
    exact vx_ref0 hb (br_f (by decide) (br_t rfl (br_f (by decide) (gy_bad1 hb (br_f (by decide) ⟨rfl, J⟩)))))
  rcases rl_pt v2 h6 with hb | ⟨q, hq, rfl⟩
  · unfold wpX_hasFlow wY_flow_9
    dsimp only
    refine vx_ref hO hs hd hp (fun _ => br_f (by decide) ?_) (fun _ _ => br_f (by decide) ?_) (fun _ _ => br_t rfl (vx_ref0 hb (br_f (by decide) ?_)))
    · exact br_t rfl (br_f (by decide) (gy_bad0 h6 hp (br_t rfl (gy_bad1 hb (br_f (by decide) ⟨rfl, J⟩)))))
    · exact br_t rfl (br_f (by decide) (gy_bad0 h6 hp (br_t rfl (gy_bad1 hb (br_f (by decide) ⟨rfl, J⟩)))))
    · exact br_t rfl (br_f (by decide) (gy_bad0 h6 hp (br_t rfl (gy_bad1 hb (br_f (by decide) ⟨rfl, J⟩)))))
  refine zx_flow hO hs hd hp hq (fun hj => ?_) (fun hj hjp hjq => ?_)
  · exact br_t rfl (br_f (by decide) (zy_flow hO hs hd hp hq hsd (fun _ _ _ _ _ => ⟨rfl, rl_mk hO hs hd hsd⟩) (fun h1 h2 h3 => absurd ⟨h1, h2, h3⟩ hj) (fun h1 h2 h3 => absurd ⟨h1, h2, h3⟩ hj)))
  · have hMb := an_Mb hw hs hd
    have hfb := zx_fb (hw.2.2.2.1 p q) (an_shb hw hs hd hsd (p := p)) (an_shb hw hs hd hsd (p := q))
    refine br_f (by decide) (zx_dfs hO hs hd hp hq hsd hj hjp hjq (fun M1 => kx_split hO hs hd (fun M2 => nm_r (vx_two _) (kx_lowered (vx_f hfb) (vx_b hMb) ?_))))
    rw [eu_2]
    exact br_f (by decide) (zy_flow hO hs hd hp hq hsd (fun h => absurd ⟨hj, hjp, hjq⟩ h) (fun _ _ _ h => absurd h (by decide)) (fun _ _ _ _ _ _ _ _ => ⟨rfl, rl_mk hO hs hd hsd⟩))
theorem i_vc_flowBottom {k : Nat} {u : SX} {v : SY} (I : i_Rel k u v) (hk : k + 4 ≤ 2049) (v1 : Int32) (v2 : Int32) : wpX_flowBottom (fun r u' => wpY_flowBottom (fun r' v' => r' = r ∧ i_Rel (k + 4) u' v') v v1 v2) u v1 v2 := by
  have J : i_Rel (k + 4) u v := I
  obtain ⟨n, sn, dn, a, M, z, l, t, m, rfl, rfl, hO, hs, hd, hsd⟩ := I
  have h6 := hO.2.1
  have hw := cw_W hO
  unfold wpX_flowBottom wpY_flowBottom
  dsimp only
  unfold wpY_flow
  dsimp only
  rcases rl_pt v1 h6 with hb | ⟨p, hp, rfl⟩
  · unfold wpX_hasFlow wY_flow_9
    dsimp only
    exact vx_ref0 hb (br_f (by decide) (br_t rfl (br_t rfl (gy_bad1 hb (br_f (by decide) ⟨rfl, J⟩)))))
  rcases rl_pt v2 h6 with hb | ⟨q, hq, rfl⟩
  · unfold wpX_hasFlow wY_flow_9
    dsimp only
    refine vx_ref hO hs hd hp (fun _ => br_f (by decide) ?_) (fun _ _ => br_f (by decide) ?_) (fun _ _ => br_t rfl (vx_ref0 hb (br_f (by decide) ?_)))
    · exact br_t rfl (br_t rfl (gy_bad0 h6 hp (br_t rfl (gy_bad1 hb (br_f (by decide) ⟨rfl, J⟩)))))
    · exact br_t rfl (br_t rfl (gy_bad0 h6 hp (br_t rfl (gy_bad1 hb (br_f (by decide) ⟨rfl, J⟩)))))
    · exact br_t rfl (br_t rfl (gy_bad0 h6 hp (br_t rfl (gy_bad1 hb (br_f (by decide) ⟨rfl, J⟩)))))
  refine zx_flow hO hs hd hp hq (fun hj => ?_) (fun hj hjp hjq => ?_)
  · exact br_t rfl (br_t rfl (zy_flow hO hs hd hp hq hsd (fun _ _ _ _ _ => ⟨rfl, rl_mk hO hs hd hsd⟩) (fun h1 h2 h3 => absurd ⟨h1, h2, h3⟩ hj) (fun h1 h2 h3 => absurd ⟨h1, h2, h3⟩ hj)))
  · have hMb := an_Mb hw hs hd
    have hfb := zx_fb (hw.2.2.2.1 p q) (an_shb hw hs hd hsd (p := p)) (an_shb hw hs hd hsd (p := q))
    refine br_f (by decide) (zx_dfs hO hs hd hp hq hsd hj hjp hjq (fun M1 => kx_split hO hs hd (fun M2 => nm_r (vx_two _) (kx_lowered (vx_b hMb) (vx_f hfb) ?_))))
    rw [eu_2]
    exact br_t rfl (zy_flow hO hs hd hp hq hsd (fun h => absurd ⟨hj, hjp, hjq⟩ h) (fun _ _ _ _ _ _ _ _ => ⟨rfl, rl_mk hO hs hd hsd⟩) (fun _ _ _ h => absurd rfl h))
