theorem ty_12 {n p wo ot : Nat} {s d : Int32} {a l m : Nat → Int32} {post : SY → Prop} (hO : cw_O n a) (hF : ly_F n (cw_w a) l) (hp : p < n) (hwo : wo < n) (hot : ot < n)
    (hJ : ∀ t, ty_A t (lc_L n (lc_xx (lj_b (cw_w a) p) wo ot)) → post (nI n, s, d, nI (lc_L n (lc_xx (lj_b (cw_w a) p) wo ot)).length, a, l, t, m)) :
    ∀ fuel q t, q ≤ n → n - q < fuel → ty_A t (lc_L q (lc_xx (lj_b (cw_w a) p) wo ot)) → wY_take_12 post (nI p) (nI wo) (nI ot) (nI n) s d fuel (nI q) (nI (lc_L q (lc_xx (lj_b (cw_w a) p) wo ot)).length) a l t m := by
  have h6 := hO.2.1
  have hw := cw_W hO
  intro fuel
  induction fuel with
  | zero => intro q t _ h; omega
  | succ f ih =>
    intro q t hq hf hA
    by_cases e : q = n
    · subst e
      exact br_t (nI_le (Nat.le_refl _) (by omega)) (hJ t hA)
    · have hqn : q < n := by omega
      have k1 : (nI q).toNatClampNeg = q := nI_clamp (by omega)
      have k2 : (nI p).toNatClampNeg = p := nI_clamp (by omega)
      have hlen := lc_len (n := q) (lc_xx (lj_b (cw_w a) p) wo ot)
      have k3 : (nI (lc_L q (lc_xx (lj_b (cw_w a) p) wo ot)).length).toNatClampNeg = (lc_L q (lc_xx (lj_b (cw_w a) p) wo ot)).length := nI_clamp (by omega)
      have hin := ih (q + 1)
      have hno : ¬ lc_xx (lj_b (cw_w a) p) wo ot q = true → wY_take_12 post (nI p) (nI wo) (nI ot) (nI n) s d f (nI (q + 1)) (nI (lc_L q (lc_xx (lj_b (cw_w a) p) wo ot)).length) a l t m := by
        intro h
        have h2 := hin t (by omega) (by omega)
        rw [bz_s0 h] at h2
        exact h2 hA
      refine br_f (nI_ge hqn (by omega)) (br_f (nI_ge (b := 6) (by omega) (by decide)) ⟨vp_in_nI (by omega) (by omega), vp_in_nI (by omega) (by omega), ?_⟩)
      rw [k1, k2]
      by_cases el : l q = l p
      · have hj : lj_J (cw_w a) p q := lj_s hw ((ly_eq hO hF hqn hp).mp el)
        refine br_t el ?_
        by_cases e1 : q = wo
        · refine br_t (by rw [e1]) (nm_r (nI_1 q) (hno (fun h => (lc_xxt.mp h).2.1 e1)))
        · refine br_f (by rw [nI_eq (by omega) (by omega)]; exact e1) ?_
          by_cases e2 : q = ot
          · refine br_t (by rw [e2]) (nm_r (nI_1 q) (hno (fun h => (lc_xxt.mp h).2.2 e2)))
          · refine br_f (by rw [nI_eq (by omega) (by omega)]; exact e2) ⟨vp_in_nI (by omega) (by omega), ?_⟩
            rw [k3]
            have hyes : lc_xx (lj_b (cw_w a) p) wo ot q = true := lc_xxt.mpr ⟨lj_bt.mpr hj, e1, e2⟩
            refine nm_e (nm_r (nI_1 _) (nm_r (nI_1 q) ?_))
            have h2 := hin (upd t (lc_L q (lc_xx (lj_b (cw_w a) p) wo ot)).length (nI q)) (by omega) (by omega)
            rw [bz_s1 hyes, List.length_append] at h2
            refine h2 (fun i hi => ?_)
            by_cases ei : i = (lc_L q (lc_xx (lj_b (cw_w a) p) wo ot)).length
            · rw [ei, pk_us, gd_r]
            · have hi' : i < (lc_L q (lc_xx (lj_b (cw_w a) p) wo ot)).length := by simp at hi; omega
              rw [pk_un ei, hA i hi', gd_l hi']
      · refine br_f el (nm_r (nI_1 q) (hno (fun h => el ?_)))
        exact (ly_eq hO hF hqn hp).mpr (lj_s hw (lj_bt.mp (lc_xxt.mp h).1))
theorem ty_take {n p wo ot : Nat} {s d z : Int32} {a l t m : Nat → Int32} {post : SY → Prop} (hO : cw_O n a) (hp : p < n) (hwo : wo < n) (hot : ot < n)
    (hJ : ∀ l t, ty_A t (lc_L n (lc_xx (lj_b (cw_w a) p) wo ot)) → post (nI n, s, d, nI (lc_L n (lc_xx (lj_b (cw_w a) p) wo ot)).length, a, l, t, m)) : wpY_take post (nI n, s, d, z, a, l, t, m) (nI p) (nI wo) (nI ot) := by
  unfold wpY_take
  dsimp only
  refine ly_group hO (fun l' hF => ⟨n + 1, ?_⟩)
  exact ty_12 hO hF hp hwo hot (hJ l') (n + 1) 0 t (by omega) (by omega) (fun i h => absurd h (Nat.not_lt_zero i))
theorem ay_l4 {n p q r : Nat} {a : Nat → Int32} (hO : cw_O n a) (hp : p < n) (hq : q < n) (h : ¬ p = q) : (lc_L n (lc_xx (lj_b (cw_w a) r) p q)).length ≤ 5 := by
  have := an_len2 (A := lj_b (cw_w a) r) hp hq h
  have := hO.2.1
  omega
theorem ay_l5 {n p r : Nat} {a : Nat → Int32} (hO : cw_O n a) (hp : p < n) : (lc_L n (lc_xx (lj_b (cw_w a) r) p p)).length ≤ 5 := by
  rw [an_xx]
  have := lc_len1 (P := lj_b (cw_w a) r) hp
  have := hO.2.1
  omega
theorem ay_whole {n sn dn : Nat} {z : Int32} {a l t m : Nat → Int32} {post : Int64 → SY → Prop} (hO : cw_O n a) (hs : sn < n) (hd : dn < n) (hsd : ¬ sn = dn)
    (hJ : ∀ z l t m, post (Int64.ofInt (an_M (cw_w a) n sn dn)) (nI n, nI sn, nI dn, z, a, l, t, m)) : wpY_whole post (nI n, nI sn, nI dn, z, a, l, t, m) := by
  unfold wpY_whole
  dsimp only
  refine ty_take hO hs hs hd (fun l' t' hA => ?_)
  refine dy_det (ey_m hO) (ay_l4 hO hs hd hsd) (lc_6 hO.2.1) hA (fun m' => ?_)
  have := hJ (nI (lc_L n (lc_xx (lj_b (cw_w a) sn) sn dn)).length) l' t' m'
  simp only [an_M, hsd, if_false] at this
  exact this
theorem ay_local {n sn dn : Nat} {z : Int32} {a l t m : Nat → Int32} {post : Int64 → SY → Prop} (hO : cw_O n a) (hs : sn < n) (hd : dn < n) (hj : lj_J (cw_w a) sn dn)
    (hJ : ∀ z l t m, post (Int64.ofInt (an_T (cw_w a) n sn)) (nI n, nI sn, nI dn, z, a, l, t, m)) : wpY_local post (nI n, nI sn, nI dn, z, a, l, t, m) := by
  unfold wpY_local
  dsimp only
  refine ty_take hO hs hd hd (fun l' t' hA => ?_)
  refine dy_det (ey_m hO) (ay_l5 hO hd) (lc_6 hO.2.1) hA (fun m' => ?_)
  have := hJ (nI (lc_L n (lc_xx (lj_b (cw_w a) sn) dn dn)).length) l' t' m'
  rw [← an_t (cw_W hO) hs hj, ← an_xx] at this
  exact this
theorem ay_share {n sn dn p : Nat} {z : Int32} {a l t m : Nat → Int32} {post : Int64 → SY → Prop} (hO : cw_O n a) (hs : sn < n) (hd : dn < n) (hp : p < n) (hsd : ¬ sn = dn)
    (hJ : ∀ z l t m, post (Int64.ofInt (an_sh (cw_w a) n sn dn p)) (nI n, nI sn, nI dn, z, a, l, t, m)) : wpY_share post (nI n, nI sn, nI dn, z, a, l, t, m) (nI p) := by
  have h6 := hO.2.1
  by_cases e1 : p = dn
  · refine br_t (by rw [e1]) ?_
    have := hJ z l t m
    simp only [an_sh, e1, if_true] at this
    exact this
  · refine br_f (by rw [nI_eq (by omega) (by omega)]; exact e1) ?_
    refine ty_take hO hs hs hd (fun l' t' hA => ?_)
    by_cases e2 : p = sn
    · refine br_t (by rw [e2]) ?_
      refine dy_det (ey_m hO) (ay_l4 hO hs hd hsd) (lc_6 hO.2.1) hA (fun m' => ?_)
      have := hJ (nI (lc_L n (lc_xx (lj_b (cw_w a) sn) sn dn)).length) l' t' m'
      simp only [an_sh, e1, e2, if_false, if_true, an_M, hsd] at this
      exact this
    · refine br_f (by rw [nI_eq (by omega) (by omega)]; exact e2) ?_
      refine dy_det (ey_c hO (by omega) (by omega)) (ay_l4 hO hs hd hsd) (lc_6 hO.2.1) hA (fun m' => ?_)
      have := hJ (nI (lc_L n (lc_xx (lj_b (cw_w a) sn) sn dn)).length) l' t' m'
      simp only [an_sh, e1, e2, if_false] at this
      exact this
theorem ay_allTrees {n : Nat} {s d z : Int32} {a l t m : Nat → Int32} {post : Int64 → SY → Prop} (hO : cw_O n a)
    (hJ : ∀ z l t m, post (Int64.ofInt (an_A (cw_w a) n)) (nI n, s, d, z, a, l, t, m)) : wpY_allTrees post (nI n, s, d, z, a, l, t, m) := by
  have h2 := hO.1
  have h6 := hO.2.1
  have hw := cw_W hO
  unfold wpY_allTrees
  dsimp only
  refine ly_groups hO (fun l' hF => ?_)
  have hlen := lc_len (n := n) (lk_l (cw_w a))
  by_cases e : (lc_L n (lk_l (cw_w a))).length ≤ 1
  · have hall := (an_all hw (by omega)).mp e
    refine br_t (nI_le (b := 1) e (by decide)) ?_
    refine ty_take (p := 0) (wo := 0) (ot := 0) hO (by omega) (by omega) (by omega) (fun l'' t'' hA => ?_)
    refine dy_det (ey_m hO) (ay_l5 hO (by omega)) (lc_6 hO.2.1) hA (fun m' => ?_)
    have := hJ (nI (lc_L n (lc_xx (lj_b (cw_w a) 0) 0 0)).length) l'' t'' m'
    rw [an_A1 hall] at this
    exact this
  · refine br_f (nI_ge (a := 1) (by omega) (by omega)) ?_
    have := hJ z l' t m
    rw [an_A0 hw (by omega) (fun h => e ((an_all hw (by omega)).mpr h))] at this
    exact this
/-! lowest terms -/
theorem ky_20 {g : Nat} {n s d z : Int32} {a l t m : Nat → Int32} {post : Int64 → Prop} (hJ1 : g ≠ 0 → post (lN g)) (hJ0 : g = 0 → post 1) :
    ∀ fuel j A B, j ≤ 120 → 120 - j < fuel → A < 2 ^ 63 → B < 2 ^ 63 → eu_I 60 j A B → Nat.gcd A B = g → wY_common_20 post n s d z a l t m fuel (lN A) (lN B) (nI j) := by
  intro fuel
  induction fuel with
  | zero => intro j A B _ h; omega
  | succ f ih =>
    intro j A B hj hf hA hB hI hg
    by_cases e : j = 120
    · subst e
      have := eu_e (N := 60) hI
      subst this
      rw [Nat.gcd_zero_right] at hg
      refine br_t (nI_le (a := 120) (Nat.le_refl _) (by decide)) ?_
      have h1 : (1 : Int64) ≤ lN A ↔ 1 ≤ A := pk_lLE (a := 1) (by decide) hA
      by_cases e0 : A = 0
      · refine br_f (fun h => ?_) (hJ0 (by omega))
        have := h1.mp h; omega
      · refine br_t (h1.mpr (by omega)) ?_
        rw [hg]; exact hJ1 (by omega)
    · refine br_f (nI_ge (b := 120) (by omega) (by decide)) ?_
      have h0 : lN B ≤ (0 : Int64) ↔ B ≤ 0 := pk_lLE (b := 0) hB (by decide)
      by_cases hb : B = 0
      · subst hb
        refine br_t (h0.mpr (Nat.le_refl 0)) (nm_r (nI_1 j) (ih (j + 1) A 0 (by omega) (by omega) hA (by decide) eu_z hg))
      · have hb' : ¬ lN B = 0 := by rw [kx_l0 hB]; exact hb
        have hlt : A % B < B := Nat.mod_lt A (by omega)
        refine br_f (fun h => ?_) ⟨hb', nm_r (pk_lRem hA (by omega) hB) (nm_r (nI_1 j) (ih (j + 1) B (A % B) (by omega) (by omega) hB (by omega) (eu_s (by omega) hI (by omega)) ?_))⟩
        · have := h0.mp h; omega
        · rw [eu_g]; exact hg
theorem ky_common {x y : Int} {n s d z : Int32} {a l t m : Nat → Int32} {post : Int64 → Prop} (hx : x.natAbs < 2 ^ 62) (hy0 : 0 ≤ y) (hy : y.natAbs < 2 ^ 60)
    (hJ1 : Nat.gcd x.natAbs y.natAbs ≠ 0 → post (lN (Nat.gcd x.natAbs y.natAbs))) (hJ0 : Nat.gcd x.natAbs y.natAbs = 0 → post 1) : wpY_common post (n, s, d, z, a, l, t, m) (Int64.ofInt x) (Int64.ofInt y) := by
  have hI : eu_I 60 0 x.natAbs y.natAbs := ⟨fun _ => hy, fun h => by omega⟩
  have hyl : Int64.ofInt y = lN y.natAbs := (eu_abs (x := y)).2 (by omega)
  rw [hyl]
  by_cases h0 : 0 ≤ x
  · refine br_t ((kx_le0 (by omega)).mpr h0) ⟨121, ?_⟩
    rw [(eu_abs (x := x)).2 (by omega)]
    exact ky_20 hJ1 hJ0 121 0 _ _ (by omega) (by omega) (by omega) (by omega) hI rfl
  · refine br_f (fun h => h0 ((kx_le0 (by omega)).mp h)) (nm_r ((eu_abs (x := x)).1 (by omega)) ⟨121, ?_⟩)
    exact ky_20 hJ1 hJ0 121 0 _ _ (by omega) (by omega) (by omega) (by omega) hI rfl
theorem ky_q {x y v : Int} {n s d z : Int32} {a l t m : Nat → Int32} {post : Int64 → Prop} (hx : x.natAbs < 2 ^ 62) (hy0 : 0 ≤ y) (hy : y.natAbs < 2 ^ 60) (hv : v = x ∨ v = y)
    (hJ : post (Int64.ofInt (v.tdiv (Nat.gcd x.natAbs y.natAbs : Nat)))) :
    wpY_common (fun r => ((1 ≤ r → (¬ r = 0 ∧ (post (Int64.ofInt v / r)))) ∧ (¬ 1 ≤ r → (post (Int64.ofInt v))))) (n, s, d, z, a, l, t, m) (Int64.ofInt x) (Int64.ofInt y) := by
  have hgb := kx_gb (x := x) (y := y) hx (by omega)
  have hvb : v.natAbs < 2 ^ 63 := by rcases hv with h | h <;> rw [h] <;> omega
  refine ky_common hx hy0 hy (fun hg => ?_) (fun hg => ?_)
  · have h1 : (1 : Int64) ≤ lN (Nat.gcd x.natAbs y.natAbs) ↔ 1 ≤ Nat.gcd x.natAbs y.natAbs := pk_lLE (a := 1) (by decide) hgb
    refine br_t (h1.mpr (by omega)) ⟨by rw [kx_l0 hgb]; exact hg, ?_⟩
    rw [eu_lN, eu_d hvb hgb]
    exact hJ
  · have hx0 : x.natAbs = 0 := Nat.eq_zero_of_gcd_eq_zero_left hg
    have hyz : y.natAbs = 0 := Nat.eq_zero_of_gcd_eq_zero_right hg
    have hv0 : v = 0 := by rcases hv with h | h <;> omega
    rw [hv0] at hJ ⊢
    rw [Int.zero_tdiv] at hJ
    exact br_t (by decide) ⟨by decide, hJ⟩
theorem ky_top {x y : Int} {n s d z : Int32} {a l t m : Nat → Int32} {post : Int64 → Prop} (hx : x.natAbs < 2 ^ 62) (hy0 : 0 ≤ y) (hy : y.natAbs < 2 ^ 60) (hJ : post (Int64.ofInt (eu_q x y))) : wpY_top post (n, s, d, z, a, l, t, m) (Int64.ofInt x) (Int64.ofInt y) :=
  ky_q hx hy0 hy (Or.inl rfl) hJ
theorem ky_bottom {x y : Int} {n s d z : Int32} {a l t m : Nat → Int32} {post : Int64 → Prop} (hx : x.natAbs < 2 ^ 62) (hy0 : 0 ≤ y) (hy : y.natAbs < 2 ^ 60) (hJ : post (Int64.ofInt (eu_q y x))) : wpY_bottom post (n, s, d, z, a, l, t, m) (Int64.ofInt x) (Int64.ofInt y) := by
  refine ky_q hx hy0 hy (Or.inr rfl) ?_
  unfold eu_q at hJ
  rw [Nat.gcd_comm]
  exact hJ
theorem ay_live {n sn dn : Nat} {z : Int32} {a l t m : Nat → Int32} {post : Int32 → SY → Prop} (hO : cw_O n a) (hs : sn < n) (hd : dn < n)
    (h1 : lj_J (cw_w a) sn dn → ∀ l, ly_F n (cw_w a) l → post 1 (nI n, nI sn, nI dn, z, a, l, t, m)) (h0 : ¬ lj_J (cw_w a) sn dn → ∀ l, post 0 (nI n, nI sn, nI dn, z, a, l, t, m)) : wpY_live post (nI n, nI sn, nI dn, z, a, l, t, m) := by
  have h6 := hO.2.1
  have k1 : (nI sn).toNatClampNeg = sn := nI_clamp (by omega)
  have k2 : (nI dn).toNatClampNeg = dn := nI_clamp (by omega)
  unfold wpY_live
  dsimp only
  refine ly_group hO (fun l' hF => ?_)
  dsimp only
  rw [k1, k2]
  refine ⟨vp_in_nI (by omega) (by omega), vp_in_nI (by omega) (by omega), ?_⟩
  have he := ly_eq hO hF hs hd
  by_cases e : l' sn = l' dn
  · exact br_t e (h1 (he.mp e) l' hF)
  · exact br_f e (h0 (fun h => e (he.mpr h)) l')
