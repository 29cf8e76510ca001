theorem kx_treeSum {n G : Nat} {s d : Int32} {a : Nat → Int32} {M : Nat → Int64} {post : Int64 → SX → Prop} (hO : cw_O n a) (hG : G < 64) (hG0 : 0 < G) (hGn : ∀ q, G.testBit q = true → q < n)
    (hJ : ∀ l, l < n → G.testBit l = true → (∀ q, q < l → G.testBit q = false) → ∀ M, post (Int64.ofInt (nd_D (la_m (cw_w a)) (lc_L n (lc_x G.testBit l)))) (nI n, s, d, a, M)) : wpX_treeSum post (nI n, s, d, a, M) (nI G) := by
  have h6 := hO.2.1
  obtain ⟨h1, l, hl6, hl, hlow, ht⟩ := mb_dropt G hG hG0
  have hln := hGn l hl
  have hL : lc_L n (G &&& (G - 1)).testBit = lc_L n (lc_x G.testBit l) := lc_cg (fun z hz => by
    rw [ht z (by omega)]; rfl)
  unfold wpX_treeSum
  dsimp only
  rw [mb_drop G hG]
  refine hx_minor hO h1 ?_ (fun M' => ?_)
  · rw [hL]
    have := lc_len1 (n := n) (P := G.testBit) hln
    omega
  · rw [hL]
    exact hJ l hln hl hlow M'
theorem kx_pos {G p : Nat} (h : G.testBit p = true) : 0 < G := by
  apply Nat.pos_of_ne_zero
  intro e
  subst e
  simp at h
theorem kx_groupTree {n p : Nat} {s d : Int32} {a : Nat → Int32} {M : Nat → Int64} {post : Int64 → SX → Prop} (hO : cw_O n a) (hp : p < n)
    (hJ : ∀ M, post (Int64.ofInt (an_T (cw_w a) n p)) (nI n, s, d, a, M)) : wpX_groupTreeSum post (nI n, s, d, a, M) (nI p) := by
  have hw := cw_W hO
  unfold wpX_groupTreeSum
  dsimp only
  refine gx_group hO hp (fun G hG hGq => ?_)
  refine kx_treeSum hO hG (kx_pos ((hGq p).mpr (lj_r _ p))) (fun q hq => lj_n hw hp ((hGq q).mp hq)) (fun l hln hl _ M' => ?_)
  have hL : lc_L n (lc_x G.testBit l) = lc_L n (lc_x (lj_b (cw_w a) p) l) := lc_cg (fun z _ => by
    rw [lc_xt, lc_xt, hGq z, lj_bt])
  rw [hL, an_t hw hp ((hGq l).mp hl)]
  exact hJ M'
theorem kx_split {n p q : Nat} {s d : Int32} {a : Nat → Int32} {M : Nat → Int64} {post : Int64 → SX → Prop} (hO : cw_O n a) (hp : p < n) (hq : q < n)
    (hJ : ∀ M, post (Int64.ofInt (an_M (cw_w a) n p q)) (nI n, s, d, a, M)) : wpX_splitSum post (nI n, s, d, a, M) (nI p) (nI q) := by
  have h6 := hO.2.1
  by_cases e : p = q
  · refine br_t (by rw [e]) ?_
    have := hJ M
    simp only [an_M, e, if_true] at this
    exact this
  · have e' : ¬ nI p = nI q := by rw [nI_eq (by omega) (by omega)]; exact e
    refine br_f e' ?_
    refine gx_group hO hp (fun G hG hGq => ?_)
    have hboth : ((1 : Int32) <<< (nI p &&& 31)) ||| ((1 : Int32) <<< (nI q &&& 31)) = nI (2 ^ p ||| 2 ^ q) := by
      rw [mb_1 p (by omega), mb_1 q (by omega), mb_or]
    refine nm_r hboth ?_
    rw [mb_ends G hG p (by omega) q (by omega)]
    obtain ⟨h1, h2⟩ := mb_endt G hG p (by omega) q (by omega)
    have hL : lc_L n (G &&& (63 ^^^ (2 ^ p ||| 2 ^ q))).testBit = lc_L n (lc_xx (lj_b (cw_w a) p) p q) := lc_cg (fun z hz => by
      rw [h2 z (by omega), lc_xxt, lj_bt, ← hGq z]
      simp [and_assoc])
    refine hx_minor hO h1 ?_ (fun M' => ?_)
    · rw [hL]
      have := an_len2 (A := lj_b (cw_w a) p) hp hq e
      omega
    · rw [hL]
      have := hJ M'
      simp only [an_M, e, if_false] at this
      exact this
theorem kx_dvs {n p sn dn : Nat} {a : Nat → Int32} {M : Nat → Int64} {post : Int64 → SX → Prop} (hO : cw_O n a) (hs : sn < n) (hd : dn < n) (hp : p < n) (hsd : ¬ sn = dn) (hj : lj_J (cw_w a) sn dn) (hjp : lj_J (cw_w a) sn p)
    (hJ : ∀ M, post (Int64.ofInt (2 * an_sh (cw_w a) n sn dn p)) (nI n, nI sn, nI dn, a, M)) : wpX_doubleVoltageShare post (nI n, nI sn, nI dn, a, M) (nI p) := by
  have hw := cw_W hO
  unfold wpX_doubleVoltageShare
  dsimp only
  refine kx_split hO hs hd (fun M1 => ?_)
  dsimp only
  refine kx_split hO hp hd (fun M2 => ?_)
  dsimp only
  refine kx_split hO hs hp (fun M3 => ?_)
  dsimp only
  rw [← Int64.ofInt_add, ← Int64.ofInt_sub, an_v hw hs hsd hj hjp]
  exact hJ M3
/-! lowest terms -/
theorem kx_le0 {x : Int} (hx : x.natAbs < 2 ^ 63) : 0 ≤ Int64.ofInt x ↔ 0 ≤ x := by
  rw [Int64.le_iff_toInt_le, Int64.toInt_ofInt_of_le (by omega) (by omega)]
  exact Iff.rfl
theorem kx_l0 {B : Nat} (hB : B < 2 ^ 63) : lN B = 0 ↔ B = 0 := by
  have : (0 : Int64) = lN 0 := rfl
  rw [this, pk_lEQ hB (by decide)]
theorem kx_31 {g : Nat} {post : Int64 → Prop} (hJ : post (lN g)) :
    ∀ fuel j A B, j ≤ 128 → 128 - j < fuel → A < 2 ^ 63 → B < 2 ^ 63 → eu_I 64 j A B → Nat.gcd A B = g → wX_commonDivisor_31 post fuel (lN A) (lN B) (nI j) := by
  intro fuel
  induction fuel with
  | zero => intro j A B _ h; omega
  | succ f ih =>
    intro j A B hj hf hA hB hI hg
    by_cases e : j = 128
    · subst e
      have := eu_e (N := 64) hI
      subst this
      rw [Nat.gcd_zero_right] at hg
      refine br_t (nI_le (a := 128) (Nat.le_refl _) (by decide)) ?_
      rw [hg]
      exact hJ
    · refine br_f (nI_ge (b := 128) (by omega) (by decide)) ?_
      by_cases hb : B = 0
      · subst hb
        rw [Nat.gcd_zero_right] at hg
        refine br_t rfl ?_
        rw [hg]
        exact hJ
      · have hb' : ¬ lN B = 0 := by rw [kx_l0 hB]; exact hb
        have hlt : A % B < B := Nat.mod_lt A (by omega)
        refine br_f hb' ⟨hb', nm_r (pk_lRem hA (by omega) hB) (nm_r (nI_1 j) (ih (j + 1) B (A % B) (by omega) (by omega) hB (by omega) (eu_s (by omega) hI (by omega)) ?_))⟩
        rw [eu_g]; exact hg
theorem kx_cd {x y : Int} {post : Int64 → Prop} (hx : x.natAbs < 2 ^ 63) (hy : y.natAbs < 2 ^ 63) (hJ : post (lN (Nat.gcd x.natAbs y.natAbs))) : wpX_commonDivisor post (Int64.ofInt x) (Int64.ofInt y) := by
  have hI : eu_I 64 0 x.natAbs y.natAbs := ⟨fun _ => by show y.natAbs < 2 ^ 64; omega, fun h => by omega⟩
  have hfin : wX_commonDivisor_12 post (Int64.ofInt y) (lN x.natAbs) := by
    by_cases h0 : 0 ≤ y
    · refine br_t ((kx_le0 hy).mpr h0) ⟨129, ?_⟩
      rw [eu_abs.2 (by omega)]
      exact kx_31 hJ 129 0 _ _ (by omega) (by omega) hx hy hI rfl
    · refine br_f (fun h => h0 ((kx_le0 hy).mp h)) (nm_r (eu_abs.1 (by omega)) ⟨129, ?_⟩)
      exact kx_31 hJ 129 0 _ _ (by omega) (by omega) hx hy hI rfl
  by_cases h0 : 0 ≤ x
  · refine br_t ((kx_le0 hx).mpr h0) ?_
    rw [(eu_abs (x := x)).2 (by omega)]
    exact hfin
  · refine br_f (fun h => h0 ((kx_le0 hx).mp h)) ?_
    rw [(eu_abs (x := x)).1 (by omega)]
    exact hfin
theorem kx_gb {x y : Int} (hx : x.natAbs < 2 ^ 62) (hy : y.natAbs < 2 ^ 62) : Nat.gcd x.natAbs y.natAbs < 2 ^ 63 := by
  by_cases h : x.natAbs = 0
  · rw [h, Nat.gcd_zero_left]; omega
  · have := Nat.gcd_le_left y.natAbs (Nat.pos_of_ne_zero h)
    omega
theorem kx_lowered {x y : Int} {post : Int64 → Prop} (hx : x.natAbs < 2 ^ 62) (hy : y.natAbs < 2 ^ 62) (hJ : post (Int64.ofInt (eu_q x y))) : wpX_lowered post (Int64.ofInt x) (Int64.ofInt y) := by
  have hgb := kx_gb hx hy
  refine kx_cd (by omega) (by omega) ?_
  by_cases hg : Nat.gcd x.natAbs y.natAbs = 0
  · refine br_t (by rw [hg]; rfl) ?_
    have hx0 : x = 0 := by
      have := Nat.eq_zero_of_gcd_eq_zero_left hg
      omega
    have e : eu_q x y = x := by
      unfold eu_q; rw [hx0]; simp
    rw [e] at hJ
    exact hJ
  · have hg' : ¬ lN (Nat.gcd x.natAbs y.natAbs) = 0 := by rw [kx_l0 hgb]; exact hg
    refine br_f hg' ⟨hg', ?_⟩
    rw [eu_lN, eu_d (by omega) hgb]
    exact hJ
