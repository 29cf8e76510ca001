theorem hx_sub1 {n : Nat} (h : 1 ≤ n) : nI n - 1 = nI (n - 1) := by
  have := nI_pred (n - 1)
  have e : n - 1 + 1 = n := by omega
  rw [e] at this
  exact this
/-- the matrix in step t at row i, column j -/
def hx_M (n : Nat) (m : Nat → Nat → Int) (P : Nat → Bool) (t i j : Nat) (M : Nat → Int64) : Prop :=
  ∀ x y, t ≤ x → x < n → t ≤ y → y < n → M (6 * x + y) = Int64.ofInt (if t < x ∧ t < y ∧ (x < i ∨ (x = i ∧ y < j)) then bz_c m P (t + 1) x y else bz_c m P t x y)
theorem hx_55 {n t i : Nat} {m : Nat → Nat → Int} {P : Nat → Bool} {s d : Int32} {a : Nat → Int32} {post : Int64 → SX → Prop} {J4 : Int64 → Int32 → (Nat → Int32) → (Nat → Int64) → Prop} {J41 : Int32 → (Nat → Int32) → (Nat → Int64) → Prop}
    (hm : ∀ a b, (m a b).natAbs ≤ 45) (hn : n ≤ 6) (h5 : (lc_L n P).length ≤ 5) (hti : t < i) (hi : i < n) (h0 : nd_D m (lc_L t P) ≠ 0) (h0' : ¬ Int64.ofInt (nd_D m (lc_L t P)) = 0)
    (hJ : ∀ M, hx_M n m P t i n M → J41 (nI (i + 1)) a M) :
    ∀ fuel j M, t < j → j ≤ n → n - j < fuel → hx_M n m P t i j M → wX_determinant_55 post J4 J41 (Int64.ofInt (nd_D m (lc_L t P))) (nI t) (Int64.ofInt (bz_c m P t t t)) (nI i) (nI n) s d fuel (nI j) a M := by
  intro fuel
  induction fuel with
  | zero => intro j M _ _ h; omega
  | succ f ih =>
    intro j M htj hj hf hM
    by_cases e : j = n
    · subst e
      exact br_t (nI_le (Nat.le_refl _) (by omega)) (nm_r (nI_1 i) (hJ M hM))
    · have hjn : j < n := by omega
      have c1 : (nI i * 6 + nI j) = nI (6 * i + j) := gx_c i j
      have c2 : (nI i * 6 + nI t) = nI (6 * i + t) := gx_c i t
      have c3 : (nI t * 6 + nI j) = nI (6 * t + j) := gx_c t j
      have k1 : (nI (6 * i + j)).toNatClampNeg = 6 * i + j := nI_clamp (by omega)
      have k2 : (nI (6 * i + t)).toNatClampNeg = 6 * i + t := nI_clamp (by omega)
      have k3 : (nI (6 * t + j)).toNatClampNeg = 6 * t + j := nI_clamp (by omega)
      have m1 := hM i j (by omega) hi (by omega) hjn
      have m2 := hM i t (by omega) hi (by omega) (by omega)
      have m3 := hM t j (by omega) (by omega) (by omega) hjn
      rw [if_neg (by omega)] at m1 m2 m3
      have hst := bz_st hm P hn h5 hti htj hi h0 (i := i) (j := j)
      refine br_f (nI_ge hjn (by omega)) ?_
      rw [c1, c2, c3, k1, k2, k3, m1, m2, m3]
      refine ⟨vp_in_nI (by omega) (by omega), nm_e ⟨vp_in_nI (by omega) (by omega), vp_in_nI (by omega) (by omega), nm_e ⟨h0', vp_in_nI (by omega) (by omega), ?_⟩⟩⟩
      refine nm_e (nm_r (nI_1 j) ?_)
      rw [hst]
      refine ih (j + 1) _ (by omega) (by omega) (by omega) (fun x y hx hxn hy hyn => ?_)
      by_cases exy : x = i ∧ y = j
      · obtain ⟨e1, e2⟩ := exy
        subst e1; subst e2
        rw [pk_uLs, if_pos (by omega)]
      · rw [pk_uLn (by omega), hM x y hx hxn hy hyn]
        by_cases ec : t < x ∧ t < y ∧ (x < i ∨ (x = i ∧ y < j))
        · rw [if_pos ec, if_pos (by omega)]
        · rw [if_neg ec, if_neg (by omega)]
theorem hx_41 {n t : Nat} {m : Nat → Nat → Int} {P : Nat → Bool} {s d : Int32} {a : Nat → Int32} {post : Int64 → SX → Prop} {J4 : Int64 → Int32 → (Nat → Int32) → (Nat → Int64) → Prop}
    (hm : ∀ a b, (m a b).natAbs ≤ 45) (hn : n ≤ 6) (h5 : (lc_L n P).length ≤ 5) (htn : t < n) (h0 : nd_D m (lc_L t P) ≠ 0) (h0' : ¬ Int64.ofInt (nd_D m (lc_L t P)) = 0)
    (hJ : ∀ M, hx_M n m P (t + 1) (t + 2) (t + 2) M → J4 (Int64.ofInt (bz_c m P t t t)) (nI (t + 1)) a M) :
    ∀ fuel i M, t < i → i ≤ n → n - i < fuel → hx_M n m P t i (t + 1) M → wX_determinant_41 post J4 (Int64.ofInt (nd_D m (lc_L t P))) (nI t) (Int64.ofInt (bz_c m P t t t)) (nI n) s d fuel (nI i) a M := by
  intro fuel
  induction fuel with
  | zero => intro i M _ _ h; omega
  | succ f ih =>
    intro i M hti hi hf hM
    by_cases e : i = n
    · refine br_t (by rw [e]; exact nI_le (Nat.le_refl _) (by omega)) (nm_r (nI_1 t) (hJ M (fun x y hx hxn hy hyn => ?_)))
      rw [hM x y (by omega) hxn (by omega) hyn, if_pos (by omega)]
      rw [if_neg (by omega)]
    · have hin : i < n := by omega
      refine br_f (nI_ge hin (by omega)) (nm_r (nI_1 t) ⟨n + 1, ?_⟩)
      refine hx_55 hm hn h5 hti hin h0 h0' (fun M' hM' => ?_) (n + 1) (t + 1) M (by omega) (by omega) (by omega) hM
      refine ih (i + 1) M' (by omega) (by omega) (by omega) (fun x y hx hxn hy hyn => ?_)
      rw [hM' x y hx hxn hy hyn]
      by_cases ec : t < x ∧ t < y ∧ (x < i ∨ (x = i ∧ y < n))
      · rw [if_pos ec, if_pos (by omega)]
      · rw [if_neg ec, if_neg (by omega)]
theorem hx_of0 : (0 : Int64) = Int64.ofInt 0 := by decide
theorem hx_ne {z : Int} (hb : z.natAbs < 2 ^ 63) (h : z ≠ 0) : ¬ Int64.ofInt z = 0 := by
  rw [hx_of0, eu_eq hb (by decide)]
  exact h
theorem hx_4 {n : Nat} {w : Nat → Nat → Int} {P : Nat → Bool} {s d : Int32} {a : Nat → Int32} {post : Int64 → SX → Prop}
    (hw : la_W n w) (hn2 : 2 ≤ n) (h5 : (lc_L n P).length ≤ 5)
    (hJ : ∀ M, post (Int64.ofInt (nd_D (la_m w) (lc_L n P))) (nI n, s, d, a, M)) :
    ∀ fuel t M, t < n → n - t < fuel → nd_D (la_m w) (lc_L t P) ≠ 0 → hx_M n (la_m w) P t (t + 1) (t + 1) M → wX_determinant_4 post (nI n) s d fuel (Int64.ofInt (nd_D (la_m w) (lc_L t P))) (nI t) a M := by
  have hn := hw.1
  have hm : ∀ a b, (la_m w a b).natAbs ≤ 45 := la_mb hw
  have hbD : ∀ L, (nd_D (la_m w) L).natAbs < 2 ^ 63 := fun L => by
    have := nd_bD hm L
    have := an_bd5 L.length
    omega
  intro fuel
  induction fuel with
  | zero => intro t M _ h; omega
  | succ f ih =>
    intro t M ht hf h0 hM
    have hs1 : nI n - 1 = nI (n - 1) := hx_sub1 (by omega)
    have k0 : (nI (6 * t + t)).toNatClampNeg = 6 * t + t := nI_clamp (by omega)
    have m0 := hM t t (by omega) ht (by omega) ht
    rw [if_neg (by omega)] at m0
    by_cases e : t = n - 1
    · have hle : nI n - 1 ≤ nI t := by rw [hs1, e]; exact nI_le (Nat.le_refl _) (by omega)
      have hs2 : nI n - 1 = nI t := by rw [hs1, e]
      refine br_t hle (nm_r hs2 ?_)
      rw [gx_c t t, k0, m0, bz_p]
      have e2 : t + 1 = n := by omega
      rw [e2]
      exact ⟨vp_in_nI (by omega) (by omega), hJ M⟩
    · have hlt : ¬ nI n - 1 ≤ nI t := by rw [hs1]; exact nI_ge (by omega) (by omega)
      refine br_f hlt ?_
      rw [gx_c t t, k0]
      refine ⟨vp_in_nI (by omega) (by omega), nm_r m0 ?_⟩
      have hp := bz_p (la_m w) P t
      by_cases ez : nd_D (la_m w) (lc_L (t + 1) P) = 0
      · have ez' : Int64.ofInt (bz_c (la_m w) P t t t) = 0 := by rw [hp, ez]; rfl
        refine br_t ez' ?_
        have hz : nd_D (la_m w) (lc_L n P) = 0 := lb_piv hw (lc_L (t + 1) P) (lc_L n P) (fun x hx => by
          rw [lc_mem] at hx ⊢
          exact ⟨by omega, hx.2⟩) (by have := bz_mono (P := P) (a := t + 1) (b := n) (by omega); omega) (lc_nd _ _) h5 (lc_nd _ _) (lc_6 hn) ez
        have := hJ M
        rw [hz, ← hx_of0] at this
        exact this
      · have ez' : ¬ Int64.ofInt (bz_c (la_m w) P t t t) = 0 := by rw [hp]; exact hx_ne (hbD _) ez
        refine br_f ez' (nm_r (nI_1 t) ⟨n + 1, ?_⟩)
        refine hx_41 hm hn h5 ht h0 (hx_ne (hbD _) h0) (fun M' hM' => ?_) (n + 1) (t + 1) M (by omega) (by omega) (by omega) hM
        rw [hp]
        exact ih (t + 1) M' (by omega) (by omega) ez hM'
theorem hx_determinant {n : Nat} {w : Nat → Nat → Int} {P : Nat → Bool} {s d : Int32} {a : Nat → Int32} {M : Nat → Int64} {post : Int64 → SX → Prop}
    (hw : la_W n w) (hn2 : 2 ≤ n) (h5 : (lc_L n P).length ≤ 5) (hM : ∀ x y, x < n → y < n → M (6 * x + y) = Int64.ofInt (bz_c (la_m w) P 0 x y))
    (hJ : ∀ M, post (Int64.ofInt (nd_D (la_m w) (lc_L n P))) (nI n, s, d, a, M)) : wpX_determinant post (nI n, s, d, a, M) := by
  refine ⟨n + 1, ?_⟩
  have h := hx_4 (s := s) (d := d) (a := a) hw hn2 h5 hJ (n + 1) 0 M (by omega) (by omega) (by show (1 : Int) ≠ 0; decide) (fun x y _ hx _ hy => by
    rw [if_neg (by omega)]
    exact hM x y hx hy)
  exact h
/-- the filled matrix -/
theorem hx_neg {n : Nat} {a : Nat → Int32} (h : cw_O n a) {p q : Nat} (hp : p < 6) (hq : q < 6) : (-(a (6 * p + q))).toInt64 = Int64.ofInt (- cw_w a p q) := by
  obtain ⟨v, hv, e, e2⟩ := cw_v h hp hq
  have h1 : ∀ v, v < 10 → (-(nI v)).toInt64 = Int64.ofInt (-(v : Int)) := by decide +kernel
  rw [e, e2]
  exact h1 v (by omega)
theorem hx_b0 {w : Nat → Nat → Int} {P : Nat → Bool} {x y : Nat} (h : ¬ x = y) : bz_c (la_m w) P 0 x y = if P x = true ∧ P y = true then - w x y else 0 := by
  unfold bz_c
  have e : lc_L 0 P = [] := rfl
  rw [e]
  simp only [nd_R, la_m, h, if_false]
theorem hx_b1 {w : Nat → Nat → Int} {P : Nat → Bool} {x : Nat} : bz_c (la_m w) P 0 x x = if P x = true then la_6 (w x) else 1 := by
  unfold bz_c
  have e : lc_L 0 P = [] := rfl
  rw [e]
  simp only [nd_R, nd_D, la_m, and_self, if_true]
/-- the rows that are filled -/
def hx_F (n : Nat) (w : Nat → Nat → Int) (P : Nat → Bool) (p q : Nat) (M : Nat → Int64) : Prop :=
  ∀ x y, x < n → y < n → (x < p ∨ (x = p ∧ y < q ∧ ¬ y = p)) → M (6 * x + y) = Int64.ofInt (bz_c (la_m w) P 0 x y)
theorem hx_15 {n p K : Nat} {s d : Int32} {a : Nat → Int32} {post : Int64 → SX → Prop} {J2 : Int32 → (Nat → Int32) → (Nat → Int64) → Prop}
    (hO : cw_O n a) (hp : p < n) (hK : K < 64) (hJ : ∀ M, hx_F n (cw_w a) K.testBit (p + 1) 0 M → J2 (nI (p + 1)) a M) :
    ∀ fuel q M, q ≤ n → n - q < fuel → hx_F n (cw_w a) K.testBit p q M → wX_minor_15 post J2 (nI K) (nI p) (nI n) s d fuel (Int64.ofInt (lz_sum (cw_w a p) q)) (nI q) a M := by
  have h6 := hO.2.1
  intro fuel
  induction fuel with
  | zero => intro q M _ h; omega
  | succ f ih =>
    intro q M hq hf hM
    by_cases e : q = n
    · subst e
      refine br_t (nI_le (Nat.le_refl _) (by omega)) ?_
      have hb := mb_bit K hK p (by omega)
      have k0 : (nI (6 * p + p)).toNatClampNeg = 6 * p + p := nI_clamp (by omega)
      have hfin : ∀ v : Int64, v = Int64.ofInt (bz_c (la_m (cw_w a)) K.testBit 0 p p) → hx_F q (cw_w a) K.testBit (p + 1) 0 (vp_updL M (6 * p + p) v) := by
        intro v hv x y hx hy hxy
        by_cases exy : x = p ∧ y = p
        · obtain ⟨e1, e2⟩ := exy
          subst e1; subst e2
          rw [pk_uLs, hv]
        · rw [pk_uLn (by omega)]
          exact hM x y hx hy (by omega)
      rw [gx_c p p, k0]
      by_cases hk : K.testBit p = true
      · rw [if_pos hk] at hb
        refine br_t hb ⟨vp_in_nI (by omega) (by omega), nm_e (nm_r (nI_1 p) (hJ _ (hfin _ ?_)))⟩
        rw [hx_b1, if_pos hk, cw_sum (cw_W hO)]
      · rw [if_neg hk] at hb
        refine br_f (fun h => ?_) ⟨vp_in_nI (by omega) (by omega), nm_e (nm_r (nI_1 p) (hJ _ (hfin _ ?_)))⟩
        · rw [hb] at h; exact absurd h (by decide)
        · rw [hx_b1, if_neg hk]; rfl
    · have hqn : q < n := by omega
      have k1 : (nI (6 * p + q)).toNatClampNeg = 6 * p + q := nI_clamp (by omega)
      have hb := mb_bit2 K hK p (by omega) q (by omega)
      have hsum : Int64.ofInt (lz_sum (cw_w a p) q) + (a (6 * p + q)).toInt64 = Int64.ofInt (lz_sum (cw_w a p) (q + 1)) := by
        rw [cw_l hO (by omega) (by omega), ← Int64.ofInt_add]; rfl
      refine br_f (nI_ge hqn (by omega)) (nm_r (gx_c p q) ?_)
      have hnext : ∀ v : Int64, (¬ q = p → v = Int64.ofInt (bz_c (la_m (cw_w a)) K.testBit 0 p q)) → wX_minor_78 post J2 (wX_minor_15 post J2 (nI K) (nI p) (nI n) s d f) (nI K) (nI p) (Int64.ofInt (lz_sum (cw_w a p) q)) (nI q) (nI (6 * p + q)) v (nI (6 * p + q)) (nI n) s d a M := by
        intro v hv
        refine ⟨vp_in_nI (by omega) (by omega), nm_e ⟨vp_in_nI (by omega) (by omega), ?_⟩⟩
        rw [k1]
        refine nm_r hsum (nm_r (nI_1 q) (ih (q + 1) _ (by omega) (by omega) (fun x y hx hy hxy => ?_)))
        by_cases exy : x = p ∧ y = q
        · obtain ⟨e1, e2⟩ := exy
          subst e1; subst e2
          rw [pk_uLs]
          exact hv (by omega)
        · rw [pk_uLn (by omega)]
          exact hM x y hx hy (by omega)
      by_cases hk : K.testBit p = true ∧ K.testBit q = true
      · rw [if_pos hk] at hb
        refine br_t hb (br_f (by decide) ⟨vp_in_nI (by omega) (by omega), hnext _ (fun hne => ?_)⟩)
        rw [k1, hx_neg hO (by omega) (by omega), hx_b0 (fun h => hne h.symm), if_pos hk]
      · rw [if_neg hk] at hb
        refine br_f (fun h => ?_) (br_t rfl (hnext _ (fun hne => ?_)))
        · rw [hb] at h; exact absurd h (by decide)
        · rw [hx_b0 (fun h => hne h.symm), if_neg hk]; rfl
theorem hx_2 {n K : Nat} {s d : Int32} {a : Nat → Int32} {post : Int64 → SX → Prop}
    (hO : cw_O n a) (hK : K < 64) (h5 : (lc_L n K.testBit).length ≤ 5) (hJ : ∀ M, post (Int64.ofInt (nd_D (la_m (cw_w a)) (lc_L n K.testBit))) (nI n, s, d, a, M)) :
    ∀ fuel p M, p ≤ n → n - p < fuel → hx_F n (cw_w a) K.testBit p 0 M → wX_minor_2 post (nI K) (nI n) s d fuel (nI p) a M := by
  have h6 := hO.2.1
  intro fuel
  induction fuel with
  | zero => intro p M _ h; omega
  | succ f ih =>
    intro p M hp hf hM
    by_cases e : p = n
    · subst e
      refine br_t (nI_le (Nat.le_refl _) (by omega)) ?_
      exact hx_determinant (cw_W hO) hO.1 h5 (fun x y hx hy => hM x y hx hy (Or.inl hx)) hJ
    · have hpn : p < n := by omega
      refine br_f (nI_ge hpn (by omega)) ⟨n + 1, ?_⟩
      exact hx_15 hO hpn hK (fun M' hM' => ih (p + 1) M' (by omega) (by omega) hM') (n + 1) 0 M (by omega) (by omega) hM
theorem hx_minor {n K : Nat} {s d : Int32} {a : Nat → Int32} {M : Nat → Int64} {post : Int64 → SX → Prop}
    (hO : cw_O n a) (hK : K < 64) (h5 : (lc_L n K.testBit).length ≤ 5) (hJ : ∀ M, post (Int64.ofInt (nd_D (la_m (cw_w a)) (lc_L n K.testBit))) (nI n, s, d, a, M)) : wpX_minor post (nI n, s, d, a, M) (nI K) :=
  ⟨n + 1, hx_2 hO hK h5 hJ (n + 1) 0 M (by omega) (by omega) (fun x y _ _ h => by omega)⟩
