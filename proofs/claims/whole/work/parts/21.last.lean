theorem i_vc_treesWith {k : Nat} {u : SX} {v : SY} (I : i_Rel k u v) (hk : k + 4 ≤ 2049) (v1 : Int32) (v2 : Int32) : wpX_treesWith (fun r u' => wpY_treesWith (fun r' v' => r' = r ∧ i_Rel (k + 4) u' v') v v1 v2) u v1 v2 := by
  have J : i_Rel (k + 4) u v := I
  obtain ⟨n, sn, dn, a, M, z, l, t, m, rfl, rfl, hO, hs, hd, hsd⟩ := I
  have h6 := hO.2.1
  have hw := cw_W hO
  unfold wpX_treesWith wpY_treesWith
  dsimp only
  rcases rl_pt v1 h6 with hb | ⟨p, hp, rfl⟩
  · exact gx_good0 hb (br_t rfl (gy_bad1 hb (br_f (by decide) ⟨rfl, J⟩)))
  refine gx_good1 h6 hp (br_f (by decide) ?_)
  rcases rl_pt v2 h6 with hb | ⟨q, hq, rfl⟩
  · exact gx_good0 hb (br_t rfl (gy_bad0 h6 hp (br_t rfl (gy_bad1 hb (br_f (by decide) ⟨rfl, J⟩)))))
  refine gx_good1 h6 hq (br_f (by decide) ?_)
  by_cases e : p = q
  · subst e
    exact br_t rfl (gy_bad0 h6 hp (br_t rfl (gy_bad0 h6 hp (br_t rfl (br_t rfl ⟨rfl, J⟩)))))
  have e' := rl_ne h6 hp hq e
  have k1 : (nI (6 * p + q)).toNatClampNeg = 6 * p + q := nI_clamp (by omega)
  have hO' : cw_O n (cw_put a p q 0) := cw_putO (v := 0) hO hp hq e (by omega)
  have hW := an_W hw hp hq e
  have hY : ∀ (r : Int64) (M' : Nat → Int64), Int64.ofInt (an_A (cw_w a) n - an_A (lb_out (cw_w a) p q) n) = r → wpY_bad (fun r_1 => (((r_1 = 0 → (wpY_bad (fun r_11 => (((r_11 = 0 → (((nI p = nI q → (((-2 : Int64) = r ∧ i_Rel (k + 4) (nI n, nI sn, nI dn, a, M') (nI n, nI sn, nI dn, z, a, l, t, m)))) ∧ (¬ nI p = nI q → (wpY_allTrees (fun r_22 u => (vp_in ((6 * nI p) + nI q) 36 ∧ (∀ x5 : Int32, x5 = u.2.2.2.2.1 ((6 * nI p) + nI q).toNatClampNeg → (wpY_put (fun u => (wpY_allTrees (fun r_42 u => (wpY_put (fun u => ((r_22 - r_42) = r ∧ i_Rel (k + 4) (nI n, nI sn, nI dn, a, M') u)) u (nI p) (nI q) x5)) u)) u (nI p) (nI q) 0)))) (nI n, nI sn, nI dn, z, a, l, t, m)))))) ∧ (¬ r_11 = 0 → ((-1 : Int64) = r ∧ i_Rel (k + 4) (nI n, nI sn, nI dn, a, M') (nI n, nI sn, nI dn, z, a, l, t, m)))))) (nI n, nI sn, nI dn, z, a, l, t, m) (nI q))) ∧ (¬ r_1 = 0 → ((-1 : Int64) = r ∧ i_Rel (k + 4) (nI n, nI sn, nI dn, a, M') (nI n, nI sn, nI dn, z, a, l, t, m)))))) (nI n, nI sn, nI dn, z, a, l, t, m) (nI p) := by
    intro r M' hr
    refine gy_bad0 h6 hp (br_t rfl (gy_bad0 h6 hq (br_t rfl (br_f e' ?_))))
    refine ay_allTrees hO (fun z1 l1 t1 m1 => ?_)
    dsimp only
    rw [gy_c p q, k1]
    refine ⟨vp_in_nI (by omega) (by omega), nm_e (rl_setY h6 hp hq ?_)⟩
    refine ay_allTrees hO' (fun z2 l2 t2 m2 => ?_)
    refine rl_setY h6 hp hq ?_
    rw [cw_back hO hp hq, cw_putw hO hp hq, ← Int64.ofInt_sub]
    exact ⟨hr, rl_mk hO hs hd hsd⟩
  refine br_f e' (gx_group hO hp (fun G hG hGq => ?_))
  unfold wpX_everyPoint
  dsimp only
  rw [mb_1 n (by omega), mb_m n (by omega)]
  have hfull : ∀ y, y < 6 → ((2 ^ n - 1).testBit y = true ↔ y < n) := fun y hy => by
    rw [mb_fullt n (by omega) y hy, decide_eq_true_eq]
  have h64 : 2 ^ n - 1 < 64 := by
    have h : ∀ n, n < 7 → 2 ^ n - 1 < 64 := by decide
    exact h n (by omega)
  have hall : G = 2 ^ n - 1 ↔ ∀ y, y < n → lj_J (cw_w a) p y := by
    constructor
    · intro hG' y hy
      rw [← hGq y, hG']
      exact (hfull y (by omega)).mpr hy
    · intro h
      refine mb_ext hG h64 (fun y hy => ?_)
      rw [hGq y, hfull y hy]
      exact ⟨fun hj => lj_n hw hp hj, fun hy' => h y hy'⟩
  by_cases ha : ∀ y, y < n → lj_J (cw_w a) p y
  · refine br_t (by rw [hall.mpr ha]) ?_
    rw [gx_c p q, k1]
    refine ⟨vp_in_nI (by omega) (by omega), kx_split hO hp hq (fun M1 => ?_)⟩
    refine hY _ M1 ?_
    rw [hW.1 ha, cw_l hO (by omega) (by omega), Int64.ofInt_mul]
  · refine br_f (fun h => ha (hall.mp ((mb_full n (by omega) G hG).mp h))) ?_
    refine hY _ M ?_
    rw [hW.2 ha]
    rfl
/-! bridges -/
def bs_s (f : Nat → Nat) : Nat → Nat
  | 0 => 0
  | n + 1 => bs_s f n + f n
theorem bs_add (f g : Nat → Nat) : ∀ n, bs_s (fun x => f x + g x) n = bs_s f n + bs_s g n
  | 0 => rfl
  | n + 1 => by simp only [bs_s, bs_add f g n]; omega
theorem bs_0 : ∀ n, bs_s (fun _ => 0) n = 0
  | 0 => rfl
  | n + 1 => by simp only [bs_s, bs_0 n]
theorem bs_c {f g : Nat → Nat} : ∀ n, (∀ x, x < n → f x = g x) → bs_s f n = bs_s g n
  | 0, _ => rfl
  | n + 1, h => by simp only [bs_s, bs_c n (fun x hx => h x (by omega)), h n (by omega)]
theorem bs_swap (F : Nat → Nat → Nat) (m : Nat) : ∀ n, bs_s (fun x => bs_s (fun y => F x y) m) n = bs_s (fun y => bs_s (fun x => F x y) n) m
  | 0 => by simp only [bs_s, bs_0]
  | n + 1 => by
    simp only [bs_s]
    rw [bs_swap F m n, bs_add (fun y => bs_s (fun x => F x y) n) (fun y => F n y) m]
theorem bs_tail {f : Nat → Nat} {a : Nat} : ∀ n, a ≤ n → (∀ x, a ≤ x → f x = 0) → bs_s f n = bs_s f a
  | 0, h, _ => by have : a = 0 := by omega
                  rw [this]
  | n + 1, h, hz => by
    by_cases e : a = n + 1
    · rw [e]
    · simp only [bs_s]
      rw [bs_tail n (by omega) hz, hz n (by omega)]
      rfl
/-- 1 for a bridge, the lower point first -/
noncomputable def bs_f (w : Nat → Nat → Int) (x y : Nat) : Nat := @ite Nat (x < y ∧ 0 < w x y ∧ ¬ lj_J (lb_out w x y) x y) (Classical.propDecidable _) 1 0
theorem bs_f1 {w : Nat → Nat → Int} {x y : Nat} (h : x < y ∧ 0 < w x y ∧ ¬ lj_J (lb_out w x y) x y) : bs_f w x y = 1 := by
  unfold bs_f; rw [if_pos h]
theorem bs_f0 {w : Nat → Nat → Int} {x y : Nat} (h : ¬ (x < y ∧ 0 < w x y ∧ ¬ lj_J (lb_out w x y) x y)) : bs_f w x y = 0 := by
  unfold bs_f; rw [if_neg h]
theorem bs_fle (w : Nat → Nat → Int) (x y : Nat) : bs_f w x y ≤ 1 := by
  unfold bs_f; split <;> omega
theorem bs_le {f : Nat → Nat} {b : Nat} : ∀ n, (∀ x, f x ≤ b) → bs_s f n ≤ n * b
  | 0, _ => Nat.zero_le _
  | n + 1, h => by
    have h1 := bs_le n h
    have h2 := h n
    simp only [bs_s, Nat.succ_mul]
    omega
theorem bs_out (w : Nat → Nat → Int) (p q : Nat) : lb_out w p q = lb_out w q p := by
  funext x y
  simp only [lb_out]
  by_cases h : (x = p ∧ y = q) ∨ (x = q ∧ y = p)
  · have h' : (x = q ∧ y = p) ∨ (x = p ∧ y = q) := h.symm
    simp only [h, h', if_true]
  · have h' : ¬ ((x = q ∧ y = p) ∨ (x = p ∧ y = q)) := fun e => h e.symm
    simp only [h, h', if_false]
/-- both sums -/
theorem bs_eq (w : Nat → Nat → Int) (n : Nat) : bs_s (fun x => bs_s (bs_f w x) n) n = bs_s (fun x => bs_s (fun y => bs_f w y x) x) n := by
  rw [bs_swap (fun x y => bs_f w x y) n n]
  apply bs_c
  intro x hx
  exact bs_tail n (by omega) (fun y hy => bs_f0 (fun h => by omega))
theorem bx_16 {n p c : Nat} {s d : Int32} {a : Nat → Int32} {M : Nat → Int64} {post : Int32 → Prop} {J4 : Int32 → Int32 → Prop} (hO : cw_O n a) (hp : p < n) (hJ : J4 (nI (c + bs_s (bs_f (cw_w a) p) n)) (nI (p + 1))) :
    ∀ fuel q, p < q → q ≤ n → n - q < fuel → wX_bridges_16 post J4 (nI p) (nI n) s d a M fuel (nI (c + bs_s (bs_f (cw_w a) p) q)) (nI q) := by
  have h6 := hO.2.1
  have hw := cw_W hO
  intro fuel
  induction fuel with
  | zero => intro q _ _ h; omega
  | succ f ih =>
    intro q hpq hq hf
    by_cases e : q = n
    · subst e
      exact br_t (nI_le (Nat.le_refl _) (by omega)) (nm_r (nI_1 p) hJ)
    · have hqn : q < n := by omega
      have k1 : (nI (6 * p + q)).toNatClampNeg = 6 * p + q := nI_clamp (by omega)
      have hi := ih (q + 1) (by omega) (by omega) (by omega)
      have hz := cw_zero hO (p := p) (q := q) (by omega) (by omega)
      have hnn := (hw.2.2.2.1 p q).1
      have h0 : bs_f (cw_w a) p q = 0 → wX_bridges_16 post J4 (nI p) (nI n) s d a M f (nI (c + bs_s (bs_f (cw_w a) p) q)) (nI (q + 1)) := by
        intro hb
        simp only [bs_s, hb] at hi
        exact hi
      have h1 : bs_f (cw_w a) p q = 1 → wX_bridges_16 post J4 (nI p) (nI n) s d a M f (nI (c + bs_s (bs_f (cw_w a) p) q + 1)) (nI (q + 1)) := by
        intro hb
        simp only [bs_s, hb] at hi
        exact hi
      refine br_f (nI_ge hqn (by omega)) ?_
      unfold wpX_isBridge
      dsimp only
      refine nm_r (gx_c p q) ?_
      rw [k1]
      refine ⟨vp_in_nI (by omega) (by omega), ?_⟩
      by_cases ez : a (6 * p + q) = 0
      · exact br_t ez (br_t rfl (nm_r (nI_1 q) (h0 (bs_f0 (fun h => by have := hz.mp ez; omega)))))
      · have hpos : 0 < cw_w a p q := by
          have : ¬ cw_w a p q = 0 := fun h => ez (hz.mpr h)
          omega
        refine br_f ez (gx_groupOf (lb_outW hw p q) hp (gx_H1 hO hpq hqn) (fun G hG hGq => ?_))
        have hb := mb_bit G hG q (by omega)
        by_cases hj : lj_J (lb_out (cw_w a) p q) p q
        · rw [if_pos ((hGq q).mpr hj)] at hb
          refine br_f (fun h => ?_) (br_t rfl (nm_r (nI_1 q) (h0 (bs_f0 (fun h => h.2.2 hj)))))
          rw [hb] at h; exact absurd h (by decide)
        · rw [if_neg (fun h => hj ((hGq q).mp h))] at hb
          exact br_t hb (br_f (by decide) (nm_r (nI_1 _) (nm_r (nI_1 q) (h1 (bs_f1 ⟨hpq, hpos, hj⟩)))))
theorem bx_4 {n : Nat} {s d : Int32} {a : Nat → Int32} {M : Nat → Int64} {post : Int32 → Prop} (hO : cw_O n a) (hJ : post (nI (bs_s (fun x => bs_s (bs_f (cw_w a) x) n) n))) :
    ∀ fuel p, p ≤ n → n - p < fuel → wX_bridges_4 post (nI n) s d a M fuel (nI (bs_s (fun x => bs_s (bs_f (cw_w a) x) n) p)) (nI p) := by
  have h6 := hO.2.1
  intro fuel
  induction fuel with
  | zero => intro p _ h; omega
  | succ f ih =>
    intro p hp hf
    by_cases e : p = n
    · subst e
      exact br_t (nI_le (Nat.le_refl _) (by omega)) hJ
    · have hpn : p < n := by omega
      refine br_f (nI_ge hpn (by omega)) (nm_r (nI_1 p) ⟨n + 1, ?_⟩)
      have h0 : bs_s (bs_f (cw_w a) p) (p + 1) = 0 := by
        have h1 := bs_c (f := bs_f (cw_w a) p) (g := fun _ => 0) (p + 1) (fun x hx => bs_f0 (fun h => by omega))
        rw [h1, bs_0]
      have h := bx_16 (c := bs_s (fun x => bs_s (bs_f (cw_w a) x) n) p) (s := s) (d := d) (M := M) (post := post) (J4 := wX_bridges_4 post (nI n) s d a M f) hO hpn (ih (p + 1) (by omega) (by omega)) (n + 1) (p + 1) (by omega) (by omega) (by omega)
      rw [h0, Nat.add_zero] at h
      exact h
theorem by_26 {n p c sn dn : Nat} {a : Nat → Int32} {post : Int32 → SY → Prop} {J9 : Int32 → Int32 → Int32 → Int32 → Int32 → Int32 → (Nat → Int32) → (Nat → Int32) → (Nat → Int32) → (Nat → Int32) → Prop} (hO : cw_O n a) (hp : p < n) (hc : c ≤ 36)
    (hJ : ∀ z l t m, J9 (nI (c + bs_s (fun y => bs_f (cw_w a) y p) p)) (nI (p + 1)) (nI n) (nI sn) (nI dn) z a l t m) :
    ∀ fuel q z l t m, q ≤ p → p - q < fuel → wY_bridges_26 post J9 (nI (lc_L n (lk_l (cw_w a))).length) (nI p) fuel (nI (c + bs_s (fun y => bs_f (cw_w a) y p) q)) (nI q) (nI n) (nI sn) (nI dn) z a l t m := by
  have h6 := hO.2.1
  have hw := cw_W hO
  intro fuel
  induction fuel with
  | zero => intro q z l t m _ h; omega
  | succ f ih =>
    intro q z l t m hq hf
    by_cases e : q = p
    · have hle : nI p ≤ nI q := by rw [e]; exact nI_le (Nat.le_refl _) (by omega)
      refine br_t hle (nm_r (nI_1 p) ?_)
      rw [e]
      exact hJ z l t m
    · have hqp : q < p := by omega
      have hqn : q < n := by omega
      have hne : ¬ p = q := by omega
      have k1 : (nI (6 * p + q)).toNatClampNeg = 6 * p + q := nI_clamp (by omega)
      have hO' : cw_O n (cw_put a p q 0) := cw_putO (v := 0) hO hp hqn hne (by omega)
      have hput : cw_w (cw_put a p q 0) = lb_out (cw_w a) p q := cw_putw hO hp hqn
      have hback := cw_back hO hp hqn 0
      have hpos := cw_pos hO (p := p) (q := q) (by omega) (by omega)
      have hi : ∀ z l t m, wY_bridges_26 post J9 (nI (lc_L n (lk_l (cw_w a))).length) (nI p) f (nI (c + bs_s (fun y => bs_f (cw_w a) y p) (q + 1))) (nI (q + 1)) (nI n) (nI sn) (nI dn) z a l t m := fun z l t m => ih (q + 1) z l t m (by omega) (by omega)
      have h0 : bs_f (cw_w a) q p = 0 → ∀ z l t m, wY_bridges_26 post J9 (nI (lc_L n (lk_l (cw_w a))).length) (nI p) f (nI (c + bs_s (fun y => bs_f (cw_w a) y p) q)) (nI (q + 1)) (nI n) (nI sn) (nI dn) z a l t m := by
        intro hb z l t m
        have := hi z l t m
        simp only [bs_s, hb] at this
        exact this
      have h1 : bs_f (cw_w a) q p = 1 → ∀ z l t m, wY_bridges_26 post J9 (nI (lc_L n (lk_l (cw_w a))).length) (nI p) f (nI (c + bs_s (fun y => bs_f (cw_w a) y p) q + 1)) (nI (q + 1)) (nI n) (nI sn) (nI dn) z a l t m := by
        intro hb z l t m
        have := hi z l t m
        simp only [bs_s, hb] at this
        exact this
      have hsw : cw_w a q p = cw_w a p q := hw.2.1 q p
      refine br_f (nI_ge hqp (by omega)) ?_
      rw [gy_c p q, k1]
      refine ⟨vp_in_nI (by omega) (by omega), nm_e (rl_setY h6 hp hqn ?_)⟩
      by_cases ez : a (6 * p + q) ≤ 0
      · refine br_t ez ?_
        refine rl_setY h6 hp hqn ?_
        rw [hback]
        refine nm_r (nI_1 q) (h0 (bs_f0 (fun h => ?_)) z l t m)
        have h2 := h.2.1
        rw [hsw, ← hpos] at h2
        exact absurd ez (Int32.not_le.mpr h2)
      · have hwpos : 0 < cw_w a p q := hpos.mp (Int32.not_le.mp ez)
        have hbr := lk_br hw hp hqn hwpos
        have hl1 := lc_len (n := n) (lk_l (cw_w a))
        have hl2 := lc_len (n := n) (lk_l (lb_out (cw_w a) p q))
        refine br_f ez (ly_groups hO' (fun l' _ => ?_))
        rw [hput]
        by_cases hj : lj_J (lb_out (cw_w a) p q) p q
        · have hle : (lc_L n (lk_l (lb_out (cw_w a) p q))).length ≤ (lc_L n (lk_l (cw_w a))).length := by
            apply Nat.le_of_not_lt
            intro h
            exact hbr.mp h hj
          refine br_t (nI_le hle (by omega)) ?_
          refine rl_setY h6 hp hqn ?_
          rw [hback]
          refine nm_r (nI_1 q) (h0 (bs_f0 (fun h => ?_)) z l' t m)
          apply h.2.2
          rw [bs_out]
          exact lj_s (lb_outW hw p q) hj
        · refine br_f (nI_ge (hbr.mpr hj) (by omega)) (nm_r (nI_1 _) ?_)
          refine rl_setY h6 hp hqn ?_
          rw [hback]
          refine nm_r (nI_1 q) (h1 (bs_f1 ⟨hqp, by rw [hsw]; exact hwpos, fun h => hj ?_⟩) z l' t m)
          rw [bs_out] at h
          exact lj_s (lb_outW hw p q) h
theorem by_9 {n sn dn : Nat} {a : Nat → Int32} {post : Int32 → SY → Prop} (hO : cw_O n a)
    (hJ : ∀ z l t m, post (nI (bs_s (fun x => bs_s (fun y => bs_f (cw_w a) y x) x) n)) (nI n, nI sn, nI dn, z, a, l, t, m)) :
    ∀ fuel p z l t m, p ≤ n → n - p < fuel → wY_bridges_9 post (nI (lc_L n (lk_l (cw_w a))).length) fuel (nI (bs_s (fun x => bs_s (fun y => bs_f (cw_w a) y x) x) p)) (nI p) (nI n) (nI sn) (nI dn) z a l t m := by
  have h6 := hO.2.1
  intro fuel
  induction fuel with
  | zero => intro p z l t m _ h; omega
  | succ f ih =>
    intro p z l t m hp hf
    by_cases e : p = n
    · subst e
      exact br_t (nI_le (Nat.le_refl _) (by omega)) (hJ z l t m)
    · have hpn : p < n := by omega
      refine br_f (nI_ge hpn (by omega)) (br_f (nI_ge (b := 6) (by omega) (by decide)) ⟨p + 1, ?_⟩)
      have hc : bs_s (fun x => bs_s (fun y => bs_f (cw_w a) y x) x) p ≤ 36 := by
        have h1 : bs_s (fun x => bs_s (fun y => bs_f (cw_w a) y x) x) p ≤ p * 6 := by
          have h2 := bs_c (f := fun x => bs_s (fun y => bs_f (cw_w a) y x) x) (g := fun x => if x < 6 then bs_s (fun y => bs_f (cw_w a) y x) x else 0) p (fun x hx => by
            rw [if_pos (by omega)])
          rw [h2]
          refine bs_le p (fun x => ?_)
          split
          · have h3 := bs_le (f := fun y => bs_f (cw_w a) y x) (b := 1) x (fun y => bs_fle _ _ _)
            omega
          · omega
        omega
      exact by_26 hO hpn hc (fun z' l' t' m' => ih (p + 1) z' l' t' m' (by omega) (by omega)) (p + 1) 0 z l t m (by omega) (by omega)
theorem i_vc_bridges {k : Nat} {u : SX} {v : SY} (I : i_Rel k u v) (hk : k + 4 ≤ 2049) : wpX_bridges (fun r => wpY_bridges (fun r' v' => r' = r ∧ i_Rel (k + 4) u v') v) u := by
  obtain ⟨n, sn, dn, a, M, z, l, t, m, rfl, rfl, hO, hs, hd, hsd⟩ := I
  refine ⟨n + 1, bx_4 hO ?_ (n + 1) 0 (by omega) (by omega)⟩
  unfold wpY_bridges
  dsimp only
  refine ly_groups hO (fun l' _ => ⟨n + 1, ?_⟩)
  exact by_9 hO (fun z' l' t' m' => ⟨by rw [bs_eq], rl_mk hO hs hd hsd⟩) (n + 1) 0 z l' t m (by omega) (by omega)
