theorem gy_bad0 {n p : Nat} {s d z : Int32} {a l t m : Nat → Int32} {post : Int32 → Prop} (hn : n ≤ 6) (hp : p < n) (h : post 0) : wpY_bad post (nI n, s, d, z, a, l, t, m) (nI p) :=
  br_f (nI_pos (by omega)) (br_f (nI_ge hp (by omega)) (br_t (nI_le (b := 5) (by omega) (by decide)) h))
theorem gy_bad1 {n : Nat} {x s d z : Int32} {a l t m : Nat → Int32} {post : Int32 → Prop} (hx : x < 0 ∨ nI n ≤ x) (h : post 1) : wpY_bad post (nI n, s, d, z, a, l, t, m) x := by
  by_cases h0 : x < 0
  · exact br_t h0 h
  · exact br_f h0 (br_t (hx.resolve_left h0) h)
def ly_b (b : Bool) : Int32 := if b = true then 1 else 0
theorem ly_b0 {b : Bool} : ly_b b = 0 ↔ b = false := by cases b <;> decide
def ly_L (n : Nat) (l : Nat → Int32) (k : Nat → Nat) : Prop := ∀ p, p < n → l p = nI (k p) ∧ k p < 6
theorem ly_20 {n p : Nat} {s d z : Int32} {a t m : Nat → Int32} {post : Int32 → SY → Prop} {J4 : Int32 → Int32 → (Nat → Int32) → (Nat → Int32) → (Nat → Int32) → (Nat → Int32) → Prop} {k0 : Nat → Nat}
    (hO : cw_O n a) (hp : p < n) (hJ : ∀ any l k, ly_L n l k → lo_I n (cw_w a) k0 p n any k → J4 (ly_b any) (nI (p + 1)) a l t m) :
    ∀ fuel q any l k, q ≤ n → n - q < fuel → ly_L n l k → lo_I n (cw_w a) k0 p q any k → wY_lower_20 post J4 (nI p) (nI n) s d z fuel (ly_b any) (nI q) a l t m := by
  have h6 := hO.2.1
  intro fuel
  induction fuel with
  | zero => intro q any l k _ h; omega
  | succ f ih =>
    intro q any l k hq hf hL hI
    by_cases e : q = n
    · subst e
      exact br_t (nI_le (Nat.le_refl _) (by omega)) (nm_r (nI_1 p) (hJ any l k hL hI))
    · have hqn : q < n := by omega
      have hpos := cw_pos hO (p := p) (q := q) (by omega) (by omega)
      have k1 : (nI (6 * p + q)).toNatClampNeg = 6 * p + q := nI_clamp (by omega)
      have k2 : (nI p).toNatClampNeg = p := nI_clamp (by omega)
      have k3 : (nI q).toNatClampNeg = q := nI_clamp (by omega)
      refine br_f (nI_ge hqn (by omega)) (br_f (nI_ge (b := 6) (by omega) (by decide)) ?_)
      rw [gy_c p q, k1]
      refine ⟨vp_in_nI (by omega) (by omega), ?_⟩
      by_cases ez : a (6 * p + q) ≤ 0
      · refine br_t ez (nm_r (nI_1 q) (ih (q + 1) any l k (by omega) (by omega) hL (lo_keep hqn hI (fun h => ?_))))
        exact absurd ez (Int32.not_le.mpr (hpos.mpr h))
      · have hw : 0 < cw_w a p q := hpos.mp (Int32.not_le.mp ez)
        refine br_f ez ⟨vp_in_nI (by omega) (by omega), vp_in_nI (by omega) (by omega), ?_⟩
        rw [k2, k3, (hL p hp).1, (hL q hqn).1]
        have hkp := (hL p hp).2
        have hkq := (hL q hqn).2
        by_cases el : k p ≤ k q
        · exact br_t (nI_le el (by omega)) (nm_r (nI_1 q) (ih (q + 1) any l k (by omega) (by omega) hL (lo_keep hqn hI (fun _ => el))))
        · refine br_f (nI_ge (by omega) (by omega)) ⟨vp_in_nI (by omega) (by omega), vp_in_nI (by omega) (by omega), nm_e (nm_r (nI_1 q) ?_)⟩
          refine ih (q + 1) true (upd l p (nI (k q))) (fun x => if x = p then k q else k x) (by omega) (by omega) (fun x hx => ?_) (lo_set hp hqn hI hw (by omega))
          by_cases ex : x = p
          · subst ex
            rw [pk_us]
            simp only [if_true]
            exact ⟨trivial, hkq⟩
          · rw [pk_un ex]
            simp only [ex, if_false]
            exact hL x hx
theorem ly_4 {n : Nat} {s d z : Int32} {a t m : Nat → Int32} {post : Int32 → SY → Prop} {k0 : Nat → Nat}
    (hO : cw_O n a) (hJ : ∀ any l k, ly_L n l k → lo_I n (cw_w a) k0 n 0 any k → post (ly_b any) (nI n, s, d, z, a, l, t, m)) :
    ∀ fuel p any l k, p ≤ n → n - p < fuel → ly_L n l k → lo_I n (cw_w a) k0 p 0 any k → wY_lower_4 post (nI n) s d z fuel (ly_b any) (nI p) a l t m := by
  have h6 := hO.2.1
  intro fuel
  induction fuel with
  | zero => intro p any l k _ h; omega
  | succ f ih =>
    intro p any l k hp hf hL hI
    by_cases e : p = n
    · subst e
      exact br_t (nI_le (Nat.le_refl _) (by omega)) ⟨by cases any <;> rfl, hJ any l k hL hI⟩
    · have hpn : p < n := by omega
      refine br_f (nI_ge hpn (by omega)) (br_f (nI_ge (b := 6) (by omega) (by decide)) ⟨n + 1, ?_⟩)
      exact ly_20 hO hpn (fun any' l' k' hL' hI' => ih (p + 1) any' l' k' (by omega) (by omega) hL' (lo_row hI')) (n + 1) 0 any l k (by omega) (by omega) hL hI
theorem ly_lower {n : Nat} {s d z : Int32} {a l t m : Nat → Int32} {post : Int32 → SY → Prop} {k : Nat → Nat}
    (hO : cw_O n a) (hL : ly_L n l k) (hI : ll_I n (cw_w a) k) (hJ : ∀ any l' k', ly_L n l' k' → lo_I n (cw_w a) k n 0 any k' → post (ly_b any) (nI n, s, d, z, a, l', t, m)) : wpY_lower post (nI n, s, d, z, a, l, t, m) :=
  ⟨n + 1, ly_4 hO hJ (n + 1) 0 false l k (by omega) (by omega) hL (lo_0 hI)⟩
/-- the labels are those of the groups -/
def ly_F (n : Nat) (w : Nat → Nat → Int) (l : Nat → Int32) : Prop := ∃ k, ly_L n l k ∧ ll_F n w k
theorem ly_25 {n : Nat} {s d z : Int32} {a t m : Nat → Int32} {post : SY → Prop}
    (hO : cw_O n a) (hJ : ∀ l, ly_F n (cw_w a) l → post (nI n, s, d, z, a, l, t, m)) :
    ∀ fuel r any l k, r ≤ 6 → 6 - r < fuel → ly_L n l k → ll_A n (cw_w a) r k → (any = false → ll_F n (cw_w a) k) → wY_group_25 post fuel (ly_b any) (nI r) (nI n) s d z a l t m := by
  have h6 := hO.2.1
  have hw := cw_W hO
  intro fuel
  induction fuel with
  | zero => intro r any l k _ h; omega
  | succ f ih =>
    intro r any l k hr hf hL hA hany
    by_cases e : r = 6
    · subst e
      exact br_t (nI_le (a := 6) (Nat.le_refl _) (by decide)) (hJ l ⟨k, hL, lo_six hw hA⟩)
    · refine br_f (nI_ge (b := 6) (by omega) (by decide)) ?_
      by_cases ha : any = false
      · exact br_t (ly_b0.mpr ha) (hJ l ⟨k, hL, hany ha⟩)
      · refine br_f (fun h => ha (ly_b0.mp h)) ?_
        refine ly_lower hO hL hA.1 (fun any' l' k' hL' hI' => ?_)
        refine nm_r (nI_1 r) (ih (r + 1) any' l' k' (by omega) (by omega) hL' (lo_end hw hA hI') (fun h => ?_))
        subst h
        exact lo_stop hw hI'
theorem ly_2 {n : Nat} {s d z : Int32} {a t m : Nat → Int32} {post : SY → Prop}
    (hO : cw_O n a) (hJ : ∀ l, ly_F n (cw_w a) l → post (nI n, s, d, z, a, l, t, m)) :
    ∀ fuel i l, i ≤ 6 → 6 - i < fuel → (∀ x, x < i → l x = nI x) → wY_group_2 post (nI n) s d z fuel (nI i) a l t m := by
  have h6 := hO.2.1
  intro fuel
  induction fuel with
  | zero => intro i l _ h; omega
  | succ f ih =>
    intro i l hi hf hl
    by_cases e : i = 6
    · subst e
      refine br_t (nI_le (a := 6) (Nat.le_refl _) (by decide)) ⟨7, ?_⟩
      exact ly_25 hO hJ 7 0 true l (fun p => p) (by omega) (by omega) (fun p hp => ⟨hl p (by omega), Nat.lt_of_lt_of_le hp h6⟩) (ll_0 (by have := hO.1; omega)) (fun h => by simp at h)
    · have k1 : (nI i).toNatClampNeg = i := nI_clamp (by omega)
      refine br_f (nI_ge (b := 6) (by omega) (by decide)) ⟨vp_in_nI (by omega) (by omega), ?_⟩
      rw [k1]
      refine nm_e (nm_r (nI_1 i) (ih (i + 1) _ (by omega) (by omega) (fun x hx => ?_)))
      by_cases ex : x = i
      · subst ex; rw [pk_us]
      · rw [pk_un ex]; exact hl x (by omega)
theorem ly_group {n : Nat} {s d z : Int32} {a l t m : Nat → Int32} {post : SY → Prop}
    (hO : cw_O n a) (hJ : ∀ l, ly_F n (cw_w a) l → post (nI n, s, d, z, a, l, t, m)) : wpY_group post (nI n, s, d, z, a, l, t, m) :=
  ⟨7, ly_2 hO hJ 7 0 l (by omega) (by omega) (fun x h => by omega)⟩
theorem ly_eq {n : Nat} {a l : Nat → Int32} (hO : cw_O n a) (h : ly_F n (cw_w a) l) {p q : Nat} (hp : p < n) (hq : q < n) : l p = l q ↔ lj_J (cw_w a) p q := by
  obtain ⟨k, hL, hF⟩ := h
  have h1 := hL p hp
  have h2 := hL q hq
  rw [h1.1, h2.1, nI_eq (by omega) (by omega)]
  exact ll_eq (cw_W hO) hF hp hq
theorem ly_self {n : Nat} {a l : Nat → Int32} (hO : cw_O n a) (h : ly_F n (cw_w a) l) {p : Nat} (hp : p < n) : l p = nI p ↔ lk_l (cw_w a) p = true := by
  have h6 := hO.2.1
  obtain ⟨k, hL, hF⟩ := h
  have h1 := hL p hp
  rw [h1.1, nI_eq (by omega) (by omega)]
  exact ll_self hF hp
theorem ly_8 {n : Nat} {s d z : Int32} {a l t m : Nat → Int32} {post : Int32 → SY → Prop}
    (hO : cw_O n a) (hF : ly_F n (cw_w a) l) (hJ : post (nI (lc_L n (lk_l (cw_w a))).length) (nI n, s, d, z, a, l, t, m)) :
    ∀ fuel p, p ≤ n → n - p < fuel → wY_groups_8 post (nI n) s d z a l t m fuel (nI (lc_L p (lk_l (cw_w a))).length) (nI p) := by
  have h6 := hO.2.1
  intro fuel
  induction fuel with
  | zero => intro p _ h; omega
  | succ f ih =>
    intro p hp hf
    by_cases e : p = n
    · subst e
      exact br_t (nI_le (Nat.le_refl _) (by omega)) hJ
    · have hpn : p < n := by omega
      have k1 : (nI p).toNatClampNeg = p := nI_clamp (by omega)
      have hs := lk_sl p (lk_l (cw_w a))
      refine br_f (nI_ge hpn (by omega)) (br_f (nI_ge (b := 6) (by omega) (by decide)) ⟨vp_in_nI (by omega) (by omega), ?_⟩)
      rw [k1]
      have hi := ih (p + 1) (by omega) (by omega)
      by_cases el : l p = nI p
      · rw [if_pos ((ly_self hO hF hpn).mp el)] at hs
        rw [hs] at hi
        exact br_t el (nm_r (nI_1 _) (nm_r (nI_1 p) hi))
      · rw [if_neg (fun h => el ((ly_self hO hF hpn).mpr h)), Nat.add_zero] at hs
        rw [hs] at hi
        exact br_f el (nm_r (nI_1 p) hi)
theorem ly_groups {n : Nat} {s d z : Int32} {a l t m : Nat → Int32} {post : Int32 → SY → Prop}
    (hO : cw_O n a) (hJ : ∀ l, ly_F n (cw_w a) l → post (nI (lc_L n (lk_l (cw_w a))).length) (nI n, s, d, z, a, l, t, m)) : wpY_groups post (nI n, s, d, z, a, l, t, m) := by
  unfold wpY_groups
  dsimp only
  exact ly_group hO (fun l' hF => ⟨n + 1, ly_8 hO hF (hJ l' hF) (n + 1) 0 (by omega) (by omega)⟩)
