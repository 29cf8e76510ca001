theorem gx_c (x y : Nat) : nI x * 6 + nI y = nI (6 * x + y) := by
  rw [show (6 : Int32) = nI 6 from rfl, pk_mul, nI_add, Nat.mul_comm]
theorem gy_c (x y : Nat) : 6 * nI x + nI y = nI (6 * x + y) := by
  rw [show (6 : Int32) = nI 6 from rfl, pk_mul, nI_add]
theorem gx_good1 {n p : Nat} {s d : Int32} {a : Nat → Int32} {M : Nat → Int64} {post : Int32 → Prop} (hn : n ≤ 6) (hp : p < n) (h : post 1) : wpX_isGood post (nI n, s, d, a, M) (nI p) :=
  br_f (nI_pos (by omega)) (br_f (nI_ge hp (by omega)) h)
theorem gx_good0 {n : Nat} {x s d : Int32} {a : Nat → Int32} {M : Nat → Int64} {post : Int32 → Prop} (hx : x < 0 ∨ nI n ≤ x) (h : post 0) : wpX_isGood post (nI n, s, d, a, M) x := by
  by_cases h0 : x < 0
  · exact br_t h0 h
  · exact br_f h0 (br_t (hx.resolve_left h0) h)
/-- which cells count -/
def gx_H (n : Nat) (a : Nat → Int32) (lo : Int32) (w : Nat → Nat → Int) : Prop := ∀ x y, x < y → y < n → (0 < w x y ↔ (¬ nI (6 * x + y) = lo ∧ ¬ a (6 * x + y) ≤ 0))
theorem gx_34 {n p low : Nat} {w : Nat → Nat → Int} {s d lo x4 : Int32} {a : Nat → Int32} {M : Nat → Int64} {post : Int32 → Prop} {J7 J19 : Int32 → Int32 → Prop} {G0 : Nat → Bool}
    (hw : la_W n w) (hH : gx_H n a lo w) (hJ : ∀ G, G < 64 → gr_I n w p G0 low n G.testBit → J19 (nI G) (nI (low + 1))) :
    ∀ fuel b G, low < b → b ≤ n → n - b < fuel → G < 64 → gr_I n w p G0 low b G.testBit → wX_groupOf_34 post J7 J19 lo x4 (nI low) (nI n) s d a M fuel (nI G) (nI b) := by
  have h6 := hw.1
  intro fuel
  induction fuel with
  | zero => intro b G _ _ h; omega
  | succ f ih =>
    intro b G hlb hb hf hG hI
    by_cases e : b = n
    · subst e
      exact br_t (nI_le (Nat.le_refl _) (by omega)) (nm_r (nI_1 low) (hJ G hG hI))
    · have hbn : b < n := by omega
      have hboth : ((1 : Int32) <<< (nI low &&& 31)) ||| ((1 : Int32) <<< (nI b &&& 31)) = nI (2 ^ low ||| 2 ^ b) := by
        rw [mb_1 low (by omega), mb_1 b (by omega), mb_or]
      have hcl : (nI (6 * low + b)).toNatClampNeg = 6 * low + b := nI_clamp (by omega)
      refine br_f (nI_ge hbn (by omega)) (nm_r (gx_c low b) (nm_r hboth ?_))
      by_cases el : nI (6 * low + b) = lo
      · refine br_t el (nm_r (nI_1 b) (ih (b + 1) G (by omega) (by omega) (by omega) hG (gr_keep hI (fun h => ?_))))
        exact absurd el ((hH low b hlb hbn).mp h).1
      · refine br_f el ⟨vp_in_nI (by omega) (by omega), ?_⟩
        rw [hcl]
        by_cases ez : a (6 * low + b) ≤ 0
        · refine br_t ez (nm_r (nI_1 b) (ih (b + 1) G (by omega) (by omega) (by omega) hG (gr_keep hI (fun h => ?_))))
          exact absurd ez ((hH low b hlb hbn).mp h).2
        · have hpos : 0 < w low b := (hH low b hlb hbn).mpr ⟨el, ez⟩
          refine br_f ez ?_
          by_cases eg : nI G &&& nI (2 ^ low ||| 2 ^ b) = 0
          · exact br_t eg (nm_r (nI_1 b) (ih (b + 1) G (by omega) (by omega) (by omega) hG (gr_keep hI (fun _ => (mb_both G hG low (by omega) b (by omega)).mp eg))))
          · refine br_f eg (nm_r (mb_or G _) (nm_r (nI_1 b) (ih (b + 1) _ (by omega) (by omega) (by omega) (mb_orlt G hG low (by omega) b (by omega)) (gr_set hw hI hpos ?_ ?_))))
            · apply Classical.byContradiction
              intro hne
              apply eg
              rw [mb_both G hG low (by omega) b (by omega)]
              constructor
              · cases h1 : G.testBit low
                · rfl
                · exact absurd (Or.inl h1) hne
              · cases h1 : G.testBit b
                · rfl
                · exact absurd (Or.inr h1) hne
            · intro q
              rw [Nat.testBit_or, Nat.testBit_or, Bool.or_eq_true, Bool.or_eq_true, mb_two, mb_two]
theorem gx_19 {n p : Nat} {w : Nat → Nat → Int} {s d lo x4 : Int32} {a : Nat → Int32} {M : Nat → Int64} {post : Int32 → Prop} {J7 : Int32 → Int32 → Prop} {G0 : Nat → Bool}
    (hw : la_W n w) (hH : gx_H n a lo w) (hJ : ∀ G, G < 64 → gr_I n w p G0 n (n + 1) G.testBit → J7 (nI G) (x4 + 1)) :
    ∀ fuel low G, low ≤ n → n - low < fuel → G < 64 → gr_I n w p G0 low (low + 1) G.testBit → wX_groupOf_19 post J7 lo x4 (nI n) s d a M fuel (nI G) (nI low) := by
  have h6 := hw.1
  intro fuel
  induction fuel with
  | zero => intro low G _ h; omega
  | succ f ih =>
    intro low G hb hf hG hI
    by_cases e : low = n
    · subst e
      exact br_t (nI_le (Nat.le_refl _) (by omega)) (nm_e (hJ G hG hI))
    · have hbn : low < n := by omega
      refine br_f (nI_ge hbn (by omega)) (nm_r (nI_1 low) ⟨n + 1, ?_⟩)
      refine gx_34 hw hH (G0 := G0) (fun G' hG' hI' => ?_) (n + 1) (low + 1) G (by omega) (by omega) (by omega) hG hI
      exact ih (low + 1) G' (by omega) (by omega) hG' (gr_row hI')
theorem gx_7 {n p : Nat} {w : Nat → Nat → Int} {s d lo : Int32} {a : Nat → Int32} {M : Nat → Int64} {post : Int32 → Prop}
    (hw : la_W n w) (hH : gx_H n a lo w) (hJ : ∀ G, G < 64 → (∀ q, G.testBit q = true ↔ lj_J w p q) → post (nI G)) :
    ∀ fuel r G, r ≤ n → n - r < fuel → G < 64 → lx_A n w p r G.testBit → wX_groupOf_7 post lo (nI n) s d a M fuel (nI G) (nI r) := by
  have h6 := hw.1
  intro fuel
  induction fuel with
  | zero => intro r G _ h; omega
  | succ f ih =>
    intro r G hb hf hG hI
    by_cases e : r = n
    · subst e
      exact br_t (nI_le (Nat.le_refl _) (by omega)) (hJ G hG (lx_end hI))
    · have hbn : r < n := by omega
      refine br_f (nI_ge hbn (by omega)) ⟨n + 1, ?_⟩
      refine gx_19 hw hH (G0 := G.testBit) (p := p) (fun G' hG' hI' => ?_) (n + 1) 0 G (by omega) (by omega) hG (gr_0 hI.2.1)
      rw [nI_1]
      exact ih (r + 1) G' (by omega) (by omega) hG' (gr_end hw hI hI')
theorem gx_tb (p : Nat) : (2 ^ p).testBit = fun z => z == p := by
  funext z
  rw [Nat.testBit_two_pow]
  by_cases h : p = z
  · subst h; simp
  · have h' : ¬ z = p := fun e => h e.symm
    simp [h, h']
theorem gx_pw : ∀ p, p < 6 → 2 ^ p < 64 := by decide
theorem gx_groupOf {n p : Nat} {w : Nat → Nat → Int} {s d lo : Int32} {a : Nat → Int32} {M : Nat → Int64} {post : Int32 → Prop}
    (hw : la_W n w) (hp : p < n) (hH : gx_H n a lo w) (hJ : ∀ G, G < 64 → (∀ q, G.testBit q = true ↔ lj_J w p q) → post (nI G)) : wpX_groupOf post (nI n, s, d, a, M) (nI p) lo := by
  have h6 := hw.1
  refine nm_r (mb_1 p (by omega)) ⟨n + 1, ?_⟩
  refine gx_7 hw hH hJ (n + 1) 0 (2 ^ p) (by omega) (by omega) (gx_pw p (by omega)) ?_
  rw [gx_tb]
  exact lx_0 hp
theorem gx_m1 {k : Nat} (h : k < 36) : ¬ nI k = -1 := by
  intro e
  have h1 := congrArg Int32.toInt e
  rw [nI_toInt (by omega)] at h1
  have h2 : (-1 : Int32).toInt = -1 := by decide
  rw [h2] at h1
  omega
theorem gx_H0 {n : Nat} {a : Nat → Int32} (hO : cw_O n a) : gx_H n a (-1) (cw_w a) := by
  have h6 := hO.2.1
  intro x y hxy hy
  have hp := cw_pos hO (p := x) (q := y) (by omega) (by omega)
  rw [← hp]
  constructor
  · intro h
    exact ⟨gx_m1 (by omega), Int32.not_le.mpr h⟩
  · intro h
    exact Int32.not_le.mp h.2
theorem gx_H1 {n : Nat} {a : Nat → Int32} (hO : cw_O n a) {p q : Nat} (hpq : p < q) (hq : q < n) : gx_H n a (nI (6 * p + q)) (lb_out (cw_w a) p q) := by
  have h6 := hO.2.1
  intro x y hxy hy
  have hp := cw_pos hO (p := x) (q := y) (by omega) (by omega)
  by_cases e : x = p ∧ y = q
  · obtain ⟨e1, e2⟩ := e
    subst e1; subst e2
    simp [lb_out]
  · have e2 : ¬ ((x = p ∧ y = q) ∨ (x = q ∧ y = p)) := by omega
    simp only [lb_out, e2, if_false]
    rw [← hp]
    constructor
    · intro h
      refine ⟨fun e3 => ?_, Int32.not_le.mpr h⟩
      rw [nI_eq (by omega) (by omega)] at e3
      omega
    · intro h
      exact Int32.not_le.mp h.2
/-- the group of a point -/
theorem gx_group {n p : Nat} {s d : Int32} {a : Nat → Int32} {M : Nat → Int64} {post : Int32 → Prop} (hO : cw_O n a) (hp : p < n)
    (hJ : ∀ G, G < 64 → (∀ q, G.testBit q = true ↔ lj_J (cw_w a) p q) → post (nI G)) : wpX_groupOf post (nI n, s, d, a, M) (nI p) (-1) :=
  gx_groupOf (cw_W hO) hp (gx_H0 hO) hJ
theorem gx_areJoined {n p q : Nat} {s d : Int32} {a : Nat → Int32} {M : Nat → Int64} {post : Int32 → Prop} (hO : cw_O n a) (hp : p < n) (hq : q < n)
    (h1 : lj_J (cw_w a) p q → post 1) (h0 : ¬ lj_J (cw_w a) p q → post 0) : wpX_areJoined post (nI n, s, d, a, M) (nI p) (nI q) := by
  have h6 := hO.2.1
  refine gx_group hO hp (fun G hG hGq => ?_)
  have hb := mb_bit G hG q (by omega)
  by_cases hj : lj_J (cw_w a) p q
  · have : G.testBit q = true := (hGq q).mpr hj
    rw [if_pos this] at hb
    exact br_t hb (h1 hj)
  · have : ¬ G.testBit q = true := fun h => hj ((hGq q).mp h)
    rw [if_neg this] at hb
    refine br_f (fun h => ?_) (h0 hj)
    rw [hb] at h
    exact absurd h (by decide)
