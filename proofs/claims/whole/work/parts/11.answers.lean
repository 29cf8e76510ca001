theorem an_bf {n : Nat} {w : Nat → Nat → Int} (hw : la_W n w) {s p : Nat} (h : lj_J w s p) : lj_b w p = lj_b w s := by
  funext z
  have : lj_b w p z = true ↔ lj_b w s z = true := by
    rw [lj_bt, lj_bt]
    exact ⟨fun k => lj_t h k, fun k => lj_t (lj_s hw h) k⟩
  revert this
  cases lj_b w p z <;> cases lj_b w s z <;> simp
noncomputable def an_M (w : Nat → Nat → Int) (n p q : Nat) : Int := if p = q then 0 else nd_D (la_m w) (lc_L n (lc_xx (lj_b w p) p q))
noncomputable def an_sh (w : Nat → Nat → Int) (n s d p : Nat) : Int := if p = d then 0 else if p = s then an_M w n s d else nd_D (lc_c w p s) (lc_L n (lc_xx (lj_b w s) s d))
theorem an_v {n : Nat} {w : Nat → Nat → Int} (hw : la_W n w) {s d p : Nat} (hs : s < n) (hsd : ¬ s = d) (hd : lj_J w s d) (hp : lj_J w s p) :
    an_M w n s d + an_M w n p d - an_M w n s p = 2 * an_sh w n s d p := by
  by_cases e1 : p = d
  · subst e1
    simp only [an_sh, if_true, an_M]
    omega
  · by_cases e2 : p = s
    · subst e2
      simp only [an_sh, e1, if_false, if_true]
      have : an_M w n p p = 0 := by simp [an_M]
      omega
    · have e2' : ¬ s = p := fun h => e2 h.symm
      have h := lc_V hw (lj_C s) (fun z hz => lj_n hw hs (lj_bt.mp hz)) (lj_bt.mpr (lj_r w s)) (lj_bt.mpr hd) (lj_bt.mpr hp) hsd e2' (fun h => e1 h.symm)
      simp only [an_sh, an_M, e1, e2, e2', hsd, if_false]
      rw [an_bf hw hp]
      omega
noncomputable def an_T (w : Nat → Nat → Int) (n p : Nat) : Int := nd_D (la_m w) (lc_L n (lc_x (lj_b w p) p))
theorem an_t {n : Nat} {w : Nat → Nat → Int} (hw : la_W n w) {p l : Nat} (hp : p < n) (h : lj_J w p l) : nd_D (la_m w) (lc_L n (lc_x (lj_b w p) l)) = an_T w n p :=
  lk_T hw hp h (lj_r w p)
theorem an_tpos {n : Nat} {w : Nat → Nat → Int} (hw : la_W n w) {p : Nat} (hp : p < n) : 0 < an_T w n p := lk_pos hw hp (lj_r w p)
theorem an_xx (A : Nat → Bool) (n x : Nat) : lc_L n (lc_xx A x x) = lc_L n (lc_x A x) := lc_cg (fun z _ => by
  rw [lc_xxt, lc_xt]; exact ⟨fun h => ⟨h.1, h.2.1⟩, fun h => ⟨h.1, h.2, h.2⟩⟩)
theorem an_len2 {n : Nat} {A : Nat → Bool} {x y : Nat} (hx : x < n) (hy : y < n) (hxy : ¬ x = y) : (lc_L n (lc_xx A x y)).length + 2 ≤ n := by
  have e : lc_L n (lc_xx A x y) = lc_L n (lc_x (lc_x (fun z => A z || z == y) x) y) := lc_cg (fun z _ => by
    rw [lc_xxt, lc_xt, lc_xt]
    simp only [Bool.or_eq_true, beq_iff_eq]
    exact ⟨fun h => ⟨⟨Or.inl h.1, h.2.1⟩, h.2.2⟩, fun h => ⟨h.1.1.resolve_right h.2, h.1.2, h.2⟩⟩)
  have h1 := (lc_pm (n := n) (P := lc_x (fun z => A z || z == y) x) hy (lc_xt.mpr ⟨by simp, fun h => hxy h.symm⟩)).length_eq
  have h2 := lc_len1 (n := n) (P := fun z => A z || z == y) hx
  rw [e]
  simp at h1
  omega
theorem an_bd4 : ∀ k, k ≤ 4 → nd_bd k ≤ 98415000 := by
  intro k hk
  match k, hk with
  | 0, _ => decide
  | 1, _ => decide
  | 2, _ => decide
  | 3, _ => decide
  | 4, _ => decide
  | k + 5, h => omega
theorem an_bd5 : ∀ k, nd_bd k ≤ 22143375000 := by
  intro k
  match k with
  | 0 => decide
  | 1 => decide
  | 2 => decide
  | 3 => decide
  | 4 => decide
  | 5 => decide
  | k + 6 => exact Nat.zero_le _
theorem an_Mb {n : Nat} {w : Nat → Nat → Int} (hw : la_W n w) {p q : Nat} (hp : p < n) (hq : q < n) : (an_M w n p q).natAbs ≤ 98415000 := by
  unfold an_M
  split
  · decide
  · rename_i h
    exact Nat.le_trans (nd_bD (la_mb hw) _) (an_bd4 _ (by have := an_len2 (A := lj_b w p) hp hq h; have := hw.1; omega))
theorem an_Mn {n : Nat} {w : Nat → Nat → Int} (hw : la_W n w) {p q : Nat} (hp : p < n) (hq : q < n) : 0 ≤ an_M w n p q := by
  unfold an_M
  split
  · exact Int.le_refl 0
  · rename_i h
    exact lb_nn hw _ (by have := an_len2 (A := lj_b w p) hp hq h; have := hw.1; omega) (lc_nd _ _) (lc_6 hw.1)
theorem an_Tb {n : Nat} {w : Nat → Nat → Int} (hw : la_W n w) (p : Nat) : (an_T w n p).natAbs ≤ 22143375000 :=
  Nat.le_trans (nd_bD (la_mb hw) _) (an_bd5 _)
theorem an_cb {n : Nat} {w : Nat → Nat → Int} (hw : la_W n w) (p s a b : Nat) : (lc_c w p s a b).natAbs ≤ 45 := by
  unfold lc_c
  split
  · have := hw.2.2.2.1 a s; omega
  · exact la_mb hw a b
theorem an_shb {n : Nat} {w : Nat → Nat → Int} (hw : la_W n w) {s d p : Nat} (hs : s < n) (hd : d < n) (hsd : ¬ s = d) : (an_sh w n s d p).natAbs ≤ 98415000 := by
  unfold an_sh
  split
  · decide
  · split
    · exact an_Mb hw hs hd
    · exact Nat.le_trans (nd_bD (an_cb hw p s) _) (an_bd4 _ (by have := an_len2 (A := lj_b w s) hs hd hsd; have := hw.1; omega))
/-- all trees -/
noncomputable def an_A (w : Nat → Nat → Int) (n : Nat) : Int := nd_D (la_m w) (lc_L n (lc_x (fun _ => true) 0))
theorem an_Aq {n : Nat} {w : Nat → Nat → Int} (hw : la_W n w) {q : Nat} (hq : q < n) : an_A w n = nd_D (la_m w) (lc_L n (lc_x (fun _ => true) q)) := by
  have h := lc_T hw (A := fun z => decide (z < n)) (fun a b _ hab => by simpa using (la_big hw hab).2) (fun z hz => by simpa using hz) (x := 0) (y := q) (by simp; omega) (by simpa using hq)
  have e : ∀ x, lc_L n (lc_x (fun _ => true) x) = lc_L n (lc_x (fun z => decide (z < n)) x) := fun x => lc_cg (fun z hz => by
    rw [lc_xt, lc_xt]; simp [hz])
  unfold an_A
  rw [e 0, e q]
  exact h
theorem an_all {n : Nat} {w : Nat → Nat → Int} (hw : la_W n w) (h0 : 0 < n) : (lc_L n (lk_l w)).length ≤ 1 ↔ ∀ q, q < n → lj_J w 0 q := by
  have hz : lk_l w 0 = true := lk_lt'.mpr (fun q _ => Nat.zero_le q)
  constructor
  · intro hl q hq
    apply Classical.byContradiction
    intro hj
    obtain ⟨b, hb, hbl⟩ := lk_least (fun z => lj_J w q z) q (lj_r _ q)
    have hlb : lk_l w b = true := lk_lt'.mpr (fun z hz => hbl z (lj_t hb hz))
    have hb0 : ¬ b = 0 := by
      intro e; subst e; exact hj (lj_s hw hb)
    have h1 := lk_lt (n := n) (P := fun z => z == 0) (Q := lk_l w) (fun z _ h => by
      have : z = 0 := by simpa using h
      rw [this]; exact hz) (lj_n hw hq hb) hlb (by simp [hb0])
    have h2 := (lc_pm (n := n) (P := fun z => z == 0) h0 (by simp)).length_eq
    simp at h2
    omega
  · intro h
    have h1 := lk_mono (n := n) (P := lk_l w) (Q := fun z => z == 0) (fun z hz hl => by
      have := lk_lt'.mp hl 0 (lj_s hw (h z hz))
      simp; omega)
    have h2 := (lc_pm (n := n) (P := fun z => z == 0) h0 (by simp)).length_eq
    have h3 : lc_L n (lc_x (fun z => z == 0) 0) = [] := by
      apply List.eq_nil_iff_forall_not_mem.mpr
      intro z hz
      rw [lc_mem, lc_xt] at hz
      have := hz.2.1
      simp at this
      exact hz.2.2 this
    rw [h3] at h2
    simp at h2
    omega
theorem an_Ab {n : Nat} {w : Nat → Nat → Int} (hw : la_W n w) : (an_A w n).natAbs ≤ 22143375000 :=
  Nat.le_trans (nd_bD (la_mb hw) _) (an_bd5 _)
theorem an_A0 {n : Nat} {w : Nat → Nat → Int} (hw : la_W n w) (h0 : 0 < n) (h : ¬ ∀ q, q < n → lj_J w 0 q) : an_A w n = 0 := by
  have : ∃ q, q < n ∧ ¬ lj_J w 0 q := by
    apply Classical.byContradiction
    intro hne
    apply h
    intro q hq
    apply Classical.byContradiction
    intro hj
    exact hne ⟨q, hq, hj⟩
  obtain ⟨q, hq, hj⟩ := this
  exact lk_zero hw h0 hq hj
theorem an_A1 {n : Nat} {w : Nat → Nat → Int} (h : ∀ q, q < n → lj_J w 0 q) : an_A w n = nd_D (la_m w) (lc_L n (lc_xx (lj_b w 0) 0 0)) := by
  unfold an_A
  rw [an_xx]
  congr 1
  apply lc_cg
  intro z hz
  rw [lc_xt, lc_xt, lj_bt]
  exact ⟨fun k => ⟨h z hz, k.2⟩, fun k => ⟨rfl, k.2⟩⟩
/-- trees with a pair -/
theorem an_W {n : Nat} {w : Nat → Nat → Int} (hw : la_W n w) {p q : Nat} (hp : p < n) (hq : q < n) (hpq : ¬ p = q) :
    ((∀ z, z < n → lj_J w p z) → an_A w n - an_A (lb_out w p q) n = w p q * an_M w n p q) ∧ ((¬ ∀ z, z < n → lj_J w p z) → an_A w n - an_A (lb_out w p q) n = 0) := by
  have h0 : 0 < n := by omega
  constructor
  · intro h
    rw [an_Aq hw hq, an_Aq (lb_outW hw p q) hq, lc_W hw (fun _ => true) hp hq rfl hpq]
    simp only [an_M, hpq, if_false]
    congr 2
    rw [lc_xxc]
    apply lc_cg
    intro z hz
    rw [lc_xxt, lc_xxt, lj_bt]
    exact ⟨fun k => ⟨h z hz, k.2⟩, fun k => ⟨rfl, k.2⟩⟩
  · intro h
    have h1 : ¬ ∀ z, z < n → lj_J w 0 z := by
      intro k
      apply h
      intro z hz
      exact lj_t (lj_s hw (k p hp)) (k z hz)
    have h2 : ¬ ∀ z, z < n → lj_J (lb_out w p q) 0 z := fun k => h1 (fun z hz => lk_sub (k z hz))
    rw [an_A0 hw h0 h1, an_A0 (lb_outW hw p q) h0 h2]
    rfl
