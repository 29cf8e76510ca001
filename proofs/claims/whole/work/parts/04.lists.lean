def lc_L (n : Nat) (P : Nat → Bool) : List Nat := (List.range n).filter P
def lc_x (A : Nat → Bool) (x : Nat) : Nat → Bool := fun z => A z && !(z == x)
theorem lc_xt {A : Nat → Bool} {x z : Nat} : lc_x A x z = true ↔ A z = true ∧ ¬ z = x := by
  simp [lc_x]
theorem lc_nd (n : Nat) (P : Nat → Bool) : (lc_L n P).Nodup := List.Pairwise.filter P List.nodup_range
theorem lc_mem {n : Nat} {P : Nat → Bool} {x : Nat} : x ∈ lc_L n P ↔ x < n ∧ P x = true := by
  simp [lc_L]
theorem lc_cg {n : Nat} {P Q : Nat → Bool} (h : ∀ z, z < n → (P z = true ↔ Q z = true)) : lc_L n P = lc_L n Q := by
  apply List.filter_congr
  intro x hx
  have hx' : x < n := by simpa using hx
  have := h x hx'
  revert this
  cases P x <;> cases Q x <;> simp
theorem lc_pm {n : Nat} {P : Nat → Bool} {a : Nat} (ha : a < n) (hP : P a = true) : (lc_L n P).Perm (lc_L n (lc_x P a) ++ [a]) := by
  have hm : a ∈ lc_L n P := lc_mem.mpr ⟨ha, hP⟩
  have h1 : (lc_L n P).Perm (a :: (lc_L n P).erase a) := List.perm_cons_erase hm
  have h2 : (lc_L n P).erase a = lc_L n (lc_x P a) := by
    rw [List.Nodup.erase_eq_filter (lc_nd n P) a]
    simp only [lc_L, List.filter_filter]
    apply List.filter_congr
    intro x _
    simp only [lc_x, bne]
    cases P x <;> cases (x == a) <;> rfl
  rw [h2] at h1
  exact h1.trans (List.perm_append_singleton a _).symm
theorem lc_len {n : Nat} (P : Nat → Bool) : (lc_L n P).length ≤ n := by
  have := List.length_filter_le P (List.range n)
  rw [List.length_range] at this
  exact this
theorem lc_len1 {n : Nat} {P : Nat → Bool} {a : Nat} (ha : a < n) : (lc_L n (lc_x P a)).length + 1 ≤ n := by
  by_cases hP : P a = true
  · have h1 := (lc_pm ha hP).length_eq
    have h2 := lc_len (n := n) P
    simp at h1
    omega
  · have e : lc_L n (lc_x P a) = lc_L n (lc_x (fun z => P z || z == a) a) := lc_cg (fun z _ => by
      simp only [lc_xt, Bool.or_eq_true, beq_iff_eq]
      constructor
      · intro h; exact ⟨Or.inl h.1, h.2⟩
      · intro h; exact ⟨h.1.resolve_right h.2, h.2⟩)
    have h1 := (lc_pm (P := fun z => P z || z == a) ha (by simp)).length_eq
    have h2 := lc_len (n := n) (fun z => P z || z == a)
    rw [e]
    simp at h1
    omega
theorem lc_D (m : Nat → Nat → Int) {n : Nat} {P : Nat → Bool} {a : Nat} (ha : a < n) (hP : P a = true) : nd_D m (lc_L n P) = nd_R m (m a) a (lc_L n (lc_x P a)) := by
  rw [nd_pm m (lc_pm ha hP), nd_sn]
theorem lc_6 {n : Nat} (hn : n ≤ 6) {P : Nat → Bool} : ∀ x, x ∈ lc_L n P → x < 6 := fun x hx => by
  have := (lc_mem.mp hx).1; omega
/-- G1 -/
theorem lc_T {n : Nat} {w : Nat → Nat → Int} (hw : la_W n w) {A : Nat → Bool} (hC : la_C w A) (hA : ∀ z, A z = true → z < n) {x y : Nat} (hx : A x = true) (hy : A y = true) :
    nd_D (la_m w) (lc_L n (lc_x A x)) = nd_D (la_m w) (lc_L n (lc_x A y)) := by
  by_cases e : x = y
  · rw [e]
  · have e' : ¬ y = x := fun h => e h.symm
    rw [lc_D (la_m w) (hA y hy) (lc_xt.mpr ⟨hy, e'⟩), lc_D (la_m w) (hA x hx) (lc_xt.mpr ⟨hx, e⟩)]
    have hL : lc_L n (lc_x (lc_x A y) x) = lc_L n (lc_x (lc_x A x) y) := lc_cg (fun z _ => by
      simp only [lc_xt]; constructor <;> (intro h; exact ⟨⟨h.1.1, h.2⟩, h.1.2⟩))
    rw [hL]
    have hB : ∀ z, z ∈ lc_L n (lc_x (lc_x A x) y) ↔ A z = true ∧ ¬ z = x ∧ ¬ z = y := by
      intro z
      simp only [lc_mem, lc_xt]
      constructor
      · intro h; exact ⟨h.2.1.1, h.2.1.2, h.2.2⟩
      · intro h; exact ⟨hA z h.1, ⟨h.1, h.2.1⟩, h.2.2⟩
    refine (lb_G1 hw hC x y _ ?_ ?_ ?_).symm
    · simp only [List.nodup_cons, List.mem_cons, not_or, hB]
      exact ⟨⟨e, fun h => h.2.1 trivial⟩, fun h => h.2.2 trivial, lc_nd _ _⟩
    · intro z
      simp only [List.mem_cons, hB]
      constructor
      · intro h
        by_cases h1 : z = x
        · exact Or.inl h1
        · by_cases h2 : z = y
          · exact Or.inr (Or.inl h2)
          · exact Or.inr (Or.inr ⟨h, h1, h2⟩)
      · intro h
        rcases h with h | h | h
        · rw [h]; exact hx
        · rw [h]; exact hy
        · exact h.1
    · intro z hz
      have hn := hw.1
      have : z < n := by
        simp only [List.mem_cons, hB] at hz
        rcases hz with h | h | h
        · rw [h]; exact hA x hx
        · rw [h]; exact hA y hy
        · exact hA z h.1
      omega
def lc_xx (A : Nat → Bool) (x y : Nat) : Nat → Bool := lc_x (lc_x A x) y
theorem lc_xxt {A : Nat → Bool} {x y z : Nat} : lc_xx A x y z = true ↔ A z = true ∧ ¬ z = x ∧ ¬ z = y := by
  simp only [lc_xx, lc_xt]
  constructor
  · intro h; exact ⟨h.1.1, h.1.2, h.2⟩
  · intro h; exact ⟨⟨h.1, h.2.1⟩, h.2.2⟩
theorem lc_xxc {n : Nat} (A : Nat → Bool) (x y : Nat) : lc_L n (lc_xx A x y) = lc_L n (lc_xx A y x) := lc_cg (fun z _ => by
  simp only [lc_xxt]; constructor <;> (intro h; exact ⟨h.1, h.2.2, h.2.1⟩))
/-- the column of p replaced by the conductances to s -/
def lc_c (w : Nat → Nat → Int) (p s : Nat) : Nat → Nat → Int := fun a b => if b = p then w a s else la_m w a b
/-- G2 -/
theorem lc_V {n : Nat} {w : Nat → Nat → Int} (hw : la_W n w) {A : Nat → Bool} (hC : la_C w A) (hA : ∀ z, A z = true → z < n) {s d p : Nat} (hs : A s = true) (hd : A d = true) (hp : A p = true) (hsd : ¬ s = d) (hsp : ¬ s = p) (hdp : ¬ d = p) :
    2 * nd_D (lc_c w p s) (lc_L n (lc_xx A s d)) = nd_D (la_m w) (lc_L n (lc_xx A s d)) + nd_D (la_m w) (lc_L n (lc_xx A p d)) - nd_D (la_m w) (lc_L n (lc_xx A s p)) := by
  have hds : ¬ d = s := fun h => hsd h.symm
  have hps : ¬ p = s := fun h => hsp h.symm
  have hpd : ¬ p = d := fun h => hdp h.symm
  have hB : ∀ z, z ∈ lc_L n (lc_x (lc_xx A s d) p) ↔ A z = true ∧ ¬ z = s ∧ ¬ z = d ∧ ¬ z = p := by
    intro z
    simp only [lc_mem, lc_xxt, lc_xt]
    constructor
    · intro h; exact ⟨h.2.1.1, h.2.1.2.1, h.2.1.2.2, h.2.2⟩
    · intro h; exact ⟨hA z h.1, ⟨h.1, h.2.1, h.2.2.1⟩, h.2.2.2⟩
  have e1 : lc_L n (lc_x (lc_xx A p d) s) = lc_L n (lc_x (lc_xx A s d) p) := lc_cg (fun z _ => by
    simp only [lc_xxt, lc_xt]; constructor <;> (intro h; exact ⟨⟨h.1.1, h.2, h.1.2.2⟩, h.1.2.1⟩))
  have e2 : lc_L n (lc_x (lc_xx A s p) d) = lc_L n (lc_x (lc_xx A s d) p) := lc_cg (fun z _ => by
    simp only [lc_xxt, lc_xt]; constructor <;> (intro h; exact ⟨⟨h.1.1, h.1.2.1, h.2⟩, h.1.2.2⟩))
  rw [lc_D (la_m w) (hA p hp) (P := lc_xx A s d) (lc_xxt.mpr ⟨hp, hps, hpd⟩), lc_D (la_m w) (hA s hs) (P := lc_xx A p d) (lc_xxt.mpr ⟨hs, hsp, hsd⟩), lc_D (la_m w) (hA d hd) (P := lc_xx A s p) (lc_xxt.mpr ⟨hd, hds, hdp⟩), e1, e2]
  rw [nd_pm _ (lc_pm (hA p hp) (P := lc_xx A s d) (lc_xxt.mpr ⟨hp, hps, hpd⟩))]
  have hcol := lb_col hw p s (lc_L n (lc_x (lc_xx A s d) p)) (by rw [hB]; intro h; exact h.2.2.2 rfl) (by
    simp only [List.mem_cons, hB, not_or]; exact ⟨hsp, fun h => h.2.1 trivial⟩)
  have hg := lb_G2 hw hC d p s (lc_L n (lc_x (lc_xx A s d) p)) (by
    simp only [List.nodup_cons, List.mem_cons, not_or, hB]
    exact ⟨⟨hdp, hds, fun h => h.2.2.1 trivial⟩, ⟨hps, fun h => h.2.2.2 trivial⟩, fun h => h.2.1 trivial, lc_nd _ _⟩) (by
    intro z
    simp only [List.mem_cons, hB]
    constructor
    · intro h
      by_cases h1 : z = d
      · exact Or.inl h1
      · by_cases h2 : z = p
        · exact Or.inr (Or.inl h2)
        · by_cases h3 : z = s
          · exact Or.inr (Or.inr (Or.inl h3))
          · exact Or.inr (Or.inr (Or.inr ⟨h, h3, h1, h2⟩))
    · intro h
      rcases h with h | h | h | h
      · rw [h]; exact hd
      · rw [h]; exact hp
      · rw [h]; exact hs
      · exact h.1) (by
    intro z hz
    have hn := hw.1
    have : z < n := by
      simp only [List.mem_cons, hB] at hz
      rcases hz with h | h | h | h
      · rw [h]; exact hA d hd
      · rw [h]; exact hA p hp
      · rw [h]; exact hA s hs
      · exact hA z h.1
    omega)
  have hcol' : nd_D (lc_c w p s) (lc_L n (lc_x (lc_xx A s d) p) ++ [p]) = -1 * nd_R (la_m w) (la_m w s) p (lc_L n (lc_x (lc_xx A s d) p)) := hcol
  omega
/-- G3 -/
theorem lc_W {n : Nat} {w : Nat → Nat → Int} (hw : la_W n w) (A : Nat → Bool) {p q : Nat} (hp : p < n) (hq : q < n) (hAp : A p = true) (hpq : ¬ p = q) :
    nd_D (la_m w) (lc_L n (lc_x A q)) - nd_D (la_m (lb_out w p q)) (lc_L n (lc_x A q)) = w p q * nd_D (la_m w) (lc_L n (lc_xx A q p)) := by
  have hn := hw.1
  rw [lc_D (la_m w) hp (P := lc_x A q) (lc_xt.mpr ⟨hAp, hpq⟩), lc_D (la_m (lb_out w p q)) hp (P := lc_x A q) (lc_xt.mpr ⟨hAp, hpq⟩)]
  have hlen : (lc_L n (lc_x (lc_x A q) p)).length ≤ 4 := by
    have h1 := (lc_pm (P := lc_x A q) hp (lc_xt.mpr ⟨hAp, hpq⟩)).length_eq
    have h2 := lc_len1 (P := A) hq
    simp at h1
    omega
  rw [lb_G3 hw p q hpq (by omega) (by omega) _ hlen (by simp [lc_mem, lc_xt]) (by simp [lc_mem, lc_xt])]
  have : lc_L n (lc_xx A q p) = lc_L n (lc_x (lc_x A q) p) := rfl
  rw [this]
  omega
/-- joined -/
def lj_J (w : Nat → Nat → Int) (p q : Nat) : Prop := ∀ A : Nat → Bool, la_C w A → A p = true → A q = true
theorem lj_r (w : Nat → Nat → Int) (p : Nat) : lj_J w p p := fun _ _ h => h
theorem lj_t {w : Nat → Nat → Int} {p q r : Nat} (h : lj_J w p q) (k : lj_J w q r) : lj_J w p r := fun A hC hp => k A hC (h A hC hp)
theorem lj_e {w : Nat → Nat → Int} {p q : Nat} (h : 0 < w p q) : lj_J w p q := fun _ hC hp => hC p q hp h
theorem lj_s {n : Nat} {w : Nat → Nat → Int} (hw : la_W n w) {p q : Nat} (h : lj_J w p q) : lj_J w q p := by
  intro A hC hq
  apply Classical.byContradiction
  intro hp
  have hC' : la_C w (fun z => !(A z)) := by
    intro a b ha hab
    have hba : 0 < w b a := by rw [hw.2.1 b a]; exact hab
    have := hC b a
    revert this ha
    dsimp only
    cases A a <;> cases A b <;> simp [hba]
  have hp' : (fun z => !(A z)) p = true := by revert hp; dsimp only; cases A p <;> simp
  have hq' := h _ hC' hp'
  revert hq' hq
  cases A q <;> simp
theorem lj_n {n : Nat} {w : Nat → Nat → Int} (hw : la_W n w) {p q : Nat} (hp : p < n) (h : lj_J w p q) : q < n := by
  have := h (fun z => decide (z < n)) (fun a b _ hab => by simpa using (la_big hw hab).2) (by simpa using hp)
  simpa using this
noncomputable def lj_b (w : Nat → Nat → Int) (p : Nat) : Nat → Bool := fun q => @decide (lj_J w p q) (Classical.propDecidable _)
theorem lj_bt {w : Nat → Nat → Int} {p q : Nat} : lj_b w p q = true ↔ lj_J w p q := by
  simp only [lj_b, decide_eq_true_eq]
theorem lj_C {w : Nat → Nat → Int} (p : Nat) : la_C w (lj_b w p) := by
  intro a b ha hab
  rw [lj_bt] at ha ⊢
  exact lj_t ha (lj_e hab)
