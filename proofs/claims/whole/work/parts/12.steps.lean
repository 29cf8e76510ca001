/-! one round of the labels -/
def lo_I (n : Nat) (w : Nat → Nat → Int) (l0 : Nat → Nat) (p q : Nat) (any : Bool) (l : Nat → Nat) : Prop :=
  ll_I n w l ∧ (∀ x, x < n → l x ≤ l0 x) ∧ (∀ x y, x < n → y < n → (x < p ∨ (x = p ∧ y < q)) → 0 < w x y → l x ≤ l0 y) ∧ (any = false → ∀ x, x < n → l x = l0 x)
theorem lo_0 {n : Nat} {w : Nat → Nat → Int} {l : Nat → Nat} (h : ll_I n w l) : lo_I n w l 0 0 false l :=
  ⟨h, fun _ _ => Nat.le_refl _, fun x y _ _ h => by omega, fun _ _ _ => rfl⟩
theorem lo_keep {n : Nat} {w : Nat → Nat → Int} {l0 l : Nat → Nat} {p q : Nat} {any : Bool} (hq : q < n) (h : lo_I n w l0 p q any l) (hk : 0 < w p q → l p ≤ l q) : lo_I n w l0 p (q + 1) any l := by
  refine ⟨h.1, h.2.1, fun x y hx hy hxy hw => ?_, h.2.2.2⟩
  by_cases e : x = p ∧ y = q
  · obtain ⟨e1, e2⟩ := e
    subst e1; subst e2
    exact Nat.le_trans (hk hw) (h.2.1 y hq)
  · exact h.2.2.1 x y hx hy (by omega) hw
theorem lo_set {n : Nat} {w : Nat → Nat → Int} {l0 l : Nat → Nat} {p q : Nat} {any : Bool} (hp : p < n) (hq : q < n) (h : lo_I n w l0 p q any l) (hw : 0 < w p q) (hlt : l q < l p) : lo_I n w l0 p (q + 1) true (fun x => if x = p then l q else l x) := by
  refine ⟨fun x hx => ?_, fun x hx => ?_, fun x y hx hy hxy hwx => ?_, fun e => by simp at e⟩
  · by_cases e : x = p
    · subst e
      simp only [if_true]
      exact ⟨lj_t (lj_e hw) (h.1 q hq).1, by have := (h.1 x hx).2; omega⟩
    · simp only [e, if_false]; exact h.1 x hx
  · by_cases e : x = p
    · subst e
      simp only [if_true]
      have := h.2.1 x hx; omega
    · simp only [e, if_false]; exact h.2.1 x hx
  · by_cases e : x = p
    · subst e
      simp only [if_true]
      by_cases e2 : y = q
      · subst e2; exact h.2.1 y hq
      · have := h.2.2.1 x y hx hy (by omega) hwx; omega
    · simp only [e, if_false]
      exact h.2.2.1 x y hx hy (by omega) hwx
theorem lo_row {n : Nat} {w : Nat → Nat → Int} {l0 l : Nat → Nat} {p : Nat} {any : Bool} (h : lo_I n w l0 p n any l) : lo_I n w l0 (p + 1) 0 any l :=
  ⟨h.1, h.2.1, fun x y hx hy hxy hw => h.2.2.1 x y hx hy (by omega) hw, h.2.2.2⟩
theorem lo_end {n : Nat} {w : Nat → Nat → Int} (hw : la_W n w) {r : Nat} {l0 l : Nat → Nat} {any : Bool} (hA : ll_A n w r l0) (h : lo_I n w l0 n 0 any l) : ll_A n w (r + 1) l :=
  ll_next hw hA h.1 h.2.1 (fun p q hp hq hpq => h.2.2.1 p q hp hq (Or.inl hp) hpq)
theorem lo_stop {n : Nat} {w : Nat → Nat → Int} (hw : la_W n w) {l0 l : Nat → Nat} (h : lo_I n w l0 n 0 false l) : ll_F n w l :=
  ⟨h.1, ll_stop hw h.1 (fun p q hp hq hpq => by
    have := h.2.2.1 p q hp hq (Or.inl hp) hpq
    have := h.2.2.2 rfl q hq
    omega)⟩
theorem lo_six {n : Nat} {w : Nat → Nat → Int} (hw : la_W n w) {l : Nat → Nat} (h : ll_A n w 6 l) : ll_F n w l := ⟨h.1, ll_end hw h⟩
/-! one round of the growing set -/
def gr_I (n : Nat) (w : Nat → Nat → Int) (p : Nat) (G0 : Nat → Bool) (a b : Nat) (G : Nat → Bool) : Prop :=
  (∀ q, G0 q = true → G q = true) ∧ (∀ q, G q = true → lj_J w p q) ∧ (∀ x y, x < y → y < n → (x < a ∨ (x = a ∧ y < b)) → 0 < w x y → (G0 x = true ∨ G0 y = true) → G x = true ∧ G y = true)
theorem gr_0 {n : Nat} {w : Nat → Nat → Int} {p : Nat} {G : Nat → Bool} (h : ∀ q, G q = true → lj_J w p q) : gr_I n w p G 0 1 G :=
  ⟨fun _ h => h, h, fun x y h1 _ h2 => by omega⟩
theorem gr_keep {n : Nat} {w : Nat → Nat → Int} {p : Nat} {G0 G : Nat → Bool} {a b : Nat} (h : gr_I n w p G0 a b G) (hk : 0 < w a b → G a = false ∧ G b = false) : gr_I n w p G0 a (b + 1) G := by
  refine ⟨h.1, h.2.1, fun x y hxy hy hlt hw hG => ?_⟩
  by_cases e : x = a ∧ y = b
  · obtain ⟨e1, e2⟩ := e
    subst e1; subst e2
    have hk' := hk hw
    rcases hG with hG | hG
    · have := h.1 x hG; rw [hk'.1] at this; exact absurd this (by decide)
    · have := h.1 y hG; rw [hk'.2] at this; exact absurd this (by decide)
  · exact h.2.2 x y hxy hy (by omega) hw hG
theorem gr_set {n : Nat} {w : Nat → Nat → Int} (hw : la_W n w) {p : Nat} {G0 G H : Nat → Bool} {a b : Nat} (h : gr_I n w p G0 a b G) (hab : 0 < w a b) (hG : G a = true ∨ G b = true) (hH : ∀ q, H q = true ↔ G q = true ∨ q = a ∨ q = b) : gr_I n w p G0 a (b + 1) H := by
  have hba : 0 < w b a := by rw [hw.2.1 b a]; exact hab
  refine ⟨fun q hq => (hH q).mpr (Or.inl (h.1 q hq)), fun q hq => ?_, fun x y hxy hy hlt hwx hx => ?_⟩
  · rcases (hH q).mp hq with e | e | e
    · exact h.2.1 q e
    · subst e
      rcases hG with hG | hG
      · exact h.2.1 q hG
      · exact lj_t (h.2.1 b hG) (lj_e hba)
    · subst e
      rcases hG with hG | hG
      · exact lj_t (h.2.1 a hG) (lj_e hab)
      · exact h.2.1 q hG
  · by_cases e : x = a ∧ y = b
    · exact ⟨(hH x).mpr (Or.inr (Or.inl e.1)), (hH y).mpr (Or.inr (Or.inr e.2))⟩
    · have := h.2.2 x y hxy hy (by omega) hwx hx
      exact ⟨(hH x).mpr (Or.inl this.1), (hH y).mpr (Or.inl this.2)⟩
theorem gr_row {n : Nat} {w : Nat → Nat → Int} {p : Nat} {G0 G : Nat → Bool} {a : Nat} (h : gr_I n w p G0 a n G) : gr_I n w p G0 (a + 1) (a + 2) G :=
  ⟨h.1, h.2.1, fun x y hxy hy hlt hw hG => h.2.2 x y hxy hy (by omega) hw hG⟩
theorem gr_end {n : Nat} {w : Nat → Nat → Int} (hw : la_W n w) {p r b : Nat} {G0 G : Nat → Bool} (hA : lx_A n w p r G0) (h : gr_I n w p G0 n b G) : lx_A n w p (r + 1) G := by
  refine lx_next hw hA h.2.1 h.1 (fun x y hx hxy => ?_)
  have hb := la_big hw hxy
  by_cases e : x < y
  · exact (h.2.2 x y e hb.2 (Or.inl hb.1) hxy (Or.inl hx)).2
  · by_cases e2 : y < x
    · have hyx : 0 < w y x := by rw [hw.2.1 y x]; exact hxy
      exact (h.2.2 y x e2 hb.1 (Or.inl hb.2) hyx (Or.inr hx)).1
    · have : x = y := by omega
      subst this
      have := hw.2.2.1 x
      omega
theorem cw_sum {n : Nat} {w : Nat → Nat → Int} (hw : la_W n w) (p : Nat) : lz_sum (w p) n = la_6 (w p) := by
  have hz : ∀ x, n ≤ x → w p x = 0 := fun x hx => by rw [hw.2.1 p x]; exact hw.2.2.2.2 x p hx
  have hn := hw.1
  have : n = 0 ∨ n = 1 ∨ n = 2 ∨ n = 3 ∨ n = 4 ∨ n = 5 ∨ n = 6 := by omega
  rcases this with e | e | e | e | e | e | e <;> subst e <;> simp only [lz_sum, la_6] <;> simp [hz]
theorem cw_sum6 (f : Nat → Int) : lz_sum f 6 = la_6 f := by
  simp only [lz_sum, la_6]; omega
