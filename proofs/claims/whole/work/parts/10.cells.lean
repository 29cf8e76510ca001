/-- the conductances that an array holds -/
def cw_w (a : Nat → Int32) : Nat → Nat → Int := fun p q => if p < 6 ∧ q < 6 then (a (6 * p + q)).toInt else 0
def cw_O (n : Nat) (a : Nat → Int32) : Prop := 2 ≤ n ∧ n ≤ 6 ∧ ∀ p q, p < 6 → q < 6 → (∃ v, v ≤ 9 ∧ a (6 * p + q) = nI v) ∧ a (6 * p + q) = a (6 * q + p) ∧ (p = q → a (6 * p + q) = 0) ∧ (n ≤ p → a (6 * p + q) = 0)
theorem cw_v {n : Nat} {a : Nat → Int32} (h : cw_O n a) {p q : Nat} (hp : p < 6) (hq : q < 6) : ∃ v, v ≤ 9 ∧ a (6 * p + q) = nI v ∧ cw_w a p q = (v : Int) := by
  obtain ⟨v, hv, e⟩ := (h.2.2 p q hp hq).1
  refine ⟨v, hv, e, ?_⟩
  simp only [cw_w, hp, hq, and_self, if_true, e]
  exact nI_toInt (by omega)
theorem cw_W {n : Nat} {a : Nat → Int32} (h : cw_O n a) : la_W n (cw_w a) := by
  have hO := h
  obtain ⟨h2, h6, hc⟩ := h
  refine ⟨h6, fun p q => ?_, fun p => ?_, fun p q => ?_, fun p q hnp => ?_⟩
  · by_cases hp : p < 6 ∧ q < 6
    · have hp' : q < 6 ∧ p < 6 := ⟨hp.2, hp.1⟩
      simp only [cw_w, hp, hp', and_self, if_true, (hc p q hp.1 hp.2).2.1]
    · have hp' : ¬ (q < 6 ∧ p < 6) := fun e => hp ⟨e.2, e.1⟩
      simp only [cw_w, hp, hp', if_false]
  · by_cases hp : p < 6
    · simp only [cw_w, hp, and_self, if_true, (hc p p hp hp).2.2.1 rfl]; rfl
    · simp only [cw_w, hp, and_self, if_false]
  · by_cases hp : p < 6 ∧ q < 6
    · obtain ⟨v, hv, _, e⟩ := cw_v hO hp.1 hp.2
      rw [e]; omega
    · simp only [cw_w, hp, if_false]; omega
  · by_cases hp : p < 6 ∧ q < 6
    · simp only [cw_w, hp, and_self, if_true, (hc p q hp.1 hp.2).2.2.2 hnp]; rfl
    · simp only [cw_w, hp, if_false]
def cw_put (a : Nat → Int32) (p q : Nat) (v : Int32) : Nat → Int32 := upd (upd a (6 * p + q) v) (6 * q + p) v
theorem cw_putv {a : Nat → Int32} {p q x y : Nat} {v : Int32} (hp : p < 6) (hq : q < 6) (hx : x < 6) (hy : y < 6) : cw_put a p q v (6 * x + y) = if (x = p ∧ y = q) ∨ (x = q ∧ y = p) then v else a (6 * x + y) := by
  simp only [cw_put, upd]
  by_cases h1 : x = q ∧ y = p
  · have e : 6 * x + y = 6 * q + p := by omega
    have h : (x = p ∧ y = q) ∨ (x = q ∧ y = p) := Or.inr h1
    rw [if_pos e, if_pos h]
  · have e : ¬ 6 * x + y = 6 * q + p := by omega
    rw [if_neg e]
    by_cases h2 : x = p ∧ y = q
    · have e2 : 6 * x + y = 6 * p + q := by omega
      have h : (x = p ∧ y = q) ∨ (x = q ∧ y = p) := Or.inl h2
      rw [if_pos e2, if_pos h]
    · have e2 : ¬ 6 * x + y = 6 * p + q := by omega
      have h : ¬ ((x = p ∧ y = q) ∨ (x = q ∧ y = p)) := fun h => h.elim h2 h1
      rw [if_neg e2, if_neg h]
theorem cw_putO {n : Nat} {a : Nat → Int32} (h : cw_O n a) {p q v : Nat} (hp : p < n) (hq : q < n) (hpq : ¬ p = q) (hv : v ≤ 9) : cw_O n (cw_put a p q (nI v)) := by
  obtain ⟨h2, h6, hc⟩ := h
  refine ⟨h2, h6, fun x y hx hy => ?_⟩
  have hp6 : p < 6 := by omega
  have hq6 : q < 6 := by omega
  rw [cw_putv hp6 hq6 hx hy, cw_putv hp6 hq6 hy hx]
  by_cases h : (x = p ∧ y = q) ∨ (x = q ∧ y = p)
  · have h' : (y = p ∧ x = q) ∨ (y = q ∧ x = p) := by omega
    rw [if_pos h, if_pos h']
    exact ⟨⟨v, hv, rfl⟩, rfl, fun e => by omega, fun e => by omega⟩
  · have h' : ¬ ((y = p ∧ x = q) ∨ (y = q ∧ x = p)) := by omega
    rw [if_neg h, if_neg h']
    exact hc x y hx hy
theorem cw_putw {n : Nat} {a : Nat → Int32} (h : cw_O n a) {p q : Nat} (hp : p < n) (hq : q < n) : cw_w (cw_put a p q 0) = lb_out (cw_w a) p q := by
  have h6 := h.2.1
  funext x y
  by_cases hxy : x < 6 ∧ y < 6
  · simp only [cw_w, lb_out, hxy, and_self, if_true]
    rw [cw_putv (by omega) (by omega) hxy.1 hxy.2]
    by_cases e : (x = p ∧ y = q) ∨ (x = q ∧ y = p)
    · simp only [e, if_true]; rfl
    · simp only [e, if_false]
  · have e : ¬ ((x = p ∧ y = q) ∨ (x = q ∧ y = p)) := by omega
    simp only [cw_w, lb_out, hxy, e, if_false]
theorem cw_back {n : Nat} {a : Nat → Int32} (h : cw_O n a) {p q : Nat} (hp : p < n) (hq : q < n) (z : Int32) : cw_put (cw_put a p q z) p q (a (6 * p + q)) = a := by
  have h6 := h.2.1
  have hs := (h.2.2 p q (by omega) (by omega)).2.1
  funext i
  simp only [cw_put, upd]
  by_cases h1 : i = 6 * q + p
  · rw [if_pos h1, h1, hs]
  · rw [if_neg h1]
    by_cases h2 : i = 6 * p + q
    · rw [if_pos h2, h2]
    · rw [if_neg h2, if_neg h1, if_neg h2]
theorem cw_pos {n : Nat} {a : Nat → Int32} (h : cw_O n a) {p q : Nat} (hp : p < 6) (hq : q < 6) : 0 < a (6 * p + q) ↔ 0 < cw_w a p q := by
  obtain ⟨v, hv, e, e2⟩ := cw_v h hp hq
  rw [e, e2, ← nI_0, nI_ltI (by omega) (by omega)]
  omega
theorem cw_zero {n : Nat} {a : Nat → Int32} (h : cw_O n a) {p q : Nat} (hp : p < 6) (hq : q < 6) : a (6 * p + q) = 0 ↔ cw_w a p q = 0 := by
  obtain ⟨v, hv, e, e2⟩ := cw_v h hp hq
  rw [e, e2, ← nI_0, nI_eq (by omega) (by omega)]
  omega
theorem cw_l {n : Nat} {a : Nat → Int32} (h : cw_O n a) {p q : Nat} (hp : p < 6) (hq : q < 6) : (a (6 * p + q)).toInt64 = Int64.ofInt (cw_w a p q) := by
  simp only [cw_w, hp, hq, and_self, if_true]
  rfl
