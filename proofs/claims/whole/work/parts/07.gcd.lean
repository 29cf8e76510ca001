/-- what Euclid has after j steps of at most 2 N -/
def eu_I (N j a b : Nat) : Prop := (j % 2 = 0 → b < 2 ^ (N - j / 2)) ∧ (j % 2 = 1 → b = 0 ∨ (b < a ∧ a < 2 ^ (N - j / 2)))
theorem eu_z {N j a : Nat} : eu_I N j a 0 := ⟨fun _ => Nat.pos_of_ne_zero (by simp), fun _ => Or.inl rfl⟩
theorem eu_half {a b : Nat} (hb : 0 < b) (h : b < a) : 2 * (a % b) < a := by
  have h1 := Nat.mod_lt a hb
  have h2 := Nat.div_add_mod a b
  have h3 : 1 ≤ a / b := (Nat.one_le_div_iff hb).mpr (Nat.le_of_lt h)
  have h4 : b * 1 ≤ b * (a / b) := Nat.mul_le_mul_left b h3
  omega
theorem eu_s {N j a b : Nat} (hj : j < 2 * N) (h : eu_I N j a b) (hb : 0 < b) : eu_I N (j + 1) b (a % b) := by
  constructor
  · intro h1
    have h2 : j % 2 = 1 := by omega
    rcases h.2 h2 with h3 | h3
    · omega
    · have h4 := eu_half hb h3.1
      have h5 : N - j / 2 = (N - (j + 1) / 2) + 1 := by omega
      rw [h5, Nat.pow_succ] at h3
      omega
  · intro h1
    have h2 : j % 2 = 0 := by omega
    have h3 := h.1 h2
    have h4 : N - j / 2 = N - (j + 1) / 2 := by omega
    right
    exact ⟨Nat.mod_lt a hb, h4 ▸ h3⟩
theorem eu_g {a b : Nat} : Nat.gcd b (a % b) = Nat.gcd a b := by
  rw [Nat.gcd_comm a b, Nat.gcd_rec b a, Nat.gcd_comm]
theorem eu_e {N a b : Nat} (h : eu_I N (2 * N) a b) : b = 0 := by
  have := h.1 (by omega)
  have e : N - 2 * N / 2 = 0 := by omega
  rw [e] at this
  omega
/-- the part in lowest terms -/
def eu_q (x y : Int) : Int := x.tdiv (Nat.gcd x.natAbs y.natAbs : Nat)
theorem eu_2 (x y : Int) : eu_q (2 * x) (2 * y) = eu_q x y := by
  unfold eu_q
  have e1 : (2 * x).natAbs = 2 * x.natAbs := by rw [Int.natAbs_mul]; rfl
  have e2 : (2 * y).natAbs = 2 * y.natAbs := by rw [Int.natAbs_mul]; rfl
  rw [e1, e2, Nat.gcd_mul_left]
  have e3 : ((2 * Nat.gcd x.natAbs y.natAbs : Nat) : Int) = 2 * (Nat.gcd x.natAbs y.natAbs : Nat) := by omega
  rw [e3, Int.mul_tdiv_mul_of_pos _ _ (by decide)]
theorem eu_d {x : Int} {g : Nat} (hx : x.natAbs < 2 ^ 63) (hg : g < 2 ^ 63) : Int64.ofInt x / Int64.ofInt (g : Int) = Int64.ofInt (x.tdiv (g : Int)) := by
  have m1 : Int64.minValue.toInt = -9223372036854775808 := by decide
  have m2 : Int64.maxValue.toInt = 9223372036854775807 := by decide
  rw [Int64.ofInt_tdiv (by rw [m1]; omega) (by rw [m2]; omega) (by rw [m1]; omega) (by rw [m2]; omega)]
theorem eu_ex {b z : Int} (hb : b ≠ 0) (h : (b * z).natAbs < 2 ^ 63) : Int64.ofInt (b * z) / Int64.ofInt b = Int64.ofInt z := by
  by_cases hz : z = 0
  · subst hz
    have e : Int64.ofInt (b * 0) = 0 := by rw [Int.mul_zero]; rfl
    rw [e]
    apply Int64.toInt_inj.mp
    rw [Int64.toInt_div]
    simp
  · have m1 : Int64.minValue.toInt = -9223372036854775808 := by decide
    have m2 : Int64.maxValue.toInt = 9223372036854775807 := by decide
    have hb' : b.natAbs < 2 ^ 63 := by
      have h1 : 1 ≤ z.natAbs := by omega
      have h2 : b.natAbs * 1 ≤ b.natAbs * z.natAbs := Nat.mul_le_mul_left _ h1
      rw [Int.natAbs_mul] at h
      omega
    rw [← Int64.ofInt_tdiv (by rw [m1]; omega) (by rw [m2]; omega) (by rw [m1]; omega) (by rw [m2]; omega), Int.mul_tdiv_cancel_left _ hb]
theorem eu_lt {x : Int} (hx : x.natAbs < 2 ^ 63) : Int64.ofInt x < 0 ↔ x < 0 := by
  rw [Int64.lt_iff_toInt_lt, Int64.toInt_ofInt_of_le (by omega) (by omega)]
  exact Iff.rfl
theorem eu_lN (n : Nat) : lN n = Int64.ofInt (n : Int) := Int64.ofInt_eq_ofNat.symm
theorem eu_abs {x : Int} : (x < 0 → -Int64.ofInt x = lN x.natAbs) ∧ (¬ x < 0 → Int64.ofInt x = lN x.natAbs) := by
  constructor
  · intro h
    rw [eu_lN, ← Int64.ofInt_neg]
    congr 1; omega
  · intro h
    rw [eu_lN]
    congr 1; omega
theorem eu_eq {x y : Int} (hx : x.natAbs < 2 ^ 63) (hy : y.natAbs < 2 ^ 63) : Int64.ofInt x = Int64.ofInt y ↔ x = y := by
  rw [← Int64.toInt_inj, Int64.toInt_ofInt_of_le (by omega) (by omega), Int64.toInt_ofInt_of_le (by omega) (by omega)]
