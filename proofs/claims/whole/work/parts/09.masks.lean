theorem mb_or (a b : Nat) : nI a ||| nI b = nI (a ||| b) := by
  apply Int32.toBitVec_inj.1
  show BitVec.ofNat 32 a ||| BitVec.ofNat 32 b = BitVec.ofNat 32 (a ||| b)
  apply BitVec.eq_of_getLsbD_eq
  intro i hi
  simp [hi]
theorem mb_1 : ∀ p, p < 7 → (1 : Int32) <<< (nI p &&& 31) = nI (2 ^ p) := by decide +kernel
theorem mb_m : ∀ p, p < 7 → nI (2 ^ p) - 1 = nI (2 ^ p - 1) := by decide +kernel
theorem mb_bit : ∀ G, G < 64 → ∀ q, q < 6 → (nI G >>> (nI q &&& 31)) &&& 1 = (if G.testBit q = true then 1 else 0) := by decide +kernel
theorem mb_bit2 : ∀ G, G < 64 → ∀ p, p < 6 → ∀ q, q < 6 → ((nI G >>> (nI p &&& 31)) &&& (nI G >>> (nI q &&& 31))) &&& 1 = (if G.testBit p = true ∧ G.testBit q = true then 1 else 0) := by decide +kernel
theorem mb_both : ∀ G, G < 64 → ∀ a, a < 6 → ∀ b, b < 6 → (nI G &&& nI (2 ^ a ||| 2 ^ b) = 0 ↔ (G.testBit a = false ∧ G.testBit b = false)) := by decide +kernel
theorem mb_orlt : ∀ G, G < 64 → ∀ a, a < 6 → ∀ b, b < 6 → G ||| (2 ^ a ||| 2 ^ b) < 64 := by decide +kernel
theorem mb_low : ∀ G, G < 64 → ∀ p, p < 6 → (nI G &&& nI (2 ^ p - 1) = 0 ↔ ∀ q, q < p → G.testBit q = false) := by decide +kernel
theorem mb_ends : ∀ G, G < 64 → ∀ a, a < 6 → ∀ b, b < 6 → nI G &&& (nI (2 ^ a ||| 2 ^ b) ^^^ (-1)) = nI (G &&& (63 ^^^ (2 ^ a ||| 2 ^ b))) := by decide +kernel
theorem mb_endt : ∀ G, G < 64 → ∀ a, a < 6 → ∀ b, b < 6 → G &&& (63 ^^^ (2 ^ a ||| 2 ^ b)) < 64 ∧ ∀ q, q < 6 → ((G &&& (63 ^^^ (2 ^ a ||| 2 ^ b))).testBit q = (G.testBit q && !(q == a) && !(q == b))) := by decide +kernel
theorem mb_drop : ∀ G, G < 64 → nI G &&& (nI G - 1) = nI (G &&& (G - 1)) := by decide +kernel
theorem mb_dropt : ∀ G, G < 64 → 0 < G → G &&& (G - 1) < 64 ∧ ∃ l, l < 6 ∧ G.testBit l = true ∧ (∀ q, q < l → G.testBit q = false) ∧ ∀ q, q < 6 → ((G &&& (G - 1)).testBit q = (G.testBit q && !(q == l))) := by decide +kernel
theorem mb_full : ∀ n, n < 7 → ∀ G, G < 64 → (nI G = nI (2 ^ n - 1) ↔ G = 2 ^ n - 1) := by decide +kernel
theorem mb_fullt : ∀ n, n < 7 → ∀ q, q < 6 → ((2 ^ n - 1).testBit q = decide (q < n)) := by decide +kernel
theorem mb_t6 {G q : Nat} (hG : G < 64) (h : G.testBit q = true) : q < 6 := by
  apply Nat.lt_of_not_le
  intro hq
  have := Nat.testBit_lt_two_pow (i := q) (x := G) (Nat.lt_of_lt_of_le hG (Nat.pow_le_pow_right (n := 2) (by omega) hq))
  rw [this] at h
  exact absurd h (by decide)
theorem mb_ext {G H : Nat} (hG : G < 64) (hH : H < 64) (h : ∀ q, q < 6 → (G.testBit q = true ↔ H.testBit q = true)) : G = H := by
  apply Nat.eq_of_testBit_eq
  intro i
  by_cases hi : i < 6
  · have := h i hi
    revert this
    cases G.testBit i <;> cases H.testBit i <;> simp
  · cases h1 : G.testBit i
    · cases h2 : H.testBit i
      · rfl
      · exact absurd (mb_t6 hH h2) hi
    · exact absurd (mb_t6 hG h1) hi
theorem mb_two {a q : Nat} : (2 ^ a).testBit q = true ↔ q = a := by
  rw [Nat.testBit_two_pow]
  simp only [decide_eq_true_eq]
  exact eq_comm
