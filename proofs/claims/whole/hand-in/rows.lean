section
theorem pk_us {f : Nat → Int32} {k : Nat} {x : Int32} : upd f k x k = x := if_pos rfl
theorem pk_un {f : Nat → Int32} {k j : Nat} {x : Int32} (h : j ≠ k) : upd f k x j = f j := if_neg h
theorem pk_uLs {f : Nat → Int64} {k : Nat} {x : Int64} : vp_updL f k x k = x := if_pos rfl
theorem pk_uLn {f : Nat → Int64} {k j : Nat} {x : Int64} (h : j ≠ k) : vp_updL f k x j = f j := if_neg h
theorem pk_sub {a b : Nat} (h : b ≤ a) : nI a - nI b = nI (a - b) := by
  obtain ⟨c, rfl⟩ : ∃ c, a = c + b := ⟨a - b, by omega⟩
  rw [← nI_add, Int32.add_sub_cancel, Nat.add_sub_cancel]
theorem pk_m1 (n : Nat) : nI (n + 1) + (-1) = nI n := by
  rw [← nI_1, Int32.add_assoc, show (1 : Int32) + (-1) = 0 from rfl, Int32.add_zero]
theorem pk_mul (a b : Nat) : nI a * nI b = nI (a * b) := (Int32.ofNat_mul a b).symm
theorem pk_div {a d : Nat} (ha : a < 2 ^ 31) (h0 : 0 < d) (hd : d < 2 ^ 31) : nI a / nI d = nI (a / d) := by
  apply Int32.toInt_inj.mp
  rw [lg_idiv_nonneg (by rw [nI_toInt ha]; omega) (by rw [nI_toInt hd]; omega), nI_toInt ha, nI_toInt hd, nI_toInt (Nat.lt_of_le_of_lt (Nat.div_le_self a d) ha)]
  first | rfl | exact (Int.natCast_ediv _ _).symm
theorem pk_rem {a d : Nat} (ha : a < 2 ^ 31) (h0 : 0 < d) (hd : d < 2 ^ 31) : nI a - nI a / nI d * nI d = nI (a % d) := by
  rw [pk_div ha h0 hd, pk_mul, pk_sub (Nat.div_mul_le_self a d)]
  exact congrArg nI (by have := Nat.div_add_mod' a d; omega)
theorem pk_sub_toInt {a b : Nat} (ha : a < 2 ^ 30) (hb : b < 2 ^ 30) : (nI a - nI b).toInt = (a : Int) - b := by
  rw [Int32.toInt_sub, nI_toInt (by omega), nI_toInt (by omega)]
  exact Int.bmod_eq_of_le (by omega) (by omega)
theorem pk_sneg {a b : Nat} (hb : b < 2 ^ 30) (h : a < b) : nI a - nI b < 0 := by
  rw [Int32.lt_iff_toInt_lt, pk_sub_toInt (by omega) hb, show (0 : Int32).toInt = 0 from by decide]
  omega
theorem pk_ix (x : Int32) {n : Nat} (hn : n < 2 ^ 31) : x < 0 ∨ nI n ≤ x ∨ ∃ j : Nat, j < n ∧ x = nI j := by
  by_cases h : x < 0
  · exact Or.inl h
  · obtain ⟨j, hj, rfl⟩ := nI_of h
    by_cases h2 : j < n
    · exact Or.inr (Or.inr ⟨j, h2, rfl⟩)
    · exact Or.inr (Or.inl (nI_le (by omega) hj))
theorem pk_le {x y : Int32} {A B : Prop} (a b : Nat) (f : a ≤ b → A) (g : b < a → B) (hx : x = nI a := by rfl) (hy : y = nI b := by rfl) (ha : a < 2 ^ 31 := by omega) (hb : b < 2 ^ 31 := by omega) : (x ≤ y → A) ∧ (¬ x ≤ y → B) := by
  subst hx hy
  rw [nI_leI ha hb]
  exact ⟨f, fun z => g (by omega)⟩
theorem pk_lt {x y : Int32} {A B : Prop} (a b : Nat) (f : a < b → A) (g : b ≤ a → B) (hx : x = nI a := by rfl) (hy : y = nI b := by rfl) (ha : a < 2 ^ 31 := by omega) (hb : b < 2 ^ 31 := by omega) : (x < y → A) ∧ (¬ x < y → B) := by
  subst hx hy
  rw [nI_ltI ha hb]
  exact ⟨f, fun z => g (by omega)⟩
theorem pk_eq {x y : Int32} {A B : Prop} (a b : Nat) (f : a = b → A) (g : a ≠ b → B) (hx : x = nI a := by rfl) (hy : y = nI b := by rfl) (ha : a < 2 ^ 31 := by omega) (hb : b < 2 ^ 31 := by omega) : (x = y → A) ∧ (¬ x = y → B) := by
  subst hx hy
  rw [nI_eq ha hb]
  exact ⟨f, g⟩
theorem pk_in {x : Int32} (n N : Nat) (h : n < N) (hx : x = nI n := by rfl) (hN : N < 2 ^ 31 := by omega) : vp_in x N := by
  subst hx
  exact vp_in_nI h hN
theorem pk_cl {x : Int32} (n : Nat) (hx : x = nI n := by rfl) (h : n < 2 ^ 31 := by omega) : x.toNatClampNeg = n := by
  subst hx
  exact nI_clamp h
theorem pk_tn {n : Nat} (h : n < 2 ^ 32) : (nI n).toBitVec.toNat = n := Nat.mod_eq_of_lt h
theorem pk_lT {n : Nat} (h : n < 2 ^ 63) : (lN n).toInt = (n : Int) := lg_ofNat_toInt h
theorem pk_lLT {a b : Nat} (ha : a < 2 ^ 63) (hb : b < 2 ^ 63) : lN a < lN b ↔ a < b := by
  rw [Int64.lt_iff_toInt_lt, pk_lT ha, pk_lT hb]; omega
theorem pk_lLE {a b : Nat} (ha : a < 2 ^ 63) (hb : b < 2 ^ 63) : lN a ≤ lN b ↔ a ≤ b := by
  rw [Int64.le_iff_toInt_le, pk_lT ha, pk_lT hb]; omega
theorem pk_lEQ {a b : Nat} (ha : a < 2 ^ 63) (hb : b < 2 ^ 63) : lN a = lN b ↔ a = b := by
  rw [← Int64.toInt_inj, pk_lT ha, pk_lT hb]; omega
theorem pk_lOf {x : Int64} (h : ¬ x < 0) : ∃ k : Nat, k < 2 ^ 63 ∧ x = lN k := by
  rw [Int64.lt_iff_toInt_lt] at h
  have h0 : (0 : Int64).toInt = 0 := by decide
  have hx := Int64.toInt_lt x
  refine ⟨x.toInt.toNat, by omega, Int64.toInt_inj.mp ?_⟩
  rw [pk_lT (by omega)]
  omega
theorem pk_lDiv {a b : Nat} (ha : a < 2 ^ 63) (h0 : 0 < b) (hb : b < 2 ^ 63) : lN a / lN b = lN (a / b) := by
  apply Int64.toInt_inj.mp
  rw [lg_ldiv_nonneg (by rw [pk_lT ha]; omega) (by rw [pk_lT hb]; omega), pk_lT ha, pk_lT hb, pk_lT (Nat.lt_of_le_of_lt (Nat.div_le_self a b) ha)]
  rfl
theorem pk_lRem {a b : Nat} (ha : a < 2 ^ 63) (h0 : 0 < b) (hb : b < 2 ^ 63) : lN a - lN a / lN b * lN b = lN (a % b) := by
  rw [pk_lDiv ha h0 hb, lN_mul, lN_sub (Nat.div_mul_le_self a b)]
  exact congrArg lN (by have := Nat.div_add_mod' a b; omega)
theorem pk_loop {σ : Type} (W : Nat → Nat → σ → Prop) (I : Nat → σ → Prop) (e i0 : Nat) (s : σ) (hi : i0 ≤ e) (h0 : I i0 s) (hx : ∀ n s, I e s → W (n + 1) e s)
    (hs : ∀ n i s, i < e → I i s → (∀ s', I (i + 1) s' → W n (i + 1) s') → W (n + 1) i s) : ∃ n, W n i0 s :=
  ⟨e + 1, loop_i W I e hx hs (e + 1) i0 s hi (by omega) h0⟩
theorem pk_loopD {σ : Type} (W : Nat → Nat → σ → Prop) (I : Nat → σ → Prop) (hx : ∀ n s, I 0 s → W (n + 1) 0 s)
    (hs : ∀ n i s, I (i + 1) s → (∀ s', I i s' → W n i s') → W (n + 1) (i + 1) s) : ∀ (e : Nat) (s : σ), I e s → W (e + 1) e s := by
  intro e
  induction e with
  | zero => exact fun s h => hx 0 s h
  | succ e ih => exact fun s h => hs (e + 1) e s h (fun s' h' => ih s' h')
theorem lp1 {A1 : Type} (W : Nat → A1 → Prop) (I : A1 → Prop) (μ : A1 → Nat) (hs : ∀ (n : Nat) (a1 : A1), I a1 → (∀ (b1 : A1), I b1 → μ b1 < μ a1 → W n b1) → W (n + 1) a1) (a1 : A1) (h : I a1) : ∃ n, W n a1 :=
  loop_m (σ := A1) (fun n s => W n s) (fun s => I s) (fun s => μ s) (fun n s hI hk => hs n s hI (fun b1 h9 hm => hk b1 h9 hm)) a1 h
theorem lp2 {A1 A2 : Type} (W : Nat → A1 → A2 → Prop) (I : A1 → A2 → Prop) (μ : A1 → A2 → Nat) (hs : ∀ (n : Nat) (a1 : A1) (a2 : A2), I a1 a2 → (∀ (b1 : A1) (b2 : A2), I b1 b2 → μ b1 b2 < μ a1 a2 → W n b1 b2) → W (n + 1) a1 a2) (a1 : A1) (a2 : A2) (h : I a1 a2) : ∃ n, W n a1 a2 :=
  loop_m (σ := A1 × A2) (fun n s => W n s.1 s.2) (fun s => I s.1 s.2) (fun s => μ s.1 s.2) (fun n s hI hk => hs n s.1 s.2 hI (fun b1 b2 h9 hm => hk (b1, b2) h9 hm)) (a1, a2) h
theorem lp3 {A1 A2 A3 : Type} (W : Nat → A1 → A2 → A3 → Prop) (I : A1 → A2 → A3 → Prop) (μ : A1 → A2 → A3 → Nat) (hs : ∀ (n : Nat) (a1 : A1) (a2 : A2) (a3 : A3), I a1 a2 a3 → (∀ (b1 : A1) (b2 : A2) (b3 : A3), I b1 b2 b3 → μ b1 b2 b3 < μ a1 a2 a3 → W n b1 b2 b3) → W (n + 1) a1 a2 a3) (a1 : A1) (a2 : A2) (a3 : A3) (h : I a1 a2 a3) : ∃ n, W n a1 a2 a3 :=
  loop_m (σ := A1 × A2 × A3) (fun n s => W n s.1 s.2.1 s.2.2) (fun s => I s.1 s.2.1 s.2.2) (fun s => μ s.1 s.2.1 s.2.2) (fun n s hI hk => hs n s.1 s.2.1 s.2.2 hI (fun b1 b2 b3 h9 hm => hk (b1, b2, b3) h9 hm)) (a1, a2, a3) h
theorem lp4 {A1 A2 A3 A4 : Type} (W : Nat → A1 → A2 → A3 → A4 → Prop) (I : A1 → A2 → A3 → A4 → Prop) (μ : A1 → A2 → A3 → A4 → Nat) (hs : ∀ (n : Nat) (a1 : A1) (a2 : A2) (a3 : A3) (a4 : A4), I a1 a2 a3 a4 → (∀ (b1 : A1) (b2 : A2) (b3 : A3) (b4 : A4), I b1 b2 b3 b4 → μ b1 b2 b3 b4 < μ a1 a2 a3 a4 → W n b1 b2 b3 b4) → W (n + 1) a1 a2 a3 a4) (a1 : A1) (a2 : A2) (a3 : A3) (a4 : A4) (h : I a1 a2 a3 a4) : ∃ n, W n a1 a2 a3 a4 :=
  loop_m (σ := A1 × A2 × A3 × A4) (fun n s => W n s.1 s.2.1 s.2.2.1 s.2.2.2) (fun s => I s.1 s.2.1 s.2.2.1 s.2.2.2) (fun s => μ s.1 s.2.1 s.2.2.1 s.2.2.2) (fun n s hI hk => hs n s.1 s.2.1 s.2.2.1 s.2.2.2 hI (fun b1 b2 b3 b4 h9 hm => hk (b1, b2, b3, b4) h9 hm)) (a1, a2, a3, a4) h
theorem lp5 {A1 A2 A3 A4 A5 : Type} (W : Nat → A1 → A2 → A3 → A4 → A5 → Prop) (I : A1 → A2 → A3 → A4 → A5 → Prop) (μ : A1 → A2 → A3 → A4 → A5 → Nat) (hs : ∀ (n : Nat) (a1 : A1) (a2 : A2) (a3 : A3) (a4 : A4) (a5 : A5), I a1 a2 a3 a4 a5 → (∀ (b1 : A1) (b2 : A2) (b3 : A3) (b4 : A4) (b5 : A5), I b1 b2 b3 b4 b5 → μ b1 b2 b3 b4 b5 < μ a1 a2 a3 a4 a5 → W n b1 b2 b3 b4 b5) → W (n + 1) a1 a2 a3 a4 a5) (a1 : A1) (a2 : A2) (a3 : A3) (a4 : A4) (a5 : A5) (h : I a1 a2 a3 a4 a5) : ∃ n, W n a1 a2 a3 a4 a5 :=
  loop_m (σ := A1 × A2 × A3 × A4 × A5) (fun n s => W n s.1 s.2.1 s.2.2.1 s.2.2.2.1 s.2.2.2.2) (fun s => I s.1 s.2.1 s.2.2.1 s.2.2.2.1 s.2.2.2.2) (fun s => μ s.1 s.2.1 s.2.2.1 s.2.2.2.1 s.2.2.2.2) (fun n s hI hk => hs n s.1 s.2.1 s.2.2.1 s.2.2.2.1 s.2.2.2.2 hI (fun b1 b2 b3 b4 b5 h9 hm => hk (b1, b2, b3, b4, b5) h9 hm)) (a1, a2, a3, a4, a5) h
theorem lp6 {A1 A2 A3 A4 A5 A6 : Type} (W : Nat → A1 → A2 → A3 → A4 → A5 → A6 → Prop) (I : A1 → A2 → A3 → A4 → A5 → A6 → Prop) (μ : A1 → A2 → A3 → A4 → A5 → A6 → Nat) (hs : ∀ (n : Nat) (a1 : A1) (a2 : A2) (a3 : A3) (a4 : A4) (a5 : A5) (a6 : A6), I a1 a2 a3 a4 a5 a6 → (∀ (b1 : A1) (b2 : A2) (b3 : A3) (b4 : A4) (b5 : A5) (b6 : A6), I b1 b2 b3 b4 b5 b6 → μ b1 b2 b3 b4 b5 b6 < μ a1 a2 a3 a4 a5 a6 → W n b1 b2 b3 b4 b5 b6) → W (n + 1) a1 a2 a3 a4 a5 a6) (a1 : A1) (a2 : A2) (a3 : A3) (a4 : A4) (a5 : A5) (a6 : A6) (h : I a1 a2 a3 a4 a5 a6) : ∃ n, W n a1 a2 a3 a4 a5 a6 :=
  loop_m (σ := A1 × A2 × A3 × A4 × A5 × A6) (fun n s => W n s.1 s.2.1 s.2.2.1 s.2.2.2.1 s.2.2.2.2.1 s.2.2.2.2.2) (fun s => I s.1 s.2.1 s.2.2.1 s.2.2.2.1 s.2.2.2.2.1 s.2.2.2.2.2) (fun s => μ s.1 s.2.1 s.2.2.1 s.2.2.2.1 s.2.2.2.2.1 s.2.2.2.2.2) (fun n s hI hk => hs n s.1 s.2.1 s.2.2.1 s.2.2.2.1 s.2.2.2.2.1 s.2.2.2.2.2 hI (fun b1 b2 b3 b4 b5 b6 h9 hm => hk (b1, b2, b3, b4, b5, b6) h9 hm)) (a1, a2, a3, a4, a5, a6) h
theorem lp7 {A1 A2 A3 A4 A5 A6 A7 : Type} (W : Nat → A1 → A2 → A3 → A4 → A5 → A6 → A7 → Prop) (I : A1 → A2 → A3 → A4 → A5 → A6 → A7 → Prop) (μ : A1 → A2 → A3 → A4 → A5 → A6 → A7 → Nat) (hs : ∀ (n : Nat) (a1 : A1) (a2 : A2) (a3 : A3) (a4 : A4) (a5 : A5) (a6 : A6) (a7 : A7), I a1 a2 a3 a4 a5 a6 a7 → (∀ (b1 : A1) (b2 : A2) (b3 : A3) (b4 : A4) (b5 : A5) (b6 : A6) (b7 : A7), I b1 b2 b3 b4 b5 b6 b7 → μ b1 b2 b3 b4 b5 b6 b7 < μ a1 a2 a3 a4 a5 a6 a7 → W n b1 b2 b3 b4 b5 b6 b7) → W (n + 1) a1 a2 a3 a4 a5 a6 a7) (a1 : A1) (a2 : A2) (a3 : A3) (a4 : A4) (a5 : A5) (a6 : A6) (a7 : A7) (h : I a1 a2 a3 a4 a5 a6 a7) : ∃ n, W n a1 a2 a3 a4 a5 a6 a7 :=
  loop_m (σ := A1 × A2 × A3 × A4 × A5 × A6 × A7) (fun n s => W n s.1 s.2.1 s.2.2.1 s.2.2.2.1 s.2.2.2.2.1 s.2.2.2.2.2.1 s.2.2.2.2.2.2) (fun s => I s.1 s.2.1 s.2.2.1 s.2.2.2.1 s.2.2.2.2.1 s.2.2.2.2.2.1 s.2.2.2.2.2.2) (fun s => μ s.1 s.2.1 s.2.2.1 s.2.2.2.1 s.2.2.2.2.1 s.2.2.2.2.2.1 s.2.2.2.2.2.2) (fun n s hI hk => hs n s.1 s.2.1 s.2.2.1 s.2.2.2.1 s.2.2.2.2.1 s.2.2.2.2.2.1 s.2.2.2.2.2.2 hI (fun b1 b2 b3 b4 b5 b6 b7 h9 hm => hk (b1, b2, b3, b4, b5, b6, b7) h9 hm)) (a1, a2, a3, a4, a5, a6, a7) h
theorem lp8 {A1 A2 A3 A4 A5 A6 A7 A8 : Type} (W : Nat → A1 → A2 → A3 → A4 → A5 → A6 → A7 → A8 → Prop) (I : A1 → A2 → A3 → A4 → A5 → A6 → A7 → A8 → Prop) (μ : A1 → A2 → A3 → A4 → A5 → A6 → A7 → A8 → Nat) (hs : ∀ (n : Nat) (a1 : A1) (a2 : A2) (a3 : A3) (a4 : A4) (a5 : A5) (a6 : A6) (a7 : A7) (a8 : A8), I a1 a2 a3 a4 a5 a6 a7 a8 → (∀ (b1 : A1) (b2 : A2) (b3 : A3) (b4 : A4) (b5 : A5) (b6 : A6) (b7 : A7) (b8 : A8), I b1 b2 b3 b4 b5 b6 b7 b8 → μ b1 b2 b3 b4 b5 b6 b7 b8 < μ a1 a2 a3 a4 a5 a6 a7 a8 → W n b1 b2 b3 b4 b5 b6 b7 b8) → W (n + 1) a1 a2 a3 a4 a5 a6 a7 a8) (a1 : A1) (a2 : A2) (a3 : A3) (a4 : A4) (a5 : A5) (a6 : A6) (a7 : A7) (a8 : A8) (h : I a1 a2 a3 a4 a5 a6 a7 a8) : ∃ n, W n a1 a2 a3 a4 a5 a6 a7 a8 :=
  loop_m (σ := A1 × A2 × A3 × A4 × A5 × A6 × A7 × A8) (fun n s => W n s.1 s.2.1 s.2.2.1 s.2.2.2.1 s.2.2.2.2.1 s.2.2.2.2.2.1 s.2.2.2.2.2.2.1 s.2.2.2.2.2.2.2) (fun s => I s.1 s.2.1 s.2.2.1 s.2.2.2.1 s.2.2.2.2.1 s.2.2.2.2.2.1 s.2.2.2.2.2.2.1 s.2.2.2.2.2.2.2) (fun s => μ s.1 s.2.1 s.2.2.1 s.2.2.2.1 s.2.2.2.2.1 s.2.2.2.2.2.1 s.2.2.2.2.2.2.1 s.2.2.2.2.2.2.2) (fun n s hI hk => hs n s.1 s.2.1 s.2.2.1 s.2.2.2.1 s.2.2.2.2.1 s.2.2.2.2.2.1 s.2.2.2.2.2.2.1 s.2.2.2.2.2.2.2 hI (fun b1 b2 b3 b4 b5 b6 b7 b8 h9 hm => hk (b1, b2, b3, b4, b5, b6, b7, b8) h9 hm)) (a1, a2, a3, a4, a5, a6, a7, a8) h
theorem lp9 {A1 A2 A3 A4 A5 A6 A7 A8 A9 : Type} (W : Nat → A1 → A2 → A3 → A4 → A5 → A6 → A7 → A8 → A9 → Prop) (I : A1 → A2 → A3 → A4 → A5 → A6 → A7 → A8 → A9 → Prop) (μ : A1 → A2 → A3 → A4 → A5 → A6 → A7 → A8 → A9 → Nat) (hs : ∀ (n : Nat) (a1 : A1) (a2 : A2) (a3 : A3) (a4 : A4) (a5 : A5) (a6 : A6) (a7 : A7) (a8 : A8) (a9 : A9), I a1 a2 a3 a4 a5 a6 a7 a8 a9 → (∀ (b1 : A1) (b2 : A2) (b3 : A3) (b4 : A4) (b5 : A5) (b6 : A6) (b7 : A7) (b8 : A8) (b9 : A9), I b1 b2 b3 b4 b5 b6 b7 b8 b9 → μ b1 b2 b3 b4 b5 b6 b7 b8 b9 < μ a1 a2 a3 a4 a5 a6 a7 a8 a9 → W n b1 b2 b3 b4 b5 b6 b7 b8 b9) → W (n + 1) a1 a2 a3 a4 a5 a6 a7 a8 a9) (a1 : A1) (a2 : A2) (a3 : A3) (a4 : A4) (a5 : A5) (a6 : A6) (a7 : A7) (a8 : A8) (a9 : A9) (h : I a1 a2 a3 a4 a5 a6 a7 a8 a9) : ∃ n, W n a1 a2 a3 a4 a5 a6 a7 a8 a9 :=
  loop_m (σ := A1 × A2 × A3 × A4 × A5 × A6 × A7 × A8 × A9) (fun n s => W n s.1 s.2.1 s.2.2.1 s.2.2.2.1 s.2.2.2.2.1 s.2.2.2.2.2.1 s.2.2.2.2.2.2.1 s.2.2.2.2.2.2.2.1 s.2.2.2.2.2.2.2.2) (fun s => I s.1 s.2.1 s.2.2.1 s.2.2.2.1 s.2.2.2.2.1 s.2.2.2.2.2.1 s.2.2.2.2.2.2.1 s.2.2.2.2.2.2.2.1 s.2.2.2.2.2.2.2.2) (fun s => μ s.1 s.2.1 s.2.2.1 s.2.2.2.1 s.2.2.2.2.1 s.2.2.2.2.2.1 s.2.2.2.2.2.2.1 s.2.2.2.2.2.2.2.1 s.2.2.2.2.2.2.2.2) (fun n s hI hk => hs n s.1 s.2.1 s.2.2.1 s.2.2.2.1 s.2.2.2.2.1 s.2.2.2.2.2.1 s.2.2.2.2.2.2.1 s.2.2.2.2.2.2.2.1 s.2.2.2.2.2.2.2.2 hI (fun b1 b2 b3 b4 b5 b6 b7 b8 b9 h9 hm => hk (b1, b2, b3, b4, b5, b6, b7, b8, b9) h9 hm)) (a1, a2, a3, a4, a5, a6, a7, a8, a9) h
theorem nx_and (a b : Nat) : nI a &&& nI b = nI (a &&& b) := by
  apply Int32.toBitVec_inj.1
  show BitVec.ofNat 32 a &&& BitVec.ofNat 32 b = BitVec.ofNat 32 (a &&& b)
  apply BitVec.eq_of_getLsbD_eq
  intro i hi
  simp [hi]
end
section
def nd_2 (x00 x01 x10 x11 : Int) : Int := x00 * x11 - x01 * x10
def nd_3 (x00 x01 x02 x10 x11 x12 x20 x21 x22 : Int) : Int := x00 * nd_2 x11 x12 x21 x22 - x01 * nd_2 x10 x12 x20 x22 + x02 * nd_2 x10 x11 x20 x21
def nd_4 (x00 x01 x02 x03 x10 x11 x12 x13 x20 x21 x22 x23 x30 x31 x32 x33 : Int) : Int := x00 * nd_3 x11 x12 x13 x21 x22 x23 x31 x32 x33 - x01 * nd_3 x10 x12 x13 x20 x22 x23 x30 x32 x33 + x02 * nd_3 x10 x11 x13 x20 x21 x23 x30 x31 x33 - x03 * nd_3 x10 x11 x12 x20 x21 x22 x30 x31 x32
def nd_5 (x00 x01 x02 x03 x04 x10 x11 x12 x13 x14 x20 x21 x22 x23 x24 x30 x31 x32 x33 x34 x40 x41 x42 x43 x44 : Int) : Int := x00 * nd_4 x11 x12 x13 x14 x21 x22 x23 x24 x31 x32 x33 x34 x41 x42 x43 x44 - x01 * nd_4 x10 x12 x13 x14 x20 x22 x23 x24 x30 x32 x33 x34 x40 x42 x43 x44 + x02 * nd_4 x10 x11 x13 x14 x20 x21 x23 x24 x30 x31 x33 x34 x40 x41 x43 x44 - x03 * nd_4 x10 x11 x12 x14 x20 x21 x22 x24 x30 x31 x32 x34 x40 x41 x42 x44 + x04 * nd_4 x10 x11 x12 x13 x20 x21 x22 x23 x30 x31 x32 x33 x40 x41 x42 x43
theorem nd_sy0 (x00 x01 x10 x11 : Int) : x00 * x11 - x10 * x01 = 1 * (nd_2 x00 x01 x10 x11) := by
  simp only [nd_2]
  grind
theorem nd_sy1 (x00 x01 x02 x10 x11 x12 x20 x21 x22 : Int) : (nd_2 x00 x01 x10 x11) * (nd_2 x00 x02 x20 x22) - (nd_2 x00 x01 x20 x21) * (nd_2 x00 x02 x10 x12) = x00 * (nd_3 x00 x01 x02 x10 x11 x12 x20 x21 x22) := by
  simp only [nd_3, nd_2]
  grind
theorem nd_sy2 (x00 x01 x02 x03 x10 x11 x12 x13 x20 x21 x22 x23 x30 x31 x32 x33 : Int) : (nd_3 x00 x01 x02 x10 x11 x12 x20 x21 x22) * (nd_3 x00 x01 x03 x10 x11 x13 x30 x31 x33) - (nd_3 x00 x01 x02 x10 x11 x12 x30 x31 x32) * (nd_3 x00 x01 x03 x10 x11 x13 x20 x21 x23) = (nd_2 x00 x01 x10 x11) * (nd_4 x00 x01 x02 x03 x10 x11 x12 x13 x20 x21 x22 x23 x30 x31 x32 x33) := by
  simp only [nd_4, nd_3, nd_2]
  grind
theorem nd_sy3 (x00 x01 x02 x03 x04 x10 x11 x12 x13 x14 x20 x21 x22 x23 x24 x30 x31 x32 x33 x34 x40 x41 x42 x43 x44 : Int) : (nd_4 x00 x01 x02 x03 x10 x11 x12 x13 x20 x21 x22 x23 x30 x31 x32 x33) * (nd_4 x00 x01 x02 x04 x10 x11 x12 x14 x20 x21 x22 x24 x40 x41 x42 x44) - (nd_4 x00 x01 x02 x03 x10 x11 x12 x13 x20 x21 x22 x23 x40 x41 x42 x43) * (nd_4 x00 x01 x02 x04 x10 x11 x12 x14 x20 x21 x22 x24 x30 x31 x32 x34) = (nd_3 x00 x01 x02 x10 x11 x12 x20 x21 x22) * (nd_5 x00 x01 x02 x03 x04 x10 x11 x12 x13 x14 x20 x21 x22 x23 x24 x30 x31 x32 x33 x34 x40 x41 x42 x43 x44) := by
  simp only [nd_5, nd_4, nd_3, nd_2]
  grind
theorem nd_tr2 (x00 x01 x10 x11 : Int) : nd_2 x00 x10 x01 x11 = nd_2 x00 x01 x10 x11 := by
  simp only [nd_2]
  grind
theorem nd_tr3 (x00 x01 x02 x10 x11 x12 x20 x21 x22 : Int) : nd_3 x00 x10 x20 x01 x11 x21 x02 x12 x22 = nd_3 x00 x01 x02 x10 x11 x12 x20 x21 x22 := by
  simp only [nd_3, nd_2]
  grind
theorem nd_tr4 (x00 x01 x02 x03 x10 x11 x12 x13 x20 x21 x22 x23 x30 x31 x32 x33 : Int) : nd_4 x00 x10 x20 x30 x01 x11 x21 x31 x02 x12 x22 x32 x03 x13 x23 x33 = nd_4 x00 x01 x02 x03 x10 x11 x12 x13 x20 x21 x22 x23 x30 x31 x32 x33 := by
  simp only [nd_4, nd_3, nd_2]
  grind
theorem nd_tr5 (x00 x01 x02 x03 x04 x10 x11 x12 x13 x14 x20 x21 x22 x23 x24 x30 x31 x32 x33 x34 x40 x41 x42 x43 x44 : Int) : nd_5 x00 x10 x20 x30 x40 x01 x11 x21 x31 x41 x02 x12 x22 x32 x42 x03 x13 x23 x33 x43 x04 x14 x24 x34 x44 = nd_5 x00 x01 x02 x03 x04 x10 x11 x12 x13 x14 x20 x21 x22 x23 x24 x30 x31 x32 x33 x34 x40 x41 x42 x43 x44 := by
  simp only [nd_5, nd_4, nd_3, nd_2]
  grind
theorem nd_sw20 (x00 x01 x10 x11 : Int) : nd_2 x11 x10 x01 x00 = nd_2 x00 x01 x10 x11 := by
  simp only [nd_2]
  grind
theorem nd_sw30 (x00 x01 x02 x10 x11 x12 x20 x21 x22 : Int) : nd_3 x11 x10 x12 x01 x00 x02 x21 x20 x22 = nd_3 x00 x01 x02 x10 x11 x12 x20 x21 x22 := by
  simp only [nd_3, nd_2]
  grind
theorem nd_sw31 (x00 x01 x02 x10 x11 x12 x20 x21 x22 : Int) : nd_3 x00 x02 x01 x20 x22 x21 x10 x12 x11 = nd_3 x00 x01 x02 x10 x11 x12 x20 x21 x22 := by
  simp only [nd_3, nd_2]
  grind
theorem nd_sw40 (x00 x01 x02 x03 x10 x11 x12 x13 x20 x21 x22 x23 x30 x31 x32 x33 : Int) : nd_4 x11 x10 x12 x13 x01 x00 x02 x03 x21 x20 x22 x23 x31 x30 x32 x33 = nd_4 x00 x01 x02 x03 x10 x11 x12 x13 x20 x21 x22 x23 x30 x31 x32 x33 := by
  simp only [nd_4, nd_3, nd_2]
  grind
theorem nd_sw41 (x00 x01 x02 x03 x10 x11 x12 x13 x20 x21 x22 x23 x30 x31 x32 x33 : Int) : nd_4 x00 x02 x01 x03 x20 x22 x21 x23 x10 x12 x11 x13 x30 x32 x31 x33 = nd_4 x00 x01 x02 x03 x10 x11 x12 x13 x20 x21 x22 x23 x30 x31 x32 x33 := by
  simp only [nd_4, nd_3, nd_2]
  grind
theorem nd_sw42 (x00 x01 x02 x03 x10 x11 x12 x13 x20 x21 x22 x23 x30 x31 x32 x33 : Int) : nd_4 x00 x01 x03 x02 x10 x11 x13 x12 x30 x31 x33 x32 x20 x21 x23 x22 = nd_4 x00 x01 x02 x03 x10 x11 x12 x13 x20 x21 x22 x23 x30 x31 x32 x33 := by
  simp only [nd_4, nd_3, nd_2]
  grind
theorem nd_sw50 (x00 x01 x02 x03 x04 x10 x11 x12 x13 x14 x20 x21 x22 x23 x24 x30 x31 x32 x33 x34 x40 x41 x42 x43 x44 : Int) : nd_5 x11 x10 x12 x13 x14 x01 x00 x02 x03 x04 x21 x20 x22 x23 x24 x31 x30 x32 x33 x34 x41 x40 x42 x43 x44 = nd_5 x00 x01 x02 x03 x04 x10 x11 x12 x13 x14 x20 x21 x22 x23 x24 x30 x31 x32 x33 x34 x40 x41 x42 x43 x44 := by
  simp only [nd_5, nd_4, nd_3, nd_2]
  grind
theorem nd_sw51 (x00 x01 x02 x03 x04 x10 x11 x12 x13 x14 x20 x21 x22 x23 x24 x30 x31 x32 x33 x34 x40 x41 x42 x43 x44 : Int) : nd_5 x00 x02 x01 x03 x04 x20 x22 x21 x23 x24 x10 x12 x11 x13 x14 x30 x32 x31 x33 x34 x40 x42 x41 x43 x44 = nd_5 x00 x01 x02 x03 x04 x10 x11 x12 x13 x14 x20 x21 x22 x23 x24 x30 x31 x32 x33 x34 x40 x41 x42 x43 x44 := by
  simp only [nd_5, nd_4, nd_3, nd_2]
  grind
theorem nd_sw52 (x00 x01 x02 x03 x04 x10 x11 x12 x13 x14 x20 x21 x22 x23 x24 x30 x31 x32 x33 x34 x40 x41 x42 x43 x44 : Int) : nd_5 x00 x01 x03 x02 x04 x10 x11 x13 x12 x14 x30 x31 x33 x32 x34 x20 x21 x23 x22 x24 x40 x41 x43 x42 x44 = nd_5 x00 x01 x02 x03 x04 x10 x11 x12 x13 x14 x20 x21 x22 x23 x24 x30 x31 x32 x33 x34 x40 x41 x42 x43 x44 := by
  simp only [nd_5, nd_4, nd_3, nd_2]
  grind
theorem nd_sw53 (x00 x01 x02 x03 x04 x10 x11 x12 x13 x14 x20 x21 x22 x23 x24 x30 x31 x32 x33 x34 x40 x41 x42 x43 x44 : Int) : nd_5 x00 x01 x02 x04 x03 x10 x11 x12 x14 x13 x20 x21 x22 x24 x23 x40 x41 x42 x44 x43 x30 x31 x32 x34 x33 = nd_5 x00 x01 x02 x03 x04 x10 x11 x12 x13 x14 x20 x21 x22 x23 x24 x30 x31 x32 x33 x34 x40 x41 x42 x43 x44 := by
  simp only [nd_5, nd_4, nd_3, nd_2]
  grind
theorem nd_li1 (w0 : Int) : w0 + (0) = w0 := by grind
theorem nd_ad1 (w0 v0 : Int) : w0 + v0 = w0 + v0 := by grind
theorem nd_sc1 (w0 t : Int) : t * w0 = t * w0 := by grind
theorem nd_li2 (x00 x01 w0 w1 y0 : Int) : nd_2 x00 x01 (w0 + (y0 * x00 + 0)) (w1 + (y0 * x01 + 0)) = nd_2 x00 x01 w0 w1 := by
  simp only [nd_2]
  grind
theorem nd_ad2 (x00 x01 w0 w1 v0 v1 : Int) : nd_2 x00 x01 (w0 + v0) (w1 + v1) = nd_2 x00 x01 w0 w1 + nd_2 x00 x01 v0 v1 := by
  simp only [nd_2]
  grind
theorem nd_sc2 (x00 x01 w0 w1 t : Int) : nd_2 x00 x01 (t * w0) (t * w1) = t * (nd_2 x00 x01 w0 w1) := by
  simp only [nd_2]
  grind
theorem nd_co2 (x00 x01 w0 w1 : Int) : nd_2 x00 x01 w0 w1 = ((-w0) * x01 + 0) + x00 * w1 := by
  simp only [nd_2]
  grind
theorem nd_li3 (x00 x01 x02 x10 x11 x12 w0 w1 w2 y0 y1 : Int) : nd_3 x00 x01 x02 x10 x11 x12 (w0 + (y0 * x00 + (y1 * x10 + 0))) (w1 + (y0 * x01 + (y1 * x11 + 0))) (w2 + (y0 * x02 + (y1 * x12 + 0))) = nd_3 x00 x01 x02 x10 x11 x12 w0 w1 w2 := by
  simp only [nd_3, nd_2]
  grind
theorem nd_ad3 (x00 x01 x02 x10 x11 x12 w0 w1 w2 v0 v1 v2 : Int) : nd_3 x00 x01 x02 x10 x11 x12 (w0 + v0) (w1 + v1) (w2 + v2) = nd_3 x00 x01 x02 x10 x11 x12 w0 w1 w2 + nd_3 x00 x01 x02 x10 x11 x12 v0 v1 v2 := by
  simp only [nd_3, nd_2]
  grind
theorem nd_sc3 (x00 x01 x02 x10 x11 x12 w0 w1 w2 t : Int) : nd_3 x00 x01 x02 x10 x11 x12 (t * w0) (t * w1) (t * w2) = t * (nd_3 x00 x01 x02 x10 x11 x12 w0 w1 w2) := by
  simp only [nd_3, nd_2]
  grind
theorem nd_co3 (x00 x01 x02 x10 x11 x12 w0 w1 w2 : Int) : nd_3 x00 x01 x02 x10 x11 x12 w0 w1 w2 = ((nd_2 x10 x11 w0 w1) * x02 + ((-(nd_2 x00 x01 w0 w1)) * x12 + 0)) + (nd_2 x00 x01 x10 x11) * w2 := by
  simp only [nd_3, nd_2]
  grind
theorem nd_li4 (x00 x01 x02 x03 x10 x11 x12 x13 x20 x21 x22 x23 w0 w1 w2 w3 y0 y1 y2 : Int) : nd_4 x00 x01 x02 x03 x10 x11 x12 x13 x20 x21 x22 x23 (w0 + (y0 * x00 + (y1 * x10 + (y2 * x20 + 0)))) (w1 + (y0 * x01 + (y1 * x11 + (y2 * x21 + 0)))) (w2 + (y0 * x02 + (y1 * x12 + (y2 * x22 + 0)))) (w3 + (y0 * x03 + (y1 * x13 + (y2 * x23 + 0)))) = nd_4 x00 x01 x02 x03 x10 x11 x12 x13 x20 x21 x22 x23 w0 w1 w2 w3 := by
  simp only [nd_4, nd_3, nd_2]
  grind
theorem nd_ad4 (x00 x01 x02 x03 x10 x11 x12 x13 x20 x21 x22 x23 w0 w1 w2 w3 v0 v1 v2 v3 : Int) : nd_4 x00 x01 x02 x03 x10 x11 x12 x13 x20 x21 x22 x23 (w0 + v0) (w1 + v1) (w2 + v2) (w3 + v3) = nd_4 x00 x01 x02 x03 x10 x11 x12 x13 x20 x21 x22 x23 w0 w1 w2 w3 + nd_4 x00 x01 x02 x03 x10 x11 x12 x13 x20 x21 x22 x23 v0 v1 v2 v3 := by
  simp only [nd_4, nd_3, nd_2]
  grind
theorem nd_sc4 (x00 x01 x02 x03 x10 x11 x12 x13 x20 x21 x22 x23 w0 w1 w2 w3 t : Int) : nd_4 x00 x01 x02 x03 x10 x11 x12 x13 x20 x21 x22 x23 (t * w0) (t * w1) (t * w2) (t * w3) = t * (nd_4 x00 x01 x02 x03 x10 x11 x12 x13 x20 x21 x22 x23 w0 w1 w2 w3) := by
  simp only [nd_4, nd_3, nd_2]
  grind
theorem nd_co4 (x00 x01 x02 x03 x10 x11 x12 x13 x20 x21 x22 x23 w0 w1 w2 w3 : Int) : nd_4 x00 x01 x02 x03 x10 x11 x12 x13 x20 x21 x22 x23 w0 w1 w2 w3 = ((-(nd_3 x10 x11 x12 x20 x21 x22 w0 w1 w2)) * x03 + ((nd_3 x00 x01 x02 x20 x21 x22 w0 w1 w2) * x13 + ((-(nd_3 x00 x01 x02 x10 x11 x12 w0 w1 w2)) * x23 + 0))) + (nd_3 x00 x01 x02 x10 x11 x12 x20 x21 x22) * w3 := by
  simp only [nd_4, nd_3, nd_2]
  grind
theorem nd_li5 (x00 x01 x02 x03 x04 x10 x11 x12 x13 x14 x20 x21 x22 x23 x24 x30 x31 x32 x33 x34 w0 w1 w2 w3 w4 y0 y1 y2 y3 : Int) : nd_5 x00 x01 x02 x03 x04 x10 x11 x12 x13 x14 x20 x21 x22 x23 x24 x30 x31 x32 x33 x34 (w0 + (y0 * x00 + (y1 * x10 + (y2 * x20 + (y3 * x30 + 0))))) (w1 + (y0 * x01 + (y1 * x11 + (y2 * x21 + (y3 * x31 + 0))))) (w2 + (y0 * x02 + (y1 * x12 + (y2 * x22 + (y3 * x32 + 0))))) (w3 + (y0 * x03 + (y1 * x13 + (y2 * x23 + (y3 * x33 + 0))))) (w4 + (y0 * x04 + (y1 * x14 + (y2 * x24 + (y3 * x34 + 0))))) = nd_5 x00 x01 x02 x03 x04 x10 x11 x12 x13 x14 x20 x21 x22 x23 x24 x30 x31 x32 x33 x34 w0 w1 w2 w3 w4 := by
  simp only [nd_5, nd_4, nd_3, nd_2]
  grind
theorem nd_ad5 (x00 x01 x02 x03 x04 x10 x11 x12 x13 x14 x20 x21 x22 x23 x24 x30 x31 x32 x33 x34 w0 w1 w2 w3 w4 v0 v1 v2 v3 v4 : Int) : nd_5 x00 x01 x02 x03 x04 x10 x11 x12 x13 x14 x20 x21 x22 x23 x24 x30 x31 x32 x33 x34 (w0 + v0) (w1 + v1) (w2 + v2) (w3 + v3) (w4 + v4) = nd_5 x00 x01 x02 x03 x04 x10 x11 x12 x13 x14 x20 x21 x22 x23 x24 x30 x31 x32 x33 x34 w0 w1 w2 w3 w4 + nd_5 x00 x01 x02 x03 x04 x10 x11 x12 x13 x14 x20 x21 x22 x23 x24 x30 x31 x32 x33 x34 v0 v1 v2 v3 v4 := by
  simp only [nd_5, nd_4, nd_3, nd_2]
  grind
theorem nd_sc5 (x00 x01 x02 x03 x04 x10 x11 x12 x13 x14 x20 x21 x22 x23 x24 x30 x31 x32 x33 x34 w0 w1 w2 w3 w4 t : Int) : nd_5 x00 x01 x02 x03 x04 x10 x11 x12 x13 x14 x20 x21 x22 x23 x24 x30 x31 x32 x33 x34 (t * w0) (t * w1) (t * w2) (t * w3) (t * w4) = t * (nd_5 x00 x01 x02 x03 x04 x10 x11 x12 x13 x14 x20 x21 x22 x23 x24 x30 x31 x32 x33 x34 w0 w1 w2 w3 w4) := by
  simp only [nd_5, nd_4, nd_3, nd_2]
  grind
theorem nd_co5 (x00 x01 x02 x03 x04 x10 x11 x12 x13 x14 x20 x21 x22 x23 x24 x30 x31 x32 x33 x34 w0 w1 w2 w3 w4 : Int) : nd_5 x00 x01 x02 x03 x04 x10 x11 x12 x13 x14 x20 x21 x22 x23 x24 x30 x31 x32 x33 x34 w0 w1 w2 w3 w4 = ((nd_4 x10 x11 x12 x13 x20 x21 x22 x23 x30 x31 x32 x33 w0 w1 w2 w3) * x04 + ((-(nd_4 x00 x01 x02 x03 x20 x21 x22 x23 x30 x31 x32 x33 w0 w1 w2 w3)) * x14 + ((nd_4 x00 x01 x02 x03 x10 x11 x12 x13 x30 x31 x32 x33 w0 w1 w2 w3) * x24 + ((-(nd_4 x00 x01 x02 x03 x10 x11 x12 x13 x20 x21 x22 x23 w0 w1 w2 w3)) * x34 + 0)))) + (nd_4 x00 x01 x02 x03 x10 x11 x12 x13 x20 x21 x22 x23 x30 x31 x32 x33) * w4 := by
  simp only [nd_5, nd_4, nd_3, nd_2]
  grind
theorem nd_un1 : (1 : Int) = 1 := rfl
theorem nd_un2 (x00 x01 : Int) : nd_2 x00 x01 (0) (1) = x00 := by
  simp only [nd_2]
  grind
theorem nd_un3 (x00 x01 x02 x10 x11 x12 : Int) : nd_3 x00 x01 x02 x10 x11 x12 (0) (0) (1) = nd_2 x00 x01 x10 x11 := by
  simp only [nd_3, nd_2]
  grind
theorem nd_un4 (x00 x01 x02 x03 x10 x11 x12 x13 x20 x21 x22 x23 : Int) : nd_4 x00 x01 x02 x03 x10 x11 x12 x13 x20 x21 x22 x23 (0) (0) (0) (1) = nd_3 x00 x01 x02 x10 x11 x12 x20 x21 x22 := by
  simp only [nd_4, nd_3, nd_2]
  grind
theorem nd_un5 (x00 x01 x02 x03 x04 x10 x11 x12 x13 x14 x20 x21 x22 x23 x24 x30 x31 x32 x33 x34 : Int) : nd_5 x00 x01 x02 x03 x04 x10 x11 x12 x13 x14 x20 x21 x22 x23 x24 x30 x31 x32 x33 x34 (0) (0) (0) (0) (1) = nd_4 x00 x01 x02 x03 x10 x11 x12 x13 x20 x21 x22 x23 x30 x31 x32 x33 := by
  simp only [nd_5, nd_4, nd_3, nd_2]
  grind
theorem nd_bm {x y : Int} {a b : Nat} (hx : x.natAbs ≤ a) (hy : y.natAbs ≤ b) : (x * y).natAbs ≤ a * b := by rw [Int.natAbs_mul]; exact Nat.mul_le_mul hx hy
theorem nd_ba {x y : Int} {a b : Nat} (hx : x.natAbs ≤ a) (hy : y.natAbs ≤ b) : (x + y).natAbs ≤ a + b := by omega
theorem nd_bs {x y : Int} {a b : Nat} (hx : x.natAbs ≤ a) (hy : y.natAbs ≤ b) : (x - y).natAbs ≤ a + b := by omega
theorem nd_b2 {x00 x01 x10 x11 : Int} (h00 : x00.natAbs ≤ 45) (h01 : x01.natAbs ≤ 45) (h10 : x10.natAbs ≤ 45) (h11 : x11.natAbs ≤ 45) : (nd_2 x00 x01 x10 x11).natAbs ≤ 4050 := Nat.le_trans (nd_bs (nd_bm h00 h11) (nd_bm h01 h10)) (by decide)
theorem nd_b3 {x00 x01 x02 x10 x11 x12 x20 x21 x22 : Int} (h00 : x00.natAbs ≤ 45) (h01 : x01.natAbs ≤ 45) (h02 : x02.natAbs ≤ 45) (h10 : x10.natAbs ≤ 45) (h11 : x11.natAbs ≤ 45) (h12 : x12.natAbs ≤ 45) (h20 : x20.natAbs ≤ 45) (h21 : x21.natAbs ≤ 45) (h22 : x22.natAbs ≤ 45) : (nd_3 x00 x01 x02 x10 x11 x12 x20 x21 x22).natAbs ≤ 546750 := Nat.le_trans (nd_ba (nd_bs (nd_bm h00 (nd_b2 h11 h12 h21 h22)) (nd_bm h01 (nd_b2 h10 h12 h20 h22))) (nd_bm h02 (nd_b2 h10 h11 h20 h21))) (by decide)
theorem nd_b4 {x00 x01 x02 x03 x10 x11 x12 x13 x20 x21 x22 x23 x30 x31 x32 x33 : Int} (h00 : x00.natAbs ≤ 45) (h01 : x01.natAbs ≤ 45) (h02 : x02.natAbs ≤ 45) (h03 : x03.natAbs ≤ 45) (h10 : x10.natAbs ≤ 45) (h11 : x11.natAbs ≤ 45) (h12 : x12.natAbs ≤ 45) (h13 : x13.natAbs ≤ 45) (h20 : x20.natAbs ≤ 45) (h21 : x21.natAbs ≤ 45) (h22 : x22.natAbs ≤ 45) (h23 : x23.natAbs ≤ 45) (h30 : x30.natAbs ≤ 45) (h31 : x31.natAbs ≤ 45) (h32 : x32.natAbs ≤ 45) (h33 : x33.natAbs ≤ 45) : (nd_4 x00 x01 x02 x03 x10 x11 x12 x13 x20 x21 x22 x23 x30 x31 x32 x33).natAbs ≤ 98415000 := Nat.le_trans (nd_bs (nd_ba (nd_bs (nd_bm h00 (nd_b3 h11 h12 h13 h21 h22 h23 h31 h32 h33)) (nd_bm h01 (nd_b3 h10 h12 h13 h20 h22 h23 h30 h32 h33))) (nd_bm h02 (nd_b3 h10 h11 h13 h20 h21 h23 h30 h31 h33))) (nd_bm h03 (nd_b3 h10 h11 h12 h20 h21 h22 h30 h31 h32))) (by decide)
theorem nd_b5 {x00 x01 x02 x03 x04 x10 x11 x12 x13 x14 x20 x21 x22 x23 x24 x30 x31 x32 x33 x34 x40 x41 x42 x43 x44 : Int} (h00 : x00.natAbs ≤ 45) (h01 : x01.natAbs ≤ 45) (h02 : x02.natAbs ≤ 45) (h03 : x03.natAbs ≤ 45) (h04 : x04.natAbs ≤ 45) (h10 : x10.natAbs ≤ 45) (h11 : x11.natAbs ≤ 45) (h12 : x12.natAbs ≤ 45) (h13 : x13.natAbs ≤ 45) (h14 : x14.natAbs ≤ 45) (h20 : x20.natAbs ≤ 45) (h21 : x21.natAbs ≤ 45) (h22 : x22.natAbs ≤ 45) (h23 : x23.natAbs ≤ 45) (h24 : x24.natAbs ≤ 45) (h30 : x30.natAbs ≤ 45) (h31 : x31.natAbs ≤ 45) (h32 : x32.natAbs ≤ 45) (h33 : x33.natAbs ≤ 45) (h34 : x34.natAbs ≤ 45) (h40 : x40.natAbs ≤ 45) (h41 : x41.natAbs ≤ 45) (h42 : x42.natAbs ≤ 45) (h43 : x43.natAbs ≤ 45) (h44 : x44.natAbs ≤ 45) : (nd_5 x00 x01 x02 x03 x04 x10 x11 x12 x13 x14 x20 x21 x22 x23 x24 x30 x31 x32 x33 x34 x40 x41 x42 x43 x44).natAbs ≤ 22143375000 := Nat.le_trans (nd_ba (nd_bs (nd_ba (nd_bs (nd_bm h00 (nd_b4 h11 h12 h13 h14 h21 h22 h23 h24 h31 h32 h33 h34 h41 h42 h43 h44)) (nd_bm h01 (nd_b4 h10 h12 h13 h14 h20 h22 h23 h24 h30 h32 h33 h34 h40 h42 h43 h44))) (nd_bm h02 (nd_b4 h10 h11 h13 h14 h20 h21 h23 h24 h30 h31 h33 h34 h40 h41 h43 h44))) (nd_bm h03 (nd_b4 h10 h11 h12 h14 h20 h21 h22 h24 h30 h31 h32 h34 h40 h41 h42 h44))) (nd_bm h04 (nd_b4 h10 h11 h12 h13 h20 h21 h22 h23 h30 h31 h32 h33 h40 h41 h42 h43))) (by decide)
def nd_D (m : Nat → Nat → Int) : List Nat → Int
  | [] => 1
  | [a] => m a a
  | [a, b] => nd_2 (m a a) (m a b) (m b a) (m b b)
  | [a, b, c] => nd_3 (m a a) (m a b) (m a c) (m b a) (m b b) (m b c) (m c a) (m c b) (m c c)
  | [a, b, c, d] => nd_4 (m a a) (m a b) (m a c) (m a d) (m b a) (m b b) (m b c) (m b d) (m c a) (m c b) (m c c) (m c d) (m d a) (m d b) (m d c) (m d d)
  | [a, b, c, d, e] => nd_5 (m a a) (m a b) (m a c) (m a d) (m a e) (m b a) (m b b) (m b c) (m b d) (m b e) (m c a) (m c b) (m c c) (m c d) (m c e) (m d a) (m d b) (m d c) (m d d) (m d e) (m e a) (m e b) (m e c) (m e d) (m e e)
  | _ => 0
def nd_R (m : Nat → Nat → Int) (r : Nat → Int) (j : Nat) : List Nat → Int
  | [] => r j
  | [a] => nd_2 (m a a) (m a j) (r a) (r j)
  | [a, b] => nd_3 (m a a) (m a b) (m a j) (m b a) (m b b) (m b j) (r a) (r b) (r j)
  | [a, b, c] => nd_4 (m a a) (m a b) (m a c) (m a j) (m b a) (m b b) (m b c) (m b j) (m c a) (m c b) (m c c) (m c j) (r a) (r b) (r c) (r j)
  | [a, b, c, d] => nd_5 (m a a) (m a b) (m a c) (m a d) (m a j) (m b a) (m b b) (m b c) (m b d) (m b j) (m c a) (m c b) (m c c) (m c d) (m c j) (m d a) (m d b) (m d c) (m d d) (m d j) (r a) (r b) (r c) (r d) (r j)
  | _ => 0
def nd_S (m : Nat → Nat → Int) (y : Nat → Int) (c : Nat) : List Nat → Int
  | [] => 0
  | b :: l => y b * m b c + nd_S m y c l
theorem nd_sn (m : Nat → Nat → Int) (p : Nat) : (K : List Nat) → nd_D m (K ++ [p]) = nd_R m (m p) p K
  | [] => rfl
  | [a] => rfl
  | [a, b] => rfl
  | [a, b, c] => rfl
  | [a, b, c, d] => rfl
  | _ :: _ :: _ :: _ :: _ :: [] => rfl
  | _ :: _ :: _ :: _ :: _ :: _ :: _ => rfl
theorem nd_sy (m : Nat → Nat → Int) (p i j : Nat) : (K : List Nat) → K.length ≤ 3 → nd_R m (m p) p K * nd_R m (m i) j K - nd_R m (m i) p K * nd_R m (m p) j K = nd_D m K * nd_R m (m i) j (K ++ [p])
  | [], _ => nd_sy0 (m p p) (m p j) (m i p) (m i j)
  | [a], _ => nd_sy1 (m a a) (m a p) (m a j) (m p a) (m p p) (m p j) (m i a) (m i p) (m i j)
  | [a, b], _ => nd_sy2 (m a a) (m a b) (m a p) (m a j) (m b a) (m b b) (m b p) (m b j) (m p a) (m p b) (m p p) (m p j) (m i a) (m i b) (m i p) (m i j)
  | [a, b, c], _ => nd_sy3 (m a a) (m a b) (m a c) (m a p) (m a j) (m b a) (m b b) (m b c) (m b p) (m b j) (m c a) (m c b) (m c c) (m c p) (m c j) (m p a) (m p b) (m p c) (m p p) (m p j) (m i a) (m i b) (m i c) (m i p) (m i j)
  | _ :: _ :: _ :: _ :: _, h => by simp at h
theorem nd_tr (m : Nat → Nat → Int) (i j : Nat) : (K : List Nat) → nd_R m (m i) j K = nd_R (fun a b => m b a) (fun b => m b j) i K
  | [] => rfl
  | [a] => nd_tr2 (m a a) (m i a) (m a j) (m i j)
  | [a, b] => nd_tr3 (m a a) (m b a) (m i a) (m a b) (m b b) (m i b) (m a j) (m b j) (m i j)
  | [a, b, c] => nd_tr4 (m a a) (m b a) (m c a) (m i a) (m a b) (m b b) (m c b) (m i b) (m a c) (m b c) (m c c) (m i c) (m a j) (m b j) (m c j) (m i j)
  | [a, b, c, d] => nd_tr5 (m a a) (m b a) (m c a) (m d a) (m i a) (m a b) (m b b) (m c b) (m d b) (m i b) (m a c) (m b c) (m c c) (m d c) (m i c) (m a d) (m b d) (m c d) (m d d) (m i d) (m a j) (m b j) (m c j) (m d j) (m i j)
  | _ :: _ :: _ :: _ :: _ :: _ => rfl
theorem nd_trD (m : Nat → Nat → Int) : (K : List Nat) → nd_D m K = nd_D (fun a b => m b a) K
  | [] => rfl
  | [_] => rfl
  | [a, b] => nd_tr2 (m a a) (m b a) (m a b) (m b b)
  | [a, b, c] => nd_tr3 (m a a) (m b a) (m c a) (m a b) (m b b) (m c b) (m a c) (m b c) (m c c)
  | [a, b, c, d] => nd_tr4 (m a a) (m b a) (m c a) (m d a) (m a b) (m b b) (m c b) (m d b) (m a c) (m b c) (m c c) (m d c) (m a d) (m b d) (m c d) (m d d)
  | [a, b, c, d, e] => nd_tr5 (m a a) (m b a) (m c a) (m d a) (m e a) (m a b) (m b b) (m c b) (m d b) (m e b) (m a c) (m b c) (m c c) (m d c) (m e c) (m a d) (m b d) (m c d) (m d d) (m e d) (m a e) (m b e) (m c e) (m d e) (m e e)
  | _ :: _ :: _ :: _ :: _ :: _ :: _ => rfl
theorem nd_li (m : Nat → Nat → Int) (r y : Nat → Int) (j : Nat) : (K : List Nat) → nd_R m (fun c => r c + nd_S m y c K) j K = nd_R m r j K
  | [] => nd_li1 (r j)
  | [a] => nd_li2 (m a a) (m a j) (r a) (r j) (y a)
  | [a, b] => nd_li3 (m a a) (m a b) (m a j) (m b a) (m b b) (m b j) (r a) (r b) (r j) (y a) (y b)
  | [a, b, c] => nd_li4 (m a a) (m a b) (m a c) (m a j) (m b a) (m b b) (m b c) (m b j) (m c a) (m c b) (m c c) (m c j) (r a) (r b) (r c) (r j) (y a) (y b) (y c)
  | [a, b, c, d] => nd_li5 (m a a) (m a b) (m a c) (m a d) (m a j) (m b a) (m b b) (m b c) (m b d) (m b j) (m c a) (m c b) (m c c) (m c d) (m c j) (m d a) (m d b) (m d c) (m d d) (m d j) (r a) (r b) (r c) (r d) (r j) (y a) (y b) (y c) (y d)
  | _ :: _ :: _ :: _ :: _ :: _ => rfl
theorem nd_ad (m : Nat → Nat → Int) (r s : Nat → Int) (j : Nat) : (K : List Nat) → nd_R m (fun c => r c + s c) j K = nd_R m r j K + nd_R m s j K
  | [] => nd_ad1 (r j) (s j)
  | [a] => nd_ad2 (m a a) (m a j) (r a) (r j) (s a) (s j)
  | [a, b] => nd_ad3 (m a a) (m a b) (m a j) (m b a) (m b b) (m b j) (r a) (r b) (r j) (s a) (s b) (s j)
  | [a, b, c] => nd_ad4 (m a a) (m a b) (m a c) (m a j) (m b a) (m b b) (m b c) (m b j) (m c a) (m c b) (m c c) (m c j) (r a) (r b) (r c) (r j) (s a) (s b) (s c) (s j)
  | [a, b, c, d] => nd_ad5 (m a a) (m a b) (m a c) (m a d) (m a j) (m b a) (m b b) (m b c) (m b d) (m b j) (m c a) (m c b) (m c c) (m c d) (m c j) (m d a) (m d b) (m d c) (m d d) (m d j) (r a) (r b) (r c) (r d) (r j) (s a) (s b) (s c) (s d) (s j)
  | _ :: _ :: _ :: _ :: _ :: _ => rfl
theorem nd_sc (m : Nat → Nat → Int) (r : Nat → Int) (t : Int) (j : Nat) : (K : List Nat) → nd_R m (fun c => t * r c) j K = t * nd_R m r j K
  | [] => nd_sc1 (r j) t
  | [a] => nd_sc2 (m a a) (m a j) (r a) (r j) t
  | [a, b] => nd_sc3 (m a a) (m a b) (m a j) (m b a) (m b b) (m b j) (r a) (r b) (r j) t
  | [a, b, c] => nd_sc4 (m a a) (m a b) (m a c) (m a j) (m b a) (m b b) (m b c) (m b j) (m c a) (m c b) (m c c) (m c j) (r a) (r b) (r c) (r j) t
  | [a, b, c, d] => nd_sc5 (m a a) (m a b) (m a c) (m a d) (m a j) (m b a) (m b b) (m b c) (m b d) (m b j) (m c a) (m c b) (m c c) (m c d) (m c j) (m d a) (m d b) (m d c) (m d d) (m d j) (r a) (r b) (r c) (r d) (r j) t
  | _ :: _ :: _ :: _ :: _ :: _ => (Int.mul_zero t).symm
theorem nd_cr (m : Nat → Nat → Int) {r s : Nat → Int} (j : Nat) : (K : List Nat) → (∀ c, c ∈ j :: K → r c = s c) → nd_R m r j K = nd_R m s j K
  | [], h => by simp only [nd_R, h j (by simp)]
  | [a], h => by simp only [nd_R, h a (by simp), h j (by simp)]
  | [a, b], h => by simp only [nd_R, h a (by simp), h b (by simp), h j (by simp)]
  | [a, b, c], h => by simp only [nd_R, h a (by simp), h b (by simp), h c (by simp), h j (by simp)]
  | [a, b, c, d], h => by simp only [nd_R, h a (by simp), h b (by simp), h c (by simp), h d (by simp), h j (by simp)]
  | _ :: _ :: _ :: _ :: _ :: _, _ => rfl
theorem nd_cm {m q : Nat → Nat → Int} (r : Nat → Int) (j : Nat) : (K : List Nat) → (∀ b, b ∈ K → m b = q b) → nd_R m r j K = nd_R q r j K
  | [], _ => rfl
  | [a], h => by simp only [nd_R, h a (by simp)]
  | [a, b], h => by simp only [nd_R, h a (by simp), h b (by simp)]
  | [a, b, c], h => by simp only [nd_R, h a (by simp), h b (by simp), h c (by simp)]
  | [a, b, c, d], h => by simp only [nd_R, h a (by simp), h b (by simp), h c (by simp), h d (by simp)]
  | _ :: _ :: _ :: _ :: _ :: _, _ => rfl
theorem nd_co (m : Nat → Nat → Int) (r : Nat → Int) : (K : List Nat) → K.Nodup → K.length ≤ 4 → ∃ y : Nat → Int, ∀ j, nd_R m r j K = nd_S m y j K + nd_D m K * r j
  | [], _, _ => ⟨fun _ => 0, fun j => by simp [nd_R, nd_S, nd_D]⟩
  | [a], h, _ => ⟨fun z => if z = a then (-(r a)) else 0, fun j => by
      have e := nd_co2 (m a a) (m a j) (r a) (r j)
      simp only [nd_S, eq_self, if_true, if_false, reduceIte]
      exact e⟩
  | [a, b], h, _ => ⟨fun z => if z = a then (nd_2 (m b a) (m b b) (r a) (r b)) else if z = b then (-(nd_2 (m a a) (m a b) (r a) (r b))) else 0, fun j => by
      have h01 : ¬ b = a := by intro e; subst e; simp at h
      have e := nd_co3 (m a a) (m a b) (m a j) (m b a) (m b b) (m b j) (r a) (r b) (r j)
      simp only [nd_S, h01, eq_self, if_true, if_false, reduceIte]
      exact e⟩
  | [a, b, c], h, _ => ⟨fun z => if z = a then (-(nd_3 (m b a) (m b b) (m b c) (m c a) (m c b) (m c c) (r a) (r b) (r c))) else if z = b then (nd_3 (m a a) (m a b) (m a c) (m c a) (m c b) (m c c) (r a) (r b) (r c)) else if z = c then (-(nd_3 (m a a) (m a b) (m a c) (m b a) (m b b) (m b c) (r a) (r b) (r c))) else 0, fun j => by
      have h01 : ¬ b = a := by intro e; subst e; simp at h
      have h02 : ¬ c = a := by intro e; subst e; simp at h
      have h12 : ¬ c = b := by intro e; subst e; simp at h
      have e := nd_co4 (m a a) (m a b) (m a c) (m a j) (m b a) (m b b) (m b c) (m b j) (m c a) (m c b) (m c c) (m c j) (r a) (r b) (r c) (r j)
      simp only [nd_S, h01, h02, h12, eq_self, if_true, if_false, reduceIte]
      exact e⟩
  | [a, b, c, d], h, _ => ⟨fun z => if z = a then (nd_4 (m b a) (m b b) (m b c) (m b d) (m c a) (m c b) (m c c) (m c d) (m d a) (m d b) (m d c) (m d d) (r a) (r b) (r c) (r d)) else if z = b then (-(nd_4 (m a a) (m a b) (m a c) (m a d) (m c a) (m c b) (m c c) (m c d) (m d a) (m d b) (m d c) (m d d) (r a) (r b) (r c) (r d))) else if z = c then (nd_4 (m a a) (m a b) (m a c) (m a d) (m b a) (m b b) (m b c) (m b d) (m d a) (m d b) (m d c) (m d d) (r a) (r b) (r c) (r d)) else if z = d then (-(nd_4 (m a a) (m a b) (m a c) (m a d) (m b a) (m b b) (m b c) (m b d) (m c a) (m c b) (m c c) (m c d) (r a) (r b) (r c) (r d))) else 0, fun j => by
      have h01 : ¬ b = a := by intro e; subst e; simp at h
      have h02 : ¬ c = a := by intro e; subst e; simp at h
      have h03 : ¬ d = a := by intro e; subst e; simp at h
      have h12 : ¬ c = b := by intro e; subst e; simp at h
      have h13 : ¬ d = b := by intro e; subst e; simp at h
      have h23 : ¬ d = c := by intro e; subst e; simp at h
      have e := nd_co5 (m a a) (m a b) (m a c) (m a d) (m a j) (m b a) (m b b) (m b c) (m b d) (m b j) (m c a) (m c b) (m c c) (m c d) (m c j) (m d a) (m d b) (m d c) (m d d) (m d j) (r a) (r b) (r c) (r d) (r j)
      simp only [nd_S, h01, h02, h03, h12, h13, h23, eq_self, if_true, if_false, reduceIte]
      exact e⟩
  | _ :: _ :: _ :: _ :: _ :: _, _, h => by simp at h
theorem nd_cn (m : Nat → Nat → Int) {r : Nat → Int} (j : Nat) : (K : List Nat) → K.length ≤ 4 → (∀ c, c ∈ K → r c = 0) → r j = 1 → nd_R m r j K = nd_D m K
  | [], _, _, e => e
  | [a], _, h, e => by simp only [nd_R, nd_D, h a (by simp), e]; exact nd_un2 (m a a) (m a j)
  | [a, b], _, h, e => by simp only [nd_R, nd_D, h a (by simp), h b (by simp), e]; exact nd_un3 (m a a) (m a b) (m a j) (m b a) (m b b) (m b j)
  | [a, b, c], _, h, e => by simp only [nd_R, nd_D, h a (by simp), h b (by simp), h c (by simp), e]; exact nd_un4 (m a a) (m a b) (m a c) (m a j) (m b a) (m b b) (m b c) (m b j) (m c a) (m c b) (m c c) (m c j)
  | [a, b, c, d], _, h, e => by simp only [nd_R, nd_D, h a (by simp), h b (by simp), h c (by simp), h d (by simp), e]; exact nd_un5 (m a a) (m a b) (m a c) (m a d) (m a j) (m b a) (m b b) (m b c) (m b d) (m b j) (m c a) (m c b) (m c c) (m c d) (m c j) (m d a) (m d b) (m d c) (m d d) (m d j)
  | _ :: _ :: _ :: _ :: _ :: _, h, _, _ => by simp at h
def nd_bd : Nat → Nat
  | 0 => 1
  | 1 => 45
  | 2 => 4050
  | 3 => 546750
  | 4 => 98415000
  | 5 => 22143375000
  | _ => 0
theorem nd_bR {m : Nat → Nat → Int} (h : ∀ a b, (m a b).natAbs ≤ 45) (i j : Nat) : (K : List Nat) → (nd_R m (m i) j K).natAbs ≤ nd_bd (K.length + 1)
  | [] => h i j
  | [a] => nd_b2 (h a a) (h a j) (h i a) (h i j)
  | [a, b] => nd_b3 (h a a) (h a b) (h a j) (h b a) (h b b) (h b j) (h i a) (h i b) (h i j)
  | [a, b, c] => nd_b4 (h a a) (h a b) (h a c) (h a j) (h b a) (h b b) (h b c) (h b j) (h c a) (h c b) (h c c) (h c j) (h i a) (h i b) (h i c) (h i j)
  | [a, b, c, d] => nd_b5 (h a a) (h a b) (h a c) (h a d) (h a j) (h b a) (h b b) (h b c) (h b d) (h b j) (h c a) (h c b) (h c c) (h c d) (h c j) (h d a) (h d b) (h d c) (h d d) (h d j) (h i a) (h i b) (h i c) (h i d) (h i j)
  | _ :: _ :: _ :: _ :: _ :: _ => Nat.zero_le _
theorem nd_bD {m : Nat → Nat → Int} (h : ∀ a b, (m a b).natAbs ≤ 45) : (K : List Nat) → (nd_D m K).natAbs ≤ nd_bd K.length
  | [] => Nat.le_refl 1
  | [a] => h a a
  | [a, b] => nd_b2 (h a a) (h a b) (h b a) (h b b)
  | [a, b, c] => nd_b3 (h a a) (h a b) (h a c) (h b a) (h b b) (h b c) (h c a) (h c b) (h c c)
  | [a, b, c, d] => nd_b4 (h a a) (h a b) (h a c) (h a d) (h b a) (h b b) (h b c) (h b d) (h c a) (h c b) (h c c) (h c d) (h d a) (h d b) (h d c) (h d d)
  | [a, b, c, d, e] => nd_b5 (h a a) (h a b) (h a c) (h a d) (h a e) (h b a) (h b b) (h b c) (h b d) (h b e) (h c a) (h c b) (h c c) (h c d) (h c e) (h d a) (h d b) (h d c) (h d d) (h d e) (h e a) (h e b) (h e c) (h e d) (h e e)
  | _ :: _ :: _ :: _ :: _ :: _ :: _ => Nat.zero_le _
theorem nd_swp (m : Nat → Nat → Int) (a b : Nat) : (P l : List Nat) → nd_D m (P ++ a :: b :: l) = nd_D m (P ++ b :: a :: l)
  | [], [] => nd_sw20 (m b b) (m b a) (m a b) (m a a)
  | [], [u] => nd_sw30 (m b b) (m b a) (m b u) (m a b) (m a a) (m a u) (m u b) (m u a) (m u u)
  | [], [u, v] => nd_sw40 (m b b) (m b a) (m b u) (m b v) (m a b) (m a a) (m a u) (m a v) (m u b) (m u a) (m u u) (m u v) (m v b) (m v a) (m v u) (m v v)
  | [], [u, v, z] => nd_sw50 (m b b) (m b a) (m b u) (m b v) (m b z) (m a b) (m a a) (m a u) (m a v) (m a z) (m u b) (m u a) (m u u) (m u v) (m u z) (m v b) (m v a) (m v u) (m v v) (m v z) (m z b) (m z a) (m z u) (m z v) (m z z)
  | [p], [] => nd_sw31 (m p p) (m p b) (m p a) (m b p) (m b b) (m b a) (m a p) (m a b) (m a a)
  | [p], [u] => nd_sw41 (m p p) (m p b) (m p a) (m p u) (m b p) (m b b) (m b a) (m b u) (m a p) (m a b) (m a a) (m a u) (m u p) (m u b) (m u a) (m u u)
  | [p], [u, v] => nd_sw51 (m p p) (m p b) (m p a) (m p u) (m p v) (m b p) (m b b) (m b a) (m b u) (m b v) (m a p) (m a b) (m a a) (m a u) (m a v) (m u p) (m u b) (m u a) (m u u) (m u v) (m v p) (m v b) (m v a) (m v u) (m v v)
  | [p, q], [] => nd_sw42 (m p p) (m p q) (m p b) (m p a) (m q p) (m q q) (m q b) (m q a) (m b p) (m b q) (m b b) (m b a) (m a p) (m a q) (m a b) (m a a)
  | [p, q], [u] => nd_sw52 (m p p) (m p q) (m p b) (m p a) (m p u) (m q p) (m q q) (m q b) (m q a) (m q u) (m b p) (m b q) (m b b) (m b a) (m b u) (m a p) (m a q) (m a b) (m a a) (m a u) (m u p) (m u q) (m u b) (m u a) (m u u)
  | [p, q, r], [] => nd_sw53 (m p p) (m p q) (m p r) (m p b) (m p a) (m q p) (m q q) (m q r) (m q b) (m q a) (m r p) (m r q) (m r r) (m r b) (m r a) (m b p) (m b q) (m b r) (m b b) (m b a) (m a p) (m a q) (m a r) (m a b) (m a a)
  | [], _ :: _ :: _ :: _ :: _ => rfl
  | [_], _ :: _ :: _ :: _ => rfl
  | [_, _], _ :: _ :: _ => rfl
  | [_, _, _], _ :: _ => rfl
  | _ :: _ :: _ :: _ :: [], _ => rfl
  | _ :: _ :: _ :: _ :: _ :: [], _ => rfl
  | _ :: _ :: _ :: _ :: _ :: _ :: _, _ => rfl
theorem nd_pm0 (m : Nat → Nat → Int) {k l : List Nat} (h : k.Perm l) : ∀ P : List Nat, nd_D m (P ++ k) = nd_D m (P ++ l) := by
  induction h with
  | nil => intro P; rfl
  | cons x _ ih => intro P; have := ih (P ++ [x]); simpa using this
  | swap x y l => intro P; exact nd_swp m y x P l
  | trans _ _ h1 h2 => intro P; exact (h1 P).trans (h2 P)
theorem nd_pm (m : Nat → Nat → Int) {k l : List Nat} (h : k.Perm l) : nd_D m k = nd_D m l := nd_pm0 m h []
end
section
def la_6 (f : Nat → Int) : Int := f 0 + f 1 + f 2 + f 3 + f 4 + f 5
def la_W (n : Nat) (w : Nat → Nat → Int) : Prop := n ≤ 6 ∧ (∀ p q, w p q = w q p) ∧ (∀ p, w p p = 0) ∧ (∀ p q, 0 ≤ w p q ∧ w p q ≤ 9) ∧ (∀ p q, n ≤ p → w p q = 0)
def la_m (w : Nat → Nat → Int) (p q : Nat) : Int := if p = q then la_6 (w p) else - w p q
theorem la_lt6 {j : Nat} (h : j < 6) : j = 0 ∨ j = 1 ∨ j = 2 ∨ j = 3 ∨ j = 4 ∨ j = 5 := by omega
theorem la_big {n : Nat} {w : Nat → Nat → Int} (hw : la_W n w) {p q : Nat} (h : 0 < w p q) : p < n ∧ q < n := by
  obtain ⟨_, hs, _, _, hz⟩ := hw
  constructor
  · apply Nat.lt_of_not_le; intro hp; have := hz p q hp; omega
  · apply Nat.lt_of_not_le; intro hq; have := hz q p hq; have := hs p q; omega
theorem la_sy {n : Nat} {w : Nat → Nat → Int} (hw : la_W n w) (p q : Nat) : la_m w p q = la_m w q p := by
  by_cases h : p = q
  · subst h; rfl
  · have h' : ¬ q = p := fun e => h e.symm
    simp only [la_m, h, h', if_false, hw.2.1 p q]
theorem la_syf {n : Nat} {w : Nat → Nat → Int} (hw : la_W n w) : (fun a b => la_m w b a) = la_m w := by
  funext a b; exact la_sy hw b a
theorem la_mb {n : Nat} {w : Nat → Nat → Int} (hw : la_W n w) (p q : Nat) : (la_m w p q).natAbs ≤ 45 := by
  obtain ⟨hn, _, hd, hb, hz⟩ := hw
  by_cases h : p = q
  · simp only [la_m, h, if_true, la_6]
    have h0 := hb q 0; have h1 := hb q 1; have h2 := hb q 2; have h3 := hb q 3; have h4 := hb q 4; have h5 := hb q 5
    by_cases hq : q < 6
    · have hq' := hd q
      rcases la_lt6 hq with e | e | e | e | e | e <;> subst e <;> omega
    · have e0 := hz q 0 (by omega); have e1 := hz q 1 (by omega); have e2 := hz q 2 (by omega); have e3 := hz q 3 (by omega); have e4 := hz q 4 (by omega); have e5 := hz q 5 (by omega)
      omega
  · simp only [la_m, h, if_false]
    have := hb p q; omega
theorem la_sum {n : Nat} {w : Nat → Nat → Int} (hw : la_W n w) (c : Nat → Int) {j : Nat} (hj : j < 6) : la_6 (fun x => c x * la_m w x j) = la_6 (fun q => w j q * (c j - c q)) := by
  obtain ⟨_, hs, hd, _, _⟩ := hw
  have d0 := hd 0; have d1 := hd 1; have d2 := hd 2; have d3 := hd 3; have d4 := hd 4; have d5 := hd 5
  have s10 := hs 1 0; have s20 := hs 2 0; have s30 := hs 3 0; have s40 := hs 4 0; have s50 := hs 5 0
  have s21 := hs 2 1; have s31 := hs 3 1; have s41 := hs 4 1; have s51 := hs 5 1
  have s32 := hs 3 2; have s42 := hs 4 2; have s52 := hs 5 2
  have s43 := hs 4 3; have s53 := hs 5 3; have s54 := hs 5 4
  clear hs hd
  rcases la_lt6 hj with e | e | e | e | e | e <;> subst e <;> simp only [la_6, la_m, d0, d1, d2, d3, d4, d5, s10, s20, s30, s40, s50, s21, s31, s41, s51, s32, s42, s52, s43, s53, s54] <;> simp <;> grind
theorem la_S (m : Nat → Nat → Int) (y : Nat → Int) (c : Nat) : ∀ K : List Nat, K.Nodup → (∀ x, x ∈ K → x < 6) → nd_S m y c K = la_6 (fun x => (if x ∈ K then y x else 0) * m x c)
  | [], _, _ => by simp [nd_S, la_6]
  | b :: l, hn, h6 => by
    have hb : b < 6 := h6 b (by simp)
    have hbl : ¬ b ∈ l := by
      intro h; simp only [List.nodup_cons] at hn; exact hn.1 h
    have hl : l.Nodup := by simp only [List.nodup_cons] at hn; exact hn.2
    have ih := la_S m y c l hl (fun x hx => h6 x (by simp [hx]))
    simp only [nd_S, ih]
    rcases la_lt6 hb with e | e | e | e | e | e <;> subst e <;> simp [la_6, hbl] <;> omega
theorem la_max (c : Nat → Int) : ∀ n : Nat, ∃ x, x ≤ n ∧ ∀ y, y ≤ n → c y ≤ c x
  | 0 => ⟨0, Nat.le_refl 0, fun y hy => by have : y = 0 := by omega
                                           subst this; exact Int.le_refl _⟩
  | n + 1 => by
    obtain ⟨x, hx, h⟩ := la_max c n
    by_cases hc : c x ≤ c (n + 1)
    · refine ⟨n + 1, Nat.le_refl _, fun y hy => ?_⟩
      by_cases e : y = n + 1
      · subst e; exact Int.le_refl _
      · exact Int.le_trans (h y (by omega)) hc
    · refine ⟨x, by omega, fun y hy => ?_⟩
      by_cases e : y = n + 1
      · subst e; omega
      · exact h y (by omega)
theorem la_0 {f : Nat → Int} (h0 : ∀ q, q < 6 → 0 ≤ f q) (hs : la_6 f ≤ 0) {q : Nat} (hq : q < 6) : f q = 0 := by
  have a0 := h0 0 (by omega); have a1 := h0 1 (by omega); have a2 := h0 2 (by omega); have a3 := h0 3 (by omega); have a4 := h0 4 (by omega); have a5 := h0 5 (by omega)
  simp only [la_6] at hs
  rcases la_lt6 hq with e | e | e | e | e | e <;> subst e <;> omega
theorem la_z6 {f : Nat → Int} (h0 : ∀ q, q < 6 → f q = 0) : la_6 f = 0 := by
  simp only [la_6, h0 0 (by omega), h0 1 (by omega), h0 2 (by omega), h0 3 (by omega), h0 4 (by omega), h0 5 (by omega)]; rfl
theorem la_c6 {f g : Nat → Int} (h0 : ∀ q, q < 6 → f q = g q) : la_6 f = la_6 g := by
  simp only [la_6, h0 0 (by omega), h0 1 (by omega), h0 2 (by omega), h0 3 (by omega), h0 4 (by omega), h0 5 (by omega)]
theorem la_R0 (m : Nat → Nat → Int) (j : Nat) (K : List Nat) : nd_R m (fun _ => 0) j K = 0 := by
  have h := nd_sc m (fun _ => 0) 0 j K
  simpa using h
theorem la_Si (m : Nat → Nat → Int) (a c : Nat) : ∀ K : List Nat, ¬ a ∈ K → nd_S m (fun b => if b = a then 1 else 0) c K = 0
  | [], _ => rfl
  | b :: l, h => by
    have hb : ¬ b = a := fun e => h (by simp [e])
    have ih := la_Si m a c l (fun e => h (by simp [e]))
    simp only [nd_S, ih, hb, if_false]; omega
theorem la_Sa (m : Nat → Nat → Int) (a c : Nat) : ∀ K : List Nat, K.Nodup → a ∈ K → nd_S m (fun b => if b = a then 1 else 0) c K = m a c
  | [], _, h => by simp at h
  | b :: l, hn, h => by
    simp only [List.nodup_cons] at hn
    by_cases e : b = a
    · subst e
      have := la_Si m b c l hn.1
      simp only [nd_S, this, if_true]; omega
    · have hl : a ∈ l := by
        simp only [List.mem_cons] at h
        exact h.resolve_left (fun x => e x.symm)
      have ih := la_Sa m a c l hn.2 hl
      simp only [nd_S, ih, e, if_false]; omega
theorem la_rep (m : Nat → Nat → Int) (p a : Nat) (K : List Nat) (hn : K.Nodup) (h : a ∈ K) : nd_R m (m p) a K = 0 := by
  rw [nd_tr]
  have e : (fun b => m b a) = fun c => (fun _ => (0 : Int)) c + nd_S (fun a b => m b a) (fun b => if b = a then 1 else 0) c K := by
    funext c
    rw [la_Sa (fun a b => m b a) a c K hn h]; simp
  rw [e, nd_li, la_R0]
def la_C (w : Nat → Nat → Int) (A : Nat → Bool) : Prop := ∀ a b, A a = true → 0 < w a b → A b = true
def la_N (w : Nat → Nat → Int) (K : List Nat) : Prop := ∀ A : Nat → Bool, la_C w A → (∀ a, A a = true → a ∈ K) → ∀ a, A a = false
theorem la_key (m : Nat → Nat → Int) (p : Nat) (hp : p < 6) (K : List Nat) (hn : K.Nodup) (h6 : ∀ x, x ∈ K → x < 6) (hpK : ¬ p ∈ K) (y : Nat → Int) (D : Int) (j : Nat) :
    la_6 (fun x => (if x = p then D else if x ∈ K then y x else 0) * m x j) = nd_S m y j K + D * m p j := by
  rw [la_S m y j K hn h6]
  rcases la_lt6 hp with e | e | e | e | e | e <;> subst e <;> simp [la_6, hpK] <;> omega
theorem la_P {n : Nat} {w : Nat → Nat → Int} (hw : la_W n w) : ∀ k : Nat, ∀ K : List Nat, K.length = k → k ≤ 5 → K.Nodup → (∀ x, x ∈ K → x < 6) → la_N w K → 0 < nd_D (la_m w) K := by
  intro k
  induction k with
  | zero =>
    intro K hl _ _ _ _
    have : K = [] := List.eq_nil_of_length_eq_zero hl
    subst this; exact Int.zero_lt_one
  | succ k ih =>
    intro K hl hk hn h6 hN
    rcases List.eq_nil_or_concat K with e | ⟨K', p, e⟩
    · subst e; simp at hl
    rw [List.concat_eq_append] at e
    subst e
    have hl' : K'.length = k := by simp at hl; omega
    have hnd := List.nodup_append.mp hn
    have hn' : K'.Nodup := hnd.1
    have hpK : ¬ p ∈ K' := fun h => hnd.2.2 p h p (by simp) rfl
    have hp6 : p < 6 := h6 p (by simp)
    have h6' : ∀ x, x ∈ K' → x < 6 := fun x hx => h6 x (by simp [hx])
    have hD : 0 < nd_D (la_m w) K' := ih K' hl' (by omega) hn' h6' (fun A hC hA => hN A hC (fun a ha => by simp [hA a ha]))
    rw [nd_sn]
    apply Int.lt_of_not_ge
    intro hle
    obtain ⟨y, hy⟩ := nd_co (la_m w) (la_m w p) K' hn' (by omega)
    generalize hDe : nd_D (la_m w) K' = D at hD hy
    obtain ⟨c, hc⟩ : ∃ c : Nat → Int, c = (fun x => if x = p then D else if x ∈ K' then y x else 0) := ⟨_, rfl⟩
    have hcp : c p = D := by rw [hc]; simp
    have hc0 : ∀ x, ¬ x ∈ K' ++ [p] → c x = 0 := by
      intro x hx
      simp only [List.mem_append, List.mem_singleton, not_or] at hx
      rw [hc]; simp [hx.1, hx.2]
    have key' : ∀ j, la_6 (fun x => c x * la_m w x j) = nd_R (la_m w) (la_m w p) j K' := by
      intro j
      rw [hy j, hc]
      exact la_key (la_m w) p hp6 K' hn' h6' hpK y D j
    obtain ⟨x0, hx0, hmax⟩ := la_max c 5
    have hpos : 0 < c x0 := by have := hmax p (by omega); omega
    have hin : ∀ a, c a = c x0 → a ∈ K' ++ [p] := by
      intro a ha
      apply Classical.byContradiction
      intro hna
      have := hc0 a hna
      omega
    have hcl : la_C w (fun x => decide (x < 6 ∧ c x = c x0)) := by
      intro a b ha hab
      simp only [decide_eq_true_eq] at ha ⊢
      have hb6 : b < 6 := by have := (la_big hw hab).2; have := hw.1; omega
      refine ⟨hb6, ?_⟩
      have hs := la_sum hw c ha.1
      rw [key' a] at hs
      have hR : nd_R (la_m w) (la_m w p) a K' ≤ 0 := by
        have hin' := hin a ha.2
        simp only [List.mem_append, List.mem_singleton] at hin'
        rcases hin' with h | h
        · rw [la_rep (la_m w) p a K' hn' h]; exact Int.le_refl 0
        · subst h; exact hle
      have hz := la_0 (f := fun q => w a q * (c a - c q)) (fun q hq => by
        have h1 := (hw.2.2.2.1 a q).1
        have h2 := hmax q (by omega)
        exact Int.mul_nonneg h1 (by omega)) (by rw [← hs]; exact hR) hb6
      have hz' : w a b * (c a - c b) = 0 := hz
      rcases Int.mul_eq_zero.mp hz' with h | h
      · omega
      · omega
    have hA := hN _ hcl (fun a ha => by simp only [decide_eq_true_eq] at ha; exact hin a ha.2) x0
    simp at hA
    omega
end
section
theorem lb_ind {n : Nat} {w : Nat → Nat → Int} (hw : la_W n w) {A : Nat → Bool} (hC : la_C w A) {c : Nat} (hc : c < 6) : la_6 (fun x => (if A x = true then 1 else 0) * la_m w x c) = 0 := by
  rw [la_sum hw (fun x => if A x = true then 1 else 0) hc]
  apply la_z6
  intro q hq
  have hpos := (hw.2.2.2.1 c q).1
  by_cases h0 : w c q = 0
  · rw [h0, Int.zero_mul]
  · have h1 : 0 < w c q := by omega
    have h2 : 0 < w q c := by rw [← hw.2.1 c q]; exact h1
    by_cases hA : A c = true
    · have := hC c q hA h1
      simp [hA, this]
    · have : ¬ A q = true := fun h => hA (hC q c h h2)
      simp [hA, this]
theorem lb_Sn (m : Nat → Nat → Int) (y : Nat → Int) (t : Int) (c : Nat) : ∀ K : List Nat, nd_S m (fun b => t * y b) c K = t * nd_S m y c K
  | [] => by simp [nd_S]
  | b :: l => by
    simp only [nd_S, lb_Sn m y t c l]
    grind
/-- the rows of a closed set have the sum 0 -/
theorem lb_row {n : Nat} {w : Nat → Nat → Int} (hw : la_W n w) {A : Nat → Bool} (hC : la_C w A) (L : List Nat) (hn : L.Nodup) (h6 : ∀ x, x ∈ L → x < 6) (hA : ∀ x, A x = true → x ∈ L) {c : Nat} (hc : c < 6) :
    nd_S (la_m w) (fun x => if A x = true then 1 else 0) c L = 0 := by
  refine (la_S _ _ c L hn h6).trans ((la_c6 ?_).trans (lb_ind hw hC hc))
  intro q _
  by_cases h : A q = true
  · simp [h, hA q h]
  · simp [h]
theorem lb_Sone (m : Nat → Nat → Int) (A : Nat → Bool) (c : Nat) : ∀ K : List Nat, (∀ x, x ∈ K → A x = true) → nd_S m (fun x => if A x = true then 1 else 0) c K = nd_S m (fun _ => 1) c K
  | [], _ => rfl
  | b :: l, h => by
    have hb : A b = true := h b (by simp)
    have ih := lb_Sone m A c l (fun x hx => h x (by simp [hx]))
    simp only [nd_S, ih, hb, if_true]
theorem lb_Z {n : Nat} {w : Nat → Nat → Int} (hw : la_W n w) {A : Nat → Bool} (hC : la_C w A) (K : List Nat) (hl : K.length ≤ 5) (hn : K.Nodup) (h6 : ∀ x, x ∈ K → x < 6) (hA : ∀ x, A x = true → x ∈ K) {a : Nat} (ha : A a = true) : nd_D (la_m w) K = 0 := by
  have haK := hA a ha
  have hp : K.Perm (a :: K.erase a) := List.perm_cons_erase haK
  have hp2 : K.Perm (K.erase a ++ [a]) := hp.trans (List.perm_append_singleton a (K.erase a)).symm
  rw [nd_pm _ hp2, nd_sn]
  have hn' : (a :: K.erase a).Nodup := hp.nodup hn
  have h6' : ∀ x, x ∈ a :: K.erase a → x < 6 := fun x hx => h6 x (hp.mem_iff.mpr hx)
  have hA' : ∀ x, A x = true → x ∈ a :: K.erase a := fun x hx => hp.mem_iff.mp (hA x hx)
  refine (nd_cr (la_m w) (s := fun c => (fun _ => (0 : Int)) c + nd_S (la_m w) (fun x => -1 * (if A x = true then 1 else 0)) c (K.erase a)) a (K.erase a) (fun c hc => ?_)).trans ?_
  · have hr := lb_row hw hC _ hn' h6' hA' (h6' c hc)
    have e1 : nd_S (la_m w) (fun x => if A x = true then 1 else 0) c (a :: K.erase a) = (if A a = true then 1 else 0) * la_m w a c + nd_S (la_m w) (fun x => if A x = true then 1 else 0) c (K.erase a) := rfl
    rw [e1] at hr
    simp only [ha, if_true] at hr
    have e2 := lb_Sn (la_m w) (fun x => if A x = true then 1 else 0) (-1) c (K.erase a)
    dsimp only at e2 ⊢
    rw [e2]
    omega
  · exact (nd_li (la_m w) (fun _ => 0) _ a (K.erase a)).trans (la_R0 (la_m w) a (K.erase a))
theorem lb_not {w : Nat → Nat → Int} {K : List Nat} (h : ¬ la_N w K) : ∃ A : Nat → Bool, la_C w A ∧ (∀ a, A a = true → a ∈ K) ∧ ∃ a, A a = true := by
  apply Classical.byContradiction
  intro hne
  apply h
  intro A hC hA a
  apply Classical.byContradiction
  intro hf
  exact hne ⟨A, hC, hA, a, by revert hf; cases A a <;> simp⟩
theorem lb_nn {n : Nat} {w : Nat → Nat → Int} (hw : la_W n w) (K : List Nat) (hl : K.length ≤ 5) (hn : K.Nodup) (h6 : ∀ x, x ∈ K → x < 6) : 0 ≤ nd_D (la_m w) K := by
  by_cases h : la_N w K
  · exact Int.le_of_lt (la_P hw _ K rfl hl hn h6 h)
  · obtain ⟨A, hC, hA, a, ha⟩ := lb_not h
    rw [lb_Z hw hC K hl hn h6 hA ha]; exact Int.le_refl 0
theorem lb_piv {n : Nat} {w : Nat → Nat → Int} (hw : la_W n w) (K S : List Nat) (hKS : ∀ x, x ∈ K → x ∈ S) (hlK : K.length ≤ 5) (hnK : K.Nodup) (hl : S.length ≤ 5) (hn : S.Nodup) (h6 : ∀ x, x ∈ S → x < 6) (h0 : nd_D (la_m w) K = 0) : nd_D (la_m w) S = 0 := by
  by_cases h : la_N w K
  · have := la_P hw _ K rfl hlK hnK (fun x hx => h6 x (hKS x hx)) h
    omega
  · obtain ⟨A, hC, hA, a, ha⟩ := lb_not h
    exact lb_Z hw hC S hl hn h6 (fun x hx => hKS x (hA x hx)) ha
theorem lb_tr {n : Nat} {w : Nat → Nat → Int} (hw : la_W n w) (i j : Nat) (K : List Nat) : nd_R (la_m w) (la_m w i) j K = nd_R (la_m w) (la_m w j) i K := by
  rw [nd_tr, la_syf hw]
  have : (fun b => la_m w b j) = la_m w j := by funext b; exact la_sy hw b j
  rw [this]
theorem lb_G1a {n : Nat} {w : Nat → Nat → Int} (hw : la_W n w) {A : Nat → Bool} (hC : la_C w A) (x y j : Nat) (B : List Nat) (hn : (x :: y :: B).Nodup) (hA : ∀ z, A z = true ↔ z ∈ x :: y :: B) (h6 : ∀ z, z ∈ x :: y :: B → z < 6) (hj : j < 6) :
    nd_R (la_m w) (la_m w x) j B = -1 * nd_R (la_m w) (la_m w y) j B := by
  refine (nd_cr (la_m w) (s := fun c => (fun c => -1 * la_m w y c) c + nd_S (la_m w) (fun x => -1 * (fun _ => (1 : Int)) x) c B) j B (fun c hc => ?_)).trans ?_
  · have hc6 : c < 6 := by
      simp only [List.mem_cons] at hc
      rcases hc with h | h
      · rw [h]; exact hj
      · exact h6 c (by simp [h])
    have hr := lb_row hw hC _ hn h6 (fun z hz => (hA z).mp hz) hc6
    rw [lb_Sone (la_m w) A c _ (fun z hz => (hA z).mpr hz)] at hr
    simp only [nd_S] at hr
    have e2 := lb_Sn (la_m w) (fun _ => 1) (-1) c B
    dsimp only at e2 ⊢
    rw [e2]
    omega
  · exact (nd_li (la_m w) (fun c => -1 * la_m w y c) _ j B).trans (nd_sc (la_m w) (la_m w y) (-1) j B)
theorem lb_G1 {n : Nat} {w : Nat → Nat → Int} (hw : la_W n w) {A : Nat → Bool} (hC : la_C w A) (x y : Nat) (B : List Nat) (hn : (x :: y :: B).Nodup) (hA : ∀ z, A z = true ↔ z ∈ x :: y :: B) (h6 : ∀ z, z ∈ x :: y :: B → z < 6) :
    nd_R (la_m w) (la_m w x) x B = nd_R (la_m w) (la_m w y) y B := by
  have hx := h6 x (by simp)
  have hy := h6 y (by simp)
  rw [lb_G1a hw hC x y x B hn hA h6 hx, lb_tr hw y x B, lb_G1a hw hC x y y B hn hA h6 hy]
  omega
theorem lb_G2a {n : Nat} {w : Nat → Nat → Int} (hw : la_W n w) {A : Nat → Bool} (hC : la_C w A) (d p s j : Nat) (B : List Nat) (hn : (d :: p :: s :: B).Nodup) (hA : ∀ z, A z = true ↔ z ∈ d :: p :: s :: B) (h6 : ∀ z, z ∈ d :: p :: s :: B → z < 6) (hj : j < 6) :
    nd_R (la_m w) (la_m w d) j B = -1 * (nd_R (la_m w) (la_m w p) j B + nd_R (la_m w) (la_m w s) j B) := by
  refine (nd_cr (la_m w) (s := fun c => (fun c => -1 * (fun c => la_m w p c + la_m w s c) c) c + nd_S (la_m w) (fun x => -1 * (fun _ => (1 : Int)) x) c B) j B (fun c hc => ?_)).trans ?_
  · have hc6 : c < 6 := by
      simp only [List.mem_cons] at hc
      rcases hc with h | h
      · rw [h]; exact hj
      · exact h6 c (by simp [h])
    have hr := lb_row hw hC _ hn h6 (fun z hz => (hA z).mp hz) hc6
    rw [lb_Sone (la_m w) A c _ (fun z hz => (hA z).mpr hz)] at hr
    simp only [nd_S] at hr
    have e2 := lb_Sn (la_m w) (fun _ => 1) (-1) c B
    dsimp only at e2 ⊢
    rw [e2]
    omega
  · refine (nd_li (la_m w) (fun c => -1 * (fun c => la_m w p c + la_m w s c) c) _ j B).trans ?_
    refine (nd_sc (la_m w) (fun c => la_m w p c + la_m w s c) (-1) j B).trans ?_
    rw [nd_ad (la_m w) (la_m w p) (la_m w s) j B]
theorem lb_G2 {n : Nat} {w : Nat → Nat → Int} (hw : la_W n w) {A : Nat → Bool} (hC : la_C w A) (d p s : Nat) (B : List Nat) (hn : (d :: p :: s :: B).Nodup) (hA : ∀ z, A z = true ↔ z ∈ d :: p :: s :: B) (h6 : ∀ z, z ∈ d :: p :: s :: B → z < 6) :
    nd_R (la_m w) (la_m w d) d B = nd_R (la_m w) (la_m w p) p B + nd_R (la_m w) (la_m w s) s B + 2 * nd_R (la_m w) (la_m w s) p B := by
  have hd := h6 d (by simp)
  have hp := h6 p (by simp)
  have hs := h6 s (by simp)
  rw [lb_G2a hw hC d p s d B hn hA h6 hd, lb_tr hw p d B, lb_tr hw s d B, lb_G2a hw hC d p s p B hn hA h6 hp, lb_G2a hw hC d p s s B hn hA h6 hs, lb_tr hw p s B]
  omega
/-- Cramer's column -/
theorem lb_col {n : Nat} {w : Nat → Nat → Int} (hw : la_W n w) (p s : Nat) (B : List Nat) (hp : ¬ p ∈ B) (hs : ¬ s ∈ p :: B) :
    nd_D (fun a b => if b = p then w a s else la_m w a b) (B ++ [p]) = -1 * nd_R (la_m w) (la_m w s) p B := by
  rw [nd_sn, nd_tr, ← nd_sc]
  refine (nd_cm (q := la_m w) _ p B (fun b hb => ?_)).trans ?_
  · have hbp : ¬ b = p := fun e => hp (e ▸ hb)
    funext c
    simp only [hbp, if_false]
    exact la_sy hw c b
  apply nd_cr
  intro c hc
  have hcs : ¬ s = c := fun e => hs (e ▸ hc)
  simp only [if_true, la_m, hcs, if_false]
  rw [hw.2.1 c s]; omega
/-- a pair taken out -/
def lb_out (w : Nat → Nat → Int) (p q : Nat) : Nat → Nat → Int := fun a b => if (a = p ∧ b = q) ∨ (a = q ∧ b = p) then 0 else w a b
theorem lb_outW {n : Nat} {w : Nat → Nat → Int} (hw : la_W n w) (p q : Nat) : la_W n (lb_out w p q) := by
  obtain ⟨hn, hs, hd, hb, hz⟩ := hw
  refine ⟨hn, fun a b => ?_, fun a => ?_, fun a b => ?_, fun a b h => ?_⟩
  · simp only [lb_out]
    by_cases h : (a = p ∧ b = q) ∨ (a = q ∧ b = p)
    · have h' : (b = p ∧ a = q) ∨ (b = q ∧ a = p) := by omega
      simp only [h, h', if_true]
    · have h' : ¬ ((b = p ∧ a = q) ∨ (b = q ∧ a = p)) := by omega
      simp only [h, h', if_false, hs a b]
  · simp only [lb_out, hd a]; split <;> rfl
  · simp only [lb_out]; split
    · exact ⟨Int.le_refl 0, by decide⟩
    · exact hb a b
  · simp only [lb_out, hz a b h]; split <;> rfl
theorem lb_G3 {n : Nat} {w : Nat → Nat → Int} (hw : la_W n w) (p q : Nat) (hpq : ¬ p = q) (hp6 : p < 6) (hq6 : q < 6) (B : List Nat) (hl : B.length ≤ 4) (hp : ¬ p ∈ B) (hq : ¬ q ∈ B) :
    nd_R (la_m (lb_out w p q)) (la_m (lb_out w p q) p) p B = nd_R (la_m w) (la_m w p) p B - w p q * nd_D (la_m w) B := by
  have hrow : ∀ b, b ∈ B → la_m (lb_out w p q) b = la_m w b := by
    intro b hb
    have h1 : ¬ b = p := fun e => hp (e ▸ hb)
    have h2 : ¬ b = q := fun e => hq (e ▸ hb)
    have : lb_out w p q b = w b := by funext c; simp [lb_out, h1, h2]
    funext c; simp only [la_m, this]
  have hone : nd_R (la_m w) (fun c => if c = p then 1 else 0) p B = nd_D (la_m w) B :=
    nd_cn (la_m w) p B hl (fun c hc => by have : ¬ c = p := fun e => hp (e ▸ hc)
                                          simp [this]) (by simp)
  refine (nd_cm (q := la_m w) _ p B hrow).trans ?_
  refine (nd_cr (la_m w) (s := fun c => la_m w p c + (fun c => - w p q * (fun c => if c = p then 1 else 0) c) c) p B (fun c hc => ?_)).trans ?_
  · by_cases e : c = p
    · subst e
      have hcq : ¬ q = c := fun x => hpq x.symm
      simp only [la_m, if_true, la_6, lb_out]
      rcases la_lt6 hq6 with e | e | e | e | e | e <;> subst e <;> simp [hpq] <;> grind
    · have hcB : c ∈ B := by
        simp only [List.mem_cons] at hc; exact hc.resolve_left e
      have hcq : ¬ c = q := fun x => hq (x ▸ hcB)
      have e' : ¬ p = c := fun x => e x.symm
      simp only [la_m, e', e, if_false, lb_out, hcq]
      simp [hpq]
  · refine (nd_ad (la_m w) (la_m w p) (fun c => - w p q * (fun c => if c = p then 1 else 0) c) p B).trans ?_
    have e3 := nd_sc (la_m w) (fun c => if c = p then 1 else 0) (- w p q) p B
    rw [hone] at e3
    have e4 : nd_R (la_m w) (fun c => - w p q * (fun c => if c = p then 1 else 0) c) p B = - w p q * nd_D (la_m w) B := e3
    rw [e4]
    grind
end
section
def lc_L (n : Nat) (P : Nat → Bool) : List Nat := (List.range n).filter P
def lc_x (A : Nat → Bool) (x : Nat) : Nat → Bool := fun z => A z && !(z == x)
theorem lc_xt {A : Nat → Bool} {x z : Nat} : lc_x A x z = true ↔ A z = true ∧ ¬ z = x := by
  simp [lc_x]
theorem lc_nd (n : Nat) (P : Nat → Bool) : (lc_L n P).Nodup := List.Pairwise.filter P List.nodup_range
theorem lc_mem {n : Nat} {P : Nat → Bool} {x : Nat} : x ∈ lc_L n P ↔ x < n ∧ P x = true := by
  simp [lc_L]
theorem lc_cg {n : Nat} {P Q : Nat → Bool} (h : ∀ z, z < n → (P z = true ↔ Q z = true)) : lc_L n P = lc_L n Q := by
  apply List.filter_congr
  intro x hx
  have hx' : x < n := by simpa using hx
  have := h x hx'
  revert this
  cases P x <;> cases Q x <;> simp
theorem lc_pm {n : Nat} {P : Nat → Bool} {a : Nat} (ha : a < n) (hP : P a = true) : (lc_L n P).Perm (lc_L n (lc_x P a) ++ [a]) := by
  have hm : a ∈ lc_L n P := lc_mem.mpr ⟨ha, hP⟩
  have h1 : (lc_L n P).Perm (a :: (lc_L n P).erase a) := List.perm_cons_erase hm
  have h2 : (lc_L n P).erase a = lc_L n (lc_x P a) := by
    rw [List.Nodup.erase_eq_filter (lc_nd n P) a]
    simp only [lc_L, List.filter_filter]
    apply List.filter_congr
    intro x _
    simp only [lc_x, bne]
    cases P x <;> cases (x == a) <;> rfl
  rw [h2] at h1
  exact h1.trans (List.perm_append_singleton a _).symm
theorem lc_len {n : Nat} (P : Nat → Bool) : (lc_L n P).length ≤ n := by
  have := List.length_filter_le P (List.range n)
  rw [List.length_range] at this
  exact this
theorem lc_len1 {n : Nat} {P : Nat → Bool} {a : Nat} (ha : a < n) : (lc_L n (lc_x P a)).length + 1 ≤ n := by
  by_cases hP : P a = true
  · have h1 := (lc_pm ha hP).length_eq
    have h2 := lc_len (n := n) P
    simp at h1
    omega
  · have e : lc_L n (lc_x P a) = lc_L n (lc_x (fun z => P z || z == a) a) := lc_cg (fun z _ => by
      simp only [lc_xt, Bool.or_eq_true, beq_iff_eq]
      constructor
      · intro h; exact ⟨Or.inl h.1, h.2⟩
      · intro h; exact ⟨h.1.resolve_right h.2, h.2⟩)
    have h1 := (lc_pm (P := fun z => P z || z == a) ha (by simp)).length_eq
    have h2 := lc_len (n := n) (fun z => P z || z == a)
    rw [e]
    simp at h1
    omega
theorem lc_D (m : Nat → Nat → Int) {n : Nat} {P : Nat → Bool} {a : Nat} (ha : a < n) (hP : P a = true) : nd_D m (lc_L n P) = nd_R m (m a) a (lc_L n (lc_x P a)) := by
  rw [nd_pm m (lc_pm ha hP), nd_sn]
theorem lc_6 {n : Nat} (hn : n ≤ 6) {P : Nat → Bool} : ∀ x, x ∈ lc_L n P → x < 6 := fun x hx => by
  have := (lc_mem.mp hx).1; omega
/-- G1 -/
theorem lc_T {n : Nat} {w : Nat → Nat → Int} (hw : la_W n w) {A : Nat → Bool} (hC : la_C w A) (hA : ∀ z, A z = true → z < n) {x y : Nat} (hx : A x = true) (hy : A y = true) :
    nd_D (la_m w) (lc_L n (lc_x A x)) = nd_D (la_m w) (lc_L n (lc_x A y)) := by
  by_cases e : x = y
  · rw [e]
  · have e' : ¬ y = x := fun h => e h.symm
    rw [lc_D (la_m w) (hA y hy) (lc_xt.mpr ⟨hy, e'⟩), lc_D (la_m w) (hA x hx) (lc_xt.mpr ⟨hx, e⟩)]
    have hL : lc_L n (lc_x (lc_x A y) x) = lc_L n (lc_x (lc_x A x) y) := lc_cg (fun z _ => by
      simp only [lc_xt]; constructor <;> (intro h; exact ⟨⟨h.1.1, h.2⟩, h.1.2⟩))
    rw [hL]
    have hB : ∀ z, z ∈ lc_L n (lc_x (lc_x A x) y) ↔ A z = true ∧ ¬ z = x ∧ ¬ z = y := by
      intro z
      simp only [lc_mem, lc_xt]
      constructor
      · intro h; exact ⟨h.2.1.1, h.2.1.2, h.2.2⟩
      · intro h; exact ⟨hA z h.1, ⟨h.1, h.2.1⟩, h.2.2⟩
    refine (lb_G1 hw hC x y _ ?_ ?_ ?_).symm
    · simp only [List.nodup_cons, List.mem_cons, not_or, hB]
      exact ⟨⟨e, fun h => h.2.1 trivial⟩, fun h => h.2.2 trivial, lc_nd _ _⟩
    · intro z
      simp only [List.mem_cons, hB]
      constructor
      · intro h
        by_cases h1 : z = x
        · exact Or.inl h1
        · by_cases h2 : z = y
          · exact Or.inr (Or.inl h2)
          · exact Or.inr (Or.inr ⟨h, h1, h2⟩)
      · intro h
        rcases h with h | h | h
        · rw [h]; exact hx
        · rw [h]; exact hy
        · exact h.1
    · intro z hz
      have hn := hw.1
      have : z < n := by
        simp only [List.mem_cons, hB] at hz
        rcases hz with h | h | h
        · rw [h]; exact hA x hx
        · rw [h]; exact hA y hy
        · exact hA z h.1
      omega
def lc_xx (A : Nat → Bool) (x y : Nat) : Nat → Bool := lc_x (lc_x A x) y
theorem lc_xxt {A : Nat → Bool} {x y z : Nat} : lc_xx A x y z = true ↔ A z = true ∧ ¬ z = x ∧ ¬ z = y := by
  simp only [lc_xx, lc_xt]
  constructor
  · intro h; exact ⟨h.1.1, h.1.2, h.2⟩
  · intro h; exact ⟨⟨h.1, h.2.1⟩, h.2.2⟩
theorem lc_xxc {n : Nat} (A : Nat → Bool) (x y : Nat) : lc_L n (lc_xx A x y) = lc_L n (lc_xx A y x) := lc_cg (fun z _ => by
  simp only [lc_xxt]; constructor <;> (intro h; exact ⟨h.1, h.2.2, h.2.1⟩))
/-- the column of p replaced by the conductances to s -/
def lc_c (w : Nat → Nat → Int) (p s : Nat) : Nat → Nat → Int := fun a b => if b = p then w a s else la_m w a b
/-- G2 -/
theorem lc_V {n : Nat} {w : Nat → Nat → Int} (hw : la_W n w) {A : Nat → Bool} (hC : la_C w A) (hA : ∀ z, A z = true → z < n) {s d p : Nat} (hs : A s = true) (hd : A d = true) (hp : A p = true) (hsd : ¬ s = d) (hsp : ¬ s = p) (hdp : ¬ d = p) :
    2 * nd_D (lc_c w p s) (lc_L n (lc_xx A s d)) = nd_D (la_m w) (lc_L n (lc_xx A s d)) + nd_D (la_m w) (lc_L n (lc_xx A p d)) - nd_D (la_m w) (lc_L n (lc_xx A s p)) := by
  have hds : ¬ d = s := fun h => hsd h.symm
  have hps : ¬ p = s := fun h => hsp h.symm
  have hpd : ¬ p = d := fun h => hdp h.symm
  have hB : ∀ z, z ∈ lc_L n (lc_x (lc_xx A s d) p) ↔ A z = true ∧ ¬ z = s ∧ ¬ z = d ∧ ¬ z = p := by
    intro z
    simp only [lc_mem, lc_xxt, lc_xt]
    constructor
    · intro h; exact ⟨h.2.1.1, h.2.1.2.1, h.2.1.2.2, h.2.2⟩
    · intro h; exact ⟨hA z h.1, ⟨h.1, h.2.1, h.2.2.1⟩, h.2.2.2⟩
  have e1 : lc_L n (lc_x (lc_xx A p d) s) = lc_L n (lc_x (lc_xx A s d) p) := lc_cg (fun z _ => by
    simp only [lc_xxt, lc_xt]; constructor <;> (intro h; exact ⟨⟨h.1.1, h.2, h.1.2.2⟩, h.1.2.1⟩))
  have e2 : lc_L n (lc_x (lc_xx A s p) d) = lc_L n (lc_x (lc_xx A s d) p) := lc_cg (fun z _ => by
    simp only [lc_xxt, lc_xt]; constructor <;> (intro h; exact ⟨⟨h.1.1, h.1.2.1, h.2⟩, h.1.2.2⟩))
  rw [lc_D (la_m w) (hA p hp) (P := lc_xx A s d) (lc_xxt.mpr ⟨hp, hps, hpd⟩), lc_D (la_m w) (hA s hs) (P := lc_xx A p d) (lc_xxt.mpr ⟨hs, hsp, hsd⟩), lc_D (la_m w) (hA d hd) (P := lc_xx A s p) (lc_xxt.mpr ⟨hd, hds, hdp⟩), e1, e2]
  rw [nd_pm _ (lc_pm (hA p hp) (P := lc_xx A s d) (lc_xxt.mpr ⟨hp, hps, hpd⟩))]
  have hcol := lb_col hw p s (lc_L n (lc_x (lc_xx A s d) p)) (by rw [hB]; intro h; exact h.2.2.2 rfl) (by
    simp only [List.mem_cons, hB, not_or]; exact ⟨hsp, fun h => h.2.1 trivial⟩)
  have hg := lb_G2 hw hC d p s (lc_L n (lc_x (lc_xx A s d) p)) (by
    simp only [List.nodup_cons, List.mem_cons, not_or, hB]
    exact ⟨⟨hdp, hds, fun h => h.2.2.1 trivial⟩, ⟨hps, fun h => h.2.2.2 trivial⟩, fun h => h.2.1 trivial, lc_nd _ _⟩) (by
    intro z
    simp only [List.mem_cons, hB]
    constructor
    · intro h
      by_cases h1 : z = d
      · exact Or.inl h1
      · by_cases h2 : z = p
        · exact Or.inr (Or.inl h2)
        · by_cases h3 : z = s
          · exact Or.inr (Or.inr (Or.inl h3))
          · exact Or.inr (Or.inr (Or.inr ⟨h, h3, h1, h2⟩))
    · intro h
      rcases h with h | h | h | h
      · rw [h]; exact hd
      · rw [h]; exact hp
      · rw [h]; exact hs
      · exact h.1) (by
    intro z hz
    have hn := hw.1
    have : z < n := by
      simp only [List.mem_cons, hB] at hz
      rcases hz with h | h | h | h
      · rw [h]; exact hA d hd
      · rw [h]; exact hA p hp
      · rw [h]; exact hA s hs
      · exact hA z h.1
    omega)
  have hcol' : nd_D (lc_c w p s) (lc_L n (lc_x (lc_xx A s d) p) ++ [p]) = -1 * nd_R (la_m w) (la_m w s) p (lc_L n (lc_x (lc_xx A s d) p)) := hcol
  omega
/-- G3 -/
theorem lc_W {n : Nat} {w : Nat → Nat → Int} (hw : la_W n w) (A : Nat → Bool) {p q : Nat} (hp : p < n) (hq : q < n) (hAp : A p = true) (hpq : ¬ p = q) :
    nd_D (la_m w) (lc_L n (lc_x A q)) - nd_D (la_m (lb_out w p q)) (lc_L n (lc_x A q)) = w p q * nd_D (la_m w) (lc_L n (lc_xx A q p)) := by
  have hn := hw.1
  rw [lc_D (la_m w) hp (P := lc_x A q) (lc_xt.mpr ⟨hAp, hpq⟩), lc_D (la_m (lb_out w p q)) hp (P := lc_x A q) (lc_xt.mpr ⟨hAp, hpq⟩)]
  have hlen : (lc_L n (lc_x (lc_x A q) p)).length ≤ 4 := by
    have h1 := (lc_pm (P := lc_x A q) hp (lc_xt.mpr ⟨hAp, hpq⟩)).length_eq
    have h2 := lc_len1 (P := A) hq
    simp at h1
    omega
  rw [lb_G3 hw p q hpq (by omega) (by omega) _ hlen (by simp [lc_mem, lc_xt]) (by simp [lc_mem, lc_xt])]
  have : lc_L n (lc_xx A q p) = lc_L n (lc_x (lc_x A q) p) := rfl
  rw [this]
  omega
/-- joined -/
def lj_J (w : Nat → Nat → Int) (p q : Nat) : Prop := ∀ A : Nat → Bool, la_C w A → A p = true → A q = true
theorem lj_r (w : Nat → Nat → Int) (p : Nat) : lj_J w p p := fun _ _ h => h
theorem lj_t {w : Nat → Nat → Int} {p q r : Nat} (h : lj_J w p q) (k : lj_J w q r) : lj_J w p r := fun A hC hp => k A hC (h A hC hp)
theorem lj_e {w : Nat → Nat → Int} {p q : Nat} (h : 0 < w p q) : lj_J w p q := fun _ hC hp => hC p q hp h
theorem lj_s {n : Nat} {w : Nat → Nat → Int} (hw : la_W n w) {p q : Nat} (h : lj_J w p q) : lj_J w q p := by
  intro A hC hq
  apply Classical.byContradiction
  intro hp
  have hC' : la_C w (fun z => !(A z)) := by
    intro a b ha hab
    have hba : 0 < w b a := by rw [hw.2.1 b a]; exact hab
    have := hC b a
    revert this ha
    dsimp only
    cases A a <;> cases A b <;> simp [hba]
  have hp' : (fun z => !(A z)) p = true := by revert hp; dsimp only; cases A p <;> simp
  have hq' := h _ hC' hp'
  revert hq' hq
  cases A q <;> simp
theorem lj_n {n : Nat} {w : Nat → Nat → Int} (hw : la_W n w) {p q : Nat} (hp : p < n) (h : lj_J w p q) : q < n := by
  have := h (fun z => decide (z < n)) (fun a b _ hab => by simpa using (la_big hw hab).2) (by simpa using hp)
  simpa using this
noncomputable def lj_b (w : Nat → Nat → Int) (p : Nat) : Nat → Bool := fun q => @decide (lj_J w p q) (Classical.propDecidable _)
theorem lj_bt {w : Nat → Nat → Int} {p q : Nat} : lj_b w p q = true ↔ lj_J w p q := by
  simp only [lj_b, decide_eq_true_eq]
theorem lj_C {w : Nat → Nat → Int} (p : Nat) : la_C w (lj_b w p) := by
  intro a b ha hab
  rw [lj_bt] at ha ⊢
  exact lj_t ha (lj_e hab)
end
section
theorem lk_T {n : Nat} {w : Nat → Nat → Int} (hw : la_W n w) {x a b : Nat} (hx : x < n) (ha : lj_J w x a) (hb : lj_J w x b) :
    nd_D (la_m w) (lc_L n (lc_x (lj_b w x) a)) = nd_D (la_m w) (lc_L n (lc_x (lj_b w x) b)) :=
  lc_T hw (lj_C x) (fun z hz => lj_n hw hx (lj_bt.mp hz)) (lj_bt.mpr ha) (lj_bt.mpr hb)
theorem lk_pos {n : Nat} {w : Nat → Nat → Int} (hw : la_W n w) {x l : Nat} (hx : x < n) (hl : lj_J w x l) : 0 < nd_D (la_m w) (lc_L n (lc_x (lj_b w x) l)) := by
  have hn := hw.1
  have hln : l < n := lj_n hw hx hl
  refine la_P hw _ _ rfl (by have := lc_len1 (P := lj_b w x) hln; omega) (lc_nd _ _) (lc_6 hn) ?_
  intro B hC hB a
  apply Classical.byContradiction
  intro hf
  have ha : B a = true := by revert hf; cases B a <;> simp
  have h1 := hB a ha
  rw [lc_mem, lc_xt, lj_bt] at h1
  have h2 : lj_J w a l := lj_t (lj_s hw h1.2.1) hl
  have h3 := hB l (h2 B hC ha)
  rw [lc_mem, lc_xt] at h3
  exact h3.2.2 rfl
theorem lk_zero {n : Nat} {w : Nat → Nat → Int} (hw : la_W n w) (h0 : 0 < n) {q : Nat} (hq : q < n) (hj : ¬ lj_J w 0 q) : nd_D (la_m w) (lc_L n (lc_x (fun _ => true) 0)) = 0 := by
  have hn := hw.1
  refine lb_Z hw (A := lj_b w q) (lj_C q) _ (by have := lc_len1 (P := fun _ => true) h0; omega) (lc_nd _ _) (lc_6 hn) ?_ (a := q) (lj_bt.mpr (lj_r w q))
  intro z hz
  rw [lj_bt] at hz
  rw [lc_mem, lc_xt]
  refine ⟨lj_n hw hq hz, rfl, fun e => ?_⟩
  subst e
  exact hj (lj_s hw hz)
theorem lk_mono {n : Nat} {P Q : Nat → Bool} (h : ∀ z, z < n → P z = true → Q z = true) : (lc_L n P).length ≤ (lc_L n Q).length := by
  simp only [lc_L, ← List.countP_eq_length_filter]
  exact List.countP_mono_left (fun x hx hp => h x (by simpa using hx) hp)
theorem lk_lt {n : Nat} {P Q : Nat → Bool} (h : ∀ z, z < n → P z = true → Q z = true) {a : Nat} (ha : a < n) (hQ : Q a = true) (hP : ¬ P a = true) : (lc_L n P).length < (lc_L n Q).length := by
  have h1 := (lc_pm ha hQ).length_eq
  have h2 := lk_mono (n := n) (P := P) (Q := lc_x Q a) (fun z hz hp => lc_xt.mpr ⟨h z hz hp, fun e => hP (e ▸ hp)⟩)
  simp at h1
  omega
theorem lk_s (n : Nat) (P : Nat → Bool) : lc_L (n + 1) P = lc_L n P ++ (if P n = true then [n] else []) := by
  simp only [lc_L, List.range_succ, List.filter_append]
  congr 1
  cases h : P n <;> simp [h]
theorem lk_sl (n : Nat) (P : Nat → Bool) : (lc_L (n + 1) P).length = (lc_L n P).length + (if P n = true then 1 else 0) := by
  rw [lk_s]
  cases h : P n <;> simp
theorem lk_least (P : Nat → Prop) : ∀ k, P k → ∃ a, P a ∧ ∀ j, P j → a ≤ j := by
  intro k
  induction k using Nat.strongRecOn with
  | ind k ih =>
    intro hk
    by_cases h : ∃ j, j < k ∧ P j
    · obtain ⟨j, hj, hp⟩ := h
      exact ih j hj hp
    · refine ⟨k, hk, fun j hj => ?_⟩
      apply Nat.le_of_not_lt
      intro hlt
      exact h ⟨j, hlt, hj⟩
/-- the least of its group -/
noncomputable def lk_l (w : Nat → Nat → Int) : Nat → Bool := fun p => @decide (∀ q, lj_J w p q → p ≤ q) (Classical.propDecidable _)
theorem lk_lt' {w : Nat → Nat → Int} {p : Nat} : lk_l w p = true ↔ ∀ q, lj_J w p q → p ≤ q := by
  simp only [lk_l, decide_eq_true_eq]
theorem lk_sub {w : Nat → Nat → Int} {p q a b : Nat} (h : lj_J (lb_out w p q) a b) : lj_J w a b := by
  intro A hC ha
  refine h A (fun x y hx hxy => hC x y hx ?_) ha
  simp only [lb_out] at hxy
  split at hxy
  · omega
  · exact hxy
theorem lk_br {n : Nat} {w : Nat → Nat → Int} (hw : la_W n w) {p q : Nat} (hp : p < n) (hq : q < n) (hpq : 0 < w p q) :
    (lc_L n (lk_l w)).length < (lc_L n (lk_l (lb_out w p q))).length ↔ ¬ lj_J (lb_out w p q) p q := by
  have hw' := lb_outW hw p q
  constructor
  · intro hlt hj
    have hup : ∀ a b, lj_J w a b → lj_J (lb_out w p q) a b := by
      intro a b h A hC ha
      refine h A (fun x y hx hxy => ?_) ha
      by_cases e : (x = p ∧ y = q) ∨ (x = q ∧ y = p)
      · rcases e with ⟨e1, e2⟩ | ⟨e1, e2⟩
        · subst e1; subst e2; exact hj A hC hx
        · subst e1; subst e2; exact lj_s hw' hj A hC hx
      · exact hC x y hx (by simp only [lb_out, e, if_false]; exact hxy)
    have := lk_mono (n := n) (P := lk_l (lb_out w p q)) (Q := lk_l w) (fun z _ hz => by
      rw [lk_lt'] at hz ⊢
      exact fun b hb => hz b (hup z b hb))
    omega
  · intro hj
    have hsub : ∀ z, z < n → lk_l w z = true → lk_l (lb_out w p q) z = true := by
      intro z _ hz
      rw [lk_lt'] at hz ⊢
      exact fun b hb => hz b (lk_sub hb)
    obtain ⟨a, ha, hal⟩ := lk_least (fun z => lj_J (lb_out w p q) p z) p (lj_r _ p)
    obtain ⟨b, hb, hbl⟩ := lk_least (fun z => lj_J (lb_out w p q) q z) q (lj_r _ q)
    have hab : lj_J w a b := lj_t (lj_s hw (lk_sub ha)) (lj_t (lj_e hpq) (lk_sub hb))
    have hla : lk_l (lb_out w p q) a = true := by
      rw [lk_lt']; exact fun z hz => hal z (lj_t ha hz)
    have hlb : lk_l (lb_out w p q) b = true := by
      rw [lk_lt']; exact fun z hz => hbl z (lj_t hb hz)
    have hne : ¬ a = b := by
      intro e; subst e
      exact hj (lj_t ha (lj_s hw' hb))
    by_cases hlt : a < b
    · refine lk_lt hsub (a := b) (lj_n hw' hq hb) hlb ?_
      intro h
      rw [lk_lt'] at h
      have := h a (lj_s hw hab)
      omega
    · refine lk_lt hsub (a := a) (lj_n hw' hp ha) hla ?_
      intro h
      rw [lk_lt'] at h
      have := h b hab
      omega
/-! labels -/
def ll_I (n : Nat) (w : Nat → Nat → Int) (l : Nat → Nat) : Prop := ∀ p, p < n → lj_J w p (l p) ∧ l p ≤ p
noncomputable def ll_d (w : Nat → Nat → Int) (l : Nat → Nat) : Nat → Bool := fun p => @decide (∀ q, lj_J w p q → l p ≤ q) (Classical.propDecidable _)
theorem ll_dt {w : Nat → Nat → Int} {l : Nat → Nat} {p : Nat} : ll_d w l p = true ↔ ∀ q, lj_J w p q → l p ≤ q := by
  simp only [ll_d, decide_eq_true_eq]
theorem ll_prog {n : Nat} {w : Nat → Nat → Int} (hw : la_W n w) {l k : Nat → Nat} (hI : ll_I n w l) (h1 : ∀ p, p < n → k p ≤ l p) (h2 : ∀ p q, p < n → q < n → 0 < w p q → k p ≤ l q) :
    (∀ p, p < n → ll_d w l p = true) ∨ (lc_L n (ll_d w l)).length < (lc_L n (ll_d w k)).length := by
  have hmono : ∀ z, z < n → ll_d w l z = true → ll_d w k z = true := by
    intro z hz h
    rw [ll_dt] at h ⊢
    exact fun q hq => Nat.le_trans (h1 z hz) (h q hq)
  by_cases hall : ∀ p, p < n → ll_d w l p = true
  · exact Or.inl hall
  right
  by_cases hex : ∃ a, a < n ∧ ll_d w k a = true ∧ ¬ ll_d w l a = true
  · obtain ⟨a, ha, hk, hl⟩ := hex
    exact lk_lt hmono ha hk hl
  exfalso
  apply hall
  intro p0 hp0
  have hback : ∀ a, a < n → ll_d w k a = true → ll_d w l a = true := by
    intro a ha hk
    apply Classical.byContradiction
    intro hl
    exact hex ⟨a, ha, hk, hl⟩
  have hC : la_C w (fun z => decide (z < n) && ll_d w l z) := by
    intro a b ha hab
    simp only [Bool.and_eq_true, decide_eq_true_eq] at ha ⊢
    have hbn := (la_big hw hab).2
    refine ⟨hbn, hback b hbn ?_⟩
    rw [ll_dt]
    intro q hq
    have hba : 0 < w b a := by rw [hw.2.1 b a]; exact hab
    have e1 := h2 b a hbn ha.1 hba
    have e2 := ll_dt.mp ha.2 q (lj_t (lj_e hab) hq)
    omega
  obtain ⟨u, hu, hul⟩ := lk_least (fun z => lj_J w p0 z) p0 (lj_r _ p0)
  have hun := lj_n hw hp0 hu
  have hdu : ll_d w l u = true := by
    rw [ll_dt]
    intro q hq
    have e1 := hul q (lj_t hu hq)
    have e2 := (hI u hun).2
    omega
  have := lj_s hw hu _ hC (by simp [hun, hdu])
  simp only [Bool.and_eq_true, decide_eq_true_eq] at this
  exact this.2
theorem ll_stop {n : Nat} {w : Nat → Nat → Int} (hw : la_W n w) {l : Nat → Nat} (hI : ll_I n w l) (h2 : ∀ p q, p < n → q < n → 0 < w p q → l p ≤ l q) : ∀ p, p < n → ll_d w l p = true := by
  intro p hp
  rw [ll_dt]
  intro q hq
  have hC : la_C w (fun z => decide (z < n ∧ l z = l p)) := by
    intro a b ha hab
    simp only [decide_eq_true_eq] at ha ⊢
    have hn := la_big hw hab
    have hba : 0 < w b a := by rw [hw.2.1 b a]; exact hab
    have e1 := h2 a b hn.1 hn.2 hab
    have e2 := h2 b a hn.2 hn.1 hba
    exact ⟨hn.2, by omega⟩
  have h := hq _ hC (by simp [hp])
  simp only [decide_eq_true_eq] at h
  have := (hI q h.1).2
  omega
/-- what a round has: all done, or many done -/
def ll_A (n : Nat) (w : Nat → Nat → Int) (r : Nat) (l : Nat → Nat) : Prop := ll_I n w l ∧ ((∀ p, p < n → ll_d w l p = true) ∨ r + 1 ≤ (lc_L n (ll_d w l)).length)
theorem ll_next {n : Nat} {w : Nat → Nat → Int} (hw : la_W n w) {r : Nat} {l k : Nat → Nat} (h : ll_A n w r l) (hI : ll_I n w k) (h1 : ∀ p, p < n → k p ≤ l p) (h2 : ∀ p q, p < n → q < n → 0 < w p q → k p ≤ l q) : ll_A n w (r + 1) k := by
  refine ⟨hI, ?_⟩
  have hall : (∀ p, p < n → ll_d w l p = true) → ∀ p, p < n → ll_d w k p = true := by
    intro h p hp
    have := ll_dt.mp (h p hp)
    rw [ll_dt]
    exact fun q hq => Nat.le_trans (h1 p hp) (this q hq)
  rcases h.2 with h' | h'
  · exact Or.inl (hall h')
  · rcases ll_prog hw h.1 h1 h2 with h'' | h''
    · exact Or.inl (hall h'')
    · right; omega
theorem ll_end {n : Nat} {w : Nat → Nat → Int} (hw : la_W n w) {l : Nat → Nat} (h : ll_A n w 6 l) : ∀ p, p < n → ll_d w l p = true := by
  rcases h.2 with h | h
  · exact h
  · have := lc_len (n := n) (ll_d w l)
    have := hw.1
    omega
theorem ll_0 {n : Nat} {w : Nat → Nat → Int} (hn : 0 < n) : ll_A n w 0 (fun p => p) := by
  refine ⟨fun p _ => ⟨lj_r w p, Nat.le_refl p⟩, Or.inr ?_⟩
  have h1 := (lc_pm (n := n) (P := ll_d w (fun p => p)) hn (ll_dt.mpr (fun q _ => Nat.zero_le q))).length_eq
  simp at h1
  omega
/-- final labels -/
def ll_F (n : Nat) (w : Nat → Nat → Int) (l : Nat → Nat) : Prop := ll_I n w l ∧ ∀ p, p < n → ll_d w l p = true
theorem ll_eq {n : Nat} {w : Nat → Nat → Int} (hw : la_W n w) {l : Nat → Nat} (h : ll_F n w l) {p q : Nat} (hp : p < n) (hq : q < n) : l p = l q ↔ lj_J w p q := by
  have hP := h.1 p hp
  have hQ := h.1 q hq
  constructor
  · intro e
    exact lj_t hP.1 (e ▸ lj_s hw hQ.1)
  · intro hj
    have e1 := ll_dt.mp (h.2 p hp) (l q) (lj_t hj hQ.1)
    have e2 := ll_dt.mp (h.2 q hq) (l p) (lj_t (lj_s hw hj) hP.1)
    omega
theorem ll_self {n : Nat} {w : Nat → Nat → Int} {l : Nat → Nat} (h : ll_F n w l) {p : Nat} (hp : p < n) : l p = p ↔ lk_l w p = true := by
  have hP := h.1 p hp
  rw [lk_lt']
  constructor
  · intro e q hq
    have := ll_dt.mp (h.2 p hp) q hq
    omega
  · intro hl
    have := hl (l p) hP.1
    omega
/-! the growing set of the other side -/
def lx_A (n : Nat) (w : Nat → Nat → Int) (p r : Nat) (G : Nat → Bool) : Prop := G p = true ∧ (∀ q, G q = true → lj_J w p q) ∧ (la_C w G ∨ r + 1 ≤ (lc_L n G).length)
theorem lx_next {n : Nat} {w : Nat → Nat → Int} (hw : la_W n w) {p r : Nat} {G H : Nat → Bool} (h : lx_A n w p r G) (hs : ∀ q, H q = true → lj_J w p q) (h1 : ∀ q, G q = true → H q = true) (h2 : ∀ a b, G a = true → 0 < w a b → H b = true) : lx_A n w p (r + 1) H := by
  refine ⟨h1 p h.1, hs, ?_⟩
  by_cases hC : la_C w G
  · left
    intro a b ha hab
    exact h1 b (lj_t (hs a ha) (lj_e hab) G hC h.1)
  · right
    have hr := h.2.2.resolve_left hC
    have : ∃ a b, G a = true ∧ 0 < w a b ∧ ¬ G b = true := by
      apply Classical.byContradiction
      intro hne
      apply hC
      intro a b ha hab
      apply Classical.byContradiction
      intro hb
      exact hne ⟨a, b, ha, hab, hb⟩
    obtain ⟨a, b, ha, hab, hb⟩ := this
    have := lk_lt (n := n) (fun z _ hz => h1 z hz) (la_big hw hab).2 (h2 a b ha hab) hb
    omega
theorem lx_end {n : Nat} {w : Nat → Nat → Int} {p : Nat} {G : Nat → Bool} (h : lx_A n w p n G) (q : Nat) : G q = true ↔ lj_J w p q := by
  have hC : la_C w G := by
    rcases h.2.2 with h | h
    · exact h
    · have := lc_len (n := n) G
      omega
  exact ⟨h.2.1 q, fun hj => hj G hC h.1⟩
theorem lx_0 {n : Nat} {w : Nat → Nat → Int} {p : Nat} (hp : p < n) : lx_A n w p 0 (fun z => z == p) := by
  refine ⟨by simp, fun q hq => ?_, Or.inr ?_⟩
  · have : q = p := by simpa using hq
    subst this; exact lj_r w q
  · have h1 := (lc_pm (n := n) (P := fun z => z == p) hp (by simp)).length_eq
    simp at h1
    omega
end
section
def lz_x : List Nat → Nat → Bool → Bool
  | [], _, o => o
  | x :: l, d, o => lz_x l d (if d < x then !o else o)
def lz_go (k : Nat) : Nat → Nat → List Nat → Bool → Option (Bool × List Nat)
  | 0, _, l, o => some (o, l)
  | f + 1, rest, l, o => if l.contains (rest % k) = true then none else lz_go k f (rest / k) (l ++ [rest % k]) (lz_x l (rest % k) o)
def lz_k (s : Nat) : Nat := if s < 1 then 1 else s
def lz_pr (e : Nat → Nat → Int) : Nat → List Nat → Int → Int
  | _, [], a => a
  | i, x :: l, a => lz_pr e (i + 1) l (a * e i x)
def lz_val (e : Nat → Nat → Int) : Option (Bool × List Nat) → Int
  | none => 0
  | some t => lz_pr e 0 t.2 (if t.1 = true then -1 else 1)
def lz_sum (f : Nat → Int) : Nat → Int
  | 0 => 0
  | n + 1 => lz_sum f n + f n
def lz_ls (e : Nat → Nat → Int) : List (Bool × List Nat) → Int
  | [] => 0
  | t :: l => lz_pr e 0 t.2 (if t.1 = true then -1 else 1) + lz_ls e l
theorem lz_lsa (e : Nat → Nat → Int) : ∀ l k : List (Bool × List Nat), lz_ls e (l ++ k) = lz_ls e l + lz_ls e k
  | [], k => by simp [lz_ls]
  | t :: l, k => by
    have := lz_lsa e l k
    simp only [List.cons_append, lz_ls, this]; omega
theorem lz_fm (e : Nat → Nat → Int) (d : Nat → Option (Bool × List Nat)) : ∀ n, lz_sum (fun c => lz_val e (d c)) n = lz_ls e ((List.range n).filterMap d)
  | 0 => rfl
  | n + 1 => by
    rw [List.range_succ, List.filterMap_append, lz_lsa, ← lz_fm e d n]
    cases h : d n <;> simp [lz_sum, lz_val, lz_ls, h]
theorem lz_t0 : (List.range 1).filterMap (fun c => lz_go 1 0 c [] false) = [(false, [])] := by decide +kernel
theorem lz_d0 (e : Nat → Nat → Int) : lz_sum (fun c => lz_val e (lz_go 1 0 c [] false)) 1 = 1 := by
  rw [lz_fm, lz_t0]
  simp only [lz_ls, lz_pr, if_true, if_false, Bool.false_eq_true, reduceIte, Nat.zero_add, Nat.reduceAdd]
  try grind
theorem lz_t1 : (List.range 1).filterMap (fun c => lz_go 1 1 c [] false) = [(false, [0])] := by decide +kernel
theorem lz_d1 (e : Nat → Nat → Int) : lz_sum (fun c => lz_val e (lz_go 1 1 c [] false)) 1 = e 0 0 := by
  rw [lz_fm, lz_t1]
  simp only [lz_ls, lz_pr, if_true, if_false, Bool.false_eq_true, reduceIte, Nat.zero_add, Nat.reduceAdd]
  try grind
theorem lz_t2 : (List.range 4).filterMap (fun c => lz_go 2 2 c [] false) = [(true, [1, 0]), (false, [0, 1])] := by decide +kernel
theorem lz_d2 (e : Nat → Nat → Int) : lz_sum (fun c => lz_val e (lz_go 2 2 c [] false)) 4 = nd_2 (e 0 0) (e 0 1) (e 1 0) (e 1 1) := by
  rw [lz_fm, lz_t2]
  simp only [lz_ls, lz_pr, if_true, if_false, Bool.false_eq_true, reduceIte, Nat.zero_add, Nat.reduceAdd, nd_2]
  grind
theorem lz_t3 : (List.range 27).filterMap (fun c => lz_go 3 3 c [] false) = [(true, [2, 1, 0]), (false, [1, 2, 0]), (false, [2, 0, 1]), (true, [0, 2, 1]), (true, [1, 0, 2]), (false, [0, 1, 2])] := by decide +kernel
theorem lz_d3 (e : Nat → Nat → Int) : lz_sum (fun c => lz_val e (lz_go 3 3 c [] false)) 27 = nd_3 (e 0 0) (e 0 1) (e 0 2) (e 1 0) (e 1 1) (e 1 2) (e 2 0) (e 2 1) (e 2 2) := by
  rw [lz_fm, lz_t3]
  simp only [lz_ls, lz_pr, if_true, if_false, Bool.false_eq_true, reduceIte, Nat.zero_add, Nat.reduceAdd, nd_3, nd_2]
  grind
theorem lz_t4 : (List.range 256).filterMap (fun c => lz_go 4 4 c [] false) = [(false, [3, 2, 1, 0]), (true, [2, 3, 1, 0]), (true, [3, 1, 2, 0]), (false, [1, 3, 2, 0]), (false, [2, 1, 3, 0]), (true, [1, 2, 3, 0]), (true, [3, 2, 0, 1]), (false, [2, 3, 0, 1]), (false, [3, 0, 2, 1]), (true, [0, 3, 2, 1]), (true, [2, 0, 3, 1]), (false, [0, 2, 3, 1]), (false, [3, 1, 0, 2]), (true, [1, 3, 0, 2]), (true, [3, 0, 1, 2]), (false, [0, 3, 1, 2]), (false, [1, 0, 3, 2]), (true, [0, 1, 3, 2]), (true, [2, 1, 0, 3]), (false, [1, 2, 0, 3]), (false, [2, 0, 1, 3]), (true, [0, 2, 1, 3]), (true, [1, 0, 2, 3]), (false, [0, 1, 2, 3])] := by decide +kernel
theorem lz_d4 (e : Nat → Nat → Int) : lz_sum (fun c => lz_val e (lz_go 4 4 c [] false)) 256 = nd_4 (e 0 0) (e 0 1) (e 0 2) (e 0 3) (e 1 0) (e 1 1) (e 1 2) (e 1 3) (e 2 0) (e 2 1) (e 2 2) (e 2 3) (e 3 0) (e 3 1) (e 3 2) (e 3 3) := by
  rw [lz_fm, lz_t4]
  simp only [lz_ls, lz_pr, if_true, if_false, Bool.false_eq_true, reduceIte, Nat.zero_add, Nat.reduceAdd, nd_4, nd_3, nd_2]
  grind
theorem lz_t5 : (List.range 3125).filterMap (fun c => lz_go 5 5 c [] false) = [(false, [4, 3, 2, 1, 0]), (true, [3, 4, 2, 1, 0]), (true, [4, 2, 3, 1, 0]), (false, [2, 4, 3, 1, 0]), (false, [3, 2, 4, 1, 0]), (true, [2, 3, 4, 1, 0]), (true, [4, 3, 1, 2, 0]), (false, [3, 4, 1, 2, 0]), (false, [4, 1, 3, 2, 0]), (true, [1, 4, 3, 2, 0]), (true, [3, 1, 4, 2, 0]), (false, [1, 3, 4, 2, 0]), (false, [4, 2, 1, 3, 0]), (true, [2, 4, 1, 3, 0]), (true, [4, 1, 2, 3, 0]), (false, [1, 4, 2, 3, 0]), (false, [2, 1, 4, 3, 0]), (true, [1, 2, 4, 3, 0]), (true, [3, 2, 1, 4, 0]), (false, [2, 3, 1, 4, 0]), (false, [3, 1, 2, 4, 0]), (true, [1, 3, 2, 4, 0]), (true, [2, 1, 3, 4, 0]), (false, [1, 2, 3, 4, 0]), (true, [4, 3, 2, 0, 1]), (false, [3, 4, 2, 0, 1]), (false, [4, 2, 3, 0, 1]), (true, [2, 4, 3, 0, 1]), (true, [3, 2, 4, 0, 1]), (false, [2, 3, 4, 0, 1]), (false, [4, 3, 0, 2, 1]), (true, [3, 4, 0, 2, 1]), (true, [4, 0, 3, 2, 1]), (false, [0, 4, 3, 2, 1]), (false, [3, 0, 4, 2, 1]), (true, [0, 3, 4, 2, 1]), (true, [4, 2, 0, 3, 1]), (false, [2, 4, 0, 3, 1]), (false, [4, 0, 2, 3, 1]), (true, [0, 4, 2, 3, 1]), (true, [2, 0, 4, 3, 1]), (false, [0, 2, 4, 3, 1]), (false, [3, 2, 0, 4, 1]), (true, [2, 3, 0, 4, 1]), (true, [3, 0, 2, 4, 1]), (false, [0, 3, 2, 4, 1]), (false, [2, 0, 3, 4, 1]), (true, [0, 2, 3, 4, 1]), (false, [4, 3, 1, 0, 2]), (true, [3, 4, 1, 0, 2]), (true, [4, 1, 3, 0, 2]), (false, [1, 4, 3, 0, 2]), (false, [3, 1, 4, 0, 2]), (true, [1, 3, 4, 0, 2]), (true, [4, 3, 0, 1, 2]), (false, [3, 4, 0, 1, 2]), (false, [4, 0, 3, 1, 2]), (true, [0, 4, 3, 1, 2]), (true, [3, 0, 4, 1, 2]), (false, [0, 3, 4, 1, 2]), (false, [4, 1, 0, 3, 2]), (true, [1, 4, 0, 3, 2]), (true, [4, 0, 1, 3, 2]), (false, [0, 4, 1, 3, 2]), (false, [1, 0, 4, 3, 2]), (true, [0, 1, 4, 3, 2]), (true, [3, 1, 0, 4, 2]), (false, [1, 3, 0, 4, 2]), (false, [3, 0, 1, 4, 2]), (true, [0, 3, 1, 4, 2]), (true, [1, 0, 3, 4, 2]), (false, [0, 1, 3, 4, 2]), (true, [4, 2, 1, 0, 3]), (false, [2, 4, 1, 0, 3]), (false, [4, 1, 2, 0, 3]), (true, [1, 4, 2, 0, 3]), (true, [2, 1, 4, 0, 3]), (false, [1, 2, 4, 0, 3]), (false, [4, 2, 0, 1, 3]), (true, [2, 4, 0, 1, 3]), (true, [4, 0, 2, 1, 3]), (false, [0, 4, 2, 1, 3]), (false, [2, 0, 4, 1, 3]), (true, [0, 2, 4, 1, 3]), (true, [4, 1, 0, 2, 3]), (false, [1, 4, 0, 2, 3]), (false, [4, 0, 1, 2, 3]), (true, [0, 4, 1, 2, 3]), (true, [1, 0, 4, 2, 3]), (false, [0, 1, 4, 2, 3]), (false, [2, 1, 0, 4, 3]), (true, [1, 2, 0, 4, 3]), (true, [2, 0, 1, 4, 3]), (false, [0, 2, 1, 4, 3]), (false, [1, 0, 2, 4, 3]), (true, [0, 1, 2, 4, 3]), (false, [3, 2, 1, 0, 4]), (true, [2, 3, 1, 0, 4]), (true, [3, 1, 2, 0, 4]), (false, [1, 3, 2, 0, 4]), (false, [2, 1, 3, 0, 4]), (true, [1, 2, 3, 0, 4]), (true, [3, 2, 0, 1, 4]), (false, [2, 3, 0, 1, 4]), (false, [3, 0, 2, 1, 4]), (true, [0, 3, 2, 1, 4]), (true, [2, 0, 3, 1, 4]), (false, [0, 2, 3, 1, 4]), (false, [3, 1, 0, 2, 4]), (true, [1, 3, 0, 2, 4]), (true, [3, 0, 1, 2, 4]), (false, [0, 3, 1, 2, 4]), (false, [1, 0, 3, 2, 4]), (true, [0, 1, 3, 2, 4]), (true, [2, 1, 0, 3, 4]), (false, [1, 2, 0, 3, 4]), (false, [2, 0, 1, 3, 4]), (true, [0, 2, 1, 3, 4]), (true, [1, 0, 2, 3, 4]), (false, [0, 1, 2, 3, 4])] := by decide +kernel
theorem lz_d5 (e : Nat → Nat → Int) : lz_sum (fun c => lz_val e (lz_go 5 5 c [] false)) 3125 = nd_5 (e 0 0) (e 0 1) (e 0 2) (e 0 3) (e 0 4) (e 1 0) (e 1 1) (e 1 2) (e 1 3) (e 1 4) (e 2 0) (e 2 1) (e 2 2) (e 2 3) (e 2 4) (e 3 0) (e 3 1) (e 3 2) (e 3 3) (e 3 4) (e 4 0) (e 4 1) (e 4 2) (e 4 3) (e 4 4) := by
  rw [lz_fm, lz_t5]
  simp only [lz_ls, lz_pr, if_true, if_false, Bool.false_eq_true, reduceIte, Nat.zero_add, Nat.reduceAdd, nd_5, nd_4, nd_3, nd_2]
  grind
end
section
/-- what Euclid has after j steps of at most 2 N -/
def eu_I (N j a b : Nat) : Prop := (j % 2 = 0 → b < 2 ^ (N - j / 2)) ∧ (j % 2 = 1 → b = 0 ∨ (b < a ∧ a < 2 ^ (N - j / 2)))
theorem eu_z {N j a : Nat} : eu_I N j a 0 := ⟨fun _ => Nat.pos_of_ne_zero (by simp), fun _ => Or.inl rfl⟩
theorem eu_half {a b : Nat} (hb : 0 < b) (h : b < a) : 2 * (a % b) < a := by
  have h1 := Nat.mod_lt a hb
  have h2 := Nat.div_add_mod a b
  have h3 : 1 ≤ a / b := (Nat.one_le_div_iff hb).mpr (Nat.le_of_lt h)
  have h4 : b * 1 ≤ b * (a / b) := Nat.mul_le_mul_left b h3
  omega
theorem eu_s {N j a b : Nat} (hj : j < 2 * N) (h : eu_I N j a b) (hb : 0 < b) : eu_I N (j + 1) b (a % b) := by
  constructor
  · intro h1
    have h2 : j % 2 = 1 := by omega
    rcases h.2 h2 with h3 | h3
    · omega
    · have h4 := eu_half hb h3.1
      have h5 : N - j / 2 = (N - (j + 1) / 2) + 1 := by omega
      rw [h5, Nat.pow_succ] at h3
      omega
  · intro h1
    have h2 : j % 2 = 0 := by omega
    have h3 := h.1 h2
    have h4 : N - j / 2 = N - (j + 1) / 2 := by omega
    right
    exact ⟨Nat.mod_lt a hb, h4 ▸ h3⟩
theorem eu_g {a b : Nat} : Nat.gcd b (a % b) = Nat.gcd a b := by
  rw [Nat.gcd_comm a b, Nat.gcd_rec b a, Nat.gcd_comm]
theorem eu_e {N a b : Nat} (h : eu_I N (2 * N) a b) : b = 0 := by
  have := h.1 (by omega)
  have e : N - 2 * N / 2 = 0 := by omega
  rw [e] at this
  omega
/-- the part in lowest terms -/
def eu_q (x y : Int) : Int := x.tdiv (Nat.gcd x.natAbs y.natAbs : Nat)
theorem eu_2 (x y : Int) : eu_q (2 * x) (2 * y) = eu_q x y := by
  unfold eu_q
  have e1 : (2 * x).natAbs = 2 * x.natAbs := by rw [Int.natAbs_mul]; rfl
  have e2 : (2 * y).natAbs = 2 * y.natAbs := by rw [Int.natAbs_mul]; rfl
  rw [e1, e2, Nat.gcd_mul_left]
  have e3 : ((2 * Nat.gcd x.natAbs y.natAbs : Nat) : Int) = 2 * (Nat.gcd x.natAbs y.natAbs : Nat) := by omega
  rw [e3, Int.mul_tdiv_mul_of_pos _ _ (by decide)]
theorem eu_d {x : Int} {g : Nat} (hx : x.natAbs < 2 ^ 63) (hg : g < 2 ^ 63) : Int64.ofInt x / Int64.ofInt (g : Int) = Int64.ofInt (x.tdiv (g : Int)) := by
  have m1 : Int64.minValue.toInt = -9223372036854775808 := by decide
  have m2 : Int64.maxValue.toInt = 9223372036854775807 := by decide
  rw [Int64.ofInt_tdiv (by rw [m1]; omega) (by rw [m2]; omega) (by rw [m1]; omega) (by rw [m2]; omega)]
theorem eu_ex {b z : Int} (hb : b ≠ 0) (h : (b * z).natAbs < 2 ^ 63) : Int64.ofInt (b * z) / Int64.ofInt b = Int64.ofInt z := by
  by_cases hz : z = 0
  · subst hz
    have e : Int64.ofInt (b * 0) = 0 := by rw [Int.mul_zero]; rfl
    rw [e]
    apply Int64.toInt_inj.mp
    rw [Int64.toInt_div]
    simp
  · have m1 : Int64.minValue.toInt = -9223372036854775808 := by decide
    have m2 : Int64.maxValue.toInt = 9223372036854775807 := by decide
    have hb' : b.natAbs < 2 ^ 63 := by
      have h1 : 1 ≤ z.natAbs := by omega
      have h2 : b.natAbs * 1 ≤ b.natAbs * z.natAbs := Nat.mul_le_mul_left _ h1
      rw [Int.natAbs_mul] at h
      omega
    rw [← Int64.ofInt_tdiv (by rw [m1]; omega) (by rw [m2]; omega) (by rw [m1]; omega) (by rw [m2]; omega), Int.mul_tdiv_cancel_left _ hb]
theorem eu_lt {x : Int} (hx : x.natAbs < 2 ^ 63) : Int64.ofInt x < 0 ↔ x < 0 := by
  rw [Int64.lt_iff_toInt_lt, Int64.toInt_ofInt_of_le (by omega) (by omega)]
  exact Iff.rfl
theorem eu_lN (n : Nat) : lN n = Int64.ofInt (n : Int) := Int64.ofInt_eq_ofNat.symm
theorem eu_abs {x : Int} : (x < 0 → -Int64.ofInt x = lN x.natAbs) ∧ (¬ x < 0 → Int64.ofInt x = lN x.natAbs) := by
  constructor
  · intro h
    rw [eu_lN, ← Int64.ofInt_neg]
    congr 1; omega
  · intro h
    rw [eu_lN]
    congr 1; omega
theorem eu_eq {x y : Int} (hx : x.natAbs < 2 ^ 63) (hy : y.natAbs < 2 ^ 63) : Int64.ofInt x = Int64.ofInt y ↔ x = y := by
  rw [← Int64.toInt_inj, Int64.toInt_ofInt_of_le (by omega) (by omega), Int64.toInt_ofInt_of_le (by omega) (by omega)]
end
section
def bz_c (m : Nat → Nat → Int) (P : Nat → Bool) (t i j : Nat) : Int :=
  if P i = true ∧ P j = true then nd_R m (m i) j (lc_L t P) else if i = j then nd_D m (lc_L t P) else 0
theorem bz_k {m : Nat → Nat → Int} {P : Nat → Bool} {t i j : Nat} (hi : P i = true) (hj : P j = true) : bz_c m P t i j = nd_R m (m i) j (lc_L t P) := if_pos ⟨hi, hj⟩
theorem bz_d {m : Nat → Nat → Int} {P : Nat → Bool} {t i : Nat} (hi : ¬ P i = true) : bz_c m P t i i = nd_D m (lc_L t P) := by
  unfold bz_c; rw [if_neg (fun h => hi h.1), if_pos rfl]
theorem bz_o {m : Nat → Nat → Int} {P : Nat → Bool} {t i j : Nat} (hij : ¬ (P i = true ∧ P j = true)) (hne : ¬ i = j) : bz_c m P t i j = 0 := by
  unfold bz_c; rw [if_neg hij, if_neg hne]
theorem bz_s1 {P : Nat → Bool} {t : Nat} (h : P t = true) : lc_L (t + 1) P = lc_L t P ++ [t] := by
  rw [lk_s, if_pos h]
theorem bz_s0 {P : Nat → Bool} {t : Nat} (h : ¬ P t = true) : lc_L (t + 1) P = lc_L t P := by
  rw [lk_s, if_neg h, List.append_nil]
theorem bz_p (m : Nat → Nat → Int) (P : Nat → Bool) (t : Nat) : bz_c m P t t t = nd_D m (lc_L (t + 1) P) := by
  by_cases h : P t = true
  · rw [bz_k h h, bz_s1 h, nd_sn]
  · rw [bz_d h, bz_s0 h]
theorem bz_mono {P : Nat → Bool} {a b : Nat} (h : a ≤ b) : (lc_L a P).length ≤ (lc_L b P).length := by
  induction h with
  | refl => exact Nat.le_refl _
  | step _ ih => rw [lk_sl]; omega
theorem bz_len {P : Nat → Bool} {n t i : Nat} (h5 : (lc_L n P).length ≤ 5) (hti : t < i) (hi : i < n) (hPt : P t = true) (hPi : P i = true) : (lc_L t P).length ≤ 3 := by
  have h1 := lk_sl t P
  have h2 := lk_sl i P
  have h3 := bz_mono (P := P) (a := t + 1) (b := i) (by omega)
  have h4 := bz_mono (P := P) (a := i + 1) (b := n) (by omega)
  simp only [hPt, hPi, if_true] at h1 h2
  omega
theorem bz_id (m : Nat → Nat → Int) (P : Nat → Bool) {n t i j : Nat} (h5 : (lc_L n P).length ≤ 5) (hti : t < i) (htj : t < j) (hi : i < n) :
    bz_c m P t i j * bz_c m P t t t - bz_c m P t i t * bz_c m P t t j = nd_D m (lc_L t P) * bz_c m P (t + 1) i j := by
  have hit : ¬ i = t := by omega
  have htj' : ¬ t = j := by omega
  by_cases ht : P t = true
  · by_cases hij : P i = true ∧ P j = true
    · have hl := bz_len h5 hti hi ht hij.1
      have := nd_sy m t i j (lc_L t P) hl
      rw [bz_k hij.1 hij.2, bz_k ht ht, bz_k hij.1 ht, bz_k ht hij.2, bz_k hij.1 hij.2, bz_s1 ht, ← this, Int.mul_comm (nd_R m (m i) j (lc_L t P))]
    · by_cases hne : i = j
      · subst hne
        have hi' : ¬ P i = true := fun h => hij ⟨h, h⟩
        rw [bz_d hi', bz_d hi', bz_p, bz_o (i := i) (j := t) (fun h => hi' h.1) hit]
        omega
      · rw [bz_o hij hne, bz_o hij hne]
        by_cases hi' : P i = true
        · have hj' : ¬ P j = true := fun h => hij ⟨hi', h⟩
          rw [bz_o (i := t) (j := j) (fun h => hj' h.2) htj']
          omega
        · rw [bz_o (i := i) (j := t) (fun h => hi' h.1) hit]
          omega
  · rw [bz_d ht, bz_o (i := i) (j := t) (fun h => ht h.2) hit]
    have e : bz_c m P (t + 1) i j = bz_c m P t i j := by unfold bz_c; rw [bz_s0 ht]
    rw [e, Int.mul_comm]
    omega
theorem bz_bd {m : Nat → Nat → Int} (hm : ∀ a b, (m a b).natAbs ≤ 45) (P : Nat → Bool) {n t i j : Nat} (hn : n ≤ 6) (ht : t + 1 < n) : (nd_D m (lc_L t P) * bz_c m P (t + 1) i j).natAbs < 2 ^ 63 := by
  have hbd : ∀ k, nd_bd k ≤ 22143375000 := by
    intro k
    match k with
    | 0 => decide
    | 1 => decide
    | 2 => decide
    | 3 => decide
    | 4 => decide
    | 5 => decide
    | k + 6 => exact Nat.zero_le _
  have h4 : ∀ k, k ≤ 4 → nd_bd k ≤ 98415000 := by
    intro k hk
    match k, hk with
    | 0, _ => decide
    | 1, _ => decide
    | 2, _ => decide
    | 3, _ => decide
    | 4, _ => decide
    | k + 5, h => omega
  have h1 : (nd_D m (lc_L t P)).natAbs ≤ 98415000 := Nat.le_trans (nd_bD hm _) (h4 _ (by have := lc_len (n := t) P; omega))
  have h2 : (bz_c m P (t + 1) i j).natAbs ≤ 22143375000 := by
    unfold bz_c
    split
    · exact Nat.le_trans (nd_bR hm i j _) (hbd _)
    · split
      · exact Nat.le_trans (nd_bD hm _) (hbd _)
      · decide
  have := nd_bm h1 h2
  omega
/-- one cell of a step -/
theorem bz_st {m : Nat → Nat → Int} (hm : ∀ a b, (m a b).natAbs ≤ 45) (P : Nat → Bool) {n t i j : Nat} (hn : n ≤ 6) (h5 : (lc_L n P).length ≤ 5) (hti : t < i) (htj : t < j) (hi : i < n) (h0 : nd_D m (lc_L t P) ≠ 0) :
    (Int64.ofInt (bz_c m P t i j) * Int64.ofInt (bz_c m P t t t) - Int64.ofInt (bz_c m P t i t) * Int64.ofInt (bz_c m P t t j)) / Int64.ofInt (nd_D m (lc_L t P)) = Int64.ofInt (bz_c m P (t + 1) i j) := by
  rw [← Int64.ofInt_mul, ← Int64.ofInt_mul, ← Int64.ofInt_sub, bz_id m P h5 hti htj hi]
  exact eu_ex h0 (bz_bd hm P hn (by omega))
end
section
theorem mb_or (a b : Nat) : nI a ||| nI b = nI (a ||| b) := by
  apply Int32.toBitVec_inj.1
  show BitVec.ofNat 32 a ||| BitVec.ofNat 32 b = BitVec.ofNat 32 (a ||| b)
  apply BitVec.eq_of_getLsbD_eq
  intro i hi
  simp [hi]
theorem mb_1 : ∀ p, p < 7 → (1 : Int32) <<< (nI p &&& 31) = nI (2 ^ p) := by decide +kernel
theorem mb_m : ∀ p, p < 7 → nI (2 ^ p) - 1 = nI (2 ^ p - 1) := by decide +kernel
theorem mb_bit : ∀ G, G < 64 → ∀ q, q < 6 → (nI G >>> (nI q &&& 31)) &&& 1 = (if G.testBit q = true then 1 else 0) := by decide +kernel
theorem mb_bit2 : ∀ G, G < 64 → ∀ p, p < 6 → ∀ q, q < 6 → ((nI G >>> (nI p &&& 31)) &&& (nI G >>> (nI q &&& 31))) &&& 1 = (if G.testBit p = true ∧ G.testBit q = true then 1 else 0) := by decide +kernel
theorem mb_both : ∀ G, G < 64 → ∀ a, a < 6 → ∀ b, b < 6 → (nI G &&& nI (2 ^ a ||| 2 ^ b) = 0 ↔ (G.testBit a = false ∧ G.testBit b = false)) := by decide +kernel
theorem mb_orlt : ∀ G, G < 64 → ∀ a, a < 6 → ∀ b, b < 6 → G ||| (2 ^ a ||| 2 ^ b) < 64 := by decide +kernel
theorem mb_low : ∀ G, G < 64 → ∀ p, p < 6 → (nI G &&& nI (2 ^ p - 1) = 0 ↔ ∀ q, q < p → G.testBit q = false) := by decide +kernel
theorem mb_ends : ∀ G, G < 64 → ∀ a, a < 6 → ∀ b, b < 6 → nI G &&& (nI (2 ^ a ||| 2 ^ b) ^^^ (-1)) = nI (G &&& (63 ^^^ (2 ^ a ||| 2 ^ b))) := by decide +kernel
theorem mb_endt : ∀ G, G < 64 → ∀ a, a < 6 → ∀ b, b < 6 → G &&& (63 ^^^ (2 ^ a ||| 2 ^ b)) < 64 ∧ ∀ q, q < 6 → ((G &&& (63 ^^^ (2 ^ a ||| 2 ^ b))).testBit q = (G.testBit q && !(q == a) && !(q == b))) := by decide +kernel
theorem mb_drop : ∀ G, G < 64 → nI G &&& (nI G - 1) = nI (G &&& (G - 1)) := by decide +kernel
theorem mb_dropt : ∀ G, G < 64 → 0 < G → G &&& (G - 1) < 64 ∧ ∃ l, l < 6 ∧ G.testBit l = true ∧ (∀ q, q < l → G.testBit q = false) ∧ ∀ q, q < 6 → ((G &&& (G - 1)).testBit q = (G.testBit q && !(q == l))) := by decide +kernel
theorem mb_full : ∀ n, n < 7 → ∀ G, G < 64 → (nI G = nI (2 ^ n - 1) ↔ G = 2 ^ n - 1) := by decide +kernel
theorem mb_fullt : ∀ n, n < 7 → ∀ q, q < 6 → ((2 ^ n - 1).testBit q = decide (q < n)) := by decide +kernel
theorem mb_t6 {G q : Nat} (hG : G < 64) (h : G.testBit q = true) : q < 6 := by
  apply Nat.lt_of_not_le
  intro hq
  have := Nat.testBit_lt_two_pow (i := q) (x := G) (Nat.lt_of_lt_of_le hG (Nat.pow_le_pow_right (n := 2) (by omega) hq))
  rw [this] at h
  exact absurd h (by decide)
theorem mb_ext {G H : Nat} (hG : G < 64) (hH : H < 64) (h : ∀ q, q < 6 → (G.testBit q = true ↔ H.testBit q = true)) : G = H := by
  apply Nat.eq_of_testBit_eq
  intro i
  by_cases hi : i < 6
  · have := h i hi
    revert this
    cases G.testBit i <;> cases H.testBit i <;> simp
  · cases h1 : G.testBit i
    · cases h2 : H.testBit i
      · rfl
      · exact absurd (mb_t6 hH h2) hi
    · exact absurd (mb_t6 hG h1) hi
theorem mb_two {a q : Nat} : (2 ^ a).testBit q = true ↔ q = a := by
  rw [Nat.testBit_two_pow]
  simp only [decide_eq_true_eq]
  exact eq_comm
end
section
/-- the conductances that an array holds -/
def cw_w (a : Nat → Int32) : Nat → Nat → Int := fun p q => if p < 6 ∧ q < 6 then (a (6 * p + q)).toInt else 0
def cw_O (n : Nat) (a : Nat → Int32) : Prop := 2 ≤ n ∧ n ≤ 6 ∧ ∀ p q, p < 6 → q < 6 → (∃ v, v ≤ 9 ∧ a (6 * p + q) = nI v) ∧ a (6 * p + q) = a (6 * q + p) ∧ (p = q → a (6 * p + q) = 0) ∧ (n ≤ p → a (6 * p + q) = 0)
theorem cw_v {n : Nat} {a : Nat → Int32} (h : cw_O n a) {p q : Nat} (hp : p < 6) (hq : q < 6) : ∃ v, v ≤ 9 ∧ a (6 * p + q) = nI v ∧ cw_w a p q = (v : Int) := by
  obtain ⟨v, hv, e⟩ := (h.2.2 p q hp hq).1
  refine ⟨v, hv, e, ?_⟩
  simp only [cw_w, hp, hq, and_self, if_true, e]
  exact nI_toInt (by omega)
theorem cw_W {n : Nat} {a : Nat → Int32} (h : cw_O n a) : la_W n (cw_w a) := by
  have hO := h
  obtain ⟨h2, h6, hc⟩ := h
  refine ⟨h6, fun p q => ?_, fun p => ?_, fun p q => ?_, fun p q hnp => ?_⟩
  · by_cases hp : p < 6 ∧ q < 6
    · have hp' : q < 6 ∧ p < 6 := ⟨hp.2, hp.1⟩
      simp only [cw_w, hp, hp', and_self, if_true, (hc p q hp.1 hp.2).2.1]
    · have hp' : ¬ (q < 6 ∧ p < 6) := fun e => hp ⟨e.2, e.1⟩
      simp only [cw_w, hp, hp', if_false]
  · by_cases hp : p < 6
    · simp only [cw_w, hp, and_self, if_true, (hc p p hp hp).2.2.1 rfl]; rfl
    · simp only [cw_w, hp, and_self, if_false]
  · by_cases hp : p < 6 ∧ q < 6
    · obtain ⟨v, hv, _, e⟩ := cw_v hO hp.1 hp.2
      rw [e]; omega
    · simp only [cw_w, hp, if_false]; omega
  · by_cases hp : p < 6 ∧ q < 6
    · simp only [cw_w, hp, and_self, if_true, (hc p q hp.1 hp.2).2.2.2 hnp]; rfl
    · simp only [cw_w, hp, if_false]
def cw_put (a : Nat → Int32) (p q : Nat) (v : Int32) : Nat → Int32 := upd (upd a (6 * p + q) v) (6 * q + p) v
theorem cw_putv {a : Nat → Int32} {p q x y : Nat} {v : Int32} (hp : p < 6) (hq : q < 6) (hx : x < 6) (hy : y < 6) : cw_put a p q v (6 * x + y) = if (x = p ∧ y = q) ∨ (x = q ∧ y = p) then v else a (6 * x + y) := by
  simp only [cw_put, upd]
  by_cases h1 : x = q ∧ y = p
  · have e : 6 * x + y = 6 * q + p := by omega
    have h : (x = p ∧ y = q) ∨ (x = q ∧ y = p) := Or.inr h1
    rw [if_pos e, if_pos h]
  · have e : ¬ 6 * x + y = 6 * q + p := by omega
    rw [if_neg e]
    by_cases h2 : x = p ∧ y = q
    · have e2 : 6 * x + y = 6 * p + q := by omega
      have h : (x = p ∧ y = q) ∨ (x = q ∧ y = p) := Or.inl h2
      rw [if_pos e2, if_pos h]
    · have e2 : ¬ 6 * x + y = 6 * p + q := by omega
      have h : ¬ ((x = p ∧ y = q) ∨ (x = q ∧ y = p)) := fun h => h.elim h2 h1
      rw [if_neg e2, if_neg h]
theorem cw_putO {n : Nat} {a : Nat → Int32} (h : cw_O n a) {p q v : Nat} (hp : p < n) (hq : q < n) (hpq : ¬ p = q) (hv : v ≤ 9) : cw_O n (cw_put a p q (nI v)) := by
  obtain ⟨h2, h6, hc⟩ := h
  refine ⟨h2, h6, fun x y hx hy => ?_⟩
  have hp6 : p < 6 := by omega
  have hq6 : q < 6 := by omega
  rw [cw_putv hp6 hq6 hx hy, cw_putv hp6 hq6 hy hx]
  by_cases h : (x = p ∧ y = q) ∨ (x = q ∧ y = p)
  · have h' : (y = p ∧ x = q) ∨ (y = q ∧ x = p) := by omega
    rw [if_pos h, if_pos h']
    exact ⟨⟨v, hv, rfl⟩, rfl, fun e => by omega, fun e => by omega⟩
  · have h' : ¬ ((y = p ∧ x = q) ∨ (y = q ∧ x = p)) := by omega
    rw [if_neg h, if_neg h']
    exact hc x y hx hy
theorem cw_putw {n : Nat} {a : Nat → Int32} (h : cw_O n a) {p q : Nat} (hp : p < n) (hq : q < n) : cw_w (cw_put a p q 0) = lb_out (cw_w a) p q := by
  have h6 := h.2.1
  funext x y
  by_cases hxy : x < 6 ∧ y < 6
  · simp only [cw_w, lb_out, hxy, and_self, if_true]
    rw [cw_putv (by omega) (by omega) hxy.1 hxy.2]
    by_cases e : (x = p ∧ y = q) ∨ (x = q ∧ y = p)
    · simp only [e, if_true]; rfl
    · simp only [e, if_false]
  · have e : ¬ ((x = p ∧ y = q) ∨ (x = q ∧ y = p)) := by omega
    simp only [cw_w, lb_out, hxy, e, if_false]
theorem cw_back {n : Nat} {a : Nat → Int32} (h : cw_O n a) {p q : Nat} (hp : p < n) (hq : q < n) (z : Int32) : cw_put (cw_put a p q z) p q (a (6 * p + q)) = a := by
  have h6 := h.2.1
  have hs := (h.2.2 p q (by omega) (by omega)).2.1
  funext i
  simp only [cw_put, upd]
  by_cases h1 : i = 6 * q + p
  · rw [if_pos h1, h1, hs]
  · rw [if_neg h1]
    by_cases h2 : i = 6 * p + q
    · rw [if_pos h2, h2]
    · rw [if_neg h2, if_neg h1, if_neg h2]
theorem cw_pos {n : Nat} {a : Nat → Int32} (h : cw_O n a) {p q : Nat} (hp : p < 6) (hq : q < 6) : 0 < a (6 * p + q) ↔ 0 < cw_w a p q := by
  obtain ⟨v, hv, e, e2⟩ := cw_v h hp hq
  rw [e, e2, ← nI_0, nI_ltI (by omega) (by omega)]
  omega
theorem cw_zero {n : Nat} {a : Nat → Int32} (h : cw_O n a) {p q : Nat} (hp : p < 6) (hq : q < 6) : a (6 * p + q) = 0 ↔ cw_w a p q = 0 := by
  obtain ⟨v, hv, e, e2⟩ := cw_v h hp hq
  rw [e, e2, ← nI_0, nI_eq (by omega) (by omega)]
  omega
theorem cw_l {n : Nat} {a : Nat → Int32} (h : cw_O n a) {p q : Nat} (hp : p < 6) (hq : q < 6) : (a (6 * p + q)).toInt64 = Int64.ofInt (cw_w a p q) := by
  simp only [cw_w, hp, hq, and_self, if_true]
  rfl
end
section
theorem an_bf {n : Nat} {w : Nat → Nat → Int} (hw : la_W n w) {s p : Nat} (h : lj_J w s p) : lj_b w p = lj_b w s := by
  funext z
  have : lj_b w p z = true ↔ lj_b w s z = true := by
    rw [lj_bt, lj_bt]
    exact ⟨fun k => lj_t h k, fun k => lj_t (lj_s hw h) k⟩
  revert this
  cases lj_b w p z <;> cases lj_b w s z <;> simp
noncomputable def an_M (w : Nat → Nat → Int) (n p q : Nat) : Int := if p = q then 0 else nd_D (la_m w) (lc_L n (lc_xx (lj_b w p) p q))
noncomputable def an_sh (w : Nat → Nat → Int) (n s d p : Nat) : Int := if p = d then 0 else if p = s then an_M w n s d else nd_D (lc_c w p s) (lc_L n (lc_xx (lj_b w s) s d))
theorem an_v {n : Nat} {w : Nat → Nat → Int} (hw : la_W n w) {s d p : Nat} (hs : s < n) (hsd : ¬ s = d) (hd : lj_J w s d) (hp : lj_J w s p) :
    an_M w n s d + an_M w n p d - an_M w n s p = 2 * an_sh w n s d p := by
  by_cases e1 : p = d
  · subst e1
    simp only [an_sh, if_true, an_M]
    omega
  · by_cases e2 : p = s
    · subst e2
      simp only [an_sh, e1, if_false, if_true]
      have : an_M w n p p = 0 := by simp [an_M]
      omega
    · have e2' : ¬ s = p := fun h => e2 h.symm
      have h := lc_V hw (lj_C s) (fun z hz => lj_n hw hs (lj_bt.mp hz)) (lj_bt.mpr (lj_r w s)) (lj_bt.mpr hd) (lj_bt.mpr hp) hsd e2' (fun h => e1 h.symm)
      simp only [an_sh, an_M, e1, e2, e2', hsd, if_false]
      rw [an_bf hw hp]
      omega
noncomputable def an_T (w : Nat → Nat → Int) (n p : Nat) : Int := nd_D (la_m w) (lc_L n (lc_x (lj_b w p) p))
theorem an_t {n : Nat} {w : Nat → Nat → Int} (hw : la_W n w) {p l : Nat} (hp : p < n) (h : lj_J w p l) : nd_D (la_m w) (lc_L n (lc_x (lj_b w p) l)) = an_T w n p :=
  lk_T hw hp h (lj_r w p)
theorem an_tpos {n : Nat} {w : Nat → Nat → Int} (hw : la_W n w) {p : Nat} (hp : p < n) : 0 < an_T w n p := lk_pos hw hp (lj_r w p)
theorem an_xx (A : Nat → Bool) (n x : Nat) : lc_L n (lc_xx A x x) = lc_L n (lc_x A x) := lc_cg (fun z _ => by
  rw [lc_xxt, lc_xt]; exact ⟨fun h => ⟨h.1, h.2.1⟩, fun h => ⟨h.1, h.2, h.2⟩⟩)
theorem an_len2 {n : Nat} {A : Nat → Bool} {x y : Nat} (hx : x < n) (hy : y < n) (hxy : ¬ x = y) : (lc_L n (lc_xx A x y)).length + 2 ≤ n := by
  have e : lc_L n (lc_xx A x y) = lc_L n (lc_x (lc_x (fun z => A z || z == y) x) y) := lc_cg (fun z _ => by
    rw [lc_xxt, lc_xt, lc_xt]
    simp only [Bool.or_eq_true, beq_iff_eq]
    exact ⟨fun h => ⟨⟨Or.inl h.1, h.2.1⟩, h.2.2⟩, fun h => ⟨h.1.1.resolve_right h.2, h.1.2, h.2⟩⟩)
  have h1 := (lc_pm (n := n) (P := lc_x (fun z => A z || z == y) x) hy (lc_xt.mpr ⟨by simp, fun h => hxy h.symm⟩)).length_eq
  have h2 := lc_len1 (n := n) (P := fun z => A z || z == y) hx
  rw [e]
  simp at h1
  omega
theorem an_bd4 : ∀ k, k ≤ 4 → nd_bd k ≤ 98415000 := by
  intro k hk
  match k, hk with
  | 0, _ => decide
  | 1, _ => decide
  | 2, _ => decide
  | 3, _ => decide
  | 4, _ => decide
  | k + 5, h => omega
theorem an_bd5 : ∀ k, nd_bd k ≤ 22143375000 := by
  intro k
  match k with
  | 0 => decide
  | 1 => decide
  | 2 => decide
  | 3 => decide
  | 4 => decide
  | 5 => decide
  | k + 6 => exact Nat.zero_le _
theorem an_Mb {n : Nat} {w : Nat → Nat → Int} (hw : la_W n w) {p q : Nat} (hp : p < n) (hq : q < n) : (an_M w n p q).natAbs ≤ 98415000 := by
  unfold an_M
  split
  · decide
  · rename_i h
    exact Nat.le_trans (nd_bD (la_mb hw) _) (an_bd4 _ (by have := an_len2 (A := lj_b w p) hp hq h; have := hw.1; omega))
theorem an_Mn {n : Nat} {w : Nat → Nat → Int} (hw : la_W n w) {p q : Nat} (hp : p < n) (hq : q < n) : 0 ≤ an_M w n p q := by
  unfold an_M
  split
  · exact Int.le_refl 0
  · rename_i h
    exact lb_nn hw _ (by have := an_len2 (A := lj_b w p) hp hq h; have := hw.1; omega) (lc_nd _ _) (lc_6 hw.1)
theorem an_Tb {n : Nat} {w : Nat → Nat → Int} (hw : la_W n w) (p : Nat) : (an_T w n p).natAbs ≤ 22143375000 :=
  Nat.le_trans (nd_bD (la_mb hw) _) (an_bd5 _)
theorem an_cb {n : Nat} {w : Nat → Nat → Int} (hw : la_W n w) (p s a b : Nat) : (lc_c w p s a b).natAbs ≤ 45 := by
  unfold lc_c
  split
  · have := hw.2.2.2.1 a s; omega
  · exact la_mb hw a b
theorem an_shb {n : Nat} {w : Nat → Nat → Int} (hw : la_W n w) {s d p : Nat} (hs : s < n) (hd : d < n) (hsd : ¬ s = d) : (an_sh w n s d p).natAbs ≤ 98415000 := by
  unfold an_sh
  split
  · decide
  · split
    · exact an_Mb hw hs hd
    · exact Nat.le_trans (nd_bD (an_cb hw p s) _) (an_bd4 _ (by have := an_len2 (A := lj_b w s) hs hd hsd; have := hw.1; omega))
/-- all trees -/
noncomputable def an_A (w : Nat → Nat → Int) (n : Nat) : Int := nd_D (la_m w) (lc_L n (lc_x (fun _ => true) 0))
theorem an_Aq {n : Nat} {w : Nat → Nat → Int} (hw : la_W n w) {q : Nat} (hq : q < n) : an_A w n = nd_D (la_m w) (lc_L n (lc_x (fun _ => true) q)) := by
  have h := lc_T hw (A := fun z => decide (z < n)) (fun a b _ hab => by simpa using (la_big hw hab).2) (fun z hz => by simpa using hz) (x := 0) (y := q) (by simp; omega) (by simpa using hq)
  have e : ∀ x, lc_L n (lc_x (fun _ => true) x) = lc_L n (lc_x (fun z => decide (z < n)) x) := fun x => lc_cg (fun z hz => by
    rw [lc_xt, lc_xt]; simp [hz])
  unfold an_A
  rw [e 0, e q]
  exact h
theorem an_all {n : Nat} {w : Nat → Nat → Int} (hw : la_W n w) (h0 : 0 < n) : (lc_L n (lk_l w)).length ≤ 1 ↔ ∀ q, q < n → lj_J w 0 q := by
  have hz : lk_l w 0 = true := lk_lt'.mpr (fun q _ => Nat.zero_le q)
  constructor
  · intro hl q hq
    apply Classical.byContradiction
    intro hj
    obtain ⟨b, hb, hbl⟩ := lk_least (fun z => lj_J w q z) q (lj_r _ q)
    have hlb : lk_l w b = true := lk_lt'.mpr (fun z hz => hbl z (lj_t hb hz))
    have hb0 : ¬ b = 0 := by
      intro e; subst e; exact hj (lj_s hw hb)
    have h1 := lk_lt (n := n) (P := fun z => z == 0) (Q := lk_l w) (fun z _ h => by
      have : z = 0 := by simpa using h
      rw [this]; exact hz) (lj_n hw hq hb) hlb (by simp [hb0])
    have h2 := (lc_pm (n := n) (P := fun z => z == 0) h0 (by simp)).length_eq
    simp at h2
    omega
  · intro h
    have h1 := lk_mono (n := n) (P := lk_l w) (Q := fun z => z == 0) (fun z hz hl => by
      have := lk_lt'.mp hl 0 (lj_s hw (h z hz))
      simp; omega)
    have h2 := (lc_pm (n := n) (P := fun z => z == 0) h0 (by simp)).length_eq
    have h3 : lc_L n (lc_x (fun z => z == 0) 0) = [] := by
      apply List.eq_nil_iff_forall_not_mem.mpr
      intro z hz
      rw [lc_mem, lc_xt] at hz
      have := hz.2.1
      simp at this
      exact hz.2.2 this
    rw [h3] at h2
    simp at h2
    omega
theorem an_Ab {n : Nat} {w : Nat → Nat → Int} (hw : la_W n w) : (an_A w n).natAbs ≤ 22143375000 :=
  Nat.le_trans (nd_bD (la_mb hw) _) (an_bd5 _)
theorem an_A0 {n : Nat} {w : Nat → Nat → Int} (hw : la_W n w) (h0 : 0 < n) (h : ¬ ∀ q, q < n → lj_J w 0 q) : an_A w n = 0 := by
  have : ∃ q, q < n ∧ ¬ lj_J w 0 q := by
    apply Classical.byContradiction
    intro hne
    apply h
    intro q hq
    apply Classical.byContradiction
    intro hj
    exact hne ⟨q, hq, hj⟩
  obtain ⟨q, hq, hj⟩ := this
  exact lk_zero hw h0 hq hj
theorem an_A1 {n : Nat} {w : Nat → Nat → Int} (h : ∀ q, q < n → lj_J w 0 q) : an_A w n = nd_D (la_m w) (lc_L n (lc_xx (lj_b w 0) 0 0)) := by
  unfold an_A
  rw [an_xx]
  congr 1
  apply lc_cg
  intro z hz
  rw [lc_xt, lc_xt, lj_bt]
  exact ⟨fun k => ⟨h z hz, k.2⟩, fun k => ⟨rfl, k.2⟩⟩
/-- trees with a pair -/
theorem an_W {n : Nat} {w : Nat → Nat → Int} (hw : la_W n w) {p q : Nat} (hp : p < n) (hq : q < n) (hpq : ¬ p = q) :
    ((∀ z, z < n → lj_J w p z) → an_A w n - an_A (lb_out w p q) n = w p q * an_M w n p q) ∧ ((¬ ∀ z, z < n → lj_J w p z) → an_A w n - an_A (lb_out w p q) n = 0) := by
  have h0 : 0 < n := by omega
  constructor
  · intro h
    rw [an_Aq hw hq, an_Aq (lb_outW hw p q) hq, lc_W hw (fun _ => true) hp hq rfl hpq]
    simp only [an_M, hpq, if_false]
    congr 2
    rw [lc_xxc]
    apply lc_cg
    intro z hz
    rw [lc_xxt, lc_xxt, lj_bt]
    exact ⟨fun k => ⟨h z hz, k.2⟩, fun k => ⟨rfl, k.2⟩⟩
  · intro h
    have h1 : ¬ ∀ z, z < n → lj_J w 0 z := by
      intro k
      apply h
      intro z hz
      exact lj_t (lj_s hw (k p hp)) (k z hz)
    have h2 : ¬ ∀ z, z < n → lj_J (lb_out w p q) 0 z := fun k => h1 (fun z hz => lk_sub (k z hz))
    rw [an_A0 hw h0 h1, an_A0 (lb_outW hw p q) h0 h2]
    rfl
end
section
/-! one round of the labels -/
def lo_I (n : Nat) (w : Nat → Nat → Int) (l0 : Nat → Nat) (p q : Nat) (any : Bool) (l : Nat → Nat) : Prop :=
  ll_I n w l ∧ (∀ x, x < n → l x ≤ l0 x) ∧ (∀ x y, x < n → y < n → (x < p ∨ (x = p ∧ y < q)) → 0 < w x y → l x ≤ l0 y) ∧ (any = false → ∀ x, x < n → l x = l0 x)
theorem lo_0 {n : Nat} {w : Nat → Nat → Int} {l : Nat → Nat} (h : ll_I n w l) : lo_I n w l 0 0 false l :=
  ⟨h, fun _ _ => Nat.le_refl _, fun x y _ _ h => by omega, fun _ _ _ => rfl⟩
theorem lo_keep {n : Nat} {w : Nat → Nat → Int} {l0 l : Nat → Nat} {p q : Nat} {any : Bool} (hq : q < n) (h : lo_I n w l0 p q any l) (hk : 0 < w p q → l p ≤ l q) : lo_I n w l0 p (q + 1) any l := by
  refine ⟨h.1, h.2.1, fun x y hx hy hxy hw => ?_, h.2.2.2⟩
  by_cases e : x = p ∧ y = q
  · obtain ⟨e1, e2⟩ := e
    subst e1; subst e2
    exact Nat.le_trans (hk hw) (h.2.1 y hq)
  · exact h.2.2.1 x y hx hy (by omega) hw
theorem lo_set {n : Nat} {w : Nat → Nat → Int} {l0 l : Nat → Nat} {p q : Nat} {any : Bool} (hp : p < n) (hq : q < n) (h : lo_I n w l0 p q any l) (hw : 0 < w p q) (hlt : l q < l p) : lo_I n w l0 p (q + 1) true (fun x => if x = p then l q else l x) := by
  refine ⟨fun x hx => ?_, fun x hx => ?_, fun x y hx hy hxy hwx => ?_, fun e => by simp at e⟩
  · by_cases e : x = p
    · subst e
      simp only [if_true]
      exact ⟨lj_t (lj_e hw) (h.1 q hq).1, by have := (h.1 x hx).2; omega⟩
    · simp only [e, if_false]; exact h.1 x hx
  · by_cases e : x = p
    · subst e
      simp only [if_true]
      have := h.2.1 x hx; omega
    · simp only [e, if_false]; exact h.2.1 x hx
  · by_cases e : x = p
    · subst e
      simp only [if_true]
      by_cases e2 : y = q
      · subst e2; exact h.2.1 y hq
      · have := h.2.2.1 x y hx hy (by omega) hwx; omega
    · simp only [e, if_false]
      exact h.2.2.1 x y hx hy (by omega) hwx
theorem lo_row {n : Nat} {w : Nat → Nat → Int} {l0 l : Nat → Nat} {p : Nat} {any : Bool} (h : lo_I n w l0 p n any l) : lo_I n w l0 (p + 1) 0 any l :=
  ⟨h.1, h.2.1, fun x y hx hy hxy hw => h.2.2.1 x y hx hy (by omega) hw, h.2.2.2⟩
theorem lo_end {n : Nat} {w : Nat → Nat → Int} (hw : la_W n w) {r : Nat} {l0 l : Nat → Nat} {any : Bool} (hA : ll_A n w r l0) (h : lo_I n w l0 n 0 any l) : ll_A n w (r + 1) l :=
  ll_next hw hA h.1 h.2.1 (fun p q hp hq hpq => h.2.2.1 p q hp hq (Or.inl hp) hpq)
theorem lo_stop {n : Nat} {w : Nat → Nat → Int} (hw : la_W n w) {l0 l : Nat → Nat} (h : lo_I n w l0 n 0 false l) : ll_F n w l :=
  ⟨h.1, ll_stop hw h.1 (fun p q hp hq hpq => by
    have := h.2.2.1 p q hp hq (Or.inl hp) hpq
    have := h.2.2.2 rfl q hq
    omega)⟩
theorem lo_six {n : Nat} {w : Nat → Nat → Int} (hw : la_W n w) {l : Nat → Nat} (h : ll_A n w 6 l) : ll_F n w l := ⟨h.1, ll_end hw h⟩
/-! one round of the growing set -/
def gr_I (n : Nat) (w : Nat → Nat → Int) (p : Nat) (G0 : Nat → Bool) (a b : Nat) (G : Nat → Bool) : Prop :=
  (∀ q, G0 q = true → G q = true) ∧ (∀ q, G q = true → lj_J w p q) ∧ (∀ x y, x < y → y < n → (x < a ∨ (x = a ∧ y < b)) → 0 < w x y → (G0 x = true ∨ G0 y = true) → G x = true ∧ G y = true)
theorem gr_0 {n : Nat} {w : Nat → Nat → Int} {p : Nat} {G : Nat → Bool} (h : ∀ q, G q = true → lj_J w p q) : gr_I n w p G 0 1 G :=
  ⟨fun _ h => h, h, fun x y h1 _ h2 => by omega⟩
theorem gr_keep {n : Nat} {w : Nat → Nat → Int} {p : Nat} {G0 G : Nat → Bool} {a b : Nat} (h : gr_I n w p G0 a b G) (hk : 0 < w a b → G a = false ∧ G b = false) : gr_I n w p G0 a (b + 1) G := by
  refine ⟨h.1, h.2.1, fun x y hxy hy hlt hw hG => ?_⟩
  by_cases e : x = a ∧ y = b
  · obtain ⟨e1, e2⟩ := e
    subst e1; subst e2
    have hk' := hk hw
    rcases hG with hG | hG
    · have := h.1 x hG; rw [hk'.1] at this; exact absurd this (by decide)
    · have := h.1 y hG; rw [hk'.2] at this; exact absurd this (by decide)
  · exact h.2.2 x y hxy hy (by omega) hw hG
theorem gr_set {n : Nat} {w : Nat → Nat → Int} (hw : la_W n w) {p : Nat} {G0 G H : Nat → Bool} {a b : Nat} (h : gr_I n w p G0 a b G) (hab : 0 < w a b) (hG : G a = true ∨ G b = true) (hH : ∀ q, H q = true ↔ G q = true ∨ q = a ∨ q = b) : gr_I n w p G0 a (b + 1) H := by
  have hba : 0 < w b a := by rw [hw.2.1 b a]; exact hab
  refine ⟨fun q hq => (hH q).mpr (Or.inl (h.1 q hq)), fun q hq => ?_, fun x y hxy hy hlt hwx hx => ?_⟩
  · rcases (hH q).mp hq with e | e | e
    · exact h.2.1 q e
    · subst e
      rcases hG with hG | hG
      · exact h.2.1 q hG
      · exact lj_t (h.2.1 b hG) (lj_e hba)
    · subst e
      rcases hG with hG | hG
      · exact lj_t (h.2.1 a hG) (lj_e hab)
      · exact h.2.1 q hG
  · by_cases e : x = a ∧ y = b
    · exact ⟨(hH x).mpr (Or.inr (Or.inl e.1)), (hH y).mpr (Or.inr (Or.inr e.2))⟩
    · have := h.2.2 x y hxy hy (by omega) hwx hx
      exact ⟨(hH x).mpr (Or.inl this.1), (hH y).mpr (Or.inl this.2)⟩
theorem gr_row {n : Nat} {w : Nat → Nat → Int} {p : Nat} {G0 G : Nat → Bool} {a : Nat} (h : gr_I n w p G0 a n G) : gr_I n w p G0 (a + 1) (a + 2) G :=
  ⟨h.1, h.2.1, fun x y hxy hy hlt hw hG => h.2.2 x y hxy hy (by omega) hw hG⟩
theorem gr_end {n : Nat} {w : Nat → Nat → Int} (hw : la_W n w) {p r b : Nat} {G0 G : Nat → Bool} (hA : lx_A n w p r G0) (h : gr_I n w p G0 n b G) : lx_A n w p (r + 1) G := by
  refine lx_next hw hA h.2.1 h.1 (fun x y hx hxy => ?_)
  have hb := la_big hw hxy
  by_cases e : x < y
  · exact (h.2.2 x y e hb.2 (Or.inl hb.1) hxy (Or.inl hx)).2
  · by_cases e2 : y < x
    · have hyx : 0 < w y x := by rw [hw.2.1 y x]; exact hxy
      exact (h.2.2 y x e2 hb.1 (Or.inl hb.2) hyx (Or.inr hx)).1
    · have : x = y := by omega
      subst this
      have := hw.2.2.1 x
      omega
theorem cw_sum {n : Nat} {w : Nat → Nat → Int} (hw : la_W n w) (p : Nat) : lz_sum (w p) n = la_6 (w p) := by
  have hz : ∀ x, n ≤ x → w p x = 0 := fun x hx => by rw [hw.2.1 p x]; exact hw.2.2.2.2 x p hx
  have hn := hw.1
  have : n = 0 ∨ n = 1 ∨ n = 2 ∨ n = 3 ∨ n = 4 ∨ n = 5 ∨ n = 6 := by omega
  rcases this with e | e | e | e | e | e | e <;> subst e <;> simp only [lz_sum, la_6] <;> simp [hz]
theorem cw_sum6 (f : Nat → Int) : lz_sum f 6 = la_6 f := by
  simp only [lz_sum, la_6]; omega
end
section
theorem gx_c (x y : Nat) : nI x * 6 + nI y = nI (6 * x + y) := by
  rw [show (6 : Int32) = nI 6 from rfl, pk_mul, nI_add, Nat.mul_comm]
theorem gy_c (x y : Nat) : 6 * nI x + nI y = nI (6 * x + y) := by
  rw [show (6 : Int32) = nI 6 from rfl, pk_mul, nI_add]
theorem gx_good1 {n p : Nat} {s d : Int32} {a : Nat → Int32} {M : Nat → Int64} {post : Int32 → Prop} (hn : n ≤ 6) (hp : p < n) (h : post 1) : wpX_isGood post (nI n, s, d, a, M) (nI p) :=
  br_f (nI_pos (by omega)) (br_f (nI_ge hp (by omega)) h)
theorem gx_good0 {n : Nat} {x s d : Int32} {a : Nat → Int32} {M : Nat → Int64} {post : Int32 → Prop} (hx : x < 0 ∨ nI n ≤ x) (h : post 0) : wpX_isGood post (nI n, s, d, a, M) x := by
  by_cases h0 : x < 0
  · exact br_t h0 h
  · exact br_f h0 (br_t (hx.resolve_left h0) h)
/-- which cells count -/
def gx_H (n : Nat) (a : Nat → Int32) (lo : Int32) (w : Nat → Nat → Int) : Prop := ∀ x y, x < y → y < n → (0 < w x y ↔ (¬ nI (6 * x + y) = lo ∧ ¬ a (6 * x + y) ≤ 0))
theorem gx_34 {n p low : Nat} {w : Nat → Nat → Int} {s d lo x4 : Int32} {a : Nat → Int32} {M : Nat → Int64} {post : Int32 → Prop} {J7 J19 : Int32 → Int32 → Prop} {G0 : Nat → Bool}
    (hw : la_W n w) (hH : gx_H n a lo w) (hJ : ∀ G, G < 64 → gr_I n w p G0 low n G.testBit → J19 (nI G) (nI (low + 1))) :
    ∀ fuel b G, low < b → b ≤ n → n - b < fuel → G < 64 → gr_I n w p G0 low b G.testBit → wX_groupOf_34 post J7 J19 lo x4 (nI low) (nI n) s d a M fuel (nI G) (nI b) := by
  have h6 := hw.1
  intro fuel
  induction fuel with
  | zero => intro b G _ _ h; omega
  | succ f ih =>
    intro b G hlb hb hf hG hI
    by_cases e : b = n
    · subst e
      exact br_t (nI_le (Nat.le_refl _) (by omega)) (nm_r (nI_1 low) (hJ G hG hI))
    · have hbn : b < n := by omega
      have hboth : ((1 : Int32) <<< (nI low &&& 31)) ||| ((1 : Int32) <<< (nI b &&& 31)) = nI (2 ^ low ||| 2 ^ b) := by
        rw [mb_1 low (by omega), mb_1 b (by omega), mb_or]
      have hcl : (nI (6 * low + b)).toNatClampNeg = 6 * low + b := nI_clamp (by omega)
      refine br_f (nI_ge hbn (by omega)) (nm_r (gx_c low b) (nm_r hboth ?_))
      by_cases el : nI (6 * low + b) = lo
      · refine br_t el (nm_r (nI_1 b) (ih (b + 1) G (by omega) (by omega) (by omega) hG (gr_keep hI (fun h => ?_))))
        exact absurd el ((hH low b hlb hbn).mp h).1
      · refine br_f el ⟨vp_in_nI (by omega) (by omega), ?_⟩
        rw [hcl]
        by_cases ez : a (6 * low + b) ≤ 0
        · refine br_t ez (nm_r (nI_1 b) (ih (b + 1) G (by omega) (by omega) (by omega) hG (gr_keep hI (fun h => ?_))))
          exact absurd ez ((hH low b hlb hbn).mp h).2
        · have hpos : 0 < w low b := (hH low b hlb hbn).mpr ⟨el, ez⟩
          refine br_f ez ?_
          by_cases eg : nI G &&& nI (2 ^ low ||| 2 ^ b) = 0
          · exact br_t eg (nm_r (nI_1 b) (ih (b + 1) G (by omega) (by omega) (by omega) hG (gr_keep hI (fun _ => (mb_both G hG low (by omega) b (by omega)).mp eg))))
          · refine br_f eg (nm_r (mb_or G _) (nm_r (nI_1 b) (ih (b + 1) _ (by omega) (by omega) (by omega) (mb_orlt G hG low (by omega) b (by omega)) (gr_set hw hI hpos ?_ ?_))))
            · apply Classical.byContradiction
              intro hne
              apply eg
              rw [mb_both G hG low (by omega) b (by omega)]
              constructor
              · cases h1 : G.testBit low
                · rfl
                · exact absurd (Or.inl h1) hne
              · cases h1 : G.testBit b
                · rfl
                · exact absurd (Or.inr h1) hne
            · intro q
              rw [Nat.testBit_or, Nat.testBit_or, Bool.or_eq_true, Bool.or_eq_true, mb_two, mb_two]
theorem gx_19 {n p : Nat} {w : Nat → Nat → Int} {s d lo x4 : Int32} {a : Nat → Int32} {M : Nat → Int64} {post : Int32 → Prop} {J7 : Int32 → Int32 → Prop} {G0 : Nat → Bool}
    (hw : la_W n w) (hH : gx_H n a lo w) (hJ : ∀ G, G < 64 → gr_I n w p G0 n (n + 1) G.testBit → J7 (nI G) (x4 + 1)) :
    ∀ fuel low G, low ≤ n → n - low < fuel → G < 64 → gr_I n w p G0 low (low + 1) G.testBit → wX_groupOf_19 post J7 lo x4 (nI n) s d a M fuel (nI G) (nI low) := by
  have h6 := hw.1
  intro fuel
  induction fuel with
  | zero => intro low G _ h; omega
  | succ f ih =>
    intro low G hb hf hG hI
    by_cases e : low = n
    · subst e
      exact br_t (nI_le (Nat.le_refl _) (by omega)) (nm_e (hJ G hG hI))
    · have hbn : low < n := by omega
      refine br_f (nI_ge hbn (by omega)) (nm_r (nI_1 low) ⟨n + 1, ?_⟩)
      refine gx_34 hw hH (G0 := G0) (fun G' hG' hI' => ?_) (n + 1) (low + 1) G (by omega) (by omega) (by omega) hG hI
      exact ih (low + 1) G' (by omega) (by omega) hG' (gr_row hI')
theorem gx_7 {n p : Nat} {w : Nat → Nat → Int} {s d lo : Int32} {a : Nat → Int32} {M : Nat → Int64} {post : Int32 → Prop}
    (hw : la_W n w) (hH : gx_H n a lo w) (hJ : ∀ G, G < 64 → (∀ q, G.testBit q = true ↔ lj_J w p q) → post (nI G)) :
    ∀ fuel r G, r ≤ n → n - r < fuel → G < 64 → lx_A n w p r G.testBit → wX_groupOf_7 post lo (nI n) s d a M fuel (nI G) (nI r) := by
  have h6 := hw.1
  intro fuel
  induction fuel with
  | zero => intro r G _ h; omega
  | succ f ih =>
    intro r G hb hf hG hI
    by_cases e : r = n
    · subst e
      exact br_t (nI_le (Nat.le_refl _) (by omega)) (hJ G hG (lx_end hI))
    · have hbn : r < n := by omega
      refine br_f (nI_ge hbn (by omega)) ⟨n + 1, ?_⟩
      refine gx_19 hw hH (G0 := G.testBit) (p := p) (fun G' hG' hI' => ?_) (n + 1) 0 G (by omega) (by omega) hG (gr_0 hI.2.1)
      rw [nI_1]
      exact ih (r + 1) G' (by omega) (by omega) hG' (gr_end hw hI hI')
theorem gx_tb (p : Nat) : (2 ^ p).testBit = fun z => z == p := by
  funext z
  rw [Nat.testBit_two_pow]
  by_cases h : p = z
  · subst h; simp
  · have h' : ¬ z = p := fun e => h e.symm
    simp [h, h']
theorem gx_pw : ∀ p, p < 6 → 2 ^ p < 64 := by decide
theorem gx_groupOf {n p : Nat} {w : Nat → Nat → Int} {s d lo : Int32} {a : Nat → Int32} {M : Nat → Int64} {post : Int32 → Prop}
    (hw : la_W n w) (hp : p < n) (hH : gx_H n a lo w) (hJ : ∀ G, G < 64 → (∀ q, G.testBit q = true ↔ lj_J w p q) → post (nI G)) : wpX_groupOf post (nI n, s, d, a, M) (nI p) lo := by
  have h6 := hw.1
  refine nm_r (mb_1 p (by omega)) ⟨n + 1, ?_⟩
  refine gx_7 hw hH hJ (n + 1) 0 (2 ^ p) (by omega) (by omega) (gx_pw p (by omega)) ?_
  rw [gx_tb]
  exact lx_0 hp
theorem gx_m1 {k : Nat} (h : k < 36) : ¬ nI k = -1 := by
  intro e
  have h1 := congrArg Int32.toInt e
  rw [nI_toInt (by omega)] at h1
  have h2 : (-1 : Int32).toInt = -1 := by decide
  rw [h2] at h1
  omega
theorem gx_H0 {n : Nat} {a : Nat → Int32} (hO : cw_O n a) : gx_H n a (-1) (cw_w a) := by
  have h6 := hO.2.1
  intro x y hxy hy
  have hp := cw_pos hO (p := x) (q := y) (by omega) (by omega)
  rw [← hp]
  constructor
  · intro h
    exact ⟨gx_m1 (by omega), Int32.not_le.mpr h⟩
  · intro h
    exact Int32.not_le.mp h.2
theorem gx_H1 {n : Nat} {a : Nat → Int32} (hO : cw_O n a) {p q : Nat} (hpq : p < q) (hq : q < n) : gx_H n a (nI (6 * p + q)) (lb_out (cw_w a) p q) := by
  have h6 := hO.2.1
  intro x y hxy hy
  have hp := cw_pos hO (p := x) (q := y) (by omega) (by omega)
  by_cases e : x = p ∧ y = q
  · obtain ⟨e1, e2⟩ := e
    subst e1; subst e2
    simp [lb_out]
  · have e2 : ¬ ((x = p ∧ y = q) ∨ (x = q ∧ y = p)) := by omega
    simp only [lb_out, e2, if_false]
    rw [← hp]
    constructor
    · intro h
      refine ⟨fun e3 => ?_, Int32.not_le.mpr h⟩
      rw [nI_eq (by omega) (by omega)] at e3
      omega
    · intro h
      exact Int32.not_le.mp h.2
/-- the group of a point -/
theorem gx_group {n p : Nat} {s d : Int32} {a : Nat → Int32} {M : Nat → Int64} {post : Int32 → Prop} (hO : cw_O n a) (hp : p < n)
    (hJ : ∀ G, G < 64 → (∀ q, G.testBit q = true ↔ lj_J (cw_w a) p q) → post (nI G)) : wpX_groupOf post (nI n, s, d, a, M) (nI p) (-1) :=
  gx_groupOf (cw_W hO) hp (gx_H0 hO) hJ
theorem gx_areJoined {n p q : Nat} {s d : Int32} {a : Nat → Int32} {M : Nat → Int64} {post : Int32 → Prop} (hO : cw_O n a) (hp : p < n) (hq : q < n)
    (h1 : lj_J (cw_w a) p q → post 1) (h0 : ¬ lj_J (cw_w a) p q → post 0) : wpX_areJoined post (nI n, s, d, a, M) (nI p) (nI q) := by
  have h6 := hO.2.1
  refine gx_group hO hp (fun G hG hGq => ?_)
  have hb := mb_bit G hG q (by omega)
  by_cases hj : lj_J (cw_w a) p q
  · have : G.testBit q = true := (hGq q).mpr hj
    rw [if_pos this] at hb
    exact br_t hb (h1 hj)
  · have : ¬ G.testBit q = true := fun h => hj ((hGq q).mp h)
    rw [if_neg this] at hb
    refine br_f (fun h => ?_) (h0 hj)
    rw [hb] at h
    exact absurd h (by decide)
end
section
theorem hx_sub1 {n : Nat} (h : 1 ≤ n) : nI n - 1 = nI (n - 1) := by
  have := nI_pred (n - 1)
  have e : n - 1 + 1 = n := by omega
  rw [e] at this
  exact this
/-- the matrix in step t at row i, column j -/
def hx_M (n : Nat) (m : Nat → Nat → Int) (P : Nat → Bool) (t i j : Nat) (M : Nat → Int64) : Prop :=
  ∀ x y, t ≤ x → x < n → t ≤ y → y < n → M (6 * x + y) = Int64.ofInt (if t < x ∧ t < y ∧ (x < i ∨ (x = i ∧ y < j)) then bz_c m P (t + 1) x y else bz_c m P t x y)
theorem hx_55 {n t i : Nat} {m : Nat → Nat → Int} {P : Nat → Bool} {s d : Int32} {a : Nat → Int32} {post : Int64 → SX → Prop} {J4 : Int64 → Int32 → (Nat → Int32) → (Nat → Int64) → Prop} {J41 : Int32 → (Nat → Int32) → (Nat → Int64) → Prop}
    (hm : ∀ a b, (m a b).natAbs ≤ 45) (hn : n ≤ 6) (h5 : (lc_L n P).length ≤ 5) (hti : t < i) (hi : i < n) (h0 : nd_D m (lc_L t P) ≠ 0) (h0' : ¬ Int64.ofInt (nd_D m (lc_L t P)) = 0)
    (hJ : ∀ M, hx_M n m P t i n M → J41 (nI (i + 1)) a M) :
    ∀ fuel j M, t < j → j ≤ n → n - j < fuel → hx_M n m P t i j M → wX_determinant_55 post J4 J41 (Int64.ofInt (nd_D m (lc_L t P))) (nI t) (Int64.ofInt (bz_c m P t t t)) (nI i) (nI n) s d fuel (nI j) a M := by
  intro fuel
  induction fuel with
  | zero => intro j M _ _ h; omega
  | succ f ih =>
    intro j M htj hj hf hM
    by_cases e : j = n
    · subst e
      exact br_t (nI_le (Nat.le_refl _) (by omega)) (nm_r (nI_1 i) (hJ M hM))
    · have hjn : j < n := by omega
      have c1 : (nI i * 6 + nI j) = nI (6 * i + j) := gx_c i j
      have c2 : (nI i * 6 + nI t) = nI (6 * i + t) := gx_c i t
      have c3 : (nI t * 6 + nI j) = nI (6 * t + j) := gx_c t j
      have k1 : (nI (6 * i + j)).toNatClampNeg = 6 * i + j := nI_clamp (by omega)
      have k2 : (nI (6 * i + t)).toNatClampNeg = 6 * i + t := nI_clamp (by omega)
      have k3 : (nI (6 * t + j)).toNatClampNeg = 6 * t + j := nI_clamp (by omega)
      have m1 := hM i j (by omega) hi (by omega) hjn
      have m2 := hM i t (by omega) hi (by omega) (by omega)
      have m3 := hM t j (by omega) (by omega) (by omega) hjn
      rw [if_neg (by omega)] at m1 m2 m3
      have hst := bz_st hm P hn h5 hti htj hi h0 (i := i) (j := j)
      refine br_f (nI_ge hjn (by omega)) ?_
      rw [c1, c2, c3, k1, k2, k3, m1, m2, m3]
      refine ⟨vp_in_nI (by omega) (by omega), nm_e ⟨vp_in_nI (by omega) (by omega), vp_in_nI (by omega) (by omega), nm_e ⟨h0', vp_in_nI (by omega) (by omega), ?_⟩⟩⟩
      refine nm_e (nm_r (nI_1 j) ?_)
      rw [hst]
      refine ih (j + 1) _ (by omega) (by omega) (by omega) (fun x y hx hxn hy hyn => ?_)
      by_cases exy : x = i ∧ y = j
      · obtain ⟨e1, e2⟩ := exy
        subst e1; subst e2
        rw [pk_uLs, if_pos (by omega)]
      · rw [pk_uLn (by omega), hM x y hx hxn hy hyn]
        by_cases ec : t < x ∧ t < y ∧ (x < i ∨ (x = i ∧ y < j))
        · rw [if_pos ec, if_pos (by omega)]
        · rw [if_neg ec, if_neg (by omega)]
theorem hx_41 {n t : Nat} {m : Nat → Nat → Int} {P : Nat → Bool} {s d : Int32} {a : Nat → Int32} {post : Int64 → SX → Prop} {J4 : Int64 → Int32 → (Nat → Int32) → (Nat → Int64) → Prop}
    (hm : ∀ a b, (m a b).natAbs ≤ 45) (hn : n ≤ 6) (h5 : (lc_L n P).length ≤ 5) (htn : t < n) (h0 : nd_D m (lc_L t P) ≠ 0) (h0' : ¬ Int64.ofInt (nd_D m (lc_L t P)) = 0)
    (hJ : ∀ M, hx_M n m P (t + 1) (t + 2) (t + 2) M → J4 (Int64.ofInt (bz_c m P t t t)) (nI (t + 1)) a M) :
    ∀ fuel i M, t < i → i ≤ n → n - i < fuel → hx_M n m P t i (t + 1) M → wX_determinant_41 post J4 (Int64.ofInt (nd_D m (lc_L t P))) (nI t) (Int64.ofInt (bz_c m P t t t)) (nI n) s d fuel (nI i) a M := by
  intro fuel
  induction fuel with
  | zero => intro i M _ _ h; omega
  | succ f ih =>
    intro i M hti hi hf hM
    by_cases e : i = n
    · refine br_t (by rw [e]; exact nI_le (Nat.le_refl _) (by omega)) (nm_r (nI_1 t) (hJ M (fun x y hx hxn hy hyn => ?_)))
      rw [hM x y (by omega) hxn (by omega) hyn, if_pos (by omega)]
      rw [if_neg (by omega)]
    · have hin : i < n := by omega
      refine br_f (nI_ge hin (by omega)) (nm_r (nI_1 t) ⟨n + 1, ?_⟩)
      refine hx_55 hm hn h5 hti hin h0 h0' (fun M' hM' => ?_) (n + 1) (t + 1) M (by omega) (by omega) (by omega) hM
      refine ih (i + 1) M' (by omega) (by omega) (by omega) (fun x y hx hxn hy hyn => ?_)
      rw [hM' x y hx hxn hy hyn]
      by_cases ec : t < x ∧ t < y ∧ (x < i ∨ (x = i ∧ y < n))
      · rw [if_pos ec, if_pos (by omega)]
      · rw [if_neg ec, if_neg (by omega)]
theorem hx_of0 : (0 : Int64) = Int64.ofInt 0 := by decide
theorem hx_ne {z : Int} (hb : z.natAbs < 2 ^ 63) (h : z ≠ 0) : ¬ Int64.ofInt z = 0 := by
  rw [hx_of0, eu_eq hb (by decide)]
  exact h
theorem hx_4 {n : Nat} {w : Nat → Nat → Int} {P : Nat → Bool} {s d : Int32} {a : Nat → Int32} {post : Int64 → SX → Prop}
    (hw : la_W n w) (hn2 : 2 ≤ n) (h5 : (lc_L n P).length ≤ 5)
    (hJ : ∀ M, post (Int64.ofInt (nd_D (la_m w) (lc_L n P))) (nI n, s, d, a, M)) :
    ∀ fuel t M, t < n → n - t < fuel → nd_D (la_m w) (lc_L t P) ≠ 0 → hx_M n (la_m w) P t (t + 1) (t + 1) M → wX_determinant_4 post (nI n) s d fuel (Int64.ofInt (nd_D (la_m w) (lc_L t P))) (nI t) a M := by
  have hn := hw.1
  have hm : ∀ a b, (la_m w a b).natAbs ≤ 45 := la_mb hw
  have hbD : ∀ L, (nd_D (la_m w) L).natAbs < 2 ^ 63 := fun L => by
    have := nd_bD hm L
    have := an_bd5 L.length
    omega
  intro fuel
  induction fuel with
  | zero => intro t M _ h; omega
  | succ f ih =>
    intro t M ht hf h0 hM
    have hs1 : nI n - 1 = nI (n - 1) := hx_sub1 (by omega)
    have k0 : (nI (6 * t + t)).toNatClampNeg = 6 * t + t := nI_clamp (by omega)
    have m0 := hM t t (by omega) ht (by omega) ht
    rw [if_neg (by omega)] at m0
    by_cases e : t = n - 1
    · have hle : nI n - 1 ≤ nI t := by rw [hs1, e]; exact nI_le (Nat.le_refl _) (by omega)
      have hs2 : nI n - 1 = nI t := by rw [hs1, e]
      refine br_t hle (nm_r hs2 ?_)
      rw [gx_c t t, k0, m0, bz_p]
      have e2 : t + 1 = n := by omega
      rw [e2]
      exact ⟨vp_in_nI (by omega) (by omega), hJ M⟩
    · have hlt : ¬ nI n - 1 ≤ nI t := by rw [hs1]; exact nI_ge (by omega) (by omega)
      refine br_f hlt ?_
      rw [gx_c t t, k0]
      refine ⟨vp_in_nI (by omega) (by omega), nm_r m0 ?_⟩
      have hp := bz_p (la_m w) P t
      by_cases ez : nd_D (la_m w) (lc_L (t + 1) P) = 0
      · have ez' : Int64.ofInt (bz_c (la_m w) P t t t) = 0 := by rw [hp, ez]; rfl
        refine br_t ez' ?_
        have hz : nd_D (la_m w) (lc_L n P) = 0 := lb_piv hw (lc_L (t + 1) P) (lc_L n P) (fun x hx => by
          rw [lc_mem] at hx ⊢
          exact ⟨by omega, hx.2⟩) (by have := bz_mono (P := P) (a := t + 1) (b := n) (by omega); omega) (lc_nd _ _) h5 (lc_nd _ _) (lc_6 hn) ez
        have := hJ M
        rw [hz, ← hx_of0] at this
        exact this
      · have ez' : ¬ Int64.ofInt (bz_c (la_m w) P t t t) = 0 := by rw [hp]; exact hx_ne (hbD _) ez
        refine br_f ez' (nm_r (nI_1 t) ⟨n + 1, ?_⟩)
        refine hx_41 hm hn h5 ht h0 (hx_ne (hbD _) h0) (fun M' hM' => ?_) (n + 1) (t + 1) M (by omega) (by omega) (by omega) hM
        rw [hp]
        exact ih (t + 1) M' (by omega) (by omega) ez hM'
theorem hx_determinant {n : Nat} {w : Nat → Nat → Int} {P : Nat → Bool} {s d : Int32} {a : Nat → Int32} {M : Nat → Int64} {post : Int64 → SX → Prop}
    (hw : la_W n w) (hn2 : 2 ≤ n) (h5 : (lc_L n P).length ≤ 5) (hM : ∀ x y, x < n → y < n → M (6 * x + y) = Int64.ofInt (bz_c (la_m w) P 0 x y))
    (hJ : ∀ M, post (Int64.ofInt (nd_D (la_m w) (lc_L n P))) (nI n, s, d, a, M)) : wpX_determinant post (nI n, s, d, a, M) := by
  refine ⟨n + 1, ?_⟩
  have h := hx_4 (s := s) (d := d) (a := a) hw hn2 h5 hJ (n + 1) 0 M (by omega) (by omega) (by show (1 : Int) ≠ 0; decide) (fun x y _ hx _ hy => by
    rw [if_neg (by omega)]
    exact hM x y hx hy)
  exact h
/-- the filled matrix -/
theorem hx_neg {n : Nat} {a : Nat → Int32} (h : cw_O n a) {p q : Nat} (hp : p < 6) (hq : q < 6) : (-(a (6 * p + q))).toInt64 = Int64.ofInt (- cw_w a p q) := by
  obtain ⟨v, hv, e, e2⟩ := cw_v h hp hq
  have h1 : ∀ v, v < 10 → (-(nI v)).toInt64 = Int64.ofInt (-(v : Int)) := by decide +kernel
  rw [e, e2]
  exact h1 v (by omega)
theorem hx_b0 {w : Nat → Nat → Int} {P : Nat → Bool} {x y : Nat} (h : ¬ x = y) : bz_c (la_m w) P 0 x y = if P x = true ∧ P y = true then - w x y else 0 := by
  unfold bz_c
  have e : lc_L 0 P = [] := rfl
  rw [e]
  simp only [nd_R, la_m, h, if_false]
theorem hx_b1 {w : Nat → Nat → Int} {P : Nat → Bool} {x : Nat} : bz_c (la_m w) P 0 x x = if P x = true then la_6 (w x) else 1 := by
  unfold bz_c
  have e : lc_L 0 P = [] := rfl
  rw [e]
  simp only [nd_R, nd_D, la_m, and_self, if_true]
/-- the rows that are filled -/
def hx_F (n : Nat) (w : Nat → Nat → Int) (P : Nat → Bool) (p q : Nat) (M : Nat → Int64) : Prop :=
  ∀ x y, x < n → y < n → (x < p ∨ (x = p ∧ y < q ∧ ¬ y = p)) → M (6 * x + y) = Int64.ofInt (bz_c (la_m w) P 0 x y)
theorem hx_15 {n p K : Nat} {s d : Int32} {a : Nat → Int32} {post : Int64 → SX → Prop} {J2 : Int32 → (Nat → Int32) → (Nat → Int64) → Prop}
    (hO : cw_O n a) (hp : p < n) (hK : K < 64) (hJ : ∀ M, hx_F n (cw_w a) K.testBit (p + 1) 0 M → J2 (nI (p + 1)) a M) :
    ∀ fuel q M, q ≤ n → n - q < fuel → hx_F n (cw_w a) K.testBit p q M → wX_minor_15 post J2 (nI K) (nI p) (nI n) s d fuel (Int64.ofInt (lz_sum (cw_w a p) q)) (nI q) a M := by
  have h6 := hO.2.1
  intro fuel
  induction fuel with
  | zero => intro q M _ h; omega
  | succ f ih =>
    intro q M hq hf hM
    by_cases e : q = n
    · subst e
      refine br_t (nI_le (Nat.le_refl _) (by omega)) ?_
      have hb := mb_bit K hK p (by omega)
      have k0 : (nI (6 * p + p)).toNatClampNeg = 6 * p + p := nI_clamp (by omega)
      have hfin : ∀ v : Int64, v = Int64.ofInt (bz_c (la_m (cw_w a)) K.testBit 0 p p) → hx_F q (cw_w a) K.testBit (p + 1) 0 (vp_updL M (6 * p + p) v) := by
        intro v hv x y hx hy hxy
        by_cases exy : x = p ∧ y = p
        · obtain ⟨e1, e2⟩ := exy
          subst e1; subst e2
          rw [pk_uLs, hv]
        · rw [pk_uLn (by omega)]
          exact hM x y hx hy (by omega)
      rw [gx_c p p, k0]
      by_cases hk : K.testBit p = true
      · rw [if_pos hk] at hb
        refine br_t hb ⟨vp_in_nI (by omega) (by omega), nm_e (nm_r (nI_1 p) (hJ _ (hfin _ ?_)))⟩
        rw [hx_b1, if_pos hk, cw_sum (cw_W hO)]
      · rw [if_neg hk] at hb
        refine br_f (fun h => ?_) ⟨vp_in_nI (by omega) (by omega), nm_e (nm_r (nI_1 p) (hJ _ (hfin _ ?_)))⟩
        · rw [hb] at h; exact absurd h (by decide)
        · rw [hx_b1, if_neg hk]; rfl
    · have hqn : q < n := by omega
      have k1 : (nI (6 * p + q)).toNatClampNeg = 6 * p + q := nI_clamp (by omega)
      have hb := mb_bit2 K hK p (by omega) q (by omega)
      have hsum : Int64.ofInt (lz_sum (cw_w a p) q) + (a (6 * p + q)).toInt64 = Int64.ofInt (lz_sum (cw_w a p) (q + 1)) := by
        rw [cw_l hO (by omega) (by omega), ← Int64.ofInt_add]; rfl
      refine br_f (nI_ge hqn (by omega)) (nm_r (gx_c p q) ?_)
      have hnext : ∀ v : Int64, (¬ q = p → v = Int64.ofInt (bz_c (la_m (cw_w a)) K.testBit 0 p q)) → wX_minor_78 post J2 (wX_minor_15 post J2 (nI K) (nI p) (nI n) s d f) (nI K) (nI p) (Int64.ofInt (lz_sum (cw_w a p) q)) (nI q) (nI (6 * p + q)) v (nI (6 * p + q)) (nI n) s d a M := by
        intro v hv
        refine ⟨vp_in_nI (by omega) (by omega), nm_e ⟨vp_in_nI (by omega) (by omega), ?_⟩⟩
        rw [k1]
        refine nm_r hsum (nm_r (nI_1 q) (ih (q + 1) _ (by omega) (by omega) (fun x y hx hy hxy => ?_)))
        by_cases exy : x = p ∧ y = q
        · obtain ⟨e1, e2⟩ := exy
          subst e1; subst e2
          rw [pk_uLs]
          exact hv (by omega)
        · rw [pk_uLn (by omega)]
          exact hM x y hx hy (by omega)
      by_cases hk : K.testBit p = true ∧ K.testBit q = true
      · rw [if_pos hk] at hb
        refine br_t hb (br_f (by decide) ⟨vp_in_nI (by omega) (by omega), hnext _ (fun hne => ?_)⟩)
        rw [k1, hx_neg hO (by omega) (by omega), hx_b0 (fun h => hne h.symm), if_pos hk]
      · rw [if_neg hk] at hb
        refine br_f (fun h => ?_) (br_t rfl (hnext _ (fun hne => ?_)))
        · rw [hb] at h; exact absurd h (by decide)
        · rw [hx_b0 (fun h => hne h.symm), if_neg hk]; rfl
theorem hx_2 {n K : Nat} {s d : Int32} {a : Nat → Int32} {post : Int64 → SX → Prop}
    (hO : cw_O n a) (hK : K < 64) (h5 : (lc_L n K.testBit).length ≤ 5) (hJ : ∀ M, post (Int64.ofInt (nd_D (la_m (cw_w a)) (lc_L n K.testBit))) (nI n, s, d, a, M)) :
    ∀ fuel p M, p ≤ n → n - p < fuel → hx_F n (cw_w a) K.testBit p 0 M → wX_minor_2 post (nI K) (nI n) s d fuel (nI p) a M := by
  have h6 := hO.2.1
  intro fuel
  induction fuel with
  | zero => intro p M _ h; omega
  | succ f ih =>
    intro p M hp hf hM
    by_cases e : p = n
    · subst e
      refine br_t (nI_le (Nat.le_refl _) (by omega)) ?_
      exact hx_determinant (cw_W hO) hO.1 h5 (fun x y hx hy => hM x y hx hy (Or.inl hx)) hJ
    · have hpn : p < n := by omega
      refine br_f (nI_ge hpn (by omega)) ⟨n + 1, ?_⟩
      exact hx_15 hO hpn hK (fun M' hM' => ih (p + 1) M' (by omega) (by omega) hM') (n + 1) 0 M (by omega) (by omega) hM
theorem hx_minor {n K : Nat} {s d : Int32} {a : Nat → Int32} {M : Nat → Int64} {post : Int64 → SX → Prop}
    (hO : cw_O n a) (hK : K < 64) (h5 : (lc_L n K.testBit).length ≤ 5) (hJ : ∀ M, post (Int64.ofInt (nd_D (la_m (cw_w a)) (lc_L n K.testBit))) (nI n, s, d, a, M)) : wpX_minor post (nI n, s, d, a, M) (nI K) :=
  ⟨n + 1, hx_2 hO hK h5 hJ (n + 1) 0 M (by omega) (by omega) (fun x y _ _ h => by omega)⟩
end
section
theorem kx_treeSum {n G : Nat} {s d : Int32} {a : Nat → Int32} {M : Nat → Int64} {post : Int64 → SX → Prop} (hO : cw_O n a) (hG : G < 64) (hG0 : 0 < G) (hGn : ∀ q, G.testBit q = true → q < n)
    (hJ : ∀ l, l < n → G.testBit l = true → (∀ q, q < l → G.testBit q = false) → ∀ M, post (Int64.ofInt (nd_D (la_m (cw_w a)) (lc_L n (lc_x G.testBit l)))) (nI n, s, d, a, M)) : wpX_treeSum post (nI n, s, d, a, M) (nI G) := by
  have h6 := hO.2.1
  obtain ⟨h1, l, hl6, hl, hlow, ht⟩ := mb_dropt G hG hG0
  have hln := hGn l hl
  have hL : lc_L n (G &&& (G - 1)).testBit = lc_L n (lc_x G.testBit l) := lc_cg (fun z hz => by
    rw [ht z (by omega)]; rfl)
  unfold wpX_treeSum
  dsimp only
  rw [mb_drop G hG]
  refine hx_minor hO h1 ?_ (fun M' => ?_)
  · rw [hL]
    have := lc_len1 (n := n) (P := G.testBit) hln
    omega
  · rw [hL]
    exact hJ l hln hl hlow M'
theorem kx_pos {G p : Nat} (h : G.testBit p = true) : 0 < G := by
  apply Nat.pos_of_ne_zero
  intro e
  subst e
  simp at h
theorem kx_groupTree {n p : Nat} {s d : Int32} {a : Nat → Int32} {M : Nat → Int64} {post : Int64 → SX → Prop} (hO : cw_O n a) (hp : p < n)
    (hJ : ∀ M, post (Int64.ofInt (an_T (cw_w a) n p)) (nI n, s, d, a, M)) : wpX_groupTreeSum post (nI n, s, d, a, M) (nI p) := by
  have hw := cw_W hO
  unfold wpX_groupTreeSum
  dsimp only
  refine gx_group hO hp (fun G hG hGq => ?_)
  refine kx_treeSum hO hG (kx_pos ((hGq p).mpr (lj_r _ p))) (fun q hq => lj_n hw hp ((hGq q).mp hq)) (fun l hln hl _ M' => ?_)
  have hL : lc_L n (lc_x G.testBit l) = lc_L n (lc_x (lj_b (cw_w a) p) l) := lc_cg (fun z _ => by
    rw [lc_xt, lc_xt, hGq z, lj_bt])
  rw [hL, an_t hw hp ((hGq l).mp hl)]
  exact hJ M'
theorem kx_split {n p q : Nat} {s d : Int32} {a : Nat → Int32} {M : Nat → Int64} {post : Int64 → SX → Prop} (hO : cw_O n a) (hp : p < n) (hq : q < n)
    (hJ : ∀ M, post (Int64.ofInt (an_M (cw_w a) n p q)) (nI n, s, d, a, M)) : wpX_splitSum post (nI n, s, d, a, M) (nI p) (nI q) := by
  have h6 := hO.2.1
  by_cases e : p = q
  · refine br_t (by rw [e]) ?_
    have := hJ M
    simp only [an_M, e, if_true] at this
    exact this
  · have e' : ¬ nI p = nI q := by rw [nI_eq (by omega) (by omega)]; exact e
    refine br_f e' ?_
    refine gx_group hO hp (fun G hG hGq => ?_)
    have hboth : ((1 : Int32) <<< (nI p &&& 31)) ||| ((1 : Int32) <<< (nI q &&& 31)) = nI (2 ^ p ||| 2 ^ q) := by
      rw [mb_1 p (by omega), mb_1 q (by omega), mb_or]
    refine nm_r hboth ?_
    rw [mb_ends G hG p (by omega) q (by omega)]
    obtain ⟨h1, h2⟩ := mb_endt G hG p (by omega) q (by omega)
    have hL : lc_L n (G &&& (63 ^^^ (2 ^ p ||| 2 ^ q))).testBit = lc_L n (lc_xx (lj_b (cw_w a) p) p q) := lc_cg (fun z hz => by
      rw [h2 z (by omega), lc_xxt, lj_bt, ← hGq z]
      simp [and_assoc])
    refine hx_minor hO h1 ?_ (fun M' => ?_)
    · rw [hL]
      have := an_len2 (A := lj_b (cw_w a) p) hp hq e
      omega
    · rw [hL]
      have := hJ M'
      simp only [an_M, e, if_false] at this
      exact this
theorem kx_dvs {n p sn dn : Nat} {a : Nat → Int32} {M : Nat → Int64} {post : Int64 → SX → Prop} (hO : cw_O n a) (hs : sn < n) (hd : dn < n) (hp : p < n) (hsd : ¬ sn = dn) (hj : lj_J (cw_w a) sn dn) (hjp : lj_J (cw_w a) sn p)
    (hJ : ∀ M, post (Int64.ofInt (2 * an_sh (cw_w a) n sn dn p)) (nI n, nI sn, nI dn, a, M)) : wpX_doubleVoltageShare post (nI n, nI sn, nI dn, a, M) (nI p) := by
  have hw := cw_W hO
  unfold wpX_doubleVoltageShare
  dsimp only
  refine kx_split hO hs hd (fun M1 => ?_)
  dsimp only
  refine kx_split hO hp hd (fun M2 => ?_)
  dsimp only
  refine kx_split hO hs hp (fun M3 => ?_)
  dsimp only
  rw [← Int64.ofInt_add, ← Int64.ofInt_sub, an_v hw hs hsd hj hjp]
  exact hJ M3
/-! lowest terms -/
theorem kx_le0 {x : Int} (hx : x.natAbs < 2 ^ 63) : 0 ≤ Int64.ofInt x ↔ 0 ≤ x := by
  rw [Int64.le_iff_toInt_le, Int64.toInt_ofInt_of_le (by omega) (by omega)]
  exact Iff.rfl
theorem kx_l0 {B : Nat} (hB : B < 2 ^ 63) : lN B = 0 ↔ B = 0 := by
  have : (0 : Int64) = lN 0 := rfl
  rw [this, pk_lEQ hB (by decide)]
theorem kx_31 {g : Nat} {post : Int64 → Prop} (hJ : post (lN g)) :
    ∀ fuel j A B, j ≤ 128 → 128 - j < fuel → A < 2 ^ 63 → B < 2 ^ 63 → eu_I 64 j A B → Nat.gcd A B = g → wX_commonDivisor_31 post fuel (lN A) (lN B) (nI j) := by
  intro fuel
  induction fuel with
  | zero => intro j A B _ h; omega
  | succ f ih =>
    intro j A B hj hf hA hB hI hg
    by_cases e : j = 128
    · subst e
      have := eu_e (N := 64) hI
      subst this
      rw [Nat.gcd_zero_right] at hg
      refine br_t (nI_le (a := 128) (Nat.le_refl _) (by decide)) ?_
      rw [hg]
      exact hJ
    · refine br_f (nI_ge (b := 128) (by omega) (by decide)) ?_
      by_cases hb : B = 0
      · subst hb
        rw [Nat.gcd_zero_right] at hg
        refine br_t rfl ?_
        rw [hg]
        exact hJ
      · have hb' : ¬ lN B = 0 := by rw [kx_l0 hB]; exact hb
        have hlt : A % B < B := Nat.mod_lt A (by omega)
        refine br_f hb' ⟨hb', nm_r (pk_lRem hA (by omega) hB) (nm_r (nI_1 j) (ih (j + 1) B (A % B) (by omega) (by omega) hB (by omega) (eu_s (by omega) hI (by omega)) ?_))⟩
        rw [eu_g]; exact hg
theorem kx_cd {x y : Int} {post : Int64 → Prop} (hx : x.natAbs < 2 ^ 63) (hy : y.natAbs < 2 ^ 63) (hJ : post (lN (Nat.gcd x.natAbs y.natAbs))) : wpX_commonDivisor post (Int64.ofInt x) (Int64.ofInt y) := by
  have hI : eu_I 64 0 x.natAbs y.natAbs := ⟨fun _ => by show y.natAbs < 2 ^ 64; omega, fun h => by omega⟩
  have hfin : wX_commonDivisor_12 post (Int64.ofInt y) (lN x.natAbs) := by
    by_cases h0 : 0 ≤ y
    · refine br_t ((kx_le0 hy).mpr h0) ⟨129, ?_⟩
      rw [eu_abs.2 (by omega)]
      exact kx_31 hJ 129 0 _ _ (by omega) (by omega) hx hy hI rfl
    · refine br_f (fun h => h0 ((kx_le0 hy).mp h)) (nm_r (eu_abs.1 (by omega)) ⟨129, ?_⟩)
      exact kx_31 hJ 129 0 _ _ (by omega) (by omega) hx hy hI rfl
  by_cases h0 : 0 ≤ x
  · refine br_t ((kx_le0 hx).mpr h0) ?_
    rw [(eu_abs (x := x)).2 (by omega)]
    exact hfin
  · refine br_f (fun h => h0 ((kx_le0 hx).mp h)) ?_
    rw [(eu_abs (x := x)).1 (by omega)]
    exact hfin
theorem kx_gb {x y : Int} (hx : x.natAbs < 2 ^ 62) (hy : y.natAbs < 2 ^ 62) : Nat.gcd x.natAbs y.natAbs < 2 ^ 63 := by
  by_cases h : x.natAbs = 0
  · rw [h, Nat.gcd_zero_left]; omega
  · have := Nat.gcd_le_left y.natAbs (Nat.pos_of_ne_zero h)
    omega
theorem kx_lowered {x y : Int} {post : Int64 → Prop} (hx : x.natAbs < 2 ^ 62) (hy : y.natAbs < 2 ^ 62) (hJ : post (Int64.ofInt (eu_q x y))) : wpX_lowered post (Int64.ofInt x) (Int64.ofInt y) := by
  have hgb := kx_gb hx hy
  refine kx_cd (by omega) (by omega) ?_
  by_cases hg : Nat.gcd x.natAbs y.natAbs = 0
  · refine br_t (by rw [hg]; rfl) ?_
    have hx0 : x = 0 := by
      have := Nat.eq_zero_of_gcd_eq_zero_left hg
      omega
    have e : eu_q x y = x := by
      unfold eu_q; rw [hx0]; simp
    rw [e] at hJ
    exact hJ
  · have hg' : ¬ lN (Nat.gcd x.natAbs y.natAbs) = 0 := by rw [kx_l0 hgb]; exact hg
    refine br_f hg' ⟨hg', ?_⟩
    rw [eu_lN, eu_d (by omega) hgb]
    exact hJ
end
section
theorem gy_bad0 {n p : Nat} {s d z : Int32} {a l t m : Nat → Int32} {post : Int32 → Prop} (hn : n ≤ 6) (hp : p < n) (h : post 0) : wpY_bad post (nI n, s, d, z, a, l, t, m) (nI p) :=
  br_f (nI_pos (by omega)) (br_f (nI_ge hp (by omega)) (br_t (nI_le (b := 5) (by omega) (by decide)) h))
theorem gy_bad1 {n : Nat} {x s d z : Int32} {a l t m : Nat → Int32} {post : Int32 → Prop} (hx : x < 0 ∨ nI n ≤ x) (h : post 1) : wpY_bad post (nI n, s, d, z, a, l, t, m) x := by
  by_cases h0 : x < 0
  · exact br_t h0 h
  · exact br_f h0 (br_t (hx.resolve_left h0) h)
def ly_b (b : Bool) : Int32 := if b = true then 1 else 0
theorem ly_b0 {b : Bool} : ly_b b = 0 ↔ b = false := by cases b <;> decide
def ly_L (n : Nat) (l : Nat → Int32) (k : Nat → Nat) : Prop := ∀ p, p < n → l p = nI (k p) ∧ k p < 6
theorem ly_20 {n p : Nat} {s d z : Int32} {a t m : Nat → Int32} {post : Int32 → SY → Prop} {J4 : Int32 → Int32 → (Nat → Int32) → (Nat → Int32) → (Nat → Int32) → (Nat → Int32) → Prop} {k0 : Nat → Nat}
    (hO : cw_O n a) (hp : p < n) (hJ : ∀ any l k, ly_L n l k → lo_I n (cw_w a) k0 p n any k → J4 (ly_b any) (nI (p + 1)) a l t m) :
    ∀ fuel q any l k, q ≤ n → n - q < fuel → ly_L n l k → lo_I n (cw_w a) k0 p q any k → wY_lower_20 post J4 (nI p) (nI n) s d z fuel (ly_b any) (nI q) a l t m := by
  have h6 := hO.2.1
  intro fuel
  induction fuel with
  | zero => intro q any l k _ h; omega
  | succ f ih =>
    intro q any l k hq hf hL hI
    by_cases e : q = n
    · subst e
      exact br_t (nI_le (Nat.le_refl _) (by omega)) (nm_r (nI_1 p) (hJ any l k hL hI))
    · have hqn : q < n := by omega
      have hpos := cw_pos hO (p := p) (q := q) (by omega) (by omega)
      have k1 : (nI (6 * p + q)).toNatClampNeg = 6 * p + q := nI_clamp (by omega)
      have k2 : (nI p).toNatClampNeg = p := nI_clamp (by omega)
      have k3 : (nI q).toNatClampNeg = q := nI_clamp (by omega)
      refine br_f (nI_ge hqn (by omega)) (br_f (nI_ge (b := 6) (by omega) (by decide)) ?_)
      rw [gy_c p q, k1]
      refine ⟨vp_in_nI (by omega) (by omega), ?_⟩
      by_cases ez : a (6 * p + q) ≤ 0
      · refine br_t ez (nm_r (nI_1 q) (ih (q + 1) any l k (by omega) (by omega) hL (lo_keep hqn hI (fun h => ?_))))
        exact absurd ez (Int32.not_le.mpr (hpos.mpr h))
      · have hw : 0 < cw_w a p q := hpos.mp (Int32.not_le.mp ez)
        refine br_f ez ⟨vp_in_nI (by omega) (by omega), vp_in_nI (by omega) (by omega), ?_⟩
        rw [k2, k3, (hL p hp).1, (hL q hqn).1]
        have hkp := (hL p hp).2
        have hkq := (hL q hqn).2
        by_cases el : k p ≤ k q
        · exact br_t (nI_le el (by omega)) (nm_r (nI_1 q) (ih (q + 1) any l k (by omega) (by omega) hL (lo_keep hqn hI (fun _ => el))))
        · refine br_f (nI_ge (by omega) (by omega)) ⟨vp_in_nI (by omega) (by omega), vp_in_nI (by omega) (by omega), nm_e (nm_r (nI_1 q) ?_)⟩
          refine ih (q + 1) true (upd l p (nI (k q))) (fun x => if x = p then k q else k x) (by omega) (by omega) (fun x hx => ?_) (lo_set hp hqn hI hw (by omega))
          by_cases ex : x = p
          · subst ex
            rw [pk_us]
            simp only [if_true]
            exact ⟨trivial, hkq⟩
          · rw [pk_un ex]
            simp only [ex, if_false]
            exact hL x hx
theorem ly_4 {n : Nat} {s d z : Int32} {a t m : Nat → Int32} {post : Int32 → SY → Prop} {k0 : Nat → Nat}
    (hO : cw_O n a) (hJ : ∀ any l k, ly_L n l k → lo_I n (cw_w a) k0 n 0 any k → post (ly_b any) (nI n, s, d, z, a, l, t, m)) :
    ∀ fuel p any l k, p ≤ n → n - p < fuel → ly_L n l k → lo_I n (cw_w a) k0 p 0 any k → wY_lower_4 post (nI n) s d z fuel (ly_b any) (nI p) a l t m := by
  have h6 := hO.2.1
  intro fuel
  induction fuel with
  | zero => intro p any l k _ h; omega
  | succ f ih =>
    intro p any l k hp hf hL hI
    by_cases e : p = n
    · subst e
      exact br_t (nI_le (Nat.le_refl _) (by omega)) ⟨by cases any <;> rfl, hJ any l k hL hI⟩
    · have hpn : p < n := by omega
      refine br_f (nI_ge hpn (by omega)) (br_f (nI_ge (b := 6) (by omega) (by decide)) ⟨n + 1, ?_⟩)
      exact ly_20 hO hpn (fun any' l' k' hL' hI' => ih (p + 1) any' l' k' (by omega) (by omega) hL' (lo_row hI')) (n + 1) 0 any l k (by omega) (by omega) hL hI
theorem ly_lower {n : Nat} {s d z : Int32} {a l t m : Nat → Int32} {post : Int32 → SY → Prop} {k : Nat → Nat}
    (hO : cw_O n a) (hL : ly_L n l k) (hI : ll_I n (cw_w a) k) (hJ : ∀ any l' k', ly_L n l' k' → lo_I n (cw_w a) k n 0 any k' → post (ly_b any) (nI n, s, d, z, a, l', t, m)) : wpY_lower post (nI n, s, d, z, a, l, t, m) :=
  ⟨n + 1, ly_4 hO hJ (n + 1) 0 false l k (by omega) (by omega) hL (lo_0 hI)⟩
/-- the labels are those of the groups -/
def ly_F (n : Nat) (w : Nat → Nat → Int) (l : Nat → Int32) : Prop := ∃ k, ly_L n l k ∧ ll_F n w k
theorem ly_25 {n : Nat} {s d z : Int32} {a t m : Nat → Int32} {post : SY → Prop}
    (hO : cw_O n a) (hJ : ∀ l, ly_F n (cw_w a) l → post (nI n, s, d, z, a, l, t, m)) :
    ∀ fuel r any l k, r ≤ 6 → 6 - r < fuel → ly_L n l k → ll_A n (cw_w a) r k → (any = false → ll_F n (cw_w a) k) → wY_group_25 post fuel (ly_b any) (nI r) (nI n) s d z a l t m := by
  have h6 := hO.2.1
  have hw := cw_W hO
  intro fuel
  induction fuel with
  | zero => intro r any l k _ h; omega
  | succ f ih =>
    intro r any l k hr hf hL hA hany
    by_cases e : r = 6
    · subst e
      exact br_t (nI_le (a := 6) (Nat.le_refl _) (by decide)) (hJ l ⟨k, hL, lo_six hw hA⟩)
    · refine br_f (nI_ge (b := 6) (by omega) (by decide)) ?_
      by_cases ha : any = false
      · exact br_t (ly_b0.mpr ha) (hJ l ⟨k, hL, hany ha⟩)
      · refine br_f (fun h => ha (ly_b0.mp h)) ?_
        refine ly_lower hO hL hA.1 (fun any' l' k' hL' hI' => ?_)
        refine nm_r (nI_1 r) (ih (r + 1) any' l' k' (by omega) (by omega) hL' (lo_end hw hA hI') (fun h => ?_))
        subst h
        exact lo_stop hw hI'
theorem ly_2 {n : Nat} {s d z : Int32} {a t m : Nat → Int32} {post : SY → Prop}
    (hO : cw_O n a) (hJ : ∀ l, ly_F n (cw_w a) l → post (nI n, s, d, z, a, l, t, m)) :
    ∀ fuel i l, i ≤ 6 → 6 - i < fuel → (∀ x, x < i → l x = nI x) → wY_group_2 post (nI n) s d z fuel (nI i) a l t m := by
  have h6 := hO.2.1
  intro fuel
  induction fuel with
  | zero => intro i l _ h; omega
  | succ f ih =>
    intro i l hi hf hl
    by_cases e : i = 6
    · subst e
      refine br_t (nI_le (a := 6) (Nat.le_refl _) (by decide)) ⟨7, ?_⟩
      exact ly_25 hO hJ 7 0 true l (fun p => p) (by omega) (by omega) (fun p hp => ⟨hl p (by omega), Nat.lt_of_lt_of_le hp h6⟩) (ll_0 (by have := hO.1; omega)) (fun h => by simp at h)
    · have k1 : (nI i).toNatClampNeg = i := nI_clamp (by omega)
      refine br_f (nI_ge (b := 6) (by omega) (by decide)) ⟨vp_in_nI (by omega) (by omega), ?_⟩
      rw [k1]
      refine nm_e (nm_r (nI_1 i) (ih (i + 1) _ (by omega) (by omega) (fun x hx => ?_)))
      by_cases ex : x = i
      · subst ex; rw [pk_us]
      · rw [pk_un ex]; exact hl x (by omega)
theorem ly_group {n : Nat} {s d z : Int32} {a l t m : Nat → Int32} {post : SY → Prop}
    (hO : cw_O n a) (hJ : ∀ l, ly_F n (cw_w a) l → post (nI n, s, d, z, a, l, t, m)) : wpY_group post (nI n, s, d, z, a, l, t, m) :=
  ⟨7, ly_2 hO hJ 7 0 l (by omega) (by omega) (fun x h => by omega)⟩
theorem ly_eq {n : Nat} {a l : Nat → Int32} (hO : cw_O n a) (h : ly_F n (cw_w a) l) {p q : Nat} (hp : p < n) (hq : q < n) : l p = l q ↔ lj_J (cw_w a) p q := by
  obtain ⟨k, hL, hF⟩ := h
  have h1 := hL p hp
  have h2 := hL q hq
  rw [h1.1, h2.1, nI_eq (by omega) (by omega)]
  exact ll_eq (cw_W hO) hF hp hq
theorem ly_self {n : Nat} {a l : Nat → Int32} (hO : cw_O n a) (h : ly_F n (cw_w a) l) {p : Nat} (hp : p < n) : l p = nI p ↔ lk_l (cw_w a) p = true := by
  have h6 := hO.2.1
  obtain ⟨k, hL, hF⟩ := h
  have h1 := hL p hp
  rw [h1.1, nI_eq (by omega) (by omega)]
  exact ll_self hF hp
theorem ly_8 {n : Nat} {s d z : Int32} {a l t m : Nat → Int32} {post : Int32 → SY → Prop}
    (hO : cw_O n a) (hF : ly_F n (cw_w a) l) (hJ : post (nI (lc_L n (lk_l (cw_w a))).length) (nI n, s, d, z, a, l, t, m)) :
    ∀ fuel p, p ≤ n → n - p < fuel → wY_groups_8 post (nI n) s d z a l t m fuel (nI (lc_L p (lk_l (cw_w a))).length) (nI p) := by
  have h6 := hO.2.1
  intro fuel
  induction fuel with
  | zero => intro p _ h; omega
  | succ f ih =>
    intro p hp hf
    by_cases e : p = n
    · subst e
      exact br_t (nI_le (Nat.le_refl _) (by omega)) hJ
    · have hpn : p < n := by omega
      have k1 : (nI p).toNatClampNeg = p := nI_clamp (by omega)
      have hs := lk_sl p (lk_l (cw_w a))
      refine br_f (nI_ge hpn (by omega)) (br_f (nI_ge (b := 6) (by omega) (by decide)) ⟨vp_in_nI (by omega) (by omega), ?_⟩)
      rw [k1]
      have hi := ih (p + 1) (by omega) (by omega)
      by_cases el : l p = nI p
      · rw [if_pos ((ly_self hO hF hpn).mp el)] at hs
        rw [hs] at hi
        exact br_t el (nm_r (nI_1 _) (nm_r (nI_1 p) hi))
      · rw [if_neg (fun h => el ((ly_self hO hF hpn).mpr h)), Nat.add_zero] at hs
        rw [hs] at hi
        exact br_f el (nm_r (nI_1 p) hi)
theorem ly_groups {n : Nat} {s d z : Int32} {a l t m : Nat → Int32} {post : Int32 → SY → Prop}
    (hO : cw_O n a) (hJ : ∀ l, ly_F n (cw_w a) l → post (nI (lc_L n (lk_l (cw_w a))).length) (nI n, s, d, z, a, l, t, m)) : wpY_groups post (nI n, s, d, z, a, l, t, m) := by
  unfold wpY_groups
  dsimp only
  exact ly_group hO (fun l' hF => ⟨n + 1, ly_8 hO hF (hJ l' hF) (n + 1) 0 (by omega) (by omega)⟩)
end
section
theorem gd_l {L : List Nat} {q i : Nat} (h : i < L.length) : (L ++ [q]).getD i 0 = L.getD i 0 := by
  rw [List.getD_eq_getElem?_getD, List.getD_eq_getElem?_getD, List.getElem?_append_left h]
theorem gd_r (L : List Nat) (q : Nat) : (L ++ [q]).getD L.length 0 = q := by
  rw [List.getD_eq_getElem?_getD, List.getElem?_append_right (Nat.le_refl _)]
  simp
theorem gd_d {L : List Nat} {i : Nat} (h : i < L.length) : L.drop i = L.getD i 0 :: L.drop (i + 1) := by
  rw [List.drop_eq_getElem_cons h, List.getD_eq_getElem?_getD, List.getElem?_eq_getElem h]
  rfl
theorem gd_m {L : List Nat} {i : Nat} (h : i < L.length) : L.getD i 0 ∈ L := by
  rw [List.getD_eq_getElem?_getD, List.getElem?_eq_getElem h]
  exact List.getElem_mem h
/-- what an entry answers -/
def ey_E (n : Nat) (s d z : Int32) (a l t : Nat → Int32) (sp tt : Int32) (E : Nat → Nat → Int) : Prop :=
  ∀ (m : Nat → Int32) (post : Int64 → Prop) (i j : Nat), i < 6 → j < 6 → post (Int64.ofInt (E i j)) → wpY_entry post (nI n, s, d, z, a, l, t, m) (nI i) (nI j) sp tt
theorem ey_44 {n p : Nat} {s d z : Int32} {a l t m : Nat → Int32} {post : Int64 → Prop} (hO : cw_O n a) (hp : p < 6) (hJ : post (Int64.ofInt (la_6 (cw_w a p)))) :
    ∀ fuel r, r ≤ 6 → 6 - r < fuel → wY_entry_44 post (nI p) (nI n) s d z a l t m fuel (Int64.ofInt (lz_sum (cw_w a p) r)) (nI r) := by
  intro fuel
  induction fuel with
  | zero => intro r _ h; omega
  | succ f ih =>
    intro r hr hf
    by_cases e : r = 6
    · subst e
      refine br_t (nI_le (a := 6) (Nat.le_refl _) (by decide)) ?_
      rw [cw_sum6]
      exact hJ
    · have k1 : (nI (6 * p + r)).toNatClampNeg = 6 * p + r := nI_clamp (by omega)
      have hsum : Int64.ofInt (lz_sum (cw_w a p) r) + (a (6 * p + r)).toInt64 = Int64.ofInt (lz_sum (cw_w a p) (r + 1)) := by
        rw [cw_l hO (by omega) (by omega), ← Int64.ofInt_add]; rfl
      refine br_f (nI_ge (b := 6) (by omega) (by decide)) ?_
      rw [gy_c p r, k1]
      exact ⟨vp_in_nI (by omega) (by omega), nm_r hsum (nm_r (nI_1 r) (ih (r + 1) (by omega) (by omega)))⟩
theorem ey_lap {n i j : Nat} {s d z sp tt : Int32} {a l t m : Nat → Int32} {post : Int64 → Prop} (hO : cw_O n a) (hi : i < 6) (hj : j < 6) (hsp : ¬ nI j = sp) (hJ : post (Int64.ofInt (la_m (cw_w a) i j))) : wpY_entry post (nI n, s, d, z, a, l, t, m) (nI i) (nI j) sp tt := by
  refine br_f hsp ?_
  by_cases e : i = j
  · subst e
    refine br_t rfl ⟨7, ?_⟩
    have h0 : la_m (cw_w a) i i = la_6 (cw_w a i) := by simp [la_m]
    rw [h0] at hJ
    exact ey_44 hO hi hJ 7 0 (by omega) (by omega)
  · have e' : ¬ nI i = nI j := by rw [nI_eq (by omega) (by omega)]; exact e
    have k1 : (nI (6 * i + j)).toNatClampNeg = 6 * i + j := nI_clamp (by omega)
    refine br_f e' ?_
    rw [gy_c i j, k1, hx_neg hO hi hj]
    have h0 : la_m (cw_w a) i j = - cw_w a i j := by simp [la_m, e]
    rw [h0] at hJ
    exact ⟨vp_in_nI (by omega) (by omega), hJ⟩
theorem ey_m {n : Nat} {s d z : Int32} {a l t : Nat → Int32} (hO : cw_O n a) : ey_E n s d z a l t (-1) 0 (la_m (cw_w a)) :=
  fun _ _ _ _ hi hj hJ => ey_lap hO hi hj (gx_m1 (by omega)) hJ
theorem ey_c {n p x : Nat} {s d z : Int32} {a l t : Nat → Int32} (hO : cw_O n a) (hp : p < 6) (hx : x < 6) : ey_E n s d z a l t (nI p) (nI x) (lc_c (cw_w a) p x) := by
  intro m post i j hi hj hJ
  by_cases e : j = p
  · subst e
    have k1 : (nI (6 * i + x)).toNatClampNeg = 6 * i + x := nI_clamp (by omega)
    refine br_t rfl ?_
    rw [gy_c i x, k1, cw_l hO hi hx]
    simp only [lc_c, if_true] at hJ
    exact ⟨vp_in_nI (by omega) (by omega), hJ⟩
  · simp only [lc_c, e, if_false] at hJ
    exact ey_lap hO hi hj (by rw [nI_eq (by omega) (by omega)]; exact e) hJ
/-- the array of the points -/
def ty_A (t : Nat → Int32) (L : List Nat) : Prop := ∀ i, i < L.length → t i = nI (L.getD i 0)
def ty_e (E : Nat → Nat → Int) (L : List Nat) : Nat → Nat → Int := fun i j => E (L.getD i 0) (L.getD j 0)
theorem py_145 {n : Nat} {s d sp tt : Int32} {a l t m : Nat → Int32} {L pl : List Nat} {E : Nat → Nat → Int} {post : Int64 → SY → Prop}
    (hE : ey_E n s d (nI L.length) a l t sp tt E) (hL5 : L.length ≤ 5) (hL6 : ∀ x, x ∈ L → x < 6) (hA : ty_A t L) (hpl : pl.length = L.length) (hpk : ∀ x, x ∈ pl → x < L.length) (hm : ty_A m pl) :
    ∀ fuel i A, i ≤ L.length → L.length - i < fuel → post (Int64.ofInt (lz_pr (ty_e E L) i (pl.drop i) A)) (nI n, s, d, nI L.length, a, l, t, m) → wY_product_145 post sp tt (nI n) s d (nI L.length) a l t m fuel (Int64.ofInt A) (nI i) := by
  intro fuel
  induction fuel with
  | zero => intro i A _ h; omega
  | succ f ih =>
    intro i A hi hf hJ
    by_cases e : i = L.length
    · subst e
      refine br_t (nI_le (Nat.le_refl _) (by omega)) ?_
      have hd : pl.drop L.length = [] := by rw [← hpl]; exact List.drop_length
      rw [hd] at hJ
      exact hJ
    · have hiL : i < L.length := by omega
      have k1 : (nI i).toNatClampNeg = i := nI_clamp (by omega)
      have hmi := hm i (by omega)
      have hx : pl.getD i 0 < L.length := hpk _ (gd_m (by omega))
      have k2 : (nI (pl.getD i 0)).toNatClampNeg = pl.getD i 0 := nI_clamp (by omega)
      rw [gd_d (by omega : i < pl.length)] at hJ
      refine br_f (nI_ge hiL (by omega)) (br_f (nI_ge (b := 6) (by omega) (by decide)) ?_)
      rw [k1, hmi, k2, hA i hiL, hA _ hx]
      refine ⟨vp_in_nI (by omega) (by omega), vp_in_nI (by omega) (by omega), vp_in_nI (by omega) (by omega), ?_⟩
      refine hE m _ _ _ (hL6 _ (gd_m hiL)) (hL6 _ (gd_m hx)) ?_
      refine nm_r (Int64.ofInt_mul A (E (L.getD i 0) (L.getD (pl.getD i 0) 0))).symm (nm_r (nI_1 i) (ih (i + 1) _ (by omega) (by omega) hJ))
theorem py_flip {o : Bool} : (ly_b o = 0 → (1 : Int32) = ly_b (!o)) ∧ (¬ ly_b o = 0 → (0 : Int32) = ly_b (!o)) := by cases o <;> decide
theorem py_80 {n k R U i : Nat} {s d z sp tt : Int32} {a l t m : Nat → Int32} {pl : List Nat} {dg : Nat} {o : Bool} {post : Int64 → SY → Prop} {J12 : Int32 → Int32 → Int32 → Int32 → (Nat → Int32) → (Nat → Int32) → (Nat → Int32) → (Nat → Int32) → Prop}
    (hi : pl.length = i) (hi5 : i < 5) (hpk : ∀ x, x ∈ pl → x < 6) (hdg : dg < 6) (hm : ty_A m (pl ++ [dg])) (hJ : J12 (nI R) (nI U) (ly_b (lz_x pl dg o)) (nI (i + 1)) a l t m) :
    ∀ fuel j oc, j ≤ i → i - j < fuel → lz_x (pl.drop j) dg oc = lz_x pl dg o → wY_product_80 post J12 (nI k) sp tt (nI R) (nI U) (nI i) (nI n) s d z a l t m fuel (ly_b oc) (nI j) := by
  intro fuel
  induction fuel with
  | zero => intro j oc _ h; omega
  | succ f ih =>
    intro j oc hj hf hx
    by_cases e : j = i
    · subst e
      refine br_t (nI_le (Nat.le_refl _) (by omega)) (nm_r (nI_1 j) ?_)
      rw [← hi, List.drop_length] at hx
      have : oc = lz_x pl dg o := hx
      rw [this]
      exact hJ
    · have hji : j < pl.length := by omega
      have k1 : (nI j).toNatClampNeg = j := nI_clamp (by omega)
      have k2 : (nI i).toNatClampNeg = i := nI_clamp (by omega)
      have m1 : m j = nI (pl.getD j 0) := by
        rw [hm j (by simp; omega), gd_l hji]
      have m2 : m i = nI dg := by
        have := hm i (by simp; omega)
        rw [← hi, gd_r] at this
        rw [← hi]; exact this
      have hp6 : pl.getD j 0 < 6 := hpk _ (gd_m hji)
      rw [gd_d hji] at hx
      simp only [lz_x] at hx
      refine br_f (nI_ge (by omega) (by omega)) ⟨vp_in_nI (by omega) (by omega), vp_in_nI (by omega) (by omega), ?_⟩
      rw [k1, k2, m1, m2]
      by_cases ed : dg < pl.getD j 0
      · rw [if_pos ed] at hx
        refine br_f (nI_ge ed (by omega)) ?_
        have hnext := ih (j + 1) (!oc) (by omega) (by omega) hx
        by_cases eo : ly_b oc = 0
        · refine br_t eo (nm_r (nI_1 j) ?_)
          rw [py_flip.1 eo]
          exact hnext
        · refine br_f eo (nm_r (nI_1 j) ?_)
          rw [py_flip.2 eo]
          exact hnext
      · rw [if_neg ed] at hx
        exact br_t (nI_le (by omega) (by omega)) (nm_r (nI_1 j) (ih (j + 1) oc (by omega) (by omega) hx))
theorem py_12 {n k : Nat} {s d sp tt : Int32} {a l t : Nat → Int32} {L : List Nat} {E : Nat → Nat → Int} {post : Int64 → SY → Prop}
    (hE : ey_E n s d (nI L.length) a l t sp tt E) (hL5 : L.length ≤ 5) (hL6 : ∀ x, x ∈ L → x < 6) (hA : ty_A t L) (hk1 : 1 ≤ k) (hk : k ≤ 5) (hkL : 0 < L.length → k = L.length) :
    ∀ fuel i R U o pl m, i ≤ L.length → L.length - i < fuel → R < 2 ^ 31 → U < 64 → pl.length = i → (∀ x, x ∈ pl → x < k) → (∀ x, x < 6 → (U.testBit x = true ↔ x ∈ pl)) → ty_A m pl →
      (∀ m, post (Int64.ofInt (lz_val (ty_e E L) (lz_go k (L.length - i) R pl o))) (nI n, s, d, nI L.length, a, l, t, m)) →
      wY_product_12 post (nI k) sp tt (nI n) s d (nI L.length) fuel (nI R) (nI U) (ly_b o) (nI i) a l t m := by
  intro fuel
  induction fuel with
  | zero => intro i R U o pl m _ h; omega
  | succ f ih =>
    intro i R U o pl m hi hf hR hU hpl hpk hUp hm hJ
    by_cases e : i = L.length
    · have hle : nI L.length ≤ nI i := by rw [e]; exact nI_le (Nat.le_refl _) (by omega)
      refine br_t hle ?_
      have hJ' := hJ m
      have e0 : L.length - i = 0 := by omega
      rw [e0] at hJ'
      have hpl' : pl.length = L.length := by omega
      have hpk' : ∀ x, x ∈ pl → x < L.length := by
        intro x hx
        have h1 := hpk x hx
        have h2 : 0 < pl.length := List.length_pos_of_mem hx
        have := hkL (by omega)
        omega
      have hfin : ∀ A, post (Int64.ofInt (lz_pr (ty_e E L) 0 pl A)) (nI n, s, d, nI L.length, a, l, t, m) → ∃ n145, wY_product_145 post sp tt (nI n) s d (nI L.length) a l t m n145 (Int64.ofInt A) (nI 0) := by
        intro A hA'
        exact ⟨L.length + 1, py_145 hE hL5 hL6 hA hpl' hpk' hm (L.length + 1) 0 A (by omega) (by omega) hA'⟩
      by_cases eo : o = true
      · subst eo
        refine br_f (by decide) ?_
        exact hfin (-1) hJ'
      · have eo' : o = false := by cases o <;> simp at eo ⊢
        subst eo'
        refine br_t rfl ?_
        exact hfin 1 hJ'
    · have hiL : i < L.length := by omega
      have hkk : k = L.length := hkL (by omega)
      have k1 : (nI i).toNatClampNeg = i := nI_clamp (by omega)
      have hdk : R % k < k := Nat.mod_lt R (by omega)
      have hb := mb_bit U hU (R % k) (by omega)
      have hk0 : ¬ nI k = 0 := nI_ne0 (by omega) (by omega)
      have hm' : ty_A (upd m i (nI (R % k))) (pl ++ [R % k]) := by
        intro j hj
        by_cases ej : j = i
        · subst ej
          rw [pk_us, ← hpl, gd_r]
        · have hj' : j < pl.length := by simp at hj; omega
          rw [pk_un ej, hm j hj', gd_l hj']
      refine br_f (nI_ge hiL (by omega)) (br_f (nI_ge (b := 6) (by omega) (by decide)) ?_)
      rw [pk_rem hR (by omega) (by omega), pk_div hR (by omega) (by omega), k1]
      refine ⟨hk0, vp_in_nI (by omega) (by omega), nm_e ⟨hk0, nm_e ⟨vp_in_nI (by omega) (by omega), ?_⟩⟩⟩
      rw [pk_us]
      have hgo : L.length - i = (L.length - (i + 1)) + 1 := by omega
      rw [hgo] at hJ
      simp only [lz_go] at hJ
      by_cases ec : U.testBit (R % k) = true
      · rw [if_pos ec] at hb
        have hc : pl.contains (R % k) = true := by
          rw [List.contains_iff_mem]
          exact (hUp _ (by omega)).mp ec
        rw [if_pos hc] at hJ
        exact br_t hb (hJ _)
      · rw [if_neg ec] at hb
        have hc : ¬ pl.contains (R % k) = true := by
          rw [List.contains_iff_mem]
          exact fun h => ec ((hUp _ (by omega)).mpr h)
        rw [if_neg hc] at hJ
        refine br_f (fun h => by rw [hb] at h; exact absurd h (by decide)) ⟨vp_in_nI (by omega) (by omega), ?_⟩
        refine nm_r (show nI U ||| ((1 : Int32) <<< (nI (R % k) &&& 31)) = nI (U ||| 2 ^ (R % k)) by rw [mb_1 _ (by omega), mb_or]) ⟨i + 1, ?_⟩
        refine py_80 hpl (by omega) (fun x hx => by have := hpk x hx; omega) (by omega) hm' ?_ (i + 1) 0 o (by omega) (by omega) rfl
        refine ih (i + 1) (R / k) (U ||| 2 ^ (R % k)) _ (pl ++ [R % k]) _ (by omega) (by omega) ?_ ?_ (by simp [hpl]) ?_ ?_ hm' hJ
        · have := Nat.div_le_self R k; omega
        · have := mb_orlt U hU (R % k) (by omega) (R % k) (by omega)
          rw [Nat.or_self] at this
          exact this
        · intro x hx
          simp only [List.mem_append, List.mem_singleton] at hx
          rcases hx with hx | hx
          · exact hpk x hx
          · rw [hx]; exact hdk
        · intro x hx
          rw [Nat.testBit_or, Bool.or_eq_true, mb_two, hUp x hx]
          simp
theorem py_product {n k c : Nat} {s d sp tt : Int32} {a l t m : Nat → Int32} {L : List Nat} {E : Nat → Nat → Int} {post : Int64 → SY → Prop}
    (hE : ey_E n s d (nI L.length) a l t sp tt E) (hL5 : L.length ≤ 5) (hL6 : ∀ x, x ∈ L → x < 6) (hA : ty_A t L) (hk1 : 1 ≤ k) (hk : k ≤ 5) (hkL : 0 < L.length → k = L.length) (hc : c < 2 ^ 31)
    (hJ : ∀ m, post (Int64.ofInt (lz_val (ty_e E L) (lz_go k L.length c [] false))) (nI n, s, d, nI L.length, a, l, t, m)) : wpY_product post (nI n, s, d, nI L.length, a, l, t, m) (nI c) (nI k) sp tt :=
  ⟨L.length + 1, py_12 hE hL5 hL6 hA hk1 hk hkL (L.length + 1) 0 c 0 false [] m (by omega) (by omega) hc (by decide) rfl (fun x h => by simp at h) (fun x _ => by simp) (fun i h => by simp at h) hJ⟩
theorem dy_tot (E : Nat → Nat → Int) : (L : List Nat) → L.length ≤ 5 → lz_sum (fun c => lz_val (ty_e E L) (lz_go (lz_k L.length) L.length c [] false)) ((lz_k L.length) ^ L.length) = nd_D E L
  | [], _ => lz_d0 _
  | [p], _ => lz_d1 (ty_e E [p])
  | [p, q], _ => lz_d2 (ty_e E [p, q])
  | [p, q, r], _ => lz_d3 (ty_e E [p, q, r])
  | [p, q, r, s], _ => lz_d4 (ty_e E [p, q, r, s])
  | [p, q, r, s, t], _ => lz_d5 (ty_e E [p, q, r, s, t])
  | _ :: _ :: _ :: _ :: _ :: _ :: _, h => by simp at h
theorem dy_50 {n k e : Nat} {s d sp tt : Int32} {a l t : Nat → Int32} {L : List Nat} {E : Nat → Nat → Int} {post : Int64 → SY → Prop}
    (hE : ey_E n s d (nI L.length) a l t sp tt E) (hL5 : L.length ≤ 5) (hL6 : ∀ x, x ∈ L → x < 6) (hA : ty_A t L) (hk1 : 1 ≤ k) (hk : k ≤ 5) (hkL : 0 < L.length → k = L.length) (he : e ≤ 3125)
    (hJ : ∀ m, post (Int64.ofInt (lz_sum (fun c => lz_val (ty_e E L) (lz_go k L.length c [] false)) e)) (nI n, s, d, nI L.length, a, l, t, m)) :
    ∀ fuel c m, c ≤ e → e - c < fuel → wY_determinant_50 post sp tt (nI k) (nI e) fuel (Int64.ofInt (lz_sum (fun c => lz_val (ty_e E L) (lz_go k L.length c [] false)) c)) (nI c) (nI n) s d (nI L.length) a l t m := by
  intro fuel
  induction fuel with
  | zero => intro c m _ h; omega
  | succ f ih =>
    intro c m hc hf
    by_cases ee : c = e
    · subst ee
      exact br_t (nI_le (Nat.le_refl _) (by omega)) (hJ m)
    · refine br_f (nI_ge (by omega) (by omega)) ?_
      refine py_product hE hL5 hL6 hA hk1 hk hkL (by omega) (fun m' => ?_)
      exact nm_r (Int64.ofInt_add _ _).symm (nm_r (nI_1 c) (ih (c + 1) m' (by omega) (by omega)))
theorem dy_pw : ∀ S, S < 6 → ∀ i, i ≤ S → (lz_k S) ^ i ≤ 3125 := by
  intro S hS i hi
  have h : ∀ S, S < 6 → ∀ i, i < 6 → i ≤ S → (lz_k S) ^ i ≤ 3125 := by decide +kernel
  exact h S hS i (by omega) hi
theorem dy_23 {n : Nat} {s d sp tt : Int32} {a l t m : Nat → Int32} {L : List Nat} {E : Nat → Nat → Int} {post : Int64 → SY → Prop}
    (hE : ey_E n s d (nI L.length) a l t sp tt E) (hL5 : L.length ≤ 5) (hL6 : ∀ x, x ∈ L → x < 6) (hA : ty_A t L)
    (hJ : ∀ m, post (Int64.ofInt (nd_D E L)) (nI n, s, d, nI L.length, a, l, t, m)) :
    ∀ fuel i, i ≤ L.length → L.length - i < fuel → wY_determinant_23 post sp tt (nI (lz_k L.length)) (nI n) s d (nI L.length) a l t m fuel (nI ((lz_k L.length) ^ i)) (nI i) := by
  have hk1 : 1 ≤ lz_k L.length := by unfold lz_k; split <;> omega
  have hk5 : lz_k L.length ≤ 5 := by unfold lz_k; split <;> omega
  have hkL : 0 < L.length → lz_k L.length = L.length := by intro h; unfold lz_k; split <;> omega
  intro fuel
  induction fuel with
  | zero => intro i _ h; omega
  | succ f ih =>
    intro i hi hf
    by_cases ee : i = L.length
    · have hle : nI L.length ≤ nI i := by rw [ee]; exact nI_le (Nat.le_refl _) (by omega)
      refine br_t hle ⟨(lz_k L.length) ^ i + 1, ?_⟩
      have h := dy_50 (e := (lz_k L.length) ^ i) hE hL5 hL6 hA hk1 hk5 hkL (dy_pw _ (by omega) i (by omega)) (by rw [ee, dy_tot E L hL5]; exact hJ) ((lz_k L.length) ^ i + 1) 0 m (by omega) (by omega)
      exact h
    · refine br_f (nI_ge (by omega) (by omega)) (nm_r ?_ (nm_r (nI_1 i) (ih (i + 1) (by omega) (by omega))))
      rw [pk_mul, Nat.pow_succ]
theorem dy_det {n : Nat} {s d sp tt : Int32} {a l t m : Nat → Int32} {L : List Nat} {E : Nat → Nat → Int} {post : Int64 → SY → Prop}
    (hE : ey_E n s d (nI L.length) a l t sp tt E) (hL5 : L.length ≤ 5) (hL6 : ∀ x, x ∈ L → x < 6) (hA : ty_A t L)
    (hJ : ∀ m, post (Int64.ofInt (nd_D E L)) (nI n, s, d, nI L.length, a, l, t, m)) : wpY_determinant post (nI n, s, d, nI L.length, a, l, t, m) sp tt := by
  have h := dy_23 (m := m) hE hL5 hL6 hA hJ (L.length + 1) 0 (by omega) (by omega)
  by_cases e : 1 ≤ L.length
  · refine br_t (nI_le (a := 1) e (by omega)) ⟨L.length + 1, ?_⟩
    have hk : lz_k L.length = L.length := by unfold lz_k; split <;> omega
    rw [hk] at h
    exact h
  · refine br_f (nI_ge (b := 1) (by omega) (by decide)) ⟨L.length + 1, ?_⟩
    have hk : lz_k L.length = 1 := by unfold lz_k; split <;> omega
    rw [hk] at h
    exact h
end
section
theorem ty_12 {n p wo ot : Nat} {s d : Int32} {a l m : Nat → Int32} {post : SY → Prop} (hO : cw_O n a) (hF : ly_F n (cw_w a) l) (hp : p < n) (hwo : wo < n) (hot : ot < n)
    (hJ : ∀ t, ty_A t (lc_L n (lc_xx (lj_b (cw_w a) p) wo ot)) → post (nI n, s, d, nI (lc_L n (lc_xx (lj_b (cw_w a) p) wo ot)).length, a, l, t, m)) :
    ∀ fuel q t, q ≤ n → n - q < fuel → ty_A t (lc_L q (lc_xx (lj_b (cw_w a) p) wo ot)) → wY_take_12 post (nI p) (nI wo) (nI ot) (nI n) s d fuel (nI q) (nI (lc_L q (lc_xx (lj_b (cw_w a) p) wo ot)).length) a l t m := by
  have h6 := hO.2.1
  have hw := cw_W hO
  intro fuel
  induction fuel with
  | zero => intro q t _ h; omega
  | succ f ih =>
    intro q t hq hf hA
    by_cases e : q = n
    · subst e
      exact br_t (nI_le (Nat.le_refl _) (by omega)) (hJ t hA)
    · have hqn : q < n := by omega
      have k1 : (nI q).toNatClampNeg = q := nI_clamp (by omega)
      have k2 : (nI p).toNatClampNeg = p := nI_clamp (by omega)
      have hlen := lc_len (n := q) (lc_xx (lj_b (cw_w a) p) wo ot)
      have k3 : (nI (lc_L q (lc_xx (lj_b (cw_w a) p) wo ot)).length).toNatClampNeg = (lc_L q (lc_xx (lj_b (cw_w a) p) wo ot)).length := nI_clamp (by omega)
      have hin := ih (q + 1)
      have hno : ¬ lc_xx (lj_b (cw_w a) p) wo ot q = true → wY_take_12 post (nI p) (nI wo) (nI ot) (nI n) s d f (nI (q + 1)) (nI (lc_L q (lc_xx (lj_b (cw_w a) p) wo ot)).length) a l t m := by
        intro h
        have h2 := hin t (by omega) (by omega)
        rw [bz_s0 h] at h2
        exact h2 hA
      refine br_f (nI_ge hqn (by omega)) (br_f (nI_ge (b := 6) (by omega) (by decide)) ⟨vp_in_nI (by omega) (by omega), vp_in_nI (by omega) (by omega), ?_⟩)
      rw [k1, k2]
      by_cases el : l q = l p
      · have hj : lj_J (cw_w a) p q := lj_s hw ((ly_eq hO hF hqn hp).mp el)
        refine br_t el ?_
        by_cases e1 : q = wo
        · refine br_t (by rw [e1]) (nm_r (nI_1 q) (hno (fun h => (lc_xxt.mp h).2.1 e1)))
        · refine br_f (by rw [nI_eq (by omega) (by omega)]; exact e1) ?_
          by_cases e2 : q = ot
          · refine br_t (by rw [e2]) (nm_r (nI_1 q) (hno (fun h => (lc_xxt.mp h).2.2 e2)))
          · refine br_f (by rw [nI_eq (by omega) (by omega)]; exact e2) ⟨vp_in_nI (by omega) (by omega), ?_⟩
            rw [k3]
            have hyes : lc_xx (lj_b (cw_w a) p) wo ot q = true := lc_xxt.mpr ⟨lj_bt.mpr hj, e1, e2⟩
            refine nm_e (nm_r (nI_1 _) (nm_r (nI_1 q) ?_))
            have h2 := hin (upd t (lc_L q (lc_xx (lj_b (cw_w a) p) wo ot)).length (nI q)) (by omega) (by omega)
            rw [bz_s1 hyes, List.length_append] at h2
            refine h2 (fun i hi => ?_)
            by_cases ei : i = (lc_L q (lc_xx (lj_b (cw_w a) p) wo ot)).length
            · rw [ei, pk_us, gd_r]
            · have hi' : i < (lc_L q (lc_xx (lj_b (cw_w a) p) wo ot)).length := by simp at hi; omega
              rw [pk_un ei, hA i hi', gd_l hi']
      · refine br_f el (nm_r (nI_1 q) (hno (fun h => el ?_)))
        exact (ly_eq hO hF hqn hp).mpr (lj_s hw (lj_bt.mp (lc_xxt.mp h).1))
theorem ty_take {n p wo ot : Nat} {s d z : Int32} {a l t m : Nat → Int32} {post : SY → Prop} (hO : cw_O n a) (hp : p < n) (hwo : wo < n) (hot : ot < n)
    (hJ : ∀ l t, ty_A t (lc_L n (lc_xx (lj_b (cw_w a) p) wo ot)) → post (nI n, s, d, nI (lc_L n (lc_xx (lj_b (cw_w a) p) wo ot)).length, a, l, t, m)) : wpY_take post (nI n, s, d, z, a, l, t, m) (nI p) (nI wo) (nI ot) := by
  unfold wpY_take
  dsimp only
  refine ly_group hO (fun l' hF => ⟨n + 1, ?_⟩)
  exact ty_12 hO hF hp hwo hot (hJ l') (n + 1) 0 t (by omega) (by omega) (fun i h => absurd h (Nat.not_lt_zero i))
theorem ay_l4 {n p q r : Nat} {a : Nat → Int32} (hO : cw_O n a) (hp : p < n) (hq : q < n) (h : ¬ p = q) : (lc_L n (lc_xx (lj_b (cw_w a) r) p q)).length ≤ 5 := by
  have := an_len2 (A := lj_b (cw_w a) r) hp hq h
  have := hO.2.1
  omega
theorem ay_l5 {n p r : Nat} {a : Nat → Int32} (hO : cw_O n a) (hp : p < n) : (lc_L n (lc_xx (lj_b (cw_w a) r) p p)).length ≤ 5 := by
  rw [an_xx]
  have := lc_len1 (P := lj_b (cw_w a) r) hp
  have := hO.2.1
  omega
theorem ay_whole {n sn dn : Nat} {z : Int32} {a l t m : Nat → Int32} {post : Int64 → SY → Prop} (hO : cw_O n a) (hs : sn < n) (hd : dn < n) (hsd : ¬ sn = dn)
    (hJ : ∀ z l t m, post (Int64.ofInt (an_M (cw_w a) n sn dn)) (nI n, nI sn, nI dn, z, a, l, t, m)) : wpY_whole post (nI n, nI sn, nI dn, z, a, l, t, m) := by
  unfold wpY_whole
  dsimp only
  refine ty_take hO hs hs hd (fun l' t' hA => ?_)
  refine dy_det (ey_m hO) (ay_l4 hO hs hd hsd) (lc_6 hO.2.1) hA (fun m' => ?_)
  have := hJ (nI (lc_L n (lc_xx (lj_b (cw_w a) sn) sn dn)).length) l' t' m'
  simp only [an_M, hsd, if_false] at this
  exact this
theorem ay_local {n sn dn : Nat} {z : Int32} {a l t m : Nat → Int32} {post : Int64 → SY → Prop} (hO : cw_O n a) (hs : sn < n) (hd : dn < n) (hj : lj_J (cw_w a) sn dn)
    (hJ : ∀ z l t m, post (Int64.ofInt (an_T (cw_w a) n sn)) (nI n, nI sn, nI dn, z, a, l, t, m)) : wpY_local post (nI n, nI sn, nI dn, z, a, l, t, m) := by
  unfold wpY_local
  dsimp only
  refine ty_take hO hs hd hd (fun l' t' hA => ?_)
  refine dy_det (ey_m hO) (ay_l5 hO hd) (lc_6 hO.2.1) hA (fun m' => ?_)
  have := hJ (nI (lc_L n (lc_xx (lj_b (cw_w a) sn) dn dn)).length) l' t' m'
  rw [← an_t (cw_W hO) hs hj, ← an_xx] at this
  exact this
theorem ay_share {n sn dn p : Nat} {z : Int32} {a l t m : Nat → Int32} {post : Int64 → SY → Prop} (hO : cw_O n a) (hs : sn < n) (hd : dn < n) (hp : p < n) (hsd : ¬ sn = dn)
    (hJ : ∀ z l t m, post (Int64.ofInt (an_sh (cw_w a) n sn dn p)) (nI n, nI sn, nI dn, z, a, l, t, m)) : wpY_share post (nI n, nI sn, nI dn, z, a, l, t, m) (nI p) := by
  have h6 := hO.2.1
  by_cases e1 : p = dn
  · refine br_t (by rw [e1]) ?_
    have := hJ z l t m
    simp only [an_sh, e1, if_true] at this
    exact this
  · refine br_f (by rw [nI_eq (by omega) (by omega)]; exact e1) ?_
    refine ty_take hO hs hs hd (fun l' t' hA => ?_)
    by_cases e2 : p = sn
    · refine br_t (by rw [e2]) ?_
      refine dy_det (ey_m hO) (ay_l4 hO hs hd hsd) (lc_6 hO.2.1) hA (fun m' => ?_)
      have := hJ (nI (lc_L n (lc_xx (lj_b (cw_w a) sn) sn dn)).length) l' t' m'
      simp only [an_sh, e1, e2, if_false, if_true, an_M, hsd] at this
      exact this
    · refine br_f (by rw [nI_eq (by omega) (by omega)]; exact e2) ?_
      refine dy_det (ey_c hO (by omega) (by omega)) (ay_l4 hO hs hd hsd) (lc_6 hO.2.1) hA (fun m' => ?_)
      have := hJ (nI (lc_L n (lc_xx (lj_b (cw_w a) sn) sn dn)).length) l' t' m'
      simp only [an_sh, e1, e2, if_false] at this
      exact this
theorem ay_allTrees {n : Nat} {s d z : Int32} {a l t m : Nat → Int32} {post : Int64 → SY → Prop} (hO : cw_O n a)
    (hJ : ∀ z l t m, post (Int64.ofInt (an_A (cw_w a) n)) (nI n, s, d, z, a, l, t, m)) : wpY_allTrees post (nI n, s, d, z, a, l, t, m) := by
  have h2 := hO.1
  have h6 := hO.2.1
  have hw := cw_W hO
  unfold wpY_allTrees
  dsimp only
  refine ly_groups hO (fun l' hF => ?_)
  have hlen := lc_len (n := n) (lk_l (cw_w a))
  by_cases e : (lc_L n (lk_l (cw_w a))).length ≤ 1
  · have hall := (an_all hw (by omega)).mp e
    refine br_t (nI_le (b := 1) e (by decide)) ?_
    refine ty_take (p := 0) (wo := 0) (ot := 0) hO (by omega) (by omega) (by omega) (fun l'' t'' hA => ?_)
    refine dy_det (ey_m hO) (ay_l5 hO (by omega)) (lc_6 hO.2.1) hA (fun m' => ?_)
    have := hJ (nI (lc_L n (lc_xx (lj_b (cw_w a) 0) 0 0)).length) l'' t'' m'
    rw [an_A1 hall] at this
    exact this
  · refine br_f (nI_ge (a := 1) (by omega) (by omega)) ?_
    have := hJ z l' t m
    rw [an_A0 hw (by omega) (fun h => e ((an_all hw (by omega)).mpr h))] at this
    exact this
/-! lowest terms -/
theorem ky_20 {g : Nat} {n s d z : Int32} {a l t m : Nat → Int32} {post : Int64 → Prop} (hJ1 : g ≠ 0 → post (lN g)) (hJ0 : g = 0 → post 1) :
    ∀ fuel j A B, j ≤ 120 → 120 - j < fuel → A < 2 ^ 63 → B < 2 ^ 63 → eu_I 60 j A B → Nat.gcd A B = g → wY_common_20 post n s d z a l t m fuel (lN A) (lN B) (nI j) := by
  intro fuel
  induction fuel with
  | zero => intro j A B _ h; omega
  | succ f ih =>
    intro j A B hj hf hA hB hI hg
    by_cases e : j = 120
    · subst e
      have := eu_e (N := 60) hI
      subst this
      rw [Nat.gcd_zero_right] at hg
      refine br_t (nI_le (a := 120) (Nat.le_refl _) (by decide)) ?_
      have h1 : (1 : Int64) ≤ lN A ↔ 1 ≤ A := pk_lLE (a := 1) (by decide) hA
      by_cases e0 : A = 0
      · refine br_f (fun h => ?_) (hJ0 (by omega))
        have := h1.mp h; omega
      · refine br_t (h1.mpr (by omega)) ?_
        rw [hg]; exact hJ1 (by omega)
    · refine br_f (nI_ge (b := 120) (by omega) (by decide)) ?_
      have h0 : lN B ≤ (0 : Int64) ↔ B ≤ 0 := pk_lLE (b := 0) hB (by decide)
      by_cases hb : B = 0
      · subst hb
        refine br_t (h0.mpr (Nat.le_refl 0)) (nm_r (nI_1 j) (ih (j + 1) A 0 (by omega) (by omega) hA (by decide) eu_z hg))
      · have hb' : ¬ lN B = 0 := by rw [kx_l0 hB]; exact hb
        have hlt : A % B < B := Nat.mod_lt A (by omega)
        refine br_f (fun h => ?_) ⟨hb', nm_r (pk_lRem hA (by omega) hB) (nm_r (nI_1 j) (ih (j + 1) B (A % B) (by omega) (by omega) hB (by omega) (eu_s (by omega) hI (by omega)) ?_))⟩
        · have := h0.mp h; omega
        · rw [eu_g]; exact hg
theorem ky_common {x y : Int} {n s d z : Int32} {a l t m : Nat → Int32} {post : Int64 → Prop} (hx : x.natAbs < 2 ^ 62) (hy0 : 0 ≤ y) (hy : y.natAbs < 2 ^ 60)
    (hJ1 : Nat.gcd x.natAbs y.natAbs ≠ 0 → post (lN (Nat.gcd x.natAbs y.natAbs))) (hJ0 : Nat.gcd x.natAbs y.natAbs = 0 → post 1) : wpY_common post (n, s, d, z, a, l, t, m) (Int64.ofInt x) (Int64.ofInt y) := by
  have hI : eu_I 60 0 x.natAbs y.natAbs := ⟨fun _ => hy, fun h => by omega⟩
  have hyl : Int64.ofInt y = lN y.natAbs := (eu_abs (x := y)).2 (by omega)
  rw [hyl]
  by_cases h0 : 0 ≤ x
  · refine br_t ((kx_le0 (by omega)).mpr h0) ⟨121, ?_⟩
    rw [(eu_abs (x := x)).2 (by omega)]
    exact ky_20 hJ1 hJ0 121 0 _ _ (by omega) (by omega) (by omega) (by omega) hI rfl
  · refine br_f (fun h => h0 ((kx_le0 (by omega)).mp h)) (nm_r ((eu_abs (x := x)).1 (by omega)) ⟨121, ?_⟩)
    exact ky_20 hJ1 hJ0 121 0 _ _ (by omega) (by omega) (by omega) (by omega) hI rfl
theorem ky_q {x y v : Int} {n s d z : Int32} {a l t m : Nat → Int32} {post : Int64 → Prop} (hx : x.natAbs < 2 ^ 62) (hy0 : 0 ≤ y) (hy : y.natAbs < 2 ^ 60) (hv : v = x ∨ v = y)
    (hJ : post (Int64.ofInt (v.tdiv (Nat.gcd x.natAbs y.natAbs : Nat)))) :
    wpY_common (fun r => ((1 ≤ r → (¬ r = 0 ∧ (post (Int64.ofInt v / r)))) ∧ (¬ 1 ≤ r → (post (Int64.ofInt v))))) (n, s, d, z, a, l, t, m) (Int64.ofInt x) (Int64.ofInt y) := by
  have hgb := kx_gb (x := x) (y := y) hx (by omega)
  have hvb : v.natAbs < 2 ^ 63 := by rcases hv with h | h <;> rw [h] <;> omega
  refine ky_common hx hy0 hy (fun hg => ?_) (fun hg => ?_)
  · have h1 : (1 : Int64) ≤ lN (Nat.gcd x.natAbs y.natAbs) ↔ 1 ≤ Nat.gcd x.natAbs y.natAbs := pk_lLE (a := 1) (by decide) hgb
    refine br_t (h1.mpr (by omega)) ⟨by rw [kx_l0 hgb]; exact hg, ?_⟩
    rw [eu_lN, eu_d hvb hgb]
    exact hJ
  · have hx0 : x.natAbs = 0 := Nat.eq_zero_of_gcd_eq_zero_left hg
    have hyz : y.natAbs = 0 := Nat.eq_zero_of_gcd_eq_zero_right hg
    have hv0 : v = 0 := by rcases hv with h | h <;> omega
    rw [hv0] at hJ ⊢
    rw [Int.zero_tdiv] at hJ
    exact br_t (by decide) ⟨by decide, hJ⟩
theorem ky_top {x y : Int} {n s d z : Int32} {a l t m : Nat → Int32} {post : Int64 → Prop} (hx : x.natAbs < 2 ^ 62) (hy0 : 0 ≤ y) (hy : y.natAbs < 2 ^ 60) (hJ : post (Int64.ofInt (eu_q x y))) : wpY_top post (n, s, d, z, a, l, t, m) (Int64.ofInt x) (Int64.ofInt y) :=
  ky_q hx hy0 hy (Or.inl rfl) hJ
theorem ky_bottom {x y : Int} {n s d z : Int32} {a l t m : Nat → Int32} {post : Int64 → Prop} (hx : x.natAbs < 2 ^ 62) (hy0 : 0 ≤ y) (hy : y.natAbs < 2 ^ 60) (hJ : post (Int64.ofInt (eu_q y x))) : wpY_bottom post (n, s, d, z, a, l, t, m) (Int64.ofInt x) (Int64.ofInt y) := by
  refine ky_q hx hy0 hy (Or.inr rfl) ?_
  unfold eu_q at hJ
  rw [Nat.gcd_comm]
  exact hJ
theorem ay_live {n sn dn : Nat} {z : Int32} {a l t m : Nat → Int32} {post : Int32 → SY → Prop} (hO : cw_O n a) (hs : sn < n) (hd : dn < n)
    (h1 : lj_J (cw_w a) sn dn → ∀ l, ly_F n (cw_w a) l → post 1 (nI n, nI sn, nI dn, z, a, l, t, m)) (h0 : ¬ lj_J (cw_w a) sn dn → ∀ l, post 0 (nI n, nI sn, nI dn, z, a, l, t, m)) : wpY_live post (nI n, nI sn, nI dn, z, a, l, t, m) := by
  have h6 := hO.2.1
  have k1 : (nI sn).toNatClampNeg = sn := nI_clamp (by omega)
  have k2 : (nI dn).toNatClampNeg = dn := nI_clamp (by omega)
  unfold wpY_live
  dsimp only
  refine ly_group hO (fun l' hF => ?_)
  dsimp only
  rw [k1, k2]
  refine ⟨vp_in_nI (by omega) (by omega), vp_in_nI (by omega) (by omega), ?_⟩
  have he := ly_eq hO hF hs hd
  by_cases e : l' sn = l' dn
  · exact br_t e (h1 (he.mp e) l' hF)
  · exact br_f e (h0 (fun h => e (he.mpr h)) l')
end
section
/-- the same network on both sides -/
def i_Rel (_ : Nat) (u : SX) (v : SY) : Prop := ∃ (n sn dn : Nat) (a : Nat → Int32) (M : Nat → Int64) (z : Int32) (l t m : Nat → Int32), u = (nI n, nI sn, nI dn, a, M) ∧ v = (nI n, nI sn, nI dn, z, a, l, t, m) ∧ cw_O n a ∧ sn < n ∧ dn < n ∧ ¬ sn = dn
theorem rl_mk {k n sn dn : Nat} {a : Nat → Int32} {M : Nat → Int64} {z : Int32} {l t m : Nat → Int32} (hO : cw_O n a) (hs : sn < n) (hd : dn < n) (hsd : ¬ sn = dn) : i_Rel k (nI n, nI sn, nI dn, a, M) (nI n, nI sn, nI dn, z, a, l, t, m) :=
  ⟨n, sn, dn, a, M, z, l, t, m, rfl, rfl, hO, hs, hd, hsd⟩
theorem i_up {k : Nat} {u : SX} {v : SY} (h : i_Rel k u v) : i_Rel (k + 4) u v := h
theorem rl_O {n : Nat} (h2 : 2 ≤ n) (h6 : n ≤ 6) : cw_O n (fun _ => 0) :=
  ⟨h2, h6, fun _ _ _ _ => ⟨⟨0, by omega, rfl⟩, rfl, fun _ => rfl, fun _ => rfl⟩⟩
theorem rl_ini {n : Nat} (h2 : 2 ≤ n) (h6 : n ≤ 6) : i_Rel 1 (nI n, 0, 1, (fun _ => 0), (fun _ => 0)) (nI n, 0, 1, 0, (fun _ => 0), (fun _ => 0), (fun _ => 0), (fun _ => 0)) :=
  rl_mk (sn := 0) (dn := 1) (rl_O h2 h6) (by omega) (by omega) (by omega)
theorem i_vc0 (k0 : Int32) : wpX_init (fun u => wpY_init (fun v => i_Rel 1 u v) k0) k0 := by
  by_cases h2 : 2 ≤ k0
  · refine br_t h2 ?_
    by_cases h6 : k0 ≤ 6
    · refine br_t h6 (br_t h2 (br_t h6 ?_))
      have h0 : ¬ k0 < 0 := by
        intro h
        have := Int32.lt_of_lt_of_le h (Int32.le_trans (by decide) h2)
        exact Int32.lt_irrefl this
      obtain ⟨j, hj, e⟩ := nI_of2 (M := 6) (n := 6) (by decide) h0 h6
      subst e
      have hj2 : 2 ≤ j := by
        have : nI 2 ≤ nI j := h2
        rwa [nI_leI (by decide) (by omega)] at this
      exact rl_ini hj2 hj
    · exact br_f h6 (br_t h2 (br_f h6 (rl_ini (n := 6) (by omega) (by omega))))
  · exact br_f h2 (br_f h2 (rl_ini (n := 2) (by omega) (by omega)))
theorem i_vc_points {k : Nat} {u : SX} {v : SY} (I : i_Rel k u v) (hk : k + 4 ≤ 2049) : wpX_points (fun r => wpY_points (fun r' => r' = r ∧ i_Rel (k + 4) u v) v) u := by
  have J : i_Rel (k + 4) u v := I
  obtain ⟨n, sn, dn, a, M, z, l, t, m, rfl, rfl, hO, hs, hd, hsd⟩ := I
  exact ⟨rfl, J⟩
/-- a point, or not -/
theorem rl_pt (x : Int32) {n : Nat} (h6 : n ≤ 6) : (x < 0 ∨ nI n ≤ x) ∨ ∃ j : Nat, j < n ∧ x = nI j := by
  rcases pk_ix x (n := n) (by omega) with h | h | h
  · exact Or.inl (Or.inl h)
  · exact Or.inl (Or.inr h)
  · exact Or.inr h
theorem rl_val (x : Int32) : x < 0 ∨ (¬ x < 0 ∧ 9 < x ∧ ¬ x ≤ 9) ∨ ∃ j : Nat, j ≤ 9 ∧ x = nI j ∧ ¬ x < 0 ∧ ¬ 9 < x ∧ x ≤ 9 := by
  by_cases h0 : x < 0
  · exact Or.inl h0
  · by_cases h9 : 9 < x
    · exact Or.inr (Or.inl ⟨h0, h9, Int32.not_le.mpr h9⟩)
    · have h9' : x ≤ 9 := Int32.not_lt.mp h9
      obtain ⟨j, hj, e⟩ := nI_of2 (M := 9) (n := 9) (by decide) h0 h9'
      exact Or.inr (Or.inr ⟨j, hj, e, h0, h9, h9'⟩)
theorem rl_setX {n p q : Nat} {s d v : Int32} {a : Nat → Int32} {M : Nat → Int64} {post : SX → Prop} (h6 : n ≤ 6) (hp : p < n) (hq : q < n) (hJ : post (nI n, s, d, cw_put a p q v, M)) : wpX_setPair post (nI n, s, d, a, M) (nI p) (nI q) v := by
  have k1 : (nI (6 * p + q)).toNatClampNeg = 6 * p + q := nI_clamp (by omega)
  have k2 : (nI (6 * q + p)).toNatClampNeg = 6 * q + p := nI_clamp (by omega)
  unfold wpX_setPair
  dsimp only
  rw [gx_c p q, gx_c q p, k1, k2]
  exact ⟨vp_in_nI (by omega) (by omega), nm_e ⟨vp_in_nI (by omega) (by omega), nm_e hJ⟩⟩
theorem rl_setY {n p q : Nat} {s d z v : Int32} {a l t m : Nat → Int32} {post : SY → Prop} (h6 : n ≤ 6) (hp : p < n) (hq : q < n) (hJ : post (nI n, s, d, z, cw_put a p q v, l, t, m)) : wpY_put post (nI n, s, d, z, a, l, t, m) (nI p) (nI q) v := by
  have k1 : (nI (6 * p + q)).toNatClampNeg = 6 * p + q := nI_clamp (by omega)
  have k2 : (nI (6 * q + p)).toNatClampNeg = 6 * q + p := nI_clamp (by omega)
  unfold wpY_put
  dsimp only
  rw [gy_c p q, gy_c q p, k1, k2]
  exact ⟨vp_in_nI (by omega) (by omega), nm_e ⟨vp_in_nI (by omega) (by omega), nm_e hJ⟩⟩
theorem rl_ne {n p q : Nat} (h6 : n ≤ 6) (hp : p < n) (hq : q < n) (h : ¬ p = q) : ¬ nI p = nI q := by
  rw [nI_eq (by omega) (by omega)]; exact h
theorem rl_isV0 {x : Int32} {post : Int32 → Prop} (h : x < 0 ∨ (¬ x < 0 ∧ 9 < x ∧ ¬ x ≤ 9)) (hJ : post 0) : wpX_isValue post x := by
  rcases h with h | h
  · exact br_t h hJ
  · exact br_f h.1 (br_t h.2.1 hJ)
theorem i_vc_join {k : Nat} {u : SX} {v : SY} (I : i_Rel k u v) (hk : k + 4 ≤ 2049) (v1 : Int32) (v2 : Int32) (v3 : Int32) : wpX_join (fun r u' => wpY_join (fun r' v' => r' = r ∧ i_Rel (k + 4) u' v') v v1 v2 v3) u v1 v2 v3 := by
  have J : i_Rel (k + 4) u v := I
  obtain ⟨n, sn, dn, a, M, z, l, t, m, rfl, rfl, hO, hs, hd, hsd⟩ := I
  have h6 := hO.2.1
  unfold wpX_join wpY_join
  dsimp only
  rcases rl_pt v1 h6 with hb | ⟨p, hp, rfl⟩
  · exact gx_good0 hb (br_t rfl (gy_bad1 hb (br_f (by decide) ⟨rfl, J⟩)))
  refine gx_good1 h6 hp (br_f (by decide) ?_)
  rcases rl_pt v2 h6 with hb | ⟨q, hq, rfl⟩
  · exact gx_good0 hb (br_t rfl (gy_bad0 h6 hp (br_t rfl (gy_bad1 hb (br_f (by decide) ⟨rfl, J⟩)))))
  refine gx_good1 h6 hq (br_f (by decide) ?_)
  by_cases e : p = q
  · subst e
    exact br_t rfl (gy_bad0 h6 hp (br_t rfl (gy_bad0 h6 hp (br_t rfl (br_t rfl ⟨rfl, J⟩)))))
  have e' := rl_ne h6 hp hq e
  refine br_f e' ?_
  have k1 : (nI (6 * p + q)).toNatClampNeg = 6 * p + q := nI_clamp (by omega)
  rcases rl_val v3 with hv | hv | ⟨j, hj, rfl, hv0, hv9, hv9'⟩
  · exact rl_isV0 (Or.inl hv) (br_t rfl (gy_bad0 h6 hp (br_t rfl (gy_bad0 h6 hq (br_t rfl (br_f e' (br_t hv ⟨rfl, J⟩)))))))
  · exact rl_isV0 (Or.inr hv) (br_t rfl (gy_bad0 h6 hp (br_t rfl (gy_bad0 h6 hq (br_t rfl (br_f e' (br_f hv.1 (br_f hv.2.2 ⟨rfl, J⟩))))))))
  refine br_f hv0 (br_f hv9 (br_f (by decide) ?_))
  rw [gx_c p q, k1]
  refine ⟨vp_in_nI (by omega) (by omega), nm_e (rl_setX h6 hp hq ?_)⟩
  refine gy_bad0 h6 hp (br_t rfl (gy_bad0 h6 hq (br_t rfl (br_f e' (br_f hv0 (br_t hv9' ?_))))))
  rw [gy_c p q, k1]
  exact ⟨vp_in_nI (by omega) (by omega), nm_e (rl_setY h6 hp hq ⟨rfl, rl_mk (cw_putO hO hp hq e hj) hs hd hsd⟩)⟩
/-- the chain's array after i links -/
def rl_ch (n p v : Nat) (a : Nat → Int32) : Nat → Nat → Int32
  | 0 => a
  | i + 1 => cw_put (rl_ch n p v a i) ((p + i) % n) ((p + i + 1) % n) (nI v)
theorem rl_mod {n x : Nat} (h2 : 2 ≤ n) (h6 : n ≤ 6) : x % n < n ∧ (x + 1) % n < n ∧ ¬ x % n = (x + 1) % n := by
  have : n = 2 ∨ n = 3 ∨ n = 4 ∨ n = 5 ∨ n = 6 := by omega
  rcases this with e | e | e | e | e <;> subst e <;> omega
theorem rl_chO {n p v : Nat} {a : Nat → Int32} (hO : cw_O n a) (hv : v ≤ 9) : ∀ i, cw_O n (rl_ch n p v a i)
  | 0 => hO
  | i + 1 => by
    have h := rl_mod (x := p + i) hO.1 hO.2.1
    exact cw_putO (rl_chO hO hv i) h.1 h.2.1 h.2.2 hv
theorem rl_chX {n p v c : Nat} {s d : Int32} {a : Nat → Int32} {M : Nat → Int64} {post : Int32 → SX → Prop} (hO : cw_O n a) (hp : p < n) (hc : c ≤ 6) (hJ : post 0 (nI n, s, d, rl_ch n p v a c, M)) :
    ∀ fuel i, i ≤ c → c - i < fuel → wX_chain_37 post (nI p) (nI c) (nI v) fuel (nI i) (nI n) s d (rl_ch n p v a i) M := by
  have h2 := hO.1
  have h6 := hO.2.1
  intro fuel
  induction fuel with
  | zero => intro i _ h; omega
  | succ f ih =>
    intro i hi hf
    by_cases e : i = c
    · subst e
      exact br_t (nI_le (Nat.le_refl _) (by omega)) hJ
    · have hn0 : ¬ nI n = 0 := nI_ne0 (by omega) (by omega)
      have h := rl_mod (x := p + i) h2 h6
      have r1 : (nI p + nI i) - (nI p + nI i) / nI n * nI n = nI ((p + i) % n) := by
        rw [nI_add]; exact pk_rem (by omega) (by omega) (by omega)
      have r2 : ((nI p + nI i) + 1) - ((nI p + nI i) + 1) / nI n * nI n = nI ((p + i + 1) % n) := by
        rw [nI_add, nI_1]; exact pk_rem (by omega) (by omega) (by omega)
      refine br_f (nI_ge (by omega) (by omega)) ⟨hn0, nm_r r1 ⟨hn0, nm_r r2 ?_⟩⟩
      refine rl_setX h6 h.1 h.2.1 ?_
      exact nm_r (nI_1 i) (ih (i + 1) (by omega) (by omega))
theorem rl_chY {n p v c : Nat} {s d z : Int32} {a l t m : Nat → Int32} {post : Int32 → SY → Prop} (hO : cw_O n a) (hp : p < n) (hc : c ≤ 6) (hJ : post 0 (nI n, s, d, z, rl_ch n p v a c, l, t, m)) :
    ∀ fuel i, i ≤ c → c - i < fuel → wY_chain_40 post (nI p) (nI c) (nI v) fuel (nI i) (nI n) s d z (rl_ch n p v a i) l t m := by
  have h2 := hO.1
  have h6 := hO.2.1
  intro fuel
  induction fuel with
  | zero => intro i _ h; omega
  | succ f ih =>
    intro i hi hf
    by_cases e : i = c
    · subst e
      exact br_t (nI_le (Nat.le_refl _) (by omega)) hJ
    · have hn0 : ¬ nI n = 0 := nI_ne0 (by omega) (by omega)
      have hn1 : (1 : Int32) ≤ nI n := nI_le (a := 1) (by omega) (by omega)
      have h := rl_mod (x := p + i) h2 h6
      have r1 : (nI p + nI i) - (nI p + nI i) / nI n * nI n = nI ((p + i) % n) := by
        rw [nI_add]; exact pk_rem (by omega) (by omega) (by omega)
      have r2 : ((nI p + nI i) + 1) - ((nI p + nI i) + 1) / nI n * nI n = nI ((p + i + 1) % n) := by
        rw [nI_add, nI_1]; exact pk_rem (by omega) (by omega) (by omega)
      refine br_f (nI_ge (by omega) (by omega)) (br_t hn1 ⟨hn0, ?_⟩)
      rw [r1]
      refine br_t hn1 ⟨hn0, ?_⟩
      rw [r2]
      refine br_f (rl_ne h6 h.1 h.2.1 h.2.2) ?_
      refine rl_setY h6 h.1 h.2.1 ?_
      exact nm_r (nI_1 i) (ih (i + 1) (by omega) (by omega))
theorem i_vc_chain {k : Nat} {u : SX} {v : SY} (I : i_Rel k u v) (hk : k + 4 ≤ 2049) (v1 : Int32) (v2 : Int32) (v3 : Int32) : wpX_chain (fun r u' => wpY_chain (fun r' v' => r' = r ∧ i_Rel (k + 4) u' v') v v1 v2 v3) u v1 v2 v3 := by
  have J : i_Rel (k + 4) u v := I
  obtain ⟨n, sn, dn, a, M, z, l, t, m, rfl, rfl, hO, hs, hd, hsd⟩ := I
  have h6 := hO.2.1
  unfold wpX_chain wpY_chain
  dsimp only
  rcases rl_pt v1 h6 with hb | ⟨p, hp, rfl⟩
  · exact gx_good0 hb (br_t rfl (gy_bad1 hb (br_f (by decide) ⟨rfl, J⟩)))
  refine gx_good1 h6 hp (br_f (by decide) ?_)
  by_cases h1 : v2 < 1
  · exact br_t h1 (gy_bad0 h6 hp (br_t rfl (br_t h1 ⟨rfl, J⟩)))
  refine br_f h1 ?_
  by_cases hc6 : v2 ≤ 6
  · refine br_t hc6 ?_
    have h0 : ¬ v2 < 0 := by
      intro h
      have h1' : (1 : Int32) ≤ v2 := Int32.not_lt.mp h1
      have := Int32.lt_of_lt_of_le h (Int32.le_trans (by decide) h1')
      exact Int32.lt_irrefl this
    obtain ⟨c, hc, e⟩ := nI_of2 (M := 6) (n := 6) (by decide) h0 hc6
    subst e
    rcases rl_val v3 with hv | hv | ⟨j, hj, rfl, hv0, hv9, hv9'⟩
    · exact rl_isV0 (Or.inl hv) (br_t rfl (gy_bad0 h6 hp (br_t rfl (br_f h1 (br_t hc6 (br_t hv ⟨rfl, J⟩))))))
    · exact rl_isV0 (Or.inr hv) (br_t rfl (gy_bad0 h6 hp (br_t rfl (br_f h1 (br_t hc6 (br_f hv.1 (br_f hv.2.2 ⟨rfl, J⟩)))))))
    refine br_f hv0 (br_f hv9 (br_f (by decide) ⟨c + 1, ?_⟩))
    refine rl_chX hO hp hc ?_ (c + 1) 0 (by omega) (by omega)
    refine gy_bad0 h6 hp (br_t rfl (br_f h1 (br_t hc6 (br_f hv0 (br_t hv9' ⟨c + 1, ?_⟩)))))
    exact rl_chY hO hp hc ⟨rfl, rl_mk (rl_chO hO hj c) hs hd hsd⟩ (c + 1) 0 (by omega) (by omega)
  · exact br_f hc6 (gy_bad0 h6 hp (br_t rfl (br_f h1 (br_f hc6 ⟨rfl, J⟩))))
theorem i_vc_probe {k : Nat} {u : SX} {v : SY} (I : i_Rel k u v) (hk : k + 4 ≤ 2049) (v1 : Int32) (v2 : Int32) : wpX_probe (fun r u' => wpY_probe (fun r' v' => r' = r ∧ i_Rel (k + 4) u' v') v v1 v2) u v1 v2 := by
  have J : i_Rel (k + 4) u v := I
  obtain ⟨n, sn, dn, a, M, z, l, t, m, rfl, rfl, hO, hs, hd, hsd⟩ := I
  have h6 := hO.2.1
  unfold wpX_probe wpY_probe
  dsimp only
  rcases rl_pt v1 h6 with hb | ⟨p, hp, rfl⟩
  · exact gx_good0 hb (br_t rfl (gy_bad1 hb (br_f (by decide) ⟨rfl, J⟩)))
  refine gx_good1 h6 hp (br_f (by decide) ?_)
  rcases rl_pt v2 h6 with hb | ⟨q, hq, rfl⟩
  · exact gx_good0 hb (br_t rfl (gy_bad0 h6 hp (br_t rfl (gy_bad1 hb (br_f (by decide) ⟨rfl, J⟩)))))
  refine gx_good1 h6 hq (br_f (by decide) ?_)
  by_cases e : p = q
  · subst e
    exact br_t rfl (gy_bad0 h6 hp (br_t rfl (gy_bad0 h6 hp (br_t rfl (br_t rfl ⟨rfl, J⟩)))))
  have e' := rl_ne h6 hp hq e
  exact br_f e' (gy_bad0 h6 hp (br_t rfl (gy_bad0 h6 hq (br_t rfl (br_f e' ⟨rfl, rl_mk hO hp hq e⟩)))))
theorem i_vc_conductance {k : Nat} {u : SX} {v : SY} (I : i_Rel k u v) (hk : k + 4 ≤ 2049) (v1 : Int32) (v2 : Int32) : wpX_conductance (fun r => wpY_conductance (fun r' => r' = r ∧ i_Rel (k + 4) u v) v v1 v2) u v1 v2 := by
  have J : i_Rel (k + 4) u v := I
  obtain ⟨n, sn, dn, a, M, z, l, t, m, rfl, rfl, hO, hs, hd, hsd⟩ := I
  have h6 := hO.2.1
  unfold wpX_conductance wpY_conductance
  dsimp only
  rcases rl_pt v1 h6 with hb | ⟨p, hp, rfl⟩
  · exact gx_good0 hb (br_t rfl (gy_bad1 hb (br_f (by decide) ⟨rfl, J⟩)))
  refine gx_good1 h6 hp (br_f (by decide) ?_)
  rcases rl_pt v2 h6 with hb | ⟨q, hq, rfl⟩
  · exact gx_good0 hb (br_t rfl (gy_bad0 h6 hp (br_t rfl (gy_bad1 hb (br_f (by decide) ⟨rfl, J⟩)))))
  refine gx_good1 h6 hq (br_f (by decide) ?_)
  have k1 : (nI (6 * p + q)).toNatClampNeg = 6 * p + q := nI_clamp (by omega)
  rw [gx_c p q, k1]
  refine ⟨vp_in_nI (by omega) (by omega), ?_⟩
  refine gy_bad0 h6 hp (br_t rfl (gy_bad0 h6 hq (br_t rfl ?_)))
  rw [gy_c p q, k1]
  exact ⟨vp_in_nI (by omega) (by omega), rfl, J⟩
theorem i_vc_joined {k : Nat} {u : SX} {v : SY} (I : i_Rel k u v) (hk : k + 4 ≤ 2049) (v1 : Int32) (v2 : Int32) : wpX_joined (fun r => wpY_joined (fun r' v' => r' = r ∧ i_Rel (k + 4) u v') v v1 v2) u v1 v2 := by
  have J : i_Rel (k + 4) u v := I
  obtain ⟨n, sn, dn, a, M, z, l, t, m, rfl, rfl, hO, hs, hd, hsd⟩ := I
  have h6 := hO.2.1
  unfold wpX_joined wpY_joined
  dsimp only
  rcases rl_pt v1 h6 with hb | ⟨p, hp, rfl⟩
  · exact gx_good0 hb (br_t rfl (gy_bad1 hb (br_f (by decide) ⟨rfl, J⟩)))
  refine gx_good1 h6 hp (br_f (by decide) ?_)
  rcases rl_pt v2 h6 with hb | ⟨q, hq, rfl⟩
  · exact gx_good0 hb (br_t rfl (gy_bad0 h6 hp (br_t rfl (gy_bad1 hb (br_f (by decide) ⟨rfl, J⟩)))))
  refine gx_good1 h6 hq (br_f (by decide) ?_)
  have k1 : (nI p).toNatClampNeg = p := nI_clamp (by omega)
  have k2 : (nI q).toNatClampNeg = q := nI_clamp (by omega)
  refine gx_areJoined hO hp hq (fun hj => ?_) (fun hj => ?_)
  · refine br_f (by decide) (gy_bad0 h6 hp (br_t rfl (gy_bad0 h6 hq (br_t rfl (ly_group hO (fun l' hF => ?_))))))
    dsimp only
    rw [k1, k2]
    exact ⟨vp_in_nI (by omega) (by omega), vp_in_nI (by omega) (by omega), br_t ((ly_eq hO hF hp hq).mpr hj) ⟨rfl, rl_mk hO hs hd hsd⟩⟩
  · refine br_t rfl (gy_bad0 h6 hp (br_t rfl (gy_bad0 h6 hq (br_t rfl (ly_group hO (fun l' hF => ?_))))))
    dsimp only
    rw [k1, k2]
    exact ⟨vp_in_nI (by omega) (by omega), vp_in_nI (by omega) (by omega), br_f (fun h => hj ((ly_eq hO hF hp hq).mp h)) ⟨rfl, rl_mk hO hs hd hsd⟩⟩
theorem rl_parts {n : Nat} {s d : Int32} {a : Nat → Int32} {M : Nat → Int64} {post : Int32 → Prop} (hO : cw_O n a) (hJ : post (nI (lc_L n (lk_l (cw_w a))).length)) :
    ∀ fuel p, p ≤ n → n - p < fuel → wX_parts_4 post (nI n) s d a M fuel (nI (lc_L p (lk_l (cw_w a))).length) (nI p) := by
  have h6 := hO.2.1
  have hw := cw_W hO
  intro fuel
  induction fuel with
  | zero => intro p _ h; omega
  | succ f ih =>
    intro p hp hf
    by_cases e : p = n
    · subst e
      exact br_t (nI_le (Nat.le_refl _) (by omega)) hJ
    · have hpn : p < n := by omega
      have hlow : ((1 : Int32) <<< (nI p &&& 31)) - 1 = nI (2 ^ p - 1) := by rw [mb_1 p (by omega), mb_m p (by omega)]
      have hs := lk_sl p (lk_l (cw_w a))
      have hi := ih (p + 1) (by omega) (by omega)
      refine br_f (nI_ge hpn (by omega)) (nm_r hlow (gx_group hO hpn (fun G hG hGq => ?_)))
      have hb := mb_low G hG p (by omega)
      have hiff : (∀ q, q < p → G.testBit q = false) ↔ lk_l (cw_w a) p = true := by
        rw [lk_lt']
        constructor
        · intro h q hq
          apply Nat.le_of_not_lt
          intro hlt
          have := h q hlt
          rw [(hGq q).mpr hq] at this
          exact absurd this (by decide)
        · intro h q hq
          cases hc : G.testBit q
          · rfl
          · have := h q ((hGq q).mp hc)
            omega
      by_cases el : lk_l (cw_w a) p = true
      · rw [if_pos el] at hs
        rw [hs] at hi
        exact br_t (hb.mpr (hiff.mpr el)) (nm_r (nI_1 _) (nm_r (nI_1 p) hi))
      · rw [if_neg el, Nat.add_zero] at hs
        rw [hs] at hi
        exact br_f (fun h => el (hiff.mp (hb.mp h))) (nm_r (nI_1 p) hi)
theorem i_vc_parts {k : Nat} {u : SX} {v : SY} (I : i_Rel k u v) (hk : k + 4 ≤ 2049) : wpX_parts (fun r => wpY_parts (fun r' v' => r' = r ∧ i_Rel (k + 4) u v') v) u := by
  obtain ⟨n, sn, dn, a, M, z, l, t, m, rfl, rfl, hO, hs, hd, hsd⟩ := I
  refine ⟨n + 1, rl_parts hO ?_ (n + 1) 0 (by omega) (by omega)⟩
  unfold wpY_parts
  dsimp only
  exact ly_groups hO (fun l' _ => ⟨rfl, rl_mk hO hs hd hsd⟩)
end
section
theorem i_vc_trees {k : Nat} {u : SX} {v : SY} (I : i_Rel k u v) (hk : k + 4 ≤ 2049) : wpX_trees (fun r u' => wpY_trees (fun r' v' => r' = r ∧ i_Rel (k + 4) u' v') v) u := by
  obtain ⟨n, sn, dn, a, M, z, l, t, m, rfl, rfl, hO, hs, hd, hsd⟩ := I
  have h2 := hO.1
  have h6 := hO.2.1
  unfold wpX_trees wpY_trees
  dsimp only
  unfold wpX_everyPoint
  dsimp only
  rw [mb_1 n (by omega), mb_m n (by omega)]
  have hfull : ∀ q, q < 6 → ((2 ^ n - 1).testBit q = true ↔ q < n) := fun q hq => by
    rw [mb_fullt n (by omega) q hq, decide_eq_true_eq]
  have h64 : 2 ^ n - 1 < 64 := by
    have h : ∀ n, n < 7 → 2 ^ n - 1 < 64 := by decide
    exact h n (by omega)
  refine kx_treeSum hO h64 (kx_pos (p := 0) ((hfull 0 (by omega)).mpr (by omega))) (fun q hq => (hfull q (mb_t6 h64 hq)).mp hq) (fun lo hlo hlt hlow M' => ?_)
  have e0 : lo = 0 := by
    apply Classical.byContradiction
    intro hne
    have h1 := hlow 0 (by omega)
    rw [(hfull 0 (by omega)).mpr (by omega)] at h1
    exact absurd h1 (by decide)
  subst e0
  have hL : lc_L n (lc_x (2 ^ n - 1).testBit 0) = lc_L n (lc_x (fun _ => true) 0) := lc_cg (fun y hy => by
    rw [lc_xt, lc_xt, hfull y (by omega)]
    simp [hy])
  rw [hL]
  exact ay_allTrees hO (fun z' l' t' m' => ⟨rfl, rl_mk hO hs hd hsd⟩)
/-! refusals -/
theorem vx_ref {n sn dn p : Nat} {a : Nat → Int32} {M : Nat → Int64} {post : Int32 → Prop} (hO : cw_O n a) (hs : sn < n) (hd : dn < n) (hp : p < n)
    (h2 : ¬ lj_J (cw_w a) sn dn → post (-2)) (h3 : lj_J (cw_w a) sn dn → ¬ lj_J (cw_w a) sn p → post (-3)) (h0 : lj_J (cw_w a) sn dn → lj_J (cw_w a) sn p → post 0) : wpX_voltageRefusal post (nI n, nI sn, nI dn, a, M) (nI p) := by
  have h6 := hO.2.1
  unfold wpX_voltageRefusal
  dsimp only
  refine gx_good1 h6 hp (br_f (by decide) ?_)
  refine gx_areJoined hO hs hd (fun hj => ?_) (fun hj => br_t rfl (h2 hj))
  refine br_f (by decide) ?_
  exact gx_areJoined hO hs hp (fun hjp => br_f (by decide) (h0 hj hjp)) (fun hjp => br_t rfl (h3 hj hjp))
theorem vx_ref0 {n sn dn : Nat} {x : Int32} {a : Nat → Int32} {M : Nat → Int64} {post : Int32 → Prop} (hx : x < 0 ∨ nI n ≤ x) (h1 : post (-1)) : wpX_voltageRefusal post (nI n, nI sn, nI dn, a, M) x := by
  unfold wpX_voltageRefusal
  dsimp only
  exact gx_good0 hx (br_t rfl h1)
theorem vy_ref {n sn dn p : Nat} {z : Int32} {a l t m : Nat → Int32} {post : Int64 → SY → Prop} (hO : cw_O n a) (hs : sn < n) (hd : dn < n) (hp : p < n)
    (h2 : ¬ lj_J (cw_w a) sn dn → ∀ l, post (-2) (nI n, nI sn, nI dn, z, a, l, t, m)) (h3 : lj_J (cw_w a) sn dn → ¬ lj_J (cw_w a) sn p → ∀ l, post (-3) (nI n, nI sn, nI dn, z, a, l, t, m)) (h0 : lj_J (cw_w a) sn dn → lj_J (cw_w a) sn p → ∀ l, post 0 (nI n, nI sn, nI dn, z, a, l, t, m)) : wpY_refusal post (nI n, nI sn, nI dn, z, a, l, t, m) (nI p) := by
  have h6 := hO.2.1
  have hw := cw_W hO
  have k1 : (nI sn).toNatClampNeg = sn := nI_clamp (by omega)
  have k2 : (nI p).toNatClampNeg = p := nI_clamp (by omega)
  unfold wpY_refusal
  dsimp only
  refine gy_bad0 h6 hp (br_t rfl ?_)
  refine ay_live hO hs hd (fun hj l' hF => ?_) (fun hj l' => br_t rfl (h2 hj l'))
  refine br_f (by decide) ?_
  rw [k1, k2]
  refine ⟨vp_in_nI (by omega) (by omega), vp_in_nI (by omega) (by omega), ?_⟩
  have he := ly_eq hO hF hp hs
  by_cases e : l' p = l' sn
  · exact br_t e (h0 hj (lj_s hw (he.mp e)) l')
  · exact br_f e (h3 hj (fun h => e (he.mpr (lj_s hw h))) l')
theorem vy_ref0 {n sn dn : Nat} {x z : Int32} {a l t m : Nat → Int32} {post : Int64 → SY → Prop} (hx : x < 0 ∨ nI n ≤ x) (h1 : post (-1) (nI n, nI sn, nI dn, z, a, l, t, m)) : wpY_refusal post (nI n, nI sn, nI dn, z, a, l, t, m) x := by
  unfold wpY_refusal
  dsimp only
  exact gy_bad1 hx (br_f (by decide) h1)
theorem vx_two (x : Int) : 2 * Int64.ofInt x = Int64.ofInt (2 * x) := by
  rw [Int64.ofInt_mul]; rfl
theorem vx_62 {x : Int} (h : x.natAbs ≤ 98415000) : x.natAbs < 2 ^ 62 := by omega
theorem vx_60 {x : Int} (h : x.natAbs ≤ 98415000) : x.natAbs < 2 ^ 60 := by omega
theorem vx_t2 {x : Int} (h : x.natAbs ≤ 22143375000) : x.natAbs < 2 ^ 62 := by omega
theorem vx_f {x : Int} (h : x.natAbs < 2 ^ 60) : (2 * x).natAbs < 2 ^ 62 := by omega
theorem vx_f2 {x : Int} (h : x.natAbs < 2 ^ 60) : x.natAbs < 2 ^ 62 := by omega
theorem vx_b {x : Int} (h : x.natAbs ≤ 98415000) : (2 * x).natAbs < 2 ^ 62 := by omega
theorem i_vc_voltageTop {k : Nat} {u : SX} {v : SY} (I : i_Rel k u v) (hk : k + 4 ≤ 2049) (v1 : Int32) : wpX_voltageTop (fun r u' => wpY_voltageTop (fun r' v' => r' = r ∧ i_Rel (k + 4) u' v') v v1) u v1 := by
  have J : i_Rel (k + 4) u v := I
  obtain ⟨n, sn, dn, a, M, z, l, t, m, rfl, rfl, hO, hs, hd, hsd⟩ := I
  have h6 := hO.2.1
  have hw := cw_W hO
  unfold wpX_voltageTop wpY_voltageTop
  dsimp only
  rcases rl_pt v1 h6 with hb | ⟨p, hp, rfl⟩
  · exact vx_ref0 hb (br_f (by decide) (vy_ref0 hb (br_f (by decide) ⟨rfl, J⟩)))
  refine vx_ref hO hs hd hp (fun hj => ?_) (fun hj hjp => ?_) (fun hj hjp => ?_)
  · exact br_f (by decide) (vy_ref hO hs hd hp (fun _ l' => br_f (by decide) ⟨rfl, rl_mk hO hs hd hsd⟩) (fun h => absurd h hj) (fun h => absurd h hj))
  · exact br_f (by decide) (vy_ref hO hs hd hp (fun h => absurd hj h) (fun _ _ l' => br_f (by decide) ⟨rfl, rl_mk hO hs hd hsd⟩) (fun _ h => absurd h hjp))
  · have hMb := an_Mb hw hs hd
    have hMn := an_Mn hw hs hd
    have hsb := an_shb hw hs hd hsd (p := p)
    refine br_t rfl (kx_dvs hO hs hd hp hsd hj hjp (fun M1 => ?_))
    refine kx_split hO hs hd (fun M2 => ?_)
    refine nm_r (vx_two _) (kx_lowered (vx_b hsb) (vx_b hMb) ?_)
    rw [eu_2]
    refine vy_ref hO hs hd hp (fun h => absurd hj h) (fun _ h => absurd hjp h) (fun _ _ l' => ?_)
    refine br_t (by decide) (ay_share hO hs hd hp hsd (fun z1 l1 t1 m1 => ?_))
    refine ay_whole hO hs hd hsd (fun z2 l2 t2 m2 => ?_)
    exact ky_top (vx_62 hsb) hMn (vx_60 hMb) ⟨rfl, rl_mk hO hs hd hsd⟩
theorem i_vc_voltageBottom {k : Nat} {u : SX} {v : SY} (I : i_Rel k u v) (hk : k + 4 ≤ 2049) (v1 : Int32) : wpX_voltageBottom (fun r u' => wpY_voltageBottom (fun r' v' => r' = r ∧ i_Rel (k + 4) u' v') v v1) u v1 := by
  have J : i_Rel (k + 4) u v := I
  obtain ⟨n, sn, dn, a, M, z, l, t, m, rfl, rfl, hO, hs, hd, hsd⟩ := I
  have h6 := hO.2.1
  have hw := cw_W hO
  unfold wpX_voltageBottom wpY_voltageBottom
  dsimp only
  rcases rl_pt v1 h6 with hb | ⟨p, hp, rfl⟩
  · exact vx_ref0 hb (br_f (by decide) (vy_ref0 hb (br_f (by decide) ⟨rfl, J⟩)))
  refine vx_ref hO hs hd hp (fun hj => ?_) (fun hj hjp => ?_) (fun hj hjp => ?_)
  · exact br_f (by decide) (vy_ref hO hs hd hp (fun _ l' => br_f (by decide) ⟨rfl, rl_mk hO hs hd hsd⟩) (fun h => absurd h hj) (fun h => absurd h hj))
  · exact br_f (by decide) (vy_ref hO hs hd hp (fun h => absurd hj h) (fun _ _ l' => br_f (by decide) ⟨rfl, rl_mk hO hs hd hsd⟩) (fun _ h => absurd h hjp))
  · have hMb := an_Mb hw hs hd
    have hMn := an_Mn hw hs hd
    have hsb := an_shb hw hs hd hsd (p := p)
    refine br_t rfl (kx_dvs hO hs hd hp hsd hj hjp (fun M1 => ?_))
    refine kx_split hO hs hd (fun M2 => ?_)
    refine nm_r (vx_two _) (kx_lowered (vx_b hMb) (vx_b hsb) ?_)
    rw [eu_2]
    refine vy_ref hO hs hd hp (fun h => absurd hj h) (fun _ h => absurd hjp h) (fun _ _ l' => ?_)
    refine br_t (by decide) (ay_share hO hs hd hp hsd (fun z1 l1 t1 m1 => ?_))
    refine ay_whole hO hs hd hsd (fun z2 l2 t2 m2 => ?_)
    exact ky_bottom (vx_62 hsb) hMn (vx_60 hMb) ⟨rfl, rl_mk hO hs hd hsd⟩
theorem i_vc_currentTop {k : Nat} {u : SX} {v : SY} (I : i_Rel k u v) (hk : k + 4 ≤ 2049) : wpX_currentTop (fun r u' => wpY_currentTop (fun r' v' => r' = r ∧ i_Rel (k + 4) u' v') v) u := by
  obtain ⟨n, sn, dn, a, M, z, l, t, m, rfl, rfl, hO, hs, hd, hsd⟩ := I
  have hw := cw_W hO
  unfold wpX_currentTop wpY_currentTop
  dsimp only
  refine gx_areJoined hO hs hd (fun hj => ?_) (fun hj => ?_)
  · have hMb := an_Mb hw hs hd
    have hMn := an_Mn hw hs hd
    have hTb := an_Tb hw sn
    refine br_f (by decide) (kx_groupTree hO hs (fun M1 => kx_split hO hs hd (fun M2 => kx_lowered (vx_t2 hTb) (vx_62 hMb) ?_)))
    refine ay_live hO hs hd (fun _ l' _ => br_f (by decide) ?_) (fun h => absurd hj h)
    refine ay_local hO hs hd hj (fun z1 l1 t1 m1 => ay_whole hO hs hd hsd (fun z2 l2 t2 m2 => ?_))
    exact ky_top (vx_t2 hTb) hMn (vx_60 hMb) ⟨rfl, rl_mk hO hs hd hsd⟩
  · exact br_t rfl (ay_live hO hs hd (fun h => absurd h hj) (fun _ l' => br_t rfl ⟨rfl, rl_mk hO hs hd hsd⟩))
theorem i_vc_currentBottom {k : Nat} {u : SX} {v : SY} (I : i_Rel k u v) (hk : k + 4 ≤ 2049) : wpX_currentBottom (fun r u' => wpY_currentBottom (fun r' v' => r' = r ∧ i_Rel (k + 4) u' v') v) u := by
  obtain ⟨n, sn, dn, a, M, z, l, t, m, rfl, rfl, hO, hs, hd, hsd⟩ := I
  have hw := cw_W hO
  unfold wpX_currentBottom wpY_currentBottom
  dsimp only
  refine gx_areJoined hO hs hd (fun hj => ?_) (fun hj => ?_)
  · have hMb := an_Mb hw hs hd
    have hMn := an_Mn hw hs hd
    have hTb := an_Tb hw sn
    refine br_f (by decide) (kx_groupTree hO hs (fun M1 => kx_split hO hs hd (fun M2 => kx_lowered (vx_62 hMb) (vx_t2 hTb) ?_)))
    refine ay_live hO hs hd (fun _ l' _ => br_f (by decide) ?_) (fun h => absurd hj h)
    refine ay_local hO hs hd hj (fun z1 l1 t1 m1 => ay_whole hO hs hd hsd (fun z2 l2 t2 m2 => ?_))
    exact ky_bottom (vx_t2 hTb) hMn (vx_60 hMb) ⟨rfl, rl_mk hO hs hd hsd⟩
  · exact br_t rfl (ay_live hO hs hd (fun h => absurd h hj) (fun _ l' => br_t rfl ⟨rfl, rl_mk hO hs hd hsd⟩))
/-! resistance -/
theorem wx_ref {n p q : Nat} {s d : Int32} {a : Nat → Int32} {M : Nat → Int64} {post : Int32 → Prop} (hO : cw_O n a) (hp : p < n) (hq : q < n)
    (h2 : ¬ lj_J (cw_w a) p q → post (-2)) (h0 : lj_J (cw_w a) p q → post 0) : wpX_resistanceRefusal post (nI n, s, d, a, M) (nI p) (nI q) := by
  have h6 := hO.2.1
  unfold wpX_resistanceRefusal
  dsimp only
  refine gx_good1 h6 hp (br_f (by decide) (gx_good1 h6 hq (br_f (by decide) ?_)))
  exact gx_areJoined hO hp hq (fun hj => br_f (by decide) (h0 hj)) (fun hj => br_t rfl (h2 hj))
theorem wy_res {n p q : Nat} {s d z up : Int32} {a l t m : Nat → Int32} {post : Int64 → SY → Prop} (hO : cw_O n a) (hp : p < n) (hq : q < n)
    (h2 : ¬ lj_J (cw_w a) p q → ∀ z l t m, post (-2) (nI n, s, d, z, a, l, t, m))
    (h0 : lj_J (cw_w a) p q → up = 0 → ∀ z l t m, post (Int64.ofInt (eu_q (an_T (cw_w a) n p) (an_M (cw_w a) n p q))) (nI n, s, d, z, a, l, t, m))
    (h1 : lj_J (cw_w a) p q → ¬ up = 0 → ∀ z l t m, post (Int64.ofInt (eu_q (an_M (cw_w a) n p q) (an_T (cw_w a) n p))) (nI n, s, d, z, a, l, t, m)) : wpY_resistance post (nI n, s, d, z, a, l, t, m) (nI p) (nI q) up := by
  have h6 := hO.2.1
  have hw := cw_W hO
  have k1 : (nI p).toNatClampNeg = p := nI_clamp (by omega)
  have k2 : (nI q).toNatClampNeg = q := nI_clamp (by omega)
  unfold wpY_resistance
  dsimp only
  refine gy_bad0 h6 hp (br_t rfl (gy_bad0 h6 hq (br_t rfl (ly_group hO (fun l' hF => ?_)))))
  dsimp only
  rw [k1, k2]
  refine ⟨vp_in_nI (by omega) (by omega), vp_in_nI (by omega) (by omega), ?_⟩
  have he := ly_eq hO hF hp hq
  by_cases e : l' p = l' q
  · have hj := he.mp e
    have hTb := an_Tb hw p
    have hTp := an_tpos hw hp
    refine br_t e ?_
    by_cases epq : p = q
    · have hM0 : an_M (cw_w a) n p q = 0 := by simp [an_M, epq]
      refine br_t (by rw [epq]) ?_
      by_cases eu : up = 0
      · refine br_t eu ?_
        have := h0 hj eu z l' t m
        rw [hM0] at this
        have e1 : eu_q (an_T (cw_w a) n p) 0 = 1 := by
          unfold eu_q
          have e2 : ((Nat.gcd (an_T (cw_w a) n p).natAbs (0 : Int).natAbs : Nat) : Int) = an_T (cw_w a) n p := by
            rw [show (0 : Int).natAbs = 0 from rfl, Nat.gcd_zero_right]
            omega
          rw [e2]
          exact Int.tdiv_self (by omega)
        rw [e1] at this
        exact this
      · refine br_f eu ?_
        have := h1 hj eu z l' t m
        rw [hM0] at this
        have e1 : eu_q 0 (an_T (cw_w a) n p) = 0 := by unfold eu_q; exact Int.zero_tdiv _
        rw [e1] at this
        exact this
    · have hMb := an_Mb hw hp hq
      have hM : nd_D (la_m (cw_w a)) (lc_L n (lc_xx (lj_b (cw_w a) p) p q)) = an_M (cw_w a) n p q := by simp only [an_M, epq, if_false]
      have hT : nd_D (la_m (cw_w a)) (lc_L n (lc_xx (lj_b (cw_w a) p) q q)) = an_T (cw_w a) n p := by rw [an_xx]; exact an_t hw hp hj
      refine br_f (rl_ne h6 hp hq epq) ?_
      refine ty_take hO hp hq hq (fun l1 t1 hA1 => ?_)
      refine dy_det (ey_m hO) (ay_l5 hO hq) (lc_6 h6) hA1 (fun m1 => ?_)
      refine ty_take hO hp hp hq (fun l2 t2 hA2 => ?_)
      refine dy_det (ey_m hO) (ay_l4 hO hp hq epq) (lc_6 h6) hA2 (fun m2 => ?_)
      rw [hM, hT]
      by_cases eu : up = 0
      · exact br_t eu (ky_bottom (by omega) (by omega) (by omega) (h0 hj eu _ _ _ _))
      · exact br_f eu (ky_top (by omega) (by omega) (by omega) (h1 hj eu _ _ _ _))
  · exact br_f e (h2 (fun h => e (he.mpr h)) z l' t m)
theorem i_vc_resistanceTop {k : Nat} {u : SX} {v : SY} (I : i_Rel k u v) (hk : k + 4 ≤ 2049) (v1 : Int32) (v2 : Int32) : wpX_resistanceTop (fun r u' => wpY_resistanceTop (fun r' v' => r' = r ∧ i_Rel (k + 4) u' v') v v1 v2) u v1 v2 := by
  have J : i_Rel (k + 4) u v := I
  obtain ⟨n, sn, dn, a, M, z, l, t, m, rfl, rfl, hO, hs, hd, hsd⟩ := I
  have h6 := hO.2.1
  have hw := cw_W hO
  unfold wpX_resistanceTop wpY_resistanceTop
  dsimp only
  rcases rl_pt v1 h6 with hb | ⟨p, hp, rfl⟩
  · unfold wpX_resistanceRefusal wpY_resistance
    dsimp only
    exact gx_good0 hb (br_t rfl (br_f (by decide) (gy_bad1 hb (br_f (by decide) ⟨rfl, J⟩))))
  rcases rl_pt v2 h6 with hb | ⟨q, hq, rfl⟩
  · unfold wpX_resistanceRefusal wpY_resistance
    dsimp only
    exact gx_good1 h6 hp (br_f (by decide) (gx_good0 hb (br_t rfl (br_f (by decide) (gy_bad0 h6 hp (br_t rfl (gy_bad1 hb (br_f (by decide) ⟨rfl, J⟩))))))))
  refine wx_ref hO hp hq (fun hj => ?_) (fun hj => ?_)
  · exact br_f (by decide) (wy_res hO hp hq (fun _ _ _ _ _ => ⟨rfl, rl_mk hO hs hd hsd⟩) (fun h => absurd h hj) (fun h => absurd h hj))
  · have hMb := an_Mb hw hp hq
    have hTb := an_Tb hw p
    refine br_t rfl (kx_split hO hp hq (fun M1 => kx_groupTree hO hp (fun M2 => kx_lowered (vx_62 hMb) (vx_t2 hTb) ?_)))
    exact wy_res hO hp hq (fun h => absurd hj h) (fun _ h => absurd h (by decide)) (fun _ _ _ _ _ _ => ⟨rfl, rl_mk hO hs hd hsd⟩)
theorem i_vc_resistanceBottom {k : Nat} {u : SX} {v : SY} (I : i_Rel k u v) (hk : k + 4 ≤ 2049) (v1 : Int32) (v2 : Int32) : wpX_resistanceBottom (fun r u' => wpY_resistanceBottom (fun r' v' => r' = r ∧ i_Rel (k + 4) u' v') v v1 v2) u v1 v2 := by
  have J : i_Rel (k + 4) u v := I
  obtain ⟨n, sn, dn, a, M, z, l, t, m, rfl, rfl, hO, hs, hd, hsd⟩ := I
  have h6 := hO.2.1
  have hw := cw_W hO
  unfold wpX_resistanceBottom wpY_resistanceBottom
  dsimp only
  rcases rl_pt v1 h6 with hb | ⟨p, hp, rfl⟩
  · unfold wpX_resistanceRefusal wpY_resistance
    dsimp only
    exact gx_good0 hb (br_t rfl (br_f (by decide) (gy_bad1 hb (br_f (by decide) ⟨rfl, J⟩))))
  rcases rl_pt v2 h6 with hb | ⟨q, hq, rfl⟩
  · unfold wpX_resistanceRefusal wpY_resistance
    dsimp only
    exact gx_good1 h6 hp (br_f (by decide) (gx_good0 hb (br_t rfl (br_f (by decide) (gy_bad0 h6 hp (br_t rfl (gy_bad1 hb (br_f (by decide) ⟨rfl, J⟩))))))))
  refine wx_ref hO hp hq (fun hj => ?_) (fun hj => ?_)
  · exact br_f (by decide) (wy_res hO hp hq (fun _ _ _ _ _ => ⟨rfl, rl_mk hO hs hd hsd⟩) (fun h => absurd h hj) (fun h => absurd h hj))
  · have hMb := an_Mb hw hp hq
    have hTb := an_Tb hw p
    refine br_t rfl (kx_split hO hp hq (fun M1 => kx_groupTree hO hp (fun M2 => kx_lowered (vx_t2 hTb) (vx_62 hMb) ?_)))
    exact wy_res hO hp hq (fun h => absurd hj h) (fun _ _ _ _ _ _ => ⟨rfl, rl_mk hO hs hd hsd⟩) (fun _ h => absurd rfl h)
/-! flow -/
theorem zx_flow {n sn dn p q : Nat} {a : Nat → Int32} {M : Nat → Int64} {post : Int32 → Prop} (hO : cw_O n a) (hs : sn < n) (hd : dn < n) (hp : p < n) (hq : q < n)
    (h0 : ¬ (lj_J (cw_w a) sn dn ∧ lj_J (cw_w a) sn p ∧ lj_J (cw_w a) sn q) → post 0) (h1 : lj_J (cw_w a) sn dn → lj_J (cw_w a) sn p → lj_J (cw_w a) sn q → post 1) : wpX_hasFlow post (nI n, nI sn, nI dn, a, M) (nI p) (nI q) := by
  unfold wpX_hasFlow
  dsimp only
  refine vx_ref hO hs hd hp (fun hj => br_f (by decide) (h0 (fun h => hj h.1))) (fun _ hj => br_f (by decide) (h0 (fun h => hj h.2.1))) (fun hj hjp => br_t rfl ?_)
  exact vx_ref hO hs hd hq (fun h => absurd hj h) (fun _ hjq => br_f (by decide) (h0 (fun h => hjq h.2.2))) (fun _ hjq => br_t rfl (h1 hj hjp hjq))
theorem zx_dfs {n p q sn dn : Nat} {a : Nat → Int32} {M : Nat → Int64} {post : Int64 → SX → Prop} (hO : cw_O n a) (hs : sn < n) (hd : dn < n) (hp : p < n) (hq : q < n) (hsd : ¬ sn = dn) (hj : lj_J (cw_w a) sn dn) (hjp : lj_J (cw_w a) sn p) (hjq : lj_J (cw_w a) sn q)
    (hJ : ∀ M, post (Int64.ofInt (2 * (cw_w a p q * (an_sh (cw_w a) n sn dn p - an_sh (cw_w a) n sn dn q)))) (nI n, nI sn, nI dn, a, M)) : wpX_doubleFlowShare post (nI n, nI sn, nI dn, a, M) (nI p) (nI q) := by
  have h6 := hO.2.1
  have k1 : (nI (6 * p + q)).toNatClampNeg = 6 * p + q := nI_clamp (by omega)
  unfold wpX_doubleFlowShare
  dsimp only
  refine kx_dvs hO hs hd hp hsd hj hjp (fun M1 => kx_dvs hO hs hd hq hsd hj hjq (fun M2 => ?_))
  refine nm_r (Int64.ofInt_sub _ _).symm ?_
  rw [gx_c p q, k1, cw_l hO (by omega) (by omega), ← Int64.ofInt_mul]
  have e : cw_w a p q * (2 * an_sh (cw_w a) n sn dn p - 2 * an_sh (cw_w a) n sn dn q) = 2 * (cw_w a p q * (an_sh (cw_w a) n sn dn p - an_sh (cw_w a) n sn dn q)) := by grind
  rw [e]
  exact ⟨vp_in_nI (by omega) (by omega), hJ M2⟩
theorem zx_fb {w x y : Int} (hw : 0 ≤ w ∧ w ≤ 9) (hx : x.natAbs ≤ 98415000) (hy : y.natAbs ≤ 98415000) : (w * (x - y)).natAbs < 2 ^ 60 := by
  have h1 : w.natAbs ≤ 9 := by omega
  have h2 : (x - y).natAbs ≤ 196830000 := by omega
  have := nd_bm h1 h2
  omega
theorem zy_flow {n p q sn dn : Nat} {up : Int32} {nn : Int64} {z : Int32} {a l t m : Nat → Int32} {post : Int64 → SY → Prop} (hO : cw_O n a) (hs : sn < n) (hd : dn < n) (hp : p < n) (hq : q < n) (hsd : ¬ sn = dn)
    (hn : ¬ (lj_J (cw_w a) sn dn ∧ lj_J (cw_w a) sn p ∧ lj_J (cw_w a) sn q) → ∀ z l t m, post nn (nI n, nI sn, nI dn, z, a, l, t, m))
    (h0 : lj_J (cw_w a) sn dn → lj_J (cw_w a) sn p → lj_J (cw_w a) sn q → up = 0 → ∀ z l t m, post (Int64.ofInt (eu_q (an_M (cw_w a) n sn dn) (cw_w a p q * (an_sh (cw_w a) n sn dn p - an_sh (cw_w a) n sn dn q)))) (nI n, nI sn, nI dn, z, a, l, t, m))
    (h1 : lj_J (cw_w a) sn dn → lj_J (cw_w a) sn p → lj_J (cw_w a) sn q → ¬ up = 0 → ∀ z l t m, post (Int64.ofInt (eu_q (cw_w a p q * (an_sh (cw_w a) n sn dn p - an_sh (cw_w a) n sn dn q)) (an_M (cw_w a) n sn dn))) (nI n, nI sn, nI dn, z, a, l, t, m)) :
    wY_flow_9 post (nI p) (nI q) up nn (nI n) (nI sn) (nI dn) z a l t m := by
  have h6 := hO.2.1
  have hw := cw_W hO
  have k1 : (nI p).toNatClampNeg = p := nI_clamp (by omega)
  have k2 : (nI q).toNatClampNeg = q := nI_clamp (by omega)
  have k3 : (nI sn).toNatClampNeg = sn := nI_clamp (by omega)
  have k4 : (nI (6 * p + q)).toNatClampNeg = 6 * p + q := nI_clamp (by omega)
  unfold wY_flow_9
  refine gy_bad0 h6 hp (br_t rfl (gy_bad0 h6 hq (br_t rfl ?_)))
  refine ay_live hO hs hd (fun hj l' hF => ?_) (fun hj l' => br_t rfl (hn (fun h => hj h.1) z l' t m))
  refine br_f (by decide) ?_
  rw [k1, k2, k3]
  refine ⟨vp_in_nI (by omega) (by omega), vp_in_nI (by omega) (by omega), ?_⟩
  have he1 := ly_eq hO hF hp hs
  have he2 := ly_eq hO hF hq hs
  by_cases e1 : l' p = l' sn
  · have hjp := lj_s hw (he1.mp e1)
    refine br_t e1 ⟨vp_in_nI (by omega) (by omega), vp_in_nI (by omega) (by omega), ?_⟩
    by_cases e2 : l' q = l' sn
    · have hjq := lj_s hw (he2.mp e2)
      have hMb := an_Mb hw hs hd
      have hMn := an_Mn hw hs hd
      have hfb := zx_fb (hw.2.2.2.1 p q) (an_shb hw hs hd hsd (p := p)) (an_shb hw hs hd hsd (p := q))
      refine br_t e2 (ay_share hO hs hd hp hsd (fun z1 l1 t1 m1 => ay_share hO hs hd hq hsd (fun z2 l2 t2 m2 => ay_whole hO hs hd hsd (fun z3 l3 t3 m3 => ?_))))
      dsimp only
      rw [gy_c p q, k4, cw_l hO (by omega) (by omega), ← Int64.ofInt_sub, ← Int64.ofInt_mul]
      refine ⟨vp_in_nI (by omega) (by omega), nm_e ?_⟩
      by_cases eu : up = 0
      · exact br_t eu (ky_bottom (vx_f2 hfb) hMn (vx_60 hMb) (h0 hj hjp hjq eu _ _ _ _))
      · exact br_f eu (ky_top (vx_f2 hfb) hMn (vx_60 hMb) (h1 hj hjp hjq eu _ _ _ _))
    · exact br_f e2 (hn (fun h => e2 (he2.mpr (lj_s hw h.2.2))) z l' t m)
  · exact br_f e1 (hn (fun h => e1 (he1.mpr (lj_s hw h.2.1))) z l' t m)
theorem i_vc_flowTop {k : Nat} {u : SX} {v : SY} (I : i_Rel k u v) (hk : k + 4 ≤ 2049) (v1 : Int32) (v2 : Int32) : wpX_flowTop (fun r u' => wpY_flowTop (fun r' v' => r' = r ∧ i_Rel (k + 4) u' v') v v1 v2) u v1 v2 := by
  have J : i_Rel (k + 4) u v := I
  obtain ⟨n, sn, dn, a, M, z, l, t, m, rfl, rfl, hO, hs, hd, hsd⟩ := I
  have h6 := hO.2.1
  have hw := cw_W hO
  unfold wpX_flowTop wpY_flowTop
  dsimp only
  unfold wpY_flow
  dsimp only
  rcases rl_pt v1 h6 with hb | ⟨p, hp, rfl⟩
  · unfold wpX_hasFlow wY_flow_9
    dsimp only
    exact vx_ref0 hb (br_f (by decide) (br_t rfl (br_f (by decide) (gy_bad1 hb (br_f (by decide) ⟨rfl, J⟩)))))
  rcases rl_pt v2 h6 with hb | ⟨q, hq, rfl⟩
  · unfold wpX_hasFlow wY_flow_9
    dsimp only
    refine vx_ref hO hs hd hp (fun _ => br_f (by decide) ?_) (fun _ _ => br_f (by decide) ?_) (fun _ _ => br_t rfl (vx_ref0 hb (br_f (by decide) ?_)))
    · exact br_t rfl (br_f (by decide) (gy_bad0 h6 hp (br_t rfl (gy_bad1 hb (br_f (by decide) ⟨rfl, J⟩)))))
    · exact br_t rfl (br_f (by decide) (gy_bad0 h6 hp (br_t rfl (gy_bad1 hb (br_f (by decide) ⟨rfl, J⟩)))))
    · exact br_t rfl (br_f (by decide) (gy_bad0 h6 hp (br_t rfl (gy_bad1 hb (br_f (by decide) ⟨rfl, J⟩)))))
  refine zx_flow hO hs hd hp hq (fun hj => ?_) (fun hj hjp hjq => ?_)
  · exact br_t rfl (br_f (by decide) (zy_flow hO hs hd hp hq hsd (fun _ _ _ _ _ => ⟨rfl, rl_mk hO hs hd hsd⟩) (fun h1 h2 h3 => absurd ⟨h1, h2, h3⟩ hj) (fun h1 h2 h3 => absurd ⟨h1, h2, h3⟩ hj)))
  · have hMb := an_Mb hw hs hd
    have hfb := zx_fb (hw.2.2.2.1 p q) (an_shb hw hs hd hsd (p := p)) (an_shb hw hs hd hsd (p := q))
    refine br_f (by decide) (zx_dfs hO hs hd hp hq hsd hj hjp hjq (fun M1 => kx_split hO hs hd (fun M2 => nm_r (vx_two _) (kx_lowered (vx_f hfb) (vx_b hMb) ?_))))
    rw [eu_2]
    exact br_f (by decide) (zy_flow hO hs hd hp hq hsd (fun h => absurd ⟨hj, hjp, hjq⟩ h) (fun _ _ _ h => absurd h (by decide)) (fun _ _ _ _ _ _ _ _ => ⟨rfl, rl_mk hO hs hd hsd⟩))
theorem i_vc_flowBottom {k : Nat} {u : SX} {v : SY} (I : i_Rel k u v) (hk : k + 4 ≤ 2049) (v1 : Int32) (v2 : Int32) : wpX_flowBottom (fun r u' => wpY_flowBottom (fun r' v' => r' = r ∧ i_Rel (k + 4) u' v') v v1 v2) u v1 v2 := by
  have J : i_Rel (k + 4) u v := I
  obtain ⟨n, sn, dn, a, M, z, l, t, m, rfl, rfl, hO, hs, hd, hsd⟩ := I
  have h6 := hO.2.1
  have hw := cw_W hO
  unfold wpX_flowBottom wpY_flowBottom
  dsimp only
  unfold wpY_flow
  dsimp only
  rcases rl_pt v1 h6 with hb | ⟨p, hp, rfl⟩
  · unfold wpX_hasFlow wY_flow_9
    dsimp only
    exact vx_ref0 hb (br_f (by decide) (br_t rfl (br_t rfl (gy_bad1 hb (br_f (by decide) ⟨rfl, J⟩)))))
  rcases rl_pt v2 h6 with hb | ⟨q, hq, rfl⟩
  · unfold wpX_hasFlow wY_flow_9
    dsimp only
    refine vx_ref hO hs hd hp (fun _ => br_f (by decide) ?_) (fun _ _ => br_f (by decide) ?_) (fun _ _ => br_t rfl (vx_ref0 hb (br_f (by decide) ?_)))
    · exact br_t rfl (br_t rfl (gy_bad0 h6 hp (br_t rfl (gy_bad1 hb (br_f (by decide) ⟨rfl, J⟩)))))
    · exact br_t rfl (br_t rfl (gy_bad0 h6 hp (br_t rfl (gy_bad1 hb (br_f (by decide) ⟨rfl, J⟩)))))
    · exact br_t rfl (br_t rfl (gy_bad0 h6 hp (br_t rfl (gy_bad1 hb (br_f (by decide) ⟨rfl, J⟩)))))
  refine zx_flow hO hs hd hp hq (fun hj => ?_) (fun hj hjp hjq => ?_)
  · exact br_t rfl (br_t rfl (zy_flow hO hs hd hp hq hsd (fun _ _ _ _ _ => ⟨rfl, rl_mk hO hs hd hsd⟩) (fun h1 h2 h3 => absurd ⟨h1, h2, h3⟩ hj) (fun h1 h2 h3 => absurd ⟨h1, h2, h3⟩ hj)))
  · have hMb := an_Mb hw hs hd
    have hfb := zx_fb (hw.2.2.2.1 p q) (an_shb hw hs hd hsd (p := p)) (an_shb hw hs hd hsd (p := q))
    refine br_f (by decide) (zx_dfs hO hs hd hp hq hsd hj hjp hjq (fun M1 => kx_split hO hs hd (fun M2 => nm_r (vx_two _) (kx_lowered (vx_b hMb) (vx_f hfb) ?_))))
    rw [eu_2]
    exact br_t rfl (zy_flow hO hs hd hp hq hsd (fun h => absurd ⟨hj, hjp, hjq⟩ h) (fun _ _ _ _ _ _ _ _ => ⟨rfl, rl_mk hO hs hd hsd⟩) (fun _ _ _ h => absurd rfl h))
end
section
theorem i_vc_treesWith {k : Nat} {u : SX} {v : SY} (I : i_Rel k u v) (hk : k + 4 ≤ 2049) (v1 : Int32) (v2 : Int32) : wpX_treesWith (fun r u' => wpY_treesWith (fun r' v' => r' = r ∧ i_Rel (k + 4) u' v') v v1 v2) u v1 v2 := by
  have J : i_Rel (k + 4) u v := I
  obtain ⟨n, sn, dn, a, M, z, l, t, m, rfl, rfl, hO, hs, hd, hsd⟩ := I
  have h6 := hO.2.1
  have hw := cw_W hO
  unfold wpX_treesWith wpY_treesWith
  dsimp only
  rcases rl_pt v1 h6 with hb | ⟨p, hp, rfl⟩
  · exact gx_good0 hb (br_t rfl (gy_bad1 hb (br_f (by decide) ⟨rfl, J⟩)))
  refine gx_good1 h6 hp (br_f (by decide) ?_)
  rcases rl_pt v2 h6 with hb | ⟨q, hq, rfl⟩
  · exact gx_good0 hb (br_t rfl (gy_bad0 h6 hp (br_t rfl (gy_bad1 hb (br_f (by decide) ⟨rfl, J⟩)))))
  refine gx_good1 h6 hq (br_f (by decide) ?_)
  by_cases e : p = q
  · subst e
    exact br_t rfl (gy_bad0 h6 hp (br_t rfl (gy_bad0 h6 hp (br_t rfl (br_t rfl ⟨rfl, J⟩)))))
  have e' := rl_ne h6 hp hq e
  have k1 : (nI (6 * p + q)).toNatClampNeg = 6 * p + q := nI_clamp (by omega)
  have hO' : cw_O n (cw_put a p q 0) := cw_putO (v := 0) hO hp hq e (by omega)
  have hW := an_W hw hp hq e
  have hY : ∀ (r : Int64) (M' : Nat → Int64), Int64.ofInt (an_A (cw_w a) n - an_A (lb_out (cw_w a) p q) n) = r → wpY_bad (fun r_1 => (((r_1 = 0 → (wpY_bad (fun r_11 => (((r_11 = 0 → (((nI p = nI q → (((-2 : Int64) = r ∧ i_Rel (k + 4) (nI n, nI sn, nI dn, a, M') (nI n, nI sn, nI dn, z, a, l, t, m)))) ∧ (¬ nI p = nI q → (wpY_allTrees (fun r_22 u => (vp_in ((6 * nI p) + nI q) 36 ∧ (∀ x5 : Int32, x5 = u.2.2.2.2.1 ((6 * nI p) + nI q).toNatClampNeg → (wpY_put (fun u => (wpY_allTrees (fun r_42 u => (wpY_put (fun u => ((r_22 - r_42) = r ∧ i_Rel (k + 4) (nI n, nI sn, nI dn, a, M') u)) u (nI p) (nI q) x5)) u)) u (nI p) (nI q) 0)))) (nI n, nI sn, nI dn, z, a, l, t, m)))))) ∧ (¬ r_11 = 0 → ((-1 : Int64) = r ∧ i_Rel (k + 4) (nI n, nI sn, nI dn, a, M') (nI n, nI sn, nI dn, z, a, l, t, m)))))) (nI n, nI sn, nI dn, z, a, l, t, m) (nI q))) ∧ (¬ r_1 = 0 → ((-1 : Int64) = r ∧ i_Rel (k + 4) (nI n, nI sn, nI dn, a, M') (nI n, nI sn, nI dn, z, a, l, t, m)))))) (nI n, nI sn, nI dn, z, a, l, t, m) (nI p) := by
    intro r M' hr
    refine gy_bad0 h6 hp (br_t rfl (gy_bad0 h6 hq (br_t rfl (br_f e' ?_))))
    refine ay_allTrees hO (fun z1 l1 t1 m1 => ?_)
    dsimp only
    rw [gy_c p q, k1]
    refine ⟨vp_in_nI (by omega) (by omega), nm_e (rl_setY h6 hp hq ?_)⟩
    refine ay_allTrees hO' (fun z2 l2 t2 m2 => ?_)
    refine rl_setY h6 hp hq ?_
    rw [cw_back hO hp hq, cw_putw hO hp hq, ← Int64.ofInt_sub]
    exact ⟨hr, rl_mk hO hs hd hsd⟩
  refine br_f e' (gx_group hO hp (fun G hG hGq => ?_))
  unfold wpX_everyPoint
  dsimp only
  rw [mb_1 n (by omega), mb_m n (by omega)]
  have hfull : ∀ y, y < 6 → ((2 ^ n - 1).testBit y = true ↔ y < n) := fun y hy => by
    rw [mb_fullt n (by omega) y hy, decide_eq_true_eq]
  have h64 : 2 ^ n - 1 < 64 := by
    have h : ∀ n, n < 7 → 2 ^ n - 1 < 64 := by decide
    exact h n (by omega)
  have hall : G = 2 ^ n - 1 ↔ ∀ y, y < n → lj_J (cw_w a) p y := by
    constructor
    · intro hG' y hy
      rw [← hGq y, hG']
      exact (hfull y (by omega)).mpr hy
    · intro h
      refine mb_ext hG h64 (fun y hy => ?_)
      rw [hGq y, hfull y hy]
      exact ⟨fun hj => lj_n hw hp hj, fun hy' => h y hy'⟩
  by_cases ha : ∀ y, y < n → lj_J (cw_w a) p y
  · refine br_t (by rw [hall.mpr ha]) ?_
    rw [gx_c p q, k1]
    refine ⟨vp_in_nI (by omega) (by omega), kx_split hO hp hq (fun M1 => ?_)⟩
    refine hY _ M1 ?_
    rw [hW.1 ha, cw_l hO (by omega) (by omega), Int64.ofInt_mul]
  · refine br_f (fun h => ha (hall.mp ((mb_full n (by omega) G hG).mp h))) ?_
    refine hY _ M ?_
    rw [hW.2 ha]
    rfl
/-! bridges -/
def bs_s (f : Nat → Nat) : Nat → Nat
  | 0 => 0
  | n + 1 => bs_s f n + f n
theorem bs_add (f g : Nat → Nat) : ∀ n, bs_s (fun x => f x + g x) n = bs_s f n + bs_s g n
  | 0 => rfl
  | n + 1 => by simp only [bs_s, bs_add f g n]; omega
theorem bs_0 : ∀ n, bs_s (fun _ => 0) n = 0
  | 0 => rfl
  | n + 1 => by simp only [bs_s, bs_0 n]
theorem bs_c {f g : Nat → Nat} : ∀ n, (∀ x, x < n → f x = g x) → bs_s f n = bs_s g n
  | 0, _ => rfl
  | n + 1, h => by simp only [bs_s, bs_c n (fun x hx => h x (by omega)), h n (by omega)]
theorem bs_swap (F : Nat → Nat → Nat) (m : Nat) : ∀ n, bs_s (fun x => bs_s (fun y => F x y) m) n = bs_s (fun y => bs_s (fun x => F x y) n) m
  | 0 => by simp only [bs_s, bs_0]
  | n + 1 => by
    simp only [bs_s]
    rw [bs_swap F m n, bs_add (fun y => bs_s (fun x => F x y) n) (fun y => F n y) m]
theorem bs_tail {f : Nat → Nat} {a : Nat} : ∀ n, a ≤ n → (∀ x, a ≤ x → f x = 0) → bs_s f n = bs_s f a
  | 0, h, _ => by have : a = 0 := by omega
                  rw [this]
  | n + 1, h, hz => by
    by_cases e : a = n + 1
    · rw [e]
    · simp only [bs_s]
      rw [bs_tail n (by omega) hz, hz n (by omega)]
      rfl
/-- 1 for a bridge, the lower point first -/
noncomputable def bs_f (w : Nat → Nat → Int) (x y : Nat) : Nat := @ite Nat (x < y ∧ 0 < w x y ∧ ¬ lj_J (lb_out w x y) x y) (Classical.propDecidable _) 1 0
theorem bs_f1 {w : Nat → Nat → Int} {x y : Nat} (h : x < y ∧ 0 < w x y ∧ ¬ lj_J (lb_out w x y) x y) : bs_f w x y = 1 := by
  unfold bs_f; rw [if_pos h]
theorem bs_f0 {w : Nat → Nat → Int} {x y : Nat} (h : ¬ (x < y ∧ 0 < w x y ∧ ¬ lj_J (lb_out w x y) x y)) : bs_f w x y = 0 := by
  unfold bs_f; rw [if_neg h]
theorem bs_fle (w : Nat → Nat → Int) (x y : Nat) : bs_f w x y ≤ 1 := by
  unfold bs_f; split <;> omega
theorem bs_le {f : Nat → Nat} {b : Nat} : ∀ n, (∀ x, f x ≤ b) → bs_s f n ≤ n * b
  | 0, _ => Nat.zero_le _
  | n + 1, h => by
    have h1 := bs_le n h
    have h2 := h n
    simp only [bs_s, Nat.succ_mul]
    omega
theorem bs_out (w : Nat → Nat → Int) (p q : Nat) : lb_out w p q = lb_out w q p := by
  funext x y
  simp only [lb_out]
  by_cases h : (x = p ∧ y = q) ∨ (x = q ∧ y = p)
  · have h' : (x = q ∧ y = p) ∨ (x = p ∧ y = q) := h.symm
    simp only [h, h', if_true]
  · have h' : ¬ ((x = q ∧ y = p) ∨ (x = p ∧ y = q)) := fun e => h e.symm
    simp only [h, h', if_false]
/-- both sums -/
theorem bs_eq (w : Nat → Nat → Int) (n : Nat) : bs_s (fun x => bs_s (bs_f w x) n) n = bs_s (fun x => bs_s (fun y => bs_f w y x) x) n := by
  rw [bs_swap (fun x y => bs_f w x y) n n]
  apply bs_c
  intro x hx
  exact bs_tail n (by omega) (fun y hy => bs_f0 (fun h => by omega))
theorem bx_16 {n p c : Nat} {s d : Int32} {a : Nat → Int32} {M : Nat → Int64} {post : Int32 → Prop} {J4 : Int32 → Int32 → Prop} (hO : cw_O n a) (hp : p < n) (hJ : J4 (nI (c + bs_s (bs_f (cw_w a) p) n)) (nI (p + 1))) :
    ∀ fuel q, p < q → q ≤ n → n - q < fuel → wX_bridges_16 post J4 (nI p) (nI n) s d a M fuel (nI (c + bs_s (bs_f (cw_w a) p) q)) (nI q) := by
  have h6 := hO.2.1
  have hw := cw_W hO
  intro fuel
  induction fuel with
  | zero => intro q _ _ h; omega
  | succ f ih =>
    intro q hpq hq hf
    by_cases e : q = n
    · subst e
      exact br_t (nI_le (Nat.le_refl _) (by omega)) (nm_r (nI_1 p) hJ)
    · have hqn : q < n := by omega
      have k1 : (nI (6 * p + q)).toNatClampNeg = 6 * p + q := nI_clamp (by omega)
      have hi := ih (q + 1) (by omega) (by omega) (by omega)
      have hz := cw_zero hO (p := p) (q := q) (by omega) (by omega)
      have hnn := (hw.2.2.2.1 p q).1
      have h0 : bs_f (cw_w a) p q = 0 → wX_bridges_16 post J4 (nI p) (nI n) s d a M f (nI (c + bs_s (bs_f (cw_w a) p) q)) (nI (q + 1)) := by
        intro hb
        simp only [bs_s, hb] at hi
        exact hi
      have h1 : bs_f (cw_w a) p q = 1 → wX_bridges_16 post J4 (nI p) (nI n) s d a M f (nI (c + bs_s (bs_f (cw_w a) p) q + 1)) (nI (q + 1)) := by
        intro hb
        simp only [bs_s, hb] at hi
        exact hi
      refine br_f (nI_ge hqn (by omega)) ?_
      unfold wpX_isBridge
      dsimp only
      refine nm_r (gx_c p q) ?_
      rw [k1]
      refine ⟨vp_in_nI (by omega) (by omega), ?_⟩
      by_cases ez : a (6 * p + q) = 0
      · exact br_t ez (br_t rfl (nm_r (nI_1 q) (h0 (bs_f0 (fun h => by have := hz.mp ez; omega)))))
      · have hpos : 0 < cw_w a p q := by
          have : ¬ cw_w a p q = 0 := fun h => ez (hz.mpr h)
          omega
        refine br_f ez (gx_groupOf (lb_outW hw p q) hp (gx_H1 hO hpq hqn) (fun G hG hGq => ?_))
        have hb := mb_bit G hG q (by omega)
        by_cases hj : lj_J (lb_out (cw_w a) p q) p q
        · rw [if_pos ((hGq q).mpr hj)] at hb
          refine br_f (fun h => ?_) (br_t rfl (nm_r (nI_1 q) (h0 (bs_f0 (fun h => h.2.2 hj)))))
          rw [hb] at h; exact absurd h (by decide)
        · rw [if_neg (fun h => hj ((hGq q).mp h))] at hb
          exact br_t hb (br_f (by decide) (nm_r (nI_1 _) (nm_r (nI_1 q) (h1 (bs_f1 ⟨hpq, hpos, hj⟩)))))
theorem bx_4 {n : Nat} {s d : Int32} {a : Nat → Int32} {M : Nat → Int64} {post : Int32 → Prop} (hO : cw_O n a) (hJ : post (nI (bs_s (fun x => bs_s (bs_f (cw_w a) x) n) n))) :
    ∀ fuel p, p ≤ n → n - p < fuel → wX_bridges_4 post (nI n) s d a M fuel (nI (bs_s (fun x => bs_s (bs_f (cw_w a) x) n) p)) (nI p) := by
  have h6 := hO.2.1
  intro fuel
  induction fuel with
  | zero => intro p _ h; omega
  | succ f ih =>
    intro p hp hf
    by_cases e : p = n
    · subst e
      exact br_t (nI_le (Nat.le_refl _) (by omega)) hJ
    · have hpn : p < n := by omega
      refine br_f (nI_ge hpn (by omega)) (nm_r (nI_1 p) ⟨n + 1, ?_⟩)
      have h0 : bs_s (bs_f (cw_w a) p) (p + 1) = 0 := by
        have h1 := bs_c (f := bs_f (cw_w a) p) (g := fun _ => 0) (p + 1) (fun x hx => bs_f0 (fun h => by omega))
        rw [h1, bs_0]
      have h := bx_16 (c := bs_s (fun x => bs_s (bs_f (cw_w a) x) n) p) (s := s) (d := d) (M := M) (post := post) (J4 := wX_bridges_4 post (nI n) s d a M f) hO hpn (ih (p + 1) (by omega) (by omega)) (n + 1) (p + 1) (by omega) (by omega) (by omega)
      rw [h0, Nat.add_zero] at h
      exact h
theorem by_26 {n p c sn dn : Nat} {a : Nat → Int32} {post : Int32 → SY → Prop} {J9 : Int32 → Int32 → Int32 → Int32 → Int32 → Int32 → (Nat → Int32) → (Nat → Int32) → (Nat → Int32) → (Nat → Int32) → Prop} (hO : cw_O n a) (hp : p < n) (hc : c ≤ 36)
    (hJ : ∀ z l t m, J9 (nI (c + bs_s (fun y => bs_f (cw_w a) y p) p)) (nI (p + 1)) (nI n) (nI sn) (nI dn) z a l t m) :
    ∀ fuel q z l t m, q ≤ p → p - q < fuel → wY_bridges_26 post J9 (nI (lc_L n (lk_l (cw_w a))).length) (nI p) fuel (nI (c + bs_s (fun y => bs_f (cw_w a) y p) q)) (nI q) (nI n) (nI sn) (nI dn) z a l t m := by
  have h6 := hO.2.1
  have hw := cw_W hO
  intro fuel
  induction fuel with
  | zero => intro q z l t m _ h; omega
  | succ f ih =>
    intro q z l t m hq hf
    by_cases e : q = p
    · have hle : nI p ≤ nI q := by rw [e]; exact nI_le (Nat.le_refl _) (by omega)
      refine br_t hle (nm_r (nI_1 p) ?_)
      rw [e]
      exact hJ z l t m
    · have hqp : q < p := by omega
      have hqn : q < n := by omega
      have hne : ¬ p = q := by omega
      have k1 : (nI (6 * p + q)).toNatClampNeg = 6 * p + q := nI_clamp (by omega)
      have hO' : cw_O n (cw_put a p q 0) := cw_putO (v := 0) hO hp hqn hne (by omega)
      have hput : cw_w (cw_put a p q 0) = lb_out (cw_w a) p q := cw_putw hO hp hqn
      have hback := cw_back hO hp hqn 0
      have hpos := cw_pos hO (p := p) (q := q) (by omega) (by omega)
      have hi : ∀ z l t m, wY_bridges_26 post J9 (nI (lc_L n (lk_l (cw_w a))).length) (nI p) f (nI (c + bs_s (fun y => bs_f (cw_w a) y p) (q + 1))) (nI (q + 1)) (nI n) (nI sn) (nI dn) z a l t m := fun z l t m => ih (q + 1) z l t m (by omega) (by omega)
      have h0 : bs_f (cw_w a) q p = 0 → ∀ z l t m, wY_bridges_26 post J9 (nI (lc_L n (lk_l (cw_w a))).length) (nI p) f (nI (c + bs_s (fun y => bs_f (cw_w a) y p) q)) (nI (q + 1)) (nI n) (nI sn) (nI dn) z a l t m := by
        intro hb z l t m
        have := hi z l t m
        simp only [bs_s, hb] at this
        exact this
      have h1 : bs_f (cw_w a) q p = 1 → ∀ z l t m, wY_bridges_26 post J9 (nI (lc_L n (lk_l (cw_w a))).length) (nI p) f (nI (c + bs_s (fun y => bs_f (cw_w a) y p) q + 1)) (nI (q + 1)) (nI n) (nI sn) (nI dn) z a l t m := by
        intro hb z l t m
        have := hi z l t m
        simp only [bs_s, hb] at this
        exact this
      have hsw : cw_w a q p = cw_w a p q := hw.2.1 q p
      refine br_f (nI_ge hqp (by omega)) ?_
      rw [gy_c p q, k1]
      refine ⟨vp_in_nI (by omega) (by omega), nm_e (rl_setY h6 hp hqn ?_)⟩
      by_cases ez : a (6 * p + q) ≤ 0
      · refine br_t ez ?_
        refine rl_setY h6 hp hqn ?_
        rw [hback]
        refine nm_r (nI_1 q) (h0 (bs_f0 (fun h => ?_)) z l t m)
        have h2 := h.2.1
        rw [hsw, ← hpos] at h2
        exact absurd ez (Int32.not_le.mpr h2)
      · have hwpos : 0 < cw_w a p q := hpos.mp (Int32.not_le.mp ez)
        have hbr := lk_br hw hp hqn hwpos
        have hl1 := lc_len (n := n) (lk_l (cw_w a))
        have hl2 := lc_len (n := n) (lk_l (lb_out (cw_w a) p q))
        refine br_f ez (ly_groups hO' (fun l' _ => ?_))
        rw [hput]
        by_cases hj : lj_J (lb_out (cw_w a) p q) p q
        · have hle : (lc_L n (lk_l (lb_out (cw_w a) p q))).length ≤ (lc_L n (lk_l (cw_w a))).length := by
            apply Nat.le_of_not_lt
            intro h
            exact hbr.mp h hj
          refine br_t (nI_le hle (by omega)) ?_
          refine rl_setY h6 hp hqn ?_
          rw [hback]
          refine nm_r (nI_1 q) (h0 (bs_f0 (fun h => ?_)) z l' t m)
          apply h.2.2
          rw [bs_out]
          exact lj_s (lb_outW hw p q) hj
        · refine br_f (nI_ge (hbr.mpr hj) (by omega)) (nm_r (nI_1 _) ?_)
          refine rl_setY h6 hp hqn ?_
          rw [hback]
          refine nm_r (nI_1 q) (h1 (bs_f1 ⟨hqp, by rw [hsw]; exact hwpos, fun h => hj ?_⟩) z l' t m)
          rw [bs_out] at h
          exact lj_s (lb_outW hw p q) h
theorem by_9 {n sn dn : Nat} {a : Nat → Int32} {post : Int32 → SY → Prop} (hO : cw_O n a)
    (hJ : ∀ z l t m, post (nI (bs_s (fun x => bs_s (fun y => bs_f (cw_w a) y x) x) n)) (nI n, nI sn, nI dn, z, a, l, t, m)) :
    ∀ fuel p z l t m, p ≤ n → n - p < fuel → wY_bridges_9 post (nI (lc_L n (lk_l (cw_w a))).length) fuel (nI (bs_s (fun x => bs_s (fun y => bs_f (cw_w a) y x) x) p)) (nI p) (nI n) (nI sn) (nI dn) z a l t m := by
  have h6 := hO.2.1
  intro fuel
  induction fuel with
  | zero => intro p z l t m _ h; omega
  | succ f ih =>
    intro p z l t m hp hf
    by_cases e : p = n
    · subst e
      exact br_t (nI_le (Nat.le_refl _) (by omega)) (hJ z l t m)
    · have hpn : p < n := by omega
      refine br_f (nI_ge hpn (by omega)) (br_f (nI_ge (b := 6) (by omega) (by decide)) ⟨p + 1, ?_⟩)
      have hc : bs_s (fun x => bs_s (fun y => bs_f (cw_w a) y x) x) p ≤ 36 := by
        have h1 : bs_s (fun x => bs_s (fun y => bs_f (cw_w a) y x) x) p ≤ p * 6 := by
          have h2 := bs_c (f := fun x => bs_s (fun y => bs_f (cw_w a) y x) x) (g := fun x => if x < 6 then bs_s (fun y => bs_f (cw_w a) y x) x else 0) p (fun x hx => by
            rw [if_pos (by omega)])
          rw [h2]
          refine bs_le p (fun x => ?_)
          split
          · have h3 := bs_le (f := fun y => bs_f (cw_w a) y x) (b := 1) x (fun y => bs_fle _ _ _)
            omega
          · omega
        omega
      exact by_26 hO hpn hc (fun z' l' t' m' => ih (p + 1) z' l' t' m' (by omega) (by omega)) (p + 1) 0 z l t m (by omega) (by omega)
theorem i_vc_bridges {k : Nat} {u : SX} {v : SY} (I : i_Rel k u v) (hk : k + 4 ≤ 2049) : wpX_bridges (fun r => wpY_bridges (fun r' v' => r' = r ∧ i_Rel (k + 4) u v') v) u := by
  obtain ⟨n, sn, dn, a, M, z, l, t, m, rfl, rfl, hO, hs, hd, hsd⟩ := I
  refine ⟨n + 1, bx_4 hO ?_ (n + 1) 0 (by omega) (by omega)⟩
  unfold wpY_bridges
  dsimp only
  refine ly_groups hO (fun l' _ => ⟨n + 1, ?_⟩)
  exact by_9 hO (fun z' l' t' m' => ⟨by rw [bs_eq], rl_mk hO hs hd hsd⟩) (n + 1) 0 z l' t m (by omega) (by omega)
end
