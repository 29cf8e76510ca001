def bz_c (m : Nat → Nat → Int) (P : Nat → Bool) (t i j : Nat) : Int :=
  if P i = true ∧ P j = true then nd_R m (m i) j (lc_L t P) else if i = j then nd_D m (lc_L t P) else 0
theorem bz_k {m : Nat → Nat → Int} {P : Nat → Bool} {t i j : Nat} (hi : P i = true) (hj : P j = true) : bz_c m P t i j = nd_R m (m i) j (lc_L t P) := if_pos ⟨hi, hj⟩
theorem bz_d {m : Nat → Nat → Int} {P : Nat → Bool} {t i : Nat} (hi : ¬ P i = true) : bz_c m P t i i = nd_D m (lc_L t P) := by
  unfold bz_c; rw [if_neg (fun h => hi h.1), if_pos rfl]
theorem bz_o {m : Nat → Nat → Int} {P : Nat → Bool} {t i j : Nat} (hij : ¬ (P i = true ∧ P j = true)) (hne : ¬ i = j) : bz_c m P t i j = 0 := by
  unfold bz_c; rw [if_neg hij, if_neg hne]
theorem bz_s1 {P : Nat → Bool} {t : Nat} (h : P t = true) : lc_L (t + 1) P = lc_L t P ++ [t] := by
  rw [lk_s, if_pos h]
theorem bz_s0 {P : Nat → Bool} {t : Nat} (h : ¬ P t = true) : lc_L (t + 1) P = lc_L t P := by
  rw [lk_s, if_neg h, List.append_nil]
theorem bz_p (m : Nat → Nat → Int) (P : Nat → Bool) (t : Nat) : bz_c m P t t t = nd_D m (lc_L (t + 1) P) := by
  by_cases h : P t = true
  · rw [bz_k h h, bz_s1 h, nd_sn]
  · rw [bz_d h, bz_s0 h]
theorem bz_mono {P : Nat → Bool} {a b : Nat} (h : a ≤ b) : (lc_L a P).length ≤ (lc_L b P).length := by
  induction h with
  | refl => exact Nat.le_refl _
  | step _ ih => rw [lk_sl]; omega
theorem bz_len {P : Nat → Bool} {n t i : Nat} (h5 : (lc_L n P).length ≤ 5) (hti : t < i) (hi : i < n) (hPt : P t = true) (hPi : P i = true) : (lc_L t P).length ≤ 3 := by
  have h1 := lk_sl t P
  have h2 := lk_sl i P
  have h3 := bz_mono (P := P) (a := t + 1) (b := i) (by omega)
  have h4 := bz_mono (P := P) (a := i + 1) (b := n) (by omega)
  simp only [hPt, hPi, if_true] at h1 h2
  omega
theorem bz_id (m : Nat → Nat → Int) (P : Nat → Bool) {n t i j : Nat} (h5 : (lc_L n P).length ≤ 5) (hti : t < i) (htj : t < j) (hi : i < n) :
    bz_c m P t i j * bz_c m P t t t - bz_c m P t i t * bz_c m P t t j = nd_D m (lc_L t P) * bz_c m P (t + 1) i j := by
  have hit : ¬ i = t := by omega
  have htj' : ¬ t = j := by omega
  by_cases ht : P t = true
  · by_cases hij : P i = true ∧ P j = true
    · have hl := bz_len h5 hti hi ht hij.1
      have := nd_sy m t i j (lc_L t P) hl
      rw [bz_k hij.1 hij.2, bz_k ht ht, bz_k hij.1 ht, bz_k ht hij.2, bz_k hij.1 hij.2, bz_s1 ht, ← this, Int.mul_comm (nd_R m (m i) j (lc_L t P))]
    · by_cases hne : i = j
      · subst hne
        have hi' : ¬ P i = true := fun h => hij ⟨h, h⟩
        rw [bz_d hi', bz_d hi', bz_p, bz_o (i := i) (j := t) (fun h => hi' h.1) hit]
        omega
      · rw [bz_o hij hne, bz_o hij hne]
        by_cases hi' : P i = true
        · have hj' : ¬ P j = true := fun h => hij ⟨hi', h⟩
          rw [bz_o (i := t) (j := j) (fun h => hj' h.2) htj']
          omega
        · rw [bz_o (i := i) (j := t) (fun h => hi' h.1) hit]
          omega
  · rw [bz_d ht, bz_o (i := i) (j := t) (fun h => ht h.2) hit]
    have e : bz_c m P (t + 1) i j = bz_c m P t i j := by unfold bz_c; rw [bz_s0 ht]
    rw [e, Int.mul_comm]
    omega
theorem bz_bd {m : Nat → Nat → Int} (hm : ∀ a b, (m a b).natAbs ≤ 45) (P : Nat → Bool) {n t i j : Nat} (hn : n ≤ 6) (ht : t + 1 < n) : (nd_D m (lc_L t P) * bz_c m P (t + 1) i j).natAbs < 2 ^ 63 := by
  have hbd : ∀ k, nd_bd k ≤ 22143375000 := by
    intro k
    match k with
    | 0 => decide
    | 1 => decide
    | 2 => decide
    | 3 => decide
    | 4 => decide
    | 5 => decide
    | k + 6 => exact Nat.zero_le _
  have h4 : ∀ k, k ≤ 4 → nd_bd k ≤ 98415000 := by
    intro k hk
    match k, hk with
    | 0, _ => decide
    | 1, _ => decide
    | 2, _ => decide
    | 3, _ => decide
    | 4, _ => decide
    | k + 5, h => omega
  have h1 : (nd_D m (lc_L t P)).natAbs ≤ 98415000 := Nat.le_trans (nd_bD hm _) (h4 _ (by have := lc_len (n := t) P; omega))
  have h2 : (bz_c m P (t + 1) i j).natAbs ≤ 22143375000 := by
    unfold bz_c
    split
    · exact Nat.le_trans (nd_bR hm i j _) (hbd _)
    · split
      · exact Nat.le_trans (nd_bD hm _) (hbd _)
      · decide
  have := nd_bm h1 h2
  omega
/-- one cell of a step -/
theorem bz_st {m : Nat → Nat → Int} (hm : ∀ a b, (m a b).natAbs ≤ 45) (P : Nat → Bool) {n t i j : Nat} (hn : n ≤ 6) (h5 : (lc_L n P).length ≤ 5) (hti : t < i) (htj : t < j) (hi : i < n) (h0 : nd_D m (lc_L t P) ≠ 0) :
    (Int64.ofInt (bz_c m P t i j) * Int64.ofInt (bz_c m P t t t) - Int64.ofInt (bz_c m P t i t) * Int64.ofInt (bz_c m P t t j)) / Int64.ofInt (nd_D m (lc_L t P)) = Int64.ofInt (bz_c m P (t + 1) i j) := by
  rw [← Int64.ofInt_mul, ← Int64.ofInt_mul, ← Int64.ofInt_sub, bz_id m P h5 hti htj hi]
  exact eu_ex h0 (bz_bd hm P hn (by omega))
