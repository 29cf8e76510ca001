def la_6 (f : Nat → Int) : Int := f 0 + f 1 + f 2 + f 3 + f 4 + f 5
def la_W (n : Nat) (w : Nat → Nat → Int) : Prop := n ≤ 6 ∧ (∀ p q, w p q = w q p) ∧ (∀ p, w p p = 0) ∧ (∀ p q, 0 ≤ w p q ∧ w p q ≤ 9) ∧ (∀ p q, n ≤ p → w p q = 0)
def la_m (w : Nat → Nat → Int) (p q : Nat) : Int := if p = q then la_6 (w p) else - w p q
theorem la_lt6 {j : Nat} (h : j < 6) : j = 0 ∨ j = 1 ∨ j = 2 ∨ j = 3 ∨ j = 4 ∨ j = 5 := by omega
theorem la_big {n : Nat} {w : Nat → Nat → Int} (hw : la_W n w) {p q : Nat} (h : 0 < w p q) : p < n ∧ q < n := by
  obtain ⟨_, hs, _, _, hz⟩ := hw
  constructor
  · apply Nat.lt_of_not_le; intro hp; have := hz p q hp; omega
  · apply Nat.lt_of_not_le; intro hq; have := hz q p hq; have := hs p q; omega
theorem la_sy {n : Nat} {w : Nat → Nat → Int} (hw : la_W n w) (p q : Nat) : la_m w p q = la_m w q p := by
  by_cases h : p = q
  · subst h; rfl
  · have h' : ¬ q = p := fun e => h e.symm
    simp only [la_m, h, h', if_false, hw.2.1 p q]
theorem la_syf {n : Nat} {w : Nat → Nat → Int} (hw : la_W n w) : (fun a b => la_m w b a) = la_m w := by
  funext a b; exact la_sy hw b a
theorem la_mb {n : Nat} {w : Nat → Nat → Int} (hw : la_W n w) (p q : Nat) : (la_m w p q).natAbs ≤ 45 := by
  obtain ⟨hn, _, hd, hb, hz⟩ := hw
  by_cases h : p = q
  · simp only [la_m, h, if_true, la_6]
    have h0 := hb q 0; have h1 := hb q 1; have h2 := hb q 2; have h3 := hb q 3; have h4 := hb q 4; have h5 := hb q 5
    by_cases hq : q < 6
    · have hq' := hd q
      rcases la_lt6 hq with e | e | e | e | e | e <;> subst e <;> omega
    · have e0 := hz q 0 (by omega); have e1 := hz q 1 (by omega); have e2 := hz q 2 (by omega); have e3 := hz q 3 (by omega); have e4 := hz q 4 (by omega); have e5 := hz q 5 (by omega)
      omega
  · simp only [la_m, h, if_false]
    have := hb p q; omega
theorem la_sum {n : Nat} {w : Nat → Nat → Int} (hw : la_W n w) (c : Nat → Int) {j : Nat} (hj : j < 6) : la_6 (fun x => c x * la_m w x j) = la_6 (fun q => w j q * (c j - c q)) := by
  obtain ⟨_, hs, hd, _, _⟩ := hw
  have d0 := hd 0; have d1 := hd 1; have d2 := hd 2; have d3 := hd 3; have d4 := hd 4; have d5 := hd 5
  have s10 := hs 1 0; have s20 := hs 2 0; have s30 := hs 3 0; have s40 := hs 4 0; have s50 := hs 5 0
  have s21 := hs 2 1; have s31 := hs 3 1; have s41 := hs 4 1; have s51 := hs 5 1
  have s32 := hs 3 2; have s42 := hs 4 2; have s52 := hs 5 2
  have s43 := hs 4 3; have s53 := hs 5 3; have s54 := hs 5 4
  clear hs hd
  rcases la_lt6 hj with e | e | e | e | e | e <;> subst e <;> simp only [la_6, la_m, d0, d1, d2, d3, d4, d5, s10, s20, s30, s40, s50, s21, s31, s41, s51, s32, s42, s52, s43, s53, s54] <;> simp <;> grind
theorem la_S (m : Nat → Nat → Int) (y : Nat → Int) (c : Nat) : ∀ K : List Nat, K.Nodup → (∀ x, x ∈ K → x < 6) → nd_S m y c K = la_6 (fun x => (if x ∈ K then y x else 0) * m x c)
  | [], _, _ => by simp [nd_S, la_6]
  | b :: l, hn, h6 => by
    have hb : b < 6 := h6 b (by simp)
    have hbl : ¬ b ∈ l := by
      intro h; simp only [List.nodup_cons] at hn; exact hn.1 h
    have hl : l.Nodup := by simp only [List.nodup_cons] at hn; exact hn.2
    have ih := la_S m y c l hl (fun x hx => h6 x (by simp [hx]))
    simp only [nd_S, ih]
    rcases la_lt6 hb with e | e | e | e | e | e <;> subst e <;> simp [la_6, hbl] <;> omega
theorem la_max (c : Nat → Int) : ∀ n : Nat, ∃ x, x ≤ n ∧ ∀ y, y ≤ n → c y ≤ c x
  | 0 => ⟨0, Nat.le_refl 0, fun y hy => by have : y = 0 := by omega
                                           subst this; exact Int.le_refl _⟩
  | n + 1 => by
    obtain ⟨x, hx, h⟩ := la_max c n
    by_cases hc : c x ≤ c (n + 1)
    · refine ⟨n + 1, Nat.le_refl _, fun y hy => ?_⟩
      by_cases e : y = n + 1
      · subst e; exact Int.le_refl _
      · exact Int.le_trans (h y (by omega)) hc
    · refine ⟨x, by omega, fun y hy => ?_⟩
      by_cases e : y = n + 1
      · subst e; omega
      · exact h y (by omega)
theorem la_0 {f : Nat → Int} (h0 : ∀ q, q < 6 → 0 ≤ f q) (hs : la_6 f ≤ 0) {q : Nat} (hq : q < 6) : f q = 0 := by
  have a0 := h0 0 (by omega); have a1 := h0 1 (by omega); have a2 := h0 2 (by omega); have a3 := h0 3 (by omega); have a4 := h0 4 (by omega); have a5 := h0 5 (by omega)
  simp only [la_6] at hs
  rcases la_lt6 hq with e | e | e | e | e | e <;> subst e <;> omega
theorem la_z6 {f : Nat → Int} (h0 : ∀ q, q < 6 → f q = 0) : la_6 f = 0 := by
  simp only [la_6, h0 0 (by omega), h0 1 (by omega), h0 2 (by omega), h0 3 (by omega), h0 4 (by omega), h0 5 (by omega)]; rfl
theorem la_c6 {f g : Nat → Int} (h0 : ∀ q, q < 6 → f q = g q) : la_6 f = la_6 g := by
  simp only [la_6, h0 0 (by omega), h0 1 (by omega), h0 2 (by omega), h0 3 (by omega), h0 4 (by omega), h0 5 (by omega)]
theorem la_R0 (m : Nat → Nat → Int) (j : Nat) (K : List Nat) : nd_R m (fun _ => 0) j K = 0 := by
  have h := nd_sc m (fun _ => 0) 0 j K
  simpa using h
theorem la_Si (m : Nat → Nat → Int) (a c : Nat) : ∀ K : List Nat, ¬ a ∈ K → nd_S m (fun b => if b = a then 1 else 0) c K = 0
  | [], _ => rfl
  | b :: l, h => by
    have hb : ¬ b = a := fun e => h (by simp [e])
    have ih := la_Si m a c l (fun e => h (by simp [e]))
    simp only [nd_S, ih, hb, if_false]; omega
theorem la_Sa (m : Nat → Nat → Int) (a c : Nat) : ∀ K : List Nat, K.Nodup → a ∈ K → nd_S m (fun b => if b = a then 1 else 0) c K = m a c
  | [], _, h => by simp at h
  | b :: l, hn, h => by
    simp only [List.nodup_cons] at hn
    by_cases e : b = a
    · subst e
      have := la_Si m b c l hn.1
      simp only [nd_S, this, if_true]; omega
    · have hl : a ∈ l := by
        simp only [List.mem_cons] at h
        exact h.resolve_left (fun x => e x.symm)
      have ih := la_Sa m a c l hn.2 hl
      simp only [nd_S, ih, e, if_false]; omega
theorem la_rep (m : Nat → Nat → Int) (p a : Nat) (K : List Nat) (hn : K.Nodup) (h : a ∈ K) : nd_R m (m p) a K = 0 := by
  rw [nd_tr]
  have e : (fun b => m b a) = fun c => (fun _ => (0 : Int)) c + nd_S (fun a b => m b a) (fun b => if b = a then 1 else 0) c K := by
    funext c
    rw [la_Sa (fun a b => m b a) a c K hn h]; simp
  rw [e, nd_li, la_R0]
def la_C (w : Nat → Nat → Int) (A : Nat → Bool) : Prop := ∀ a b, A a = true → 0 < w a b → A b = true
def la_N (w : Nat → Nat → Int) (K : List Nat) : Prop := ∀ A : Nat → Bool, la_C w A → (∀ a, A a = true → a ∈ K) → ∀ a, A a = false
theorem la_key (m : Nat → Nat → Int) (p : Nat) (hp : p < 6) (K : List Nat) (hn : K.Nodup) (h6 : ∀ x, x ∈ K → x < 6) (hpK : ¬ p ∈ K) (y : Nat → Int) (D : Int) (j : Nat) :
    la_6 (fun x => (if x = p then D else if x ∈ K then y x else 0) * m x j) = nd_S m y j K + D * m p j := by
  rw [la_S m y j K hn h6]
  rcases la_lt6 hp with e | e | e | e | e | e <;> subst e <;> simp [la_6, hpK] <;> omega
theorem la_P {n : Nat} {w : Nat → Nat → Int} (hw : la_W n w) : ∀ k : Nat, ∀ K : List Nat, K.length = k → k ≤ 5 → K.Nodup → (∀ x, x ∈ K → x < 6) → la_N w K → 0 < nd_D (la_m w) K := by
  intro k
  induction k with
  | zero =>
    intro K hl _ _ _ _
    have : K = [] := List.eq_nil_of_length_eq_zero hl
    subst this; exact Int.zero_lt_one
  | succ k ih =>
    intro K hl hk hn h6 hN
    rcases List.eq_nil_or_concat K with e | ⟨K', p, e⟩
    · subst e; simp at hl
    rw [List.concat_eq_append] at e
    subst e
    have hl' : K'.length = k := by simp at hl; omega
    have hnd := List.nodup_append.mp hn
    have hn' : K'.Nodup := hnd.1
    have hpK : ¬ p ∈ K' := fun h => hnd.2.2 p h p (by simp) rfl
    have hp6 : p < 6 := h6 p (by simp)
    have h6' : ∀ x, x ∈ K' → x < 6 := fun x hx => h6 x (by simp [hx])
    have hD : 0 < nd_D (la_m w) K' := ih K' hl' (by omega) hn' h6' (fun A hC hA => hN A hC (fun a ha => by simp [hA a ha]))
    rw [nd_sn]
    apply Int.lt_of_not_ge
    intro hle
    obtain ⟨y, hy⟩ := nd_co (la_m w) (la_m w p) K' hn' (by omega)
    generalize hDe : nd_D (la_m w) K' = D at hD hy
    obtain ⟨c, hc⟩ : ∃ c : Nat → Int, c = (fun x => if x = p then D else if x ∈ K' then y x else 0) := ⟨_, rfl⟩
    have hcp : c p = D := by rw [hc]; simp
    have hc0 : ∀ x, ¬ x ∈ K' ++ [p] → c x = 0 := by
      intro x hx
      simp only [List.mem_append, List.mem_singleton, not_or] at hx
      rw [hc]; simp [hx.1, hx.2]
    have key' : ∀ j, la_6 (fun x => c x * la_m w x j) = nd_R (la_m w) (la_m w p) j K' := by
      intro j
      rw [hy j, hc]
      exact la_key (la_m w) p hp6 K' hn' h6' hpK y D j
    obtain ⟨x0, hx0, hmax⟩ := la_max c 5
    have hpos : 0 < c x0 := by have := hmax p (by omega); omega
    have hin : ∀ a, c a = c x0 → a ∈ K' ++ [p] := by
      intro a ha
      apply Classical.byContradiction
      intro hna
      have := hc0 a hna
      omega
    have hcl : la_C w (fun x => decide (x < 6 ∧ c x = c x0)) := by
      intro a b ha hab
      simp only [decide_eq_true_eq] at ha ⊢
      have hb6 : b < 6 := by have := (la_big hw hab).2; have := hw.1; omega
      refine ⟨hb6, ?_⟩
      have hs := la_sum hw c ha.1
      rw [key' a] at hs
      have hR : nd_R (la_m w) (la_m w p) a K' ≤ 0 := by
        have hin' := hin a ha.2
        simp only [List.mem_append, List.mem_singleton] at hin'
        rcases hin' with h | h
        · rw [la_rep (la_m w) p a K' hn' h]; exact Int.le_refl 0
        · subst h; exact hle
      have hz := la_0 (f := fun q => w a q * (c a - c q)) (fun q hq => by
        have h1 := (hw.2.2.2.1 a q).1
        have h2 := hmax q (by omega)
        exact Int.mul_nonneg h1 (by omega)) (by rw [← hs]; exact hR) hb6
      have hz' : w a b * (c a - c b) = 0 := hz
      rcases Int.mul_eq_zero.mp hz' with h | h
      · omega
      · omega
    have hA := hN _ hcl (fun a ha => by simp only [decide_eq_true_eq] at ha; exact hin a ha.2) x0
    simp at hA
    omega
