theorem lb_ind {n : Nat} {w : Nat → Nat → Int} (hw : la_W n w) {A : Nat → Bool} (hC : la_C w A) {c : Nat} (hc : c < 6) : la_6 (fun x => (if A x = true then 1 else 0) * la_m w x c) = 0 := by
  rw [la_sum hw (fun x => if A x = true then 1 else 0) hc]
  apply la_z6
  intro q hq
  have hpos := (hw.2.2.2.1 c q).1
  by_cases h0 : w c q = 0
  · rw [h0, Int.zero_mul]
  · have h1 : 0 < w c q := by omega
    have h2 : 0 < w q c := by rw [← hw.2.1 c q]; exact h1
    by_cases hA : A c = true
    · have := hC c q hA h1
      simp [hA, this]
    · have : ¬ A q = true := fun h => hA (hC q c h h2)
      simp [hA, this]
theorem lb_Sn (m : Nat → Nat → Int) (y : Nat → Int) (t : Int) (c : Nat) : ∀ K : List Nat, nd_S m (fun b => t * y b) c K = t * nd_S m y c K
  | [] => by simp [nd_S]
  | b :: l => by
    simp only [nd_S, lb_Sn m y t c l]
    grind
/-- the rows of a closed set have the sum 0 -/
theorem lb_row {n : Nat} {w : Nat → Nat → Int} (hw : la_W n w) {A : Nat → Bool} (hC : la_C w A) (L : List Nat) (hn : L.Nodup) (h6 : ∀ x, x ∈ L → x < 6) (hA : ∀ x, A x = true → x ∈ L) {c : Nat} (hc : c < 6) :
    nd_S (la_m w) (fun x => if A x = true then 1 else 0) c L = 0 := by
  refine (la_S _ _ c L hn h6).trans ((la_c6 ?_).trans (lb_ind hw hC hc))
  intro q _
  by_cases h : A q = true
  · simp [h, hA q h]
  · simp [h]
theorem lb_Sone (m : Nat → Nat → Int) (A : Nat → Bool) (c : Nat) : ∀ K : List Nat, (∀ x, x ∈ K → A x = true) → nd_S m (fun x => if A x = true then 1 else 0) c K = nd_S m (fun _ => 1) c K
  | [], _ => rfl
  | b :: l, h => by
    have hb : A b = true := h b (by simp)
    have ih := lb_Sone m A c l (fun x hx => h x (by simp [hx]))
    simp only [nd_S, ih, hb, if_true]
theorem lb_Z {n : Nat} {w : Nat → Nat → Int} (hw : la_W n w) {A : Nat → Bool} (hC : la_C w A) (K : List Nat) (hl : K.length ≤ 5) (hn : K.Nodup) (h6 : ∀ x, x ∈ K → x < 6) (hA : ∀ x, A x = true → x ∈ K) {a : Nat} (ha : A a = true) : nd_D (la_m w) K = 0 := by
  have haK := hA a ha
  have hp : K.Perm (a :: K.erase a) := List.perm_cons_erase haK
  have hp2 : K.Perm (K.erase a ++ [a]) := hp.trans (List.perm_append_singleton a (K.erase a)).symm
  rw [nd_pm _ hp2, nd_sn]
  have hn' : (a :: K.erase a).Nodup := hp.nodup hn
  have h6' : ∀ x, x ∈ a :: K.erase a → x < 6 := fun x hx => h6 x (hp.mem_iff.mpr hx)
  have hA' : ∀ x, A x = true → x ∈ a :: K.erase a := fun x hx => hp.mem_iff.mp (hA x hx)
  refine (nd_cr (la_m w) (s := fun c => (fun _ => (0 : Int)) c + nd_S (la_m w) (fun x => -1 * (if A x = true then 1 else 0)) c (K.erase a)) a (K.erase a) (fun c hc => ?_)).trans ?_
  · have hr := lb_row hw hC _ hn' h6' hA' (h6' c hc)
    have e1 : nd_S (la_m w) (fun x => if A x = true then 1 else 0) c (a :: K.erase a) = (if A a = true then 1 else 0) * la_m w a c + nd_S (la_m w) (fun x => if A x = true then 1 else 0) c (K.erase a) := rfl
    rw [e1] at hr
    simp only [ha, if_true] at hr
    have e2 := lb_Sn (la_m w) (fun x => if A x = true then 1 else 0) (-1) c (K.erase a)
    dsimp only at e2 ⊢
    rw [e2]
    omega
  · exact (nd_li (la_m w) (fun _ => 0) _ a (K.erase a)).trans (la_R0 (la_m w) a (K.erase a))
theorem lb_not {w : Nat → Nat → Int} {K : List Nat} (h : ¬ la_N w K) : ∃ A : Nat → Bool, la_C w A ∧ (∀ a, A a = true → a ∈ K) ∧ ∃ a, A a = true := by
  apply Classical.byContradiction
  intro hne
  apply h
  intro A hC hA a
  apply Classical.byContradiction
  intro hf
  exact hne ⟨A, hC, hA, a, by revert hf; cases A a <;> simp⟩
theorem lb_nn {n : Nat} {w : Nat → Nat → Int} (hw : la_W n w) (K : List Nat) (hl : K.length ≤ 5) (hn : K.Nodup) (h6 : ∀ x, x ∈ K → x < 6) : 0 ≤ nd_D (la_m w) K := by
  by_cases h : la_N w K
  · exact Int.le_of_lt (la_P hw _ K rfl hl hn h6 h)
  · obtain ⟨A, hC, hA, a, ha⟩ := lb_not h
    rw [lb_Z hw hC K hl hn h6 hA ha]; exact Int.le_refl 0
theorem lb_piv {n : Nat} {w : Nat → Nat → Int} (hw : la_W n w) (K S : List Nat) (hKS : ∀ x, x ∈ K → x ∈ S) (hlK : K.length ≤ 5) (hnK : K.Nodup) (hl : S.length ≤ 5) (hn : S.Nodup) (h6 : ∀ x, x ∈ S → x < 6) (h0 : nd_D (la_m w) K = 0) : nd_D (la_m w) S = 0 := by
  by_cases h : la_N w K
  · have := la_P hw _ K rfl hlK hnK (fun x hx => h6 x (hKS x hx)) h
    omega
  · obtain ⟨A, hC, hA, a, ha⟩ := lb_not h
    exact lb_Z hw hC S hl hn h6 (fun x hx => hKS x (hA x hx)) ha
theorem lb_tr {n : Nat} {w : Nat → Nat → Int} (hw : la_W n w) (i j : Nat) (K : List Nat) : nd_R (la_m w) (la_m w i) j K = nd_R (la_m w) (la_m w j) i K := by
  rw [nd_tr, la_syf hw]
  have : (fun b => la_m w b j) = la_m w j := by funext b; exact la_sy hw b j
  rw [this]
theorem lb_G1a {n : Nat} {w : Nat → Nat → Int} (hw : la_W n w) {A : Nat → Bool} (hC : la_C w A) (x y j : Nat) (B : List Nat) (hn : (x :: y :: B).Nodup) (hA : ∀ z, A z = true ↔ z ∈ x :: y :: B) (h6 : ∀ z, z ∈ x :: y :: B → z < 6) (hj : j < 6) :
    nd_R (la_m w) (la_m w x) j B = -1 * nd_R (la_m w) (la_m w y) j B := by
  refine (nd_cr (la_m w) (s := fun c => (fun c => -1 * la_m w y c) c + nd_S (la_m w) (fun x => -1 * (fun _ => (1 : Int)) x) c B) j B (fun c hc => ?_)).trans ?_
  · have hc6 : c < 6 := by
      simp only [List.mem_cons] at hc
      rcases hc with h | h
      · rw [h]; exact hj
      · exact h6 c (by simp [h])
    have hr := lb_row hw hC _ hn h6 (fun z hz => (hA z).mp hz) hc6
    rw [lb_Sone (la_m w) A c _ (fun z hz => (hA z).mpr hz)] at hr
    simp only [nd_S] at hr
    have e2 := lb_Sn (la_m w) (fun _ => 1) (-1) c B
    dsimp only at e2 ⊢
    rw [e2]
    omega
  · exact (nd_li (la_m w) (fun c => -1 * la_m w y c) _ j B).trans (nd_sc (la_m w) (la_m w y) (-1) j B)
theorem lb_G1 {n : Nat} {w : Nat → Nat → Int} (hw : la_W n w) {A : Nat → Bool} (hC : la_C w A) (x y : Nat) (B : List Nat) (hn : (x :: y :: B).Nodup) (hA : ∀ z, A z = true ↔ z ∈ x :: y :: B) (h6 : ∀ z, z ∈ x :: y :: B → z < 6) :
    nd_R (la_m w) (la_m w x) x B = nd_R (la_m w) (la_m w y) y B := by
  have hx := h6 x (by simp)
  have hy := h6 y (by simp)
  rw [lb_G1a hw hC x y x B hn hA h6 hx, lb_tr hw y x B, lb_G1a hw hC x y y B hn hA h6 hy]
  omega
theorem lb_G2a {n : Nat} {w : Nat → Nat → Int} (hw : la_W n w) {A : Nat → Bool} (hC : la_C w A) (d p s j : Nat) (B : List Nat) (hn : (d :: p :: s :: B).Nodup) (hA : ∀ z, A z = true ↔ z ∈ d :: p :: s :: B) (h6 : ∀ z, z ∈ d :: p :: s :: B → z < 6) (hj : j < 6) :
    nd_R (la_m w) (la_m w d) j B = -1 * (nd_R (la_m w) (la_m w p) j B + nd_R (la_m w) (la_m w s) j B) := by
  refine (nd_cr (la_m w) (s := fun c => (fun c => -1 * (fun c => la_m w p c + la_m w s c) c) c + nd_S (la_m w) (fun x => -1 * (fun _ => (1 : Int)) x) c B) j B (fun c hc => ?_)).trans ?_
  · have hc6 : c < 6 := by
      simp only [List.mem_cons] at hc
      rcases hc with h | h
      · rw [h]; exact hj
      · exact h6 c (by simp [h])
    have hr := lb_row hw hC _ hn h6 (fun z hz => (hA z).mp hz) hc6
    rw [lb_Sone (la_m w) A c _ (fun z hz => (hA z).mpr hz)] at hr
    simp only [nd_S] at hr
    have e2 := lb_Sn (la_m w) (fun _ => 1) (-1) c B
    dsimp only at e2 ⊢
    rw [e2]
    omega
  · refine (nd_li (la_m w) (fun c => -1 * (fun c => la_m w p c + la_m w s c) c) _ j B).trans ?_
    refine (nd_sc (la_m w) (fun c => la_m w p c + la_m w s c) (-1) j B).trans ?_
    rw [nd_ad (la_m w) (la_m w p) (la_m w s) j B]
theorem lb_G2 {n : Nat} {w : Nat → Nat → Int} (hw : la_W n w) {A : Nat → Bool} (hC : la_C w A) (d p s : Nat) (B : List Nat) (hn : (d :: p :: s :: B).Nodup) (hA : ∀ z, A z = true ↔ z ∈ d :: p :: s :: B) (h6 : ∀ z, z ∈ d :: p :: s :: B → z < 6) :
    nd_R (la_m w) (la_m w d) d B = nd_R (la_m w) (la_m w p) p B + nd_R (la_m w) (la_m w s) s B + 2 * nd_R (la_m w) (la_m w s) p B := by
  have hd := h6 d (by simp)
  have hp := h6 p (by simp)
  have hs := h6 s (by simp)
  rw [lb_G2a hw hC d p s d B hn hA h6 hd, lb_tr hw p d B, lb_tr hw s d B, lb_G2a hw hC d p s p B hn hA h6 hp, lb_G2a hw hC d p s s B hn hA h6 hs, lb_tr hw p s B]
  omega
/-- Cramer's column -/
theorem lb_col {n : Nat} {w : Nat → Nat → Int} (hw : la_W n w) (p s : Nat) (B : List Nat) (hp : ¬ p ∈ B) (hs : ¬ s ∈ p :: B) :
    nd_D (fun a b => if b = p then w a s else la_m w a b) (B ++ [p]) = -1 * nd_R (la_m w) (la_m w s) p B := by
  rw [nd_sn, nd_tr, ← nd_sc]
  refine (nd_cm (q := la_m w) _ p B (fun b hb => ?_)).trans ?_
  · have hbp : ¬ b = p := fun e => hp (e ▸ hb)
    funext c
    simp only [hbp, if_false]
    exact la_sy hw c b
  apply nd_cr
  intro c hc
  have hcs : ¬ s = c := fun e => hs (e ▸ hc)
  simp only [if_true, la_m, hcs, if_false]
  rw [hw.2.1 c s]; omega
/-- a pair taken out -/
def lb_out (w : Nat → Nat → Int) (p q : Nat) : Nat → Nat → Int := fun a b => if (a = p ∧ b = q) ∨ (a = q ∧ b = p) then 0 else w a b
theorem lb_outW {n : Nat} {w : Nat → Nat → Int} (hw : la_W n w) (p q : Nat) : la_W n (lb_out w p q) := by
  obtain ⟨hn, hs, hd, hb, hz⟩ := hw
  refine ⟨hn, fun a b => ?_, fun a => ?_, fun a b => ?_, fun a b h => ?_⟩
  · simp only [lb_out]
    by_cases h : (a = p ∧ b = q) ∨ (a = q ∧ b = p)
    · have h' : (b = p ∧ a = q) ∨ (b = q ∧ a = p) := by omega
      simp only [h, h', if_true]
    · have h' : ¬ ((b = p ∧ a = q) ∨ (b = q ∧ a = p)) := by omega
      simp only [h, h', if_false, hs a b]
  · simp only [lb_out, hd a]; split <;> rfl
  · simp only [lb_out]; split
    · exact ⟨Int.le_refl 0, by decide⟩
    · exact hb a b
  · simp only [lb_out, hz a b h]; split <;> rfl
theorem lb_G3 {n : Nat} {w : Nat → Nat → Int} (hw : la_W n w) (p q : Nat) (hpq : ¬ p = q) (hp6 : p < 6) (hq6 : q < 6) (B : List Nat) (hl : B.length ≤ 4) (hp : ¬ p ∈ B) (hq : ¬ q ∈ B) :
    nd_R (la_m (lb_out w p q)) (la_m (lb_out w p q) p) p B = nd_R (la_m w) (la_m w p) p B - w p q * nd_D (la_m w) B := by
  have hrow : ∀ b, b ∈ B → la_m (lb_out w p q) b = la_m w b := by
    intro b hb
    have h1 : ¬ b = p := fun e => hp (e ▸ hb)
    have h2 : ¬ b = q := fun e => hq (e ▸ hb)
    have : lb_out w p q b = w b := by funext c; simp [lb_out, h1, h2]
    funext c; simp only [la_m, this]
  have hone : nd_R (la_m w) (fun c => if c = p then 1 else 0) p B = nd_D (la_m w) B :=
    nd_cn (la_m w) p B hl (fun c hc => by have : ¬ c = p := fun e => hp (e ▸ hc)
                                          simp [this]) (by simp)
  refine (nd_cm (q := la_m w) _ p B hrow).trans ?_
  refine (nd_cr (la_m w) (s := fun c => la_m w p c + (fun c => - w p q * (fun c => if c = p then 1 else 0) c) c) p B (fun c hc => ?_)).trans ?_
  · by_cases e : c = p
    · subst e
      have hcq : ¬ q = c := fun x => hpq x.symm
      simp only [la_m, if_true, la_6, lb_out]
      rcases la_lt6 hq6 with e | e | e | e | e | e <;> subst e <;> simp [hpq] <;> grind
    · have hcB : c ∈ B := by
        simp only [List.mem_cons] at hc; exact hc.resolve_left e
      have hcq : ¬ c = q := fun x => hq (x ▸ hcB)
      have e' : ¬ p = c := fun x => e x.symm
      simp only [la_m, e', e, if_false, lb_out, hcq]
      simp [hpq]
  · refine (nd_ad (la_m w) (la_m w p) (fun c => - w p q * (fun c => if c = p then 1 else 0) c) p B).trans ?_
    have e3 := nd_sc (la_m w) (fun c => if c = p then 1 else 0) (- w p q) p B
    rw [hone] at e3
    have e4 : nd_R (la_m w) (fun c => - w p q * (fun c => if c = p then 1 else 0) c) p B = - w p q * nd_D (la_m w) B := e3
    rw [e4]
    grind
