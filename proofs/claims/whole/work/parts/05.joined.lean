theorem lk_T {n : Nat} {w : Nat → Nat → Int} (hw : la_W n w) {x a b : Nat} (hx : x < n) (ha : lj_J w x a) (hb : lj_J w x b) :
    nd_D (la_m w) (lc_L n (lc_x (lj_b w x) a)) = nd_D (la_m w) (lc_L n (lc_x (lj_b w x) b)) :=
  lc_T hw (lj_C x) (fun z hz => lj_n hw hx (lj_bt.mp hz)) (lj_bt.mpr ha) (lj_bt.mpr hb)
theorem lk_pos {n : Nat} {w : Nat → Nat → Int} (hw : la_W n w) {x l : Nat} (hx : x < n) (hl : lj_J w x l) : 0 < nd_D (la_m w) (lc_L n (lc_x (lj_b w x) l)) := by
  have hn := hw.1
  have hln : l < n := lj_n hw hx hl
  refine la_P hw _ _ rfl (by have := lc_len1 (P := lj_b w x) hln; omega) (lc_nd _ _) (lc_6 hn) ?_
  intro B hC hB a
  apply Classical.byContradiction
  intro hf
  have ha : B a = true := by revert hf; cases B a <;> simp
  have h1 := hB a ha
  rw [lc_mem, lc_xt, lj_bt] at h1
  have h2 : lj_J w a l := lj_t (lj_s hw h1.2.1) hl
  have h3 := hB l (h2 B hC ha)
  rw [lc_mem, lc_xt] at h3
  exact h3.2.2 rfl
theorem lk_zero {n : Nat} {w : Nat → Nat → Int} (hw : la_W n w) (h0 : 0 < n) {q : Nat} (hq : q < n) (hj : ¬ lj_J w 0 q) : nd_D (la_m w) (lc_L n (lc_x (fun _ => true) 0)) = 0 := by
  have hn := hw.1
  refine lb_Z hw (A := lj_b w q) (lj_C q) _ (by have := lc_len1 (P := fun _ => true) h0; omega) (lc_nd _ _) (lc_6 hn) ?_ (a := q) (lj_bt.mpr (lj_r w q))
  intro z hz
  rw [lj_bt] at hz
  rw [lc_mem, lc_xt]
  refine ⟨lj_n hw hq hz, rfl, fun e => ?_⟩
  subst e
  exact hj (lj_s hw hz)
theorem lk_mono {n : Nat} {P Q : Nat → Bool} (h : ∀ z, z < n → P z = true → Q z = true) : (lc_L n P).length ≤ (lc_L n Q).length := by
  simp only [lc_L, ← List.countP_eq_length_filter]
  exact List.countP_mono_left (fun x hx hp => h x (by simpa using hx) hp)
theorem lk_lt {n : Nat} {P Q : Nat → Bool} (h : ∀ z, z < n → P z = true → Q z = true) {a : Nat} (ha : a < n) (hQ : Q a = true) (hP : ¬ P a = true) : (lc_L n P).length < (lc_L n Q).length := by
  have h1 := (lc_pm ha hQ).length_eq
  have h2 := lk_mono (n := n) (P := P) (Q := lc_x Q a) (fun z hz hp => lc_xt.mpr ⟨h z hz hp, fun e => hP (e ▸ hp)⟩)
  simp at h1
  omega
theorem lk_s (n : Nat) (P : Nat → Bool) : lc_L (n + 1) P = lc_L n P ++ (if P n = true then [n] else []) := by
  simp only [lc_L, List.range_succ, List.filter_append]
  congr 1
  cases h : P n <;> simp [h]
theorem lk_sl (n : Nat) (P : Nat → Bool) : (lc_L (n + 1) P).length = (lc_L n P).length + (if P n = true then 1 else 0) := by
  rw [lk_s]
  cases h : P n <;> simp
theorem lk_least (P : Nat → Prop) : ∀ k, P k → ∃ a, P a ∧ ∀ j, P j → a ≤ j := by
  intro k
  induction k using Nat.strongRecOn with
  | ind k ih =>
    intro hk
    by_cases h : ∃ j, j < k ∧ P j
    · obtain ⟨j, hj, hp⟩ := h
      exact ih j hj hp
    · refine ⟨k, hk, fun j hj => ?_⟩
      apply Nat.le_of_not_lt
      intro hlt
      exact h ⟨j, hlt, hj⟩
/-- the least of its group -/
noncomputable def lk_l (w : Nat → Nat → Int) : Nat → Bool := fun p => @decide (∀ q, lj_J w p q → p ≤ q) (Classical.propDecidable _)
theorem lk_lt' {w : Nat → Nat → Int} {p : Nat} : lk_l w p = true ↔ ∀ q, lj_J w p q → p ≤ q := by
  simp only [lk_l, decide_eq_true_eq]
theorem lk_sub {w : Nat → Nat → Int} {p q a b : Nat} (h : lj_J (lb_out w p q) a b) : lj_J w a b := by
  intro A hC ha
  refine h A (fun x y hx hxy => hC x y hx ?_) ha
  simp only [lb_out] at hxy
  split at hxy
  · omega
  · exact hxy
theorem lk_br {n : Nat} {w : Nat → Nat → Int} (hw : la_W n w) {p q : Nat} (hp : p < n) (hq : q < n) (hpq : 0 < w p q) :
    (lc_L n (lk_l w)).length < (lc_L n (lk_l (lb_out w p q))).length ↔ ¬ lj_J (lb_out w p q) p q := by
  have hw' := lb_outW hw p q
  constructor
  · intro hlt hj
    have hup : ∀ a b, lj_J w a b → lj_J (lb_out w p q) a b := by
      intro a b h A hC ha
      refine h A (fun x y hx hxy => ?_) ha
      by_cases e : (x = p ∧ y = q) ∨ (x = q ∧ y = p)
      · rcases e with ⟨e1, e2⟩ | ⟨e1, e2⟩
        · subst e1; subst e2; exact hj A hC hx
        · subst e1; subst e2; exact lj_s hw' hj A hC hx
      · exact hC x y hx (by simp only [lb_out, e, if_false]; exact hxy)
    have := lk_mono (n := n) (P := lk_l (lb_out w p q)) (Q := lk_l w) (fun z _ hz => by
      rw [lk_lt'] at hz ⊢
      exact fun b hb => hz b (hup z b hb))
    omega
  · intro hj
    have hsub : ∀ z, z < n → lk_l w z = true → lk_l (lb_out w p q) z = true := by
      intro z _ hz
      rw [lk_lt'] at hz ⊢
      exact fun b hb => hz b (lk_sub hb)
    obtain ⟨a, ha, hal⟩ := lk_least (fun z => lj_J (lb_out w p q) p z) p (lj_r _ p)
    obtain ⟨b, hb, hbl⟩ := lk_least (fun z => lj_J (lb_out w p q) q z) q (lj_r _ q)
    have hab : lj_J w a b := lj_t (lj_s hw (lk_sub ha)) (lj_t (lj_e hpq) (lk_sub hb))
    have hla : lk_l (lb_out w p q) a = true := by
      rw [lk_lt']; exact fun z hz => hal z (lj_t ha hz)
    have hlb : lk_l (lb_out w p q) b = true := by
      rw [lk_lt']; exact fun z hz => hbl z (lj_t hb hz)
    have hne : ¬ a = b := by
      intro e; subst e
      exact hj (lj_t ha (lj_s hw' hb))
    by_cases hlt : a < b
    · refine lk_lt hsub (a := b) (lj_n hw' hq hb) hlb ?_
      intro h
      rw [lk_lt'] at h
      have := h a (lj_s hw hab)
      omega
    · refine lk_lt hsub (a := a) (lj_n hw' hp ha) hla ?_
      intro h
      rw [lk_lt'] at h
      have := h b hab
      omega
/-! labels -/
def ll_I (n : Nat) (w : Nat → Nat → Int) (l : Nat → Nat) : Prop := ∀ p, p < n → lj_J w p (l p) ∧ l p ≤ p
noncomputable def ll_d (w : Nat → Nat → Int) (l : Nat → Nat) : Nat → Bool := fun p => @decide (∀ q, lj_J w p q → l p ≤ q) (Classical.propDecidable _)
theorem ll_dt {w : Nat → Nat → Int} {l : Nat → Nat} {p : Nat} : ll_d w l p = true ↔ ∀ q, lj_J w p q → l p ≤ q := by
  simp only [ll_d, decide_eq_true_eq]
theorem ll_prog {n : Nat} {w : Nat → Nat → Int} (hw : la_W n w) {l k : Nat → Nat} (hI : ll_I n w l) (h1 : ∀ p, p < n → k p ≤ l p) (h2 : ∀ p q, p < n → q < n → 0 < w p q → k p ≤ l q) :
    (∀ p, p < n → ll_d w l p = true) ∨ (lc_L n (ll_d w l)).length < (lc_L n (ll_d w k)).length := by
  have hmono : ∀ z, z < n → ll_d w l z = true → ll_d w k z = true := by
    intro z hz h
    rw [ll_dt] at h ⊢
    exact fun q hq => Nat.le_trans (h1 z hz) (h q hq)
  by_cases hall : ∀ p, p < n → ll_d w l p = true
  · exact Or.inl hall
  right
  by_cases hex : ∃ a, a < n ∧ ll_d w k a = true ∧ ¬ ll_d w l a = true
  · obtain ⟨a, ha, hk, hl⟩ := hex
    exact lk_lt hmono ha hk hl
  exfalso
  apply hall
  intro p0 hp0
  have hback : ∀ a, a < n → ll_d w k a = true → ll_d w l a = true := by
    intro a ha hk
    apply Classical.byContradiction
    intro hl
    exact hex ⟨a, ha, hk, hl⟩
  have hC : la_C w (fun z => decide (z < n) && ll_d w l z) := by
    intro a b ha hab
    simp only [Bool.and_eq_true, decide_eq_true_eq] at ha ⊢
    have hbn := (la_big hw hab).2
    refine ⟨hbn, hback b hbn ?_⟩
    rw [ll_dt]
    intro q hq
    have hba : 0 < w b a := by rw [hw.2.1 b a]; exact hab
    have e1 := h2 b a hbn ha.1 hba
    have e2 := ll_dt.mp ha.2 q (lj_t (lj_e hab) hq)
    omega
  obtain ⟨u, hu, hul⟩ := lk_least (fun z => lj_J w p0 z) p0 (lj_r _ p0)
  have hun := lj_n hw hp0 hu
  have hdu : ll_d w l u = true := by
    rw [ll_dt]
    intro q hq
    have e1 := hul q (lj_t hu hq)
    have e2 := (hI u hun).2
    omega
  have := lj_s hw hu _ hC (by simp [hun, hdu])
  simp only [Bool.and_eq_true, decide_eq_true_eq] at this
  exact this.2
theorem ll_stop {n : Nat} {w : Nat → Nat → Int} (hw : la_W n w) {l : Nat → Nat} (hI : ll_I n w l) (h2 : ∀ p q, p < n → q < n → 0 < w p q → l p ≤ l q) : ∀ p, p < n → ll_d w l p = true := by
  intro p hp
  rw [ll_dt]
  intro q hq
  have hC : la_C w (fun z => decide (z < n ∧ l z = l p)) := by
    intro a b ha hab
    simp only [decide_eq_true_eq] at ha ⊢
    have hn := la_big hw hab
    have hba : 0 < w b a := by rw [hw.2.1 b a]; exact hab
    have e1 := h2 a b hn.1 hn.2 hab
    have e2 := h2 b a hn.2 hn.1 hba
    exact ⟨hn.2, by omega⟩
  have h := hq _ hC (by simp [hp])
  simp only [decide_eq_true_eq] at h
  have := (hI q h.1).2
  omega
/-- what a round has: all done, or many done -/
def ll_A (n : Nat) (w : Nat → Nat → Int) (r : Nat) (l : Nat → Nat) : Prop := ll_I n w l ∧ ((∀ p, p < n → ll_d w l p = true) ∨ r + 1 ≤ (lc_L n (ll_d w l)).length)
theorem ll_next {n : Nat} {w : Nat → Nat → Int} (hw : la_W n w) {r : Nat} {l k : Nat → Nat} (h : ll_A n w r l) (hI : ll_I n w k) (h1 : ∀ p, p < n → k p ≤ l p) (h2 : ∀ p q, p < n → q < n → 0 < w p q → k p ≤ l q) : ll_A n w (r + 1) k := by
  refine ⟨hI, ?_⟩
  have hall : (∀ p, p < n → ll_d w l p = true) → ∀ p, p < n → ll_d w k p = true := by
    intro h p hp
    have := ll_dt.mp (h p hp)
    rw [ll_dt]
    exact fun q hq => Nat.le_trans (h1 p hp) (this q hq)
  rcases h.2 with h' | h'
  · exact Or.inl (hall h')
  · rcases ll_prog hw h.1 h1 h2 with h'' | h''
    · exact Or.inl (hall h'')
    · right; omega
theorem ll_end {n : Nat} {w : Nat → Nat → Int} (hw : la_W n w) {l : Nat → Nat} (h : ll_A n w 6 l) : ∀ p, p < n → ll_d w l p = true := by
  rcases h.2 with h | h
  · exact h
  · have := lc_len (n := n) (ll_d w l)
    have := hw.1
    omega
theorem ll_0 {n : Nat} {w : Nat → Nat → Int} (hn : 0 < n) : ll_A n w 0 (fun p => p) := by
  refine ⟨fun p _ => ⟨lj_r w p, Nat.le_refl p⟩, Or.inr ?_⟩
  have h1 := (lc_pm (n := n) (P := ll_d w (fun p => p)) hn (ll_dt.mpr (fun q _ => Nat.zero_le q))).length_eq
  simp at h1
  omega
/-- final labels -/
def ll_F (n : Nat) (w : Nat → Nat → Int) (l : Nat → Nat) : Prop := ll_I n w l ∧ ∀ p, p < n → ll_d w l p = true
theorem ll_eq {n : Nat} {w : Nat → Nat → Int} (hw : la_W n w) {l : Nat → Nat} (h : ll_F n w l) {p q : Nat} (hp : p < n) (hq : q < n) : l p = l q ↔ lj_J w p q := by
  have hP := h.1 p hp
  have hQ := h.1 q hq
  constructor
  · intro e
    exact lj_t hP.1 (e ▸ lj_s hw hQ.1)
  · intro hj
    have e1 := ll_dt.mp (h.2 p hp) (l q) (lj_t hj hQ.1)
    have e2 := ll_dt.mp (h.2 q hq) (l p) (lj_t (lj_s hw hj) hP.1)
    omega
theorem ll_self {n : Nat} {w : Nat → Nat → Int} {l : Nat → Nat} (h : ll_F n w l) {p : Nat} (hp : p < n) : l p = p ↔ lk_l w p = true := by
  have hP := h.1 p hp
  rw [lk_lt']
  constructor
  · intro e q hq
    have := ll_dt.mp (h.2 p hp) q hq
    omega
  · intro hl
    have := hl (l p) hP.1
    omega
/-! the growing set of the other side -/
def lx_A (n : Nat) (w : Nat → Nat → Int) (p r : Nat) (G : Nat → Bool) : Prop := G p = true ∧ (∀ q, G q = true → lj_J w p q) ∧ (la_C w G ∨ r + 1 ≤ (lc_L n G).length)
theorem lx_next {n : Nat} {w : Nat → Nat → Int} (hw : la_W n w) {p r : Nat} {G H : Nat → Bool} (h : lx_A n w p r G) (hs : ∀ q, H q = true → lj_J w p q) (h1 : ∀ q, G q = true → H q = true) (h2 : ∀ a b, G a = true → 0 < w a b → H b = true) : lx_A n w p (r + 1) H := by
  refine ⟨h1 p h.1, hs, ?_⟩
  by_cases hC : la_C w G
  · left
    intro a b ha hab
    exact h1 b (lj_t (hs a ha) (lj_e hab) G hC h.1)
  · right
    have hr := h.2.2.resolve_left hC
    have : ∃ a b, G a = true ∧ 0 < w a b ∧ ¬ G b = true := by
      apply Classical.byContradiction
      intro hne
      apply hC
      intro a b ha hab
      apply Classical.byContradiction
      intro hb
      exact hne ⟨a, b, ha, hab, hb⟩
    obtain ⟨a, b, ha, hab, hb⟩ := this
    have := lk_lt (n := n) (fun z _ hz => h1 z hz) (la_big hw hab).2 (h2 a b ha hab) hb
    omega
theorem lx_end {n : Nat} {w : Nat → Nat → Int} {p : Nat} {G : Nat → Bool} (h : lx_A n w p n G) (q : Nat) : G q = true ↔ lj_J w p q := by
  have hC : la_C w G := by
    rcases h.2.2 with h | h
    · exact h
    · have := lc_len (n := n) G
      omega
  exact ⟨h.2.1 q, fun hj => hj G hC h.1⟩
theorem lx_0 {n : Nat} {w : Nat → Nat → Int} {p : Nat} (hp : p < n) : lx_A n w p 0 (fun z => z == p) := by
  refine ⟨by simp, fun q hq => ?_, Or.inr ?_⟩
  · have : q = p := by simpa using hq
    subst this; exact lj_r w q
  · have h1 := (lc_pm (n := n) (P := fun z => z == p) hp (by simp)).length_eq
    simp at h1
    omega
