theorem gd_l {L : List Nat} {q i : Nat} (h : i < L.length) : (L ++ [q]).getD i 0 = L.getD i 0 := by
  rw [List.getD_eq_getElem?_getD, List.getD_eq_getElem?_getD, List.getElem?_append_left h]
theorem gd_r (L : List Nat) (q : Nat) : (L ++ [q]).getD L.length 0 = q := by
  rw [List.getD_eq_getElem?_getD, List.getElem?_append_right (Nat.le_refl _)]
  simp
theorem gd_d {L : List Nat} {i : Nat} (h : i < L.length) : L.drop i = L.getD i 0 :: L.drop (i + 1) := by
  rw [List.drop_eq_getElem_cons h, List.getD_eq_getElem?_getD, List.getElem?_eq_getElem h]
  rfl
theorem gd_m {L : List Nat} {i : Nat} (h : i < L.length) : L.getD i 0 ∈ L := by
  rw [List.getD_eq_getElem?_getD, List.getElem?_eq_getElem h]
  exact List.getElem_mem h
/-- what an entry answers -/
def ey_E (n : Nat) (s d z : Int32) (a l t : Nat → Int32) (sp tt : Int32) (E : Nat → Nat → Int) : Prop :=
  ∀ (m : Nat → Int32) (post : Int64 → Prop) (i j : Nat), i < 6 → j < 6 → post (Int64.ofInt (E i j)) → wpY_entry post (nI n, s, d, z, a, l, t, m) (nI i) (nI j) sp tt
theorem ey_44 {n p : Nat} {s d z : Int32} {a l t m : Nat → Int32} {post : Int64 → Prop} (hO : cw_O n a) (hp : p < 6) (hJ : post (Int64.ofInt (la_6 (cw_w a p)))) :
    ∀ fuel r, r ≤ 6 → 6 - r < fuel → wY_entry_44 post (nI p) (nI n) s d z a l t m fuel (Int64.ofInt (lz_sum (cw_w a p) r)) (nI r) := by
  intro fuel
  induction fuel with
  | zero => intro r _ h; omega
  | succ f ih =>
    intro r hr hf
    by_cases e : r = 6
    · subst e
      refine br_t (nI_le (a := 6) (Nat.le_refl _) (by decide)) ?_
      rw [cw_sum6]
      exact hJ
    · have k1 : (nI (6 * p + r)).toNatClampNeg = 6 * p + r := nI_clamp (by omega)
      have hsum : Int64.ofInt (lz_sum (cw_w a p) r) + (a (6 * p + r)).toInt64 = Int64.ofInt (lz_sum (cw_w a p) (r + 1)) := by
        rw [cw_l hO (by omega) (by omega), ← Int64.ofInt_add]; rfl
      refine br_f (nI_ge (b := 6) (by omega) (by decide)) ?_
      rw [gy_c p r, k1]
      exact ⟨vp_in_nI (by omega) (by omega), nm_r hsum (nm_r (nI_1 r) (ih (r + 1) (by omega) (by omega)))⟩
theorem ey_lap {n i j : Nat} {s d z sp tt : Int32} {a l t m : Nat → Int32} {post : Int64 → Prop} (hO : cw_O n a) (hi : i < 6) (hj : j < 6) (hsp : ¬ nI j = sp) (hJ : post (Int64.ofInt (la_m (cw_w a) i j))) : wpY_entry post (nI n, s, d, z, a, l, t, m) (nI i) (nI j) sp tt := by
  refine br_f hsp ?_
  by_cases e : i = j
  · subst e
    refine br_t rfl ⟨7, ?_⟩
    have h0 : la_m (cw_w a) i i = la_6 (cw_w a i) := by simp [la_m]
    rw [h0] at hJ
    exact ey_44 hO hi hJ 7 0 (by omega) (by omega)
  · have e' : ¬ nI i = nI j := by rw [nI_eq (by omega) (by omega)]; exact e
    have k1 : (nI (6 * i + j)).toNatClampNeg = 6 * i + j := nI_clamp (by omega)
    refine br_f e' ?_
    rw [gy_c i j, k1, hx_neg hO hi hj]
    have h0 : la_m (cw_w a) i j = - cw_w a i j := by simp [la_m, e]
    rw [h0] at hJ
    exact ⟨vp_in_nI (by omega) (by omega), hJ⟩
theorem ey_m {n : Nat} {s d z : Int32} {a l t : Nat → Int32} (hO : cw_O n a) : ey_E n s d z a l t (-1) 0 (la_m (cw_w a)) :=
  fun _ _ _ _ hi hj hJ => ey_lap hO hi hj (gx_m1 (by omega)) hJ
theorem ey_c {n p x : Nat} {s d z : Int32} {a l t : Nat → Int32} (hO : cw_O n a) (hp : p < 6) (hx : x < 6) : ey_E n s d z a l t (nI p) (nI x) (lc_c (cw_w a) p x) := by
  intro m post i j hi hj hJ
  by_cases e : j = p
  · subst e
    have k1 : (nI (6 * i + x)).toNatClampNeg = 6 * i + x := nI_clamp (by omega)
    refine br_t rfl ?_
    rw [gy_c i x, k1, cw_l hO hi hx]
    simp only [lc_c, if_true] at hJ
    exact ⟨vp_in_nI (by omega) (by omega), hJ⟩
  · simp only [lc_c, e, if_false] at hJ
    exact ey_lap hO hi hj (by rw [nI_eq (by omega) (by omega)]; exact e) hJ
/-- the array of the points -/
def ty_A (t : Nat → Int32) (L : List Nat) : Prop := ∀ i, i < L.length → t i = nI (L.getD i 0)
def ty_e (E : Nat → Nat → Int) (L : List Nat) : Nat → Nat → Int := fun i j => E (L.getD i 0) (L.getD j 0)
theorem py_145 {n : Nat} {s d sp tt : Int32} {a l t m : Nat → Int32} {L pl : List Nat} {E : Nat → Nat → Int} {post : Int64 → SY → Prop}
    (hE : ey_E n s d (nI L.length) a l t sp tt E) (hL5 : L.length ≤ 5) (hL6 : ∀ x, x ∈ L → x < 6) (hA : ty_A t L) (hpl : pl.length = L.length) (hpk : ∀ x, x ∈ pl → x < L.length) (hm : ty_A m pl) :
    ∀ fuel i A, i ≤ L.length → L.length - i < fuel → post (Int64.ofInt (lz_pr (ty_e E L) i (pl.drop i) A)) (nI n, s, d, nI L.length, a, l, t, m) → wY_product_145 post sp tt (nI n) s d (nI L.length) a l t m fuel (Int64.ofInt A) (nI i) := by
  intro fuel
  induction fuel with
  | zero => intro i A _ h; omega
  | succ f ih =>
    intro i A hi hf hJ
    by_cases e : i = L.length
    · subst e
      refine br_t (nI_le (Nat.le_refl _) (by omega)) ?_
      have hd : pl.drop L.length = [] := by rw [← hpl]; exact List.drop_length
      rw [hd] at hJ
      exact hJ
    · have hiL : i < L.length := by omega
      have k1 : (nI i).toNatClampNeg = i := nI_clamp (by omega)
      have hmi := hm i (by omega)
      have hx : pl.getD i 0 < L.length := hpk _ (gd_m (by omega))
      have k2 : (nI (pl.getD i 0)).toNatClampNeg = pl.getD i 0 := nI_clamp (by omega)
      rw [gd_d (by omega : i < pl.length)] at hJ
      refine br_f (nI_ge hiL (by omega)) (br_f (nI_ge (b := 6) (by omega) (by decide)) ?_)
      rw [k1, hmi, k2, hA i hiL, hA _ hx]
      refine ⟨vp_in_nI (by omega) (by omega), vp_in_nI (by omega) (by omega), vp_in_nI (by omega) (by omega), ?_⟩
      refine hE m _ _ _ (hL6 _ (gd_m hiL)) (hL6 _ (gd_m hx)) ?_
      refine nm_r (Int64.ofInt_mul A (E (L.getD i 0) (L.getD (pl.getD i 0) 0))).symm (nm_r (nI_1 i) (ih (i + 1) _ (by omega) (by omega) hJ))
theorem py_flip {o : Bool} : (ly_b o = 0 → (1 : Int32) = ly_b (!o)) ∧ (¬ ly_b o = 0 → (0 : Int32) = ly_b (!o)) := by cases o <;> decide
theorem py_80 {n k R U i : Nat} {s d z sp tt : Int32} {a l t m : Nat → Int32} {pl : List Nat} {dg : Nat} {o : Bool} {post : Int64 → SY → Prop} {J12 : Int32 → Int32 → Int32 → Int32 → (Nat → Int32) → (Nat → Int32) → (Nat → Int32) → (Nat → Int32) → Prop}
    (hi : pl.length = i) (hi5 : i < 5) (hpk : ∀ x, x ∈ pl → x < 6) (hdg : dg < 6) (hm : ty_A m (pl ++ [dg])) (hJ : J12 (nI R) (nI U) (ly_b (lz_x pl dg o)) (nI (i + 1)) a l t m) :
    ∀ fuel j oc, j ≤ i → i - j < fuel → lz_x (pl.drop j) dg oc = lz_x pl dg o → wY_product_80 post J12 (nI k) sp tt (nI R) (nI U) (nI i) (nI n) s d z a l t m fuel (ly_b oc) (nI j) := by
  intro fuel
  induction fuel with
  | zero => intro j oc _ h; omega
  | succ f ih =>
    intro j oc hj hf hx
    by_cases e : j = i
    · subst e
      refine br_t (nI_le (Nat.le_refl _) (by omega)) (nm_r (nI_1 j) ?_)
      rw [← hi, List.drop_length] at hx
      have : oc = lz_x pl dg o := hx
      rw [this]
      exact hJ
    · have hji : j < pl.length := by omega
      have k1 : (nI j).toNatClampNeg = j := nI_clamp (by omega)
      have k2 : (nI i).toNatClampNeg = i := nI_clamp (by omega)
      have m1 : m j = nI (pl.getD j 0) := by
        rw [hm j (by simp; omega), gd_l hji]
      have m2 : m i = nI dg := by
        have := hm i (by simp; omega)
        rw [← hi, gd_r] at this
        rw [← hi]; exact this
      have hp6 : pl.getD j 0 < 6 := hpk _ (gd_m hji)
      rw [gd_d hji] at hx
      simp only [lz_x] at hx
      refine br_f (nI_ge (by omega) (by omega)) ⟨vp_in_nI (by omega) (by omega), vp_in_nI (by omega) (by omega), ?_⟩
      rw [k1, k2, m1, m2]
      by_cases ed : dg < pl.getD j 0
      · rw [if_pos ed] at hx
        refine br_f (nI_ge ed (by omega)) ?_
        have hnext := ih (j + 1) (!oc) (by omega) (by omega) hx
        by_cases eo : ly_b oc = 0
        · refine br_t eo (nm_r (nI_1 j) ?_)
          rw [py_flip.1 eo]
          exact hnext
        · refine br_f eo (nm_r (nI_1 j) ?_)
          rw [py_flip.2 eo]
          exact hnext
      · rw [if_neg ed] at hx
        exact br_t (nI_le (by omega) (by omega)) (nm_r (nI_1 j) (ih (j + 1) oc (by omega) (by omega) hx))
theorem py_12 {n k : Nat} {s d sp tt : Int32} {a l t : Nat → Int32} {L : List Nat} {E : Nat → Nat → Int} {post : Int64 → SY → Prop}
    (hE : ey_E n s d (nI L.length) a l t sp tt E) (hL5 : L.length ≤ 5) (hL6 : ∀ x, x ∈ L → x < 6) (hA : ty_A t L) (hk1 : 1 ≤ k) (hk : k ≤ 5) (hkL : 0 < L.length → k = L.length) :
    ∀ fuel i R U o pl m, i ≤ L.length → L.length - i < fuel → R < 2 ^ 31 → U < 64 → pl.length = i → (∀ x, x ∈ pl → x < k) → (∀ x, x < 6 → (U.testBit x = true ↔ x ∈ pl)) → ty_A m pl →
      (∀ m, post (Int64.ofInt (lz_val (ty_e E L) (lz_go k (L.length - i) R pl o))) (nI n, s, d, nI L.length, a, l, t, m)) →
      wY_product_12 post (nI k) sp tt (nI n) s d (nI L.length) fuel (nI R) (nI U) (ly_b o) (nI i) a l t m := by
  intro fuel
  induction fuel with
  | zero => intro i R U o pl m _ h; omega
  | succ f ih =>
    intro i R U o pl m hi hf hR hU hpl hpk hUp hm hJ
    by_cases e : i = L.length
    · have hle : nI L.length ≤ nI i := by rw [e]; exact nI_le (Nat.le_refl _) (by omega)
      refine br_t hle ?_
      have hJ' := hJ m
      have e0 : L.length - i = 0 := by omega
      rw [e0] at hJ'
      have hpl' : pl.length = L.length := by omega
      have hpk' : ∀ x, x ∈ pl → x < L.length := by
        intro x hx
        have h1 := hpk x hx
        have h2 : 0 < pl.length := List.length_pos_of_mem hx
        have := hkL (by omega)
        omega
      have hfin : ∀ A, post (Int64.ofInt (lz_pr (ty_e E L) 0 pl A)) (nI n, s, d, nI L.length, a, l, t, m) → ∃ n145, wY_product_145 post sp tt (nI n) s d (nI L.length) a l t m n145 (Int64.ofInt A) (nI 0) := by
        intro A hA'
        exact ⟨L.length + 1, py_145 hE hL5 hL6 hA hpl' hpk' hm (L.length + 1) 0 A (by omega) (by omega) hA'⟩
      by_cases eo : o = true
      · subst eo
        refine br_f (by decide) ?_
        exact hfin (-1) hJ'
      · have eo' : o = false := by cases o <;> simp at eo ⊢
        subst eo'
        refine br_t rfl ?_
        exact hfin 1 hJ'
    · have hiL : i < L.length := by omega
      have hkk : k = L.length := hkL (by omega)
      have k1 : (nI i).toNatClampNeg = i := nI_clamp (by omega)
      have hdk : R % k < k := Nat.mod_lt R (by omega)
      have hb := mb_bit U hU (R % k) (by omega)
      have hk0 : ¬ nI k = 0 := nI_ne0 (by omega) (by omega)
      have hm' : ty_A (upd m i (nI (R % k))) (pl ++ [R % k]) := by
        intro j hj
        by_cases ej : j = i
        · subst ej
          rw [pk_us, ← hpl, gd_r]
        · have hj' : j < pl.length := by simp at hj; omega
          rw [pk_un ej, hm j hj', gd_l hj']
      refine br_f (nI_ge hiL (by omega)) (br_f (nI_ge (b := 6) (by omega) (by decide)) ?_)
      rw [pk_rem hR (by omega) (by omega), pk_div hR (by omega) (by omega), k1]
      refine ⟨hk0, vp_in_nI (by omega) (by omega), nm_e ⟨hk0, nm_e ⟨vp_in_nI (by omega) (by omega), ?_⟩⟩⟩
      rw [pk_us]
      have hgo : L.length - i = (L.length - (i + 1)) + 1 := by omega
      rw [hgo] at hJ
      simp only [lz_go] at hJ
      by_cases ec : U.testBit (R % k) = true
      · rw [if_pos ec] at hb
        have hc : pl.contains (R % k) = true := by
          rw [List.contains_iff_mem]
          exact (hUp _ (by omega)).mp ec
        rw [if_pos hc] at hJ
        exact br_t hb (hJ _)
      · rw [if_neg ec] at hb
        have hc : ¬ pl.contains (R % k) = true := by
          rw [List.contains_iff_mem]
          exact fun h => ec ((hUp _ (by omega)).mpr h)
        rw [if_neg hc] at hJ
        refine br_f (fun h => by rw [hb] at h; exact absurd h (by decide)) ⟨vp_in_nI (by omega) (by omega), ?_⟩
        refine nm_r (show nI U ||| ((1 : Int32) <<< (nI (R % k) &&& 31)) = nI (U ||| 2 ^ (R % k)) by rw [mb_1 _ (by omega), mb_or]) ⟨i + 1, ?_⟩
        refine py_80 hpl (by omega) (fun x hx => by have := hpk x hx; omega) (by omega) hm' ?_ (i + 1) 0 o (by omega) (by omega) rfl
        refine ih (i + 1) (R / k) (U ||| 2 ^ (R % k)) _ (pl ++ [R % k]) _ (by omega) (by omega) ?_ ?_ (by simp [hpl]) ?_ ?_ hm' hJ
        · have := Nat.div_le_self R k; omega
        · have := mb_orlt U hU (R % k) (by omega) (R % k) (by omega)
          rw [Nat.or_self] at this
          exact this
        · intro x hx
          simp only [List.mem_append, List.mem_singleton] at hx
          rcases hx with hx | hx
          · exact hpk x hx
          · rw [hx]; exact hdk
        · intro x hx
          rw [Nat.testBit_or, Bool.or_eq_true, mb_two, hUp x hx]
          simp
theorem py_product {n k c : Nat} {s d sp tt : Int32} {a l t m : Nat → Int32} {L : List Nat} {E : Nat → Nat → Int} {post : Int64 → SY → Prop}
    (hE : ey_E n s d (nI L.length) a l t sp tt E) (hL5 : L.length ≤ 5) (hL6 : ∀ x, x ∈ L → x < 6) (hA : ty_A t L) (hk1 : 1 ≤ k) (hk : k ≤ 5) (hkL : 0 < L.length → k = L.length) (hc : c < 2 ^ 31)
    (hJ : ∀ m, post (Int64.ofInt (lz_val (ty_e E L) (lz_go k L.length c [] false))) (nI n, s, d, nI L.length, a, l, t, m)) : wpY_product post (nI n, s, d, nI L.length, a, l, t, m) (nI c) (nI k) sp tt :=
  ⟨L.length + 1, py_12 hE hL5 hL6 hA hk1 hk hkL (L.length + 1) 0 c 0 false [] m (by omega) (by omega) hc (by decide) rfl (fun x h => by simp at h) (fun x _ => by simp) (fun i h => by simp at h) hJ⟩
theorem dy_tot (E : Nat → Nat → Int) : (L : List Nat) → L.length ≤ 5 → lz_sum (fun c => lz_val (ty_e E L) (lz_go (lz_k L.length) L.length c [] false)) ((lz_k L.length) ^ L.length) = nd_D E L
  | [], _ => lz_d0 _
  | [p], _ => lz_d1 (ty_e E [p])
  | [p, q], _ => lz_d2 (ty_e E [p, q])
  | [p, q, r], _ => lz_d3 (ty_e E [p, q, r])
  | [p, q, r, s], _ => lz_d4 (ty_e E [p, q, r, s])
  | [p, q, r, s, t], _ => lz_d5 (ty_e E [p, q, r, s, t])
  | _ :: _ :: _ :: _ :: _ :: _ :: _, h => by simp at h
theorem dy_50 {n k e : Nat} {s d sp tt : Int32} {a l t : Nat → Int32} {L : List Nat} {E : Nat → Nat → Int} {post : Int64 → SY → Prop}
    (hE : ey_E n s d (nI L.length) a l t sp tt E) (hL5 : L.length ≤ 5) (hL6 : ∀ x, x ∈ L → x < 6) (hA : ty_A t L) (hk1 : 1 ≤ k) (hk : k ≤ 5) (hkL : 0 < L.length → k = L.length) (he : e ≤ 3125)
    (hJ : ∀ m, post (Int64.ofInt (lz_sum (fun c => lz_val (ty_e E L) (lz_go k L.length c [] false)) e)) (nI n, s, d, nI L.length, a, l, t, m)) :
    ∀ fuel c m, c ≤ e → e - c < fuel → wY_determinant_50 post sp tt (nI k) (nI e) fuel (Int64.ofInt (lz_sum (fun c => lz_val (ty_e E L) (lz_go k L.length c [] false)) c)) (nI c) (nI n) s d (nI L.length) a l t m := by
  intro fuel
  induction fuel with
  | zero => intro c m _ h; omega
  | succ f ih =>
    intro c m hc hf
    by_cases ee : c = e
    · subst ee
      exact br_t (nI_le (Nat.le_refl _) (by omega)) (hJ m)
    · refine br_f (nI_ge (by omega) (by omega)) ?_
      refine py_product hE hL5 hL6 hA hk1 hk hkL (by omega) (fun m' => ?_)
      exact nm_r (Int64.ofInt_add _ _).symm (nm_r (nI_1 c) (ih (c + 1) m' (by omega) (by omega)))
theorem dy_pw : ∀ S, S < 6 → ∀ i, i ≤ S → (lz_k S) ^ i ≤ 3125 := by
  intro S hS i hi
  have h : ∀ S, S < 6 → ∀ i, i < 6 → i ≤ S → (lz_k S) ^ i ≤ 3125 := by decide +kernel
  exact h S hS i (by omega) hi
theorem dy_23 {n : Nat} {s d sp tt : Int32} {a l t m : Nat → Int32} {L : List Nat} {E : Nat → Nat → Int} {post : Int64 → SY → Prop}
    (hE : ey_E n s d (nI L.length) a l t sp tt E) (hL5 : L.length ≤ 5) (hL6 : ∀ x, x ∈ L → x < 6) (hA : ty_A t L)
    (hJ : ∀ m, post (Int64.ofInt (nd_D E L)) (nI n, s, d, nI L.length, a, l, t, m)) :
    ∀ fuel i, i ≤ L.length → L.length - i < fuel → wY_determinant_23 post sp tt (nI (lz_k L.length)) (nI n) s d (nI L.length) a l t m fuel (nI ((lz_k L.length) ^ i)) (nI i) := by
  have hk1 : 1 ≤ lz_k L.length := by unfold lz_k; split <;> omega
  have hk5 : lz_k L.length ≤ 5 := by unfold lz_k; split <;> omega
  have hkL : 0 < L.length → lz_k L.length = L.length := by intro h; unfold lz_k; split <;> omega
  intro fuel
  induction fuel with
  | zero => intro i _ h; omega
  | succ f ih =>
    intro i hi hf
    by_cases ee : i = L.length
    · have hle : nI L.length ≤ nI i := by rw [ee]; exact nI_le (Nat.le_refl _) (by omega)
      refine br_t hle ⟨(lz_k L.length) ^ i + 1, ?_⟩
      have h := dy_50 (e := (lz_k L.length) ^ i) hE hL5 hL6 hA hk1 hk5 hkL (dy_pw _ (by omega) i (by omega)) (by rw [ee, dy_tot E L hL5]; exact hJ) ((lz_k L.length) ^ i + 1) 0 m (by omega) (by omega)
      exact h
    · refine br_f (nI_ge (by omega) (by omega)) (nm_r ?_ (nm_r (nI_1 i) (ih (i + 1) (by omega) (by omega))))
      rw [pk_mul, Nat.pow_succ]
theorem dy_det {n : Nat} {s d sp tt : Int32} {a l t m : Nat → Int32} {L : List Nat} {E : Nat → Nat → Int} {post : Int64 → SY → Prop}
    (hE : ey_E n s d (nI L.length) a l t sp tt E) (hL5 : L.length ≤ 5) (hL6 : ∀ x, x ∈ L → x < 6) (hA : ty_A t L)
    (hJ : ∀ m, post (Int64.ofInt (nd_D E L)) (nI n, s, d, nI L.length, a, l, t, m)) : wpY_determinant post (nI n, s, d, nI L.length, a, l, t, m) sp tt := by
  have h := dy_23 (m := m) hE hL5 hL6 hA hJ (L.length + 1) 0 (by omega) (by omega)
  by_cases e : 1 ≤ L.length
  · refine br_t (nI_le (a := 1) e (by omega)) ⟨L.length + 1, ?_⟩
    have hk : lz_k L.length = L.length := by unfold lz_k; split <;> omega
    rw [hk] at h
    exact h
  · refine br_f (nI_ge (b := 1) (by omega) (by decide)) ⟨L.length + 1, ?_⟩
    have hk : lz_k L.length = 1 := by unfold lz_k; split <;> omega
    rw [hk] at h
    exact h
