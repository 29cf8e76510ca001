/-- the same network on both sides -/
def i_Rel (_ : Nat) (u : SX) (v : SY) : Prop := ∃ (n sn dn : Nat) (a : Nat → Int32) (M : Nat → Int64) (z : Int32) (l t m : Nat → Int32), u = (nI n, nI sn, nI dn, a, M) ∧ v = (nI n, nI sn, nI dn, z, a, l, t, m) ∧ cw_O n a ∧ sn < n ∧ dn < n ∧ ¬ sn = dn
theorem rl_mk {k n sn dn : Nat} {a : Nat → Int32} {M : Nat → Int64} {z : Int32} {l t m : Nat → Int32} (hO : cw_O n a) (hs : sn < n) (hd : dn < n) (hsd : ¬ sn = dn) : i_Rel k (nI n, nI sn, nI dn, a, M) (nI n, nI sn, nI dn, z, a, l, t, m) :=
  ⟨n, sn, dn, a, M, z, l, t, m, rfl, rfl, hO, hs, hd, hsd⟩
theorem i_up {k : Nat} {u : SX} {v : SY} (h : i_Rel k u v) : i_Rel (k + 4) u v := h
theorem rl_O {n : Nat} (h2 : 2 ≤ n) (h6 : n ≤ 6) : cw_O n (fun _ => 0) :=
  ⟨h2, h6, fun _ _ _ _ => ⟨⟨0, by omega, rfl⟩, rfl, fun _ => rfl, fun _ => rfl⟩⟩
theorem rl_ini {n : Nat} (h2 : 2 ≤ n) (h6 : n ≤ 6) : i_Rel 1 (nI n, 0, 1, (fun _ => 0), (fun _ => 0)) (nI n, 0, 1, 0, (fun _ => 0), (fun _ => 0), (fun _ => 0), (fun _ => 0)) :=
  rl_mk (sn := 0) (dn := 1) (rl_O h2 h6) (by omega) (by omega) (by omega)
theorem i_vc0 (k0 : Int32) : wpX_init (fun u => wpY_init (fun v => i_Rel 1 u v) k0) k0 := by
  by_cases h2 : 2 ≤ k0
  · refine br_t h2 ?_
    by_cases h6 : k0 ≤ 6
    · refine br_t h6 (br_t h2 (br_t h6 ?_))
      have h0 : ¬ k0 < 0 := by
        intro h
        have := Int32.lt_of_lt_of_le h (Int32.le_trans (by decide) h2)
        exact Int32.lt_irrefl this
      obtain ⟨j, hj, e⟩ := nI_of2 (M := 6) (n := 6) (by decide) h0 h6
      subst e
      have hj2 : 2 ≤ j := by
        have : nI 2 ≤ nI j := h2
        rwa [nI_leI (by decide) (by omega)] at this
      exact rl_ini hj2 hj
    · exact br_f h6 (br_t h2 (br_f h6 (rl_ini (n := 6) (by omega) (by omega))))
  · exact br_f h2 (br_f h2 (rl_ini (n := 2) (by omega) (by omega)))
theorem i_vc_points {k : Nat} {u : SX} {v : SY} (I : i_Rel k u v) (hk : k + 4 ≤ 2049) : wpX_points (fun r => wpY_points (fun r' => r' = r ∧ i_Rel (k + 4) u v) v) u := by
  have J : i_Rel (k + 4) u v := I
  obtain ⟨n, sn, dn, a, M, z, l, t, m, rfl, rfl, hO, hs, hd, hsd⟩ := I
  exact ⟨rfl, J⟩
/-- a point, or not -/
theorem rl_pt (x : Int32) {n : Nat} (h6 : n ≤ 6) : (x < 0 ∨ nI n ≤ x) ∨ ∃ j : Nat, j < n ∧ x = nI j := by
  rcases pk_ix x (n := n) (by omega) with h | h | h
  · exact Or.inl (Or.inl h)
  · exact Or.inl (Or.inr h)
  · exact Or.inr h
theorem rl_val (x : Int32) : x < 0 ∨ (¬ x < 0 ∧ 9 < x ∧ ¬ x ≤ 9) ∨ ∃ j : Nat, j ≤ 9 ∧ x = nI j ∧ ¬ x < 0 ∧ ¬ 9 < x ∧ x ≤ 9 := by
  by_cases h0 : x < 0
  · exact Or.inl h0
  · by_cases h9 : 9 < x
    · exact Or.inr (Or.inl ⟨h0, h9, Int32.not_le.mpr h9⟩)
    · have h9' : x ≤ 9 := Int32.not_lt.mp h9
      obtain ⟨j, hj, e⟩ := nI_of2 (M := 9) (n := 9) (by decide) h0 h9'
      exact Or.inr (Or.inr ⟨j, hj, e, h0, h9, h9'⟩)
theorem rl_setX {n p q : Nat} {s d v : Int32} {a : Nat → Int32} {M : Nat → Int64} {post : SX → Prop} (h6 : n ≤ 6) (hp : p < n) (hq : q < n) (hJ : post (nI n, s, d, cw_put a p q v, M)) : wpX_setPair post (nI n, s, d, a, M) (nI p) (nI q) v := by
  have k1 : (nI (6 * p + q)).toNatClampNeg = 6 * p + q := nI_clamp (by omega)
  have k2 : (nI (6 * q + p)).toNatClampNeg = 6 * q + p := nI_clamp (by omega)
  unfold wpX_setPair
  dsimp only
  rw [gx_c p q, gx_c q p, k1, k2]
  exact ⟨vp_in_nI (by omega) (by omega), nm_e ⟨vp_in_nI (by omega) (by omega), nm_e hJ⟩⟩
theorem rl_setY {n p q : Nat} {s d z v : Int32} {a l t m : Nat → Int32} {post : SY → Prop} (h6 : n ≤ 6) (hp : p < n) (hq : q < n) (hJ : post (nI n, s, d, z, cw_put a p q v, l, t, m)) : wpY_put post (nI n, s, d, z, a, l, t, m) (nI p) (nI q) v := by
  have k1 : (nI (6 * p + q)).toNatClampNeg = 6 * p + q := nI_clamp (by omega)
  have k2 : (nI (6 * q + p)).toNatClampNeg = 6 * q + p := nI_clamp (by omega)
  unfold wpY_put
  dsimp only
  rw [gy_c p q, gy_c q p, k1, k2]
  exact ⟨vp_in_nI (by omega) (by omega), nm_e ⟨vp_in_nI (by omega) (by omega), nm_e hJ⟩⟩
theorem rl_ne {n p q : Nat} (h6 : n ≤ 6) (hp : p < n) (hq : q < n) (h : ¬ p = q) : ¬ nI p = nI q := by
  rw [nI_eq (by omega) (by omega)]; exact h
theorem rl_isV0 {x : Int32} {post : Int32 → Prop} (h : x < 0 ∨ (¬ x < 0 ∧ 9 < x ∧ ¬ x ≤ 9)) (hJ : post 0) : wpX_isValue post x := by
  rcases h with h | h
  · exact br_t h hJ
  · exact br_f h.1 (br_t h.2.1 hJ)
theorem i_vc_join {k : Nat} {u : SX} {v : SY} (I : i_Rel k u v) (hk : k + 4 ≤ 2049) (v1 : Int32) (v2 : Int32) (v3 : Int32) : wpX_join (fun r u' => wpY_join (fun r' v' => r' = r ∧ i_Rel (k + 4) u' v') v v1 v2 v3) u v1 v2 v3 := by
  have J : i_Rel (k + 4) u v := I
  obtain ⟨n, sn, dn, a, M, z, l, t, m, rfl, rfl, hO, hs, hd, hsd⟩ := I
  have h6 := hO.2.1
  unfold wpX_join wpY_join
  dsimp only
  rcases rl_pt v1 h6 with hb | ⟨p, hp, rfl⟩
  · exact gx_good0 hb (br_t rfl (gy_bad1 hb (br_f (by decide) ⟨rfl, J⟩)))
  refine gx_good1 h6 hp (br_f (by decide) ?_)
  rcases rl_pt v2 h6 with hb | ⟨q, hq, rfl⟩
  · exact gx_good0 hb (br_t rfl (gy_bad0 h6 hp (br_t rfl (gy_bad1 hb (br_f (by decide) ⟨rfl, J⟩)))))
  refine gx_good1 h6 hq (br_f (by decide) ?_)
  by_cases e : p = q
  · subst e
    exact br_t rfl (gy_bad0 h6 hp (br_t rfl (gy_bad0 h6 hp (br_t rfl (br_t rfl ⟨rfl, J⟩)))))
  have e' := rl_ne h6 hp hq e
  refine br_f e' ?_
  have k1 : (nI (6 * p + q)).toNatClampNeg = 6 * p + q := nI_clamp (by omega)
  rcases rl_val v3 with hv | hv | ⟨j, hj, rfl, hv0, hv9, hv9'⟩
  · exact rl_isV0 (Or.inl hv) (br_t rfl (gy_bad0 h6 hp (br_t rfl (gy_bad0 h6 hq (br_t rfl (br_f e' (br_t hv ⟨rfl, J⟩)))))))
  · exact rl_isV0 (Or.inr hv) (br_t rfl (gy_bad0 h6 hp (br_t rfl (gy_bad0 h6 hq (br_t rfl (br_f e' (br_f hv.1 (br_f hv.2.2 ⟨rfl, J⟩))))))))
  refine br_f hv0 (br_f hv9 (br_f (by decide) ?_))
  rw [gx_c p q, k1]
  refine ⟨vp_in_nI (by omega) (by omega), nm_e (rl_setX h6 hp hq ?_)⟩
  refine gy_bad0 h6 hp (br_t rfl (gy_bad0 h6 hq (br_t rfl (br_f e' (br_f hv0 (br_t hv9' ?_))))))
  rw [gy_c p q, k1]
  exact ⟨vp_in_nI (by omega) (by omega), nm_e (rl_setY h6 hp hq ⟨rfl, rl_mk (cw_putO hO hp hq e hj) hs hd hsd⟩)⟩
/-- the chain's array after i links -/
def rl_ch (n p v : Nat) (a : Nat → Int32) : Nat → Nat → Int32
  | 0 => a
  | i + 1 => cw_put (rl_ch n p v a i) ((p + i) % n) ((p + i + 1) % n) (nI v)
theorem rl_mod {n x : Nat} (h2 : 2 ≤ n) (h6 : n ≤ 6) : x % n < n ∧ (x + 1) % n < n ∧ ¬ x % n = (x + 1) % n := by
  have : n = 2 ∨ n = 3 ∨ n = 4 ∨ n = 5 ∨ n = 6 := by omega
  rcases this with e | e | e | e | e <;> subst e <;> omega
theorem rl_chO {n p v : Nat} {a : Nat → Int32} (hO : cw_O n a) (hv : v ≤ 9) : ∀ i, cw_O n (rl_ch n p v a i)
  | 0 => hO
  | i + 1 => by
    have h := rl_mod (x := p + i) hO.1 hO.2.1
    exact cw_putO (rl_chO hO hv i) h.1 h.2.1 h.2.2 hv
theorem rl_chX {n p v c : Nat} {s d : Int32} {a : Nat → Int32} {M : Nat → Int64} {post : Int32 → SX → Prop} (hO : cw_O n a) (hp : p < n) (hc : c ≤ 6) (hJ : post 0 (nI n, s, d, rl_ch n p v a c, M)) :
    ∀ fuel i, i ≤ c → c - i < fuel → wX_chain_37 post (nI p) (nI c) (nI v) fuel (nI i) (nI n) s d (rl_ch n p v a i) M := by
  have h2 := hO.1
  have h6 := hO.2.1
  intro fuel
  induction fuel with
  | zero => intro i _ h; omega
  | succ f ih =>
    intro i hi hf
    by_cases e : i = c
    · subst e
      exact br_t (nI_le (Nat.le_refl _) (by omega)) hJ
    · have hn0 : ¬ nI n = 0 := nI_ne0 (by omega) (by omega)
      have h := rl_mod (x := p + i) h2 h6
      have r1 : (nI p + nI i) - (nI p + nI i) / nI n * nI n = nI ((p + i) % n) := by
        rw [nI_add]; exact pk_rem (by omega) (by omega) (by omega)
      have r2 : ((nI p + nI i) + 1) - ((nI p + nI i) + 1) / nI n * nI n = nI ((p + i + 1) % n) := by
        rw [nI_add, nI_1]; exact pk_rem (by omega) (by omega) (by omega)
      refine br_f (nI_ge (by omega) (by omega)) ⟨hn0, nm_r r1 ⟨hn0, nm_r r2 ?_⟩⟩
      refine rl_setX h6 h.1 h.2.1 ?_
      exact nm_r (nI_1 i) (ih (i + 1) (by omega) (by omega))
theorem rl_chY {n p v c : Nat} {s d z : Int32} {a l t m : Nat → Int32} {post : Int32 → SY → Prop} (hO : cw_O n a) (hp : p < n) (hc : c ≤ 6) (hJ : post 0 (nI n, s, d, z, rl_ch n p v a c, l, t, m)) :
    ∀ fuel i, i ≤ c → c - i < fuel → wY_chain_40 post (nI p) (nI c) (nI v) fuel (nI i) (nI n) s d z (rl_ch n p v a i) l t m := by
  have h2 := hO.1
  have h6 := hO.2.1
  intro fuel
  induction fuel with
  | zero => intro i _ h; omega
  | succ f ih =>
    intro i hi hf
    by_cases e : i = c
    · subst e
      exact br_t (nI_le (Nat.le_refl _) (by omega)) hJ
    · have hn0 : ¬ nI n = 0 := nI_ne0 (by omega) (by omega)
      have hn1 : (1 : Int32) ≤ nI n := nI_le (a := 1) (by omega) (by omega)
      have h := rl_mod (x := p + i) h2 h6
      have r1 : (nI p + nI i) - (nI p + nI i) / nI n * nI n = nI ((p + i) % n) := by
        rw [nI_add]; exact pk_rem (by omega) (by omega) (by omega)
      have r2 : ((nI p + nI i) + 1) - ((nI p + nI i) + 1) / nI n * nI n = nI ((p + i + 1) % n) := by
        rw [nI_add, nI_1]; exact pk_rem (by omega) (by omega) (by omega)
      refine br_f (nI_ge (by omega) (by omega)) (br_t hn1 ⟨hn0, ?_⟩)
      rw [r1]
      refine br_t hn1 ⟨hn0, ?_⟩
      rw [r2]
      refine br_f (rl_ne h6 h.1 h.2.1 h.2.2) ?_
      refine rl_setY h6 h.1 h.2.1 ?_
      exact nm_r (nI_1 i) (ih (i + 1) (by omega) (by omega))
theorem i_vc_chain {k : Nat} {u : SX} {v : SY} (I : i_Rel k u v) (hk : k + 4 ≤ 2049) (v1 : Int32) (v2 : Int32) (v3 : Int32) : wpX_chain (fun r u' => wpY_chain (fun r' v' => r' = r ∧ i_Rel (k + 4) u' v') v v1 v2 v3) u v1 v2 v3 := by
  have J : i_Rel (k + 4) u v := I
  obtain ⟨n, sn, dn, a, M, z, l, t, m, rfl, rfl, hO, hs, hd, hsd⟩ := I
  have h6 := hO.2.1
  unfold wpX_chain wpY_chain
  dsimp only
  rcases rl_pt v1 h6 with hb | ⟨p, hp, rfl⟩
  · exact gx_good0 hb (br_t rfl (gy_bad1 hb (br_f (by decide) ⟨rfl, J⟩)))
  refine gx_good1 h6 hp (br_f (by decide) ?_)
  by_cases h1 : v2 < 1
  · exact br_t h1 (gy_bad0 h6 hp (br_t rfl (br_t h1 ⟨rfl, J⟩)))
  refine br_f h1 ?_
  by_cases hc6 : v2 ≤ 6
  · refine br_t hc6 ?_
    have h0 : ¬ v2 < 0 := by
      intro h
      have h1' : (1 : Int32) ≤ v2 := Int32.not_lt.mp h1
      have := Int32.lt_of_lt_of_le h (Int32.le_trans (by decide) h1')
      exact Int32.lt_irrefl this
    obtain ⟨c, hc, e⟩ := nI_of2 (M := 6) (n := 6) (by decide) h0 hc6
    subst e
    rcases rl_val v3 with hv | hv | ⟨j, hj, rfl, hv0, hv9, hv9'⟩
    · exact rl_isV0 (Or.inl hv) (br_t rfl (gy_bad0 h6 hp (br_t rfl (br_f h1 (br_t hc6 (br_t hv ⟨rfl, J⟩))))))
    · exact rl_isV0 (Or.inr hv) (br_t rfl (gy_bad0 h6 hp (br_t rfl (br_f h1 (br_t hc6 (br_f hv.1 (br_f hv.2.2 ⟨rfl, J⟩)))))))
    refine br_f hv0 (br_f hv9 (br_f (by decide) ⟨c + 1, ?_⟩))
    refine rl_chX hO hp hc ?_ (c + 1) 0 (by omega) (by omega)
    refine gy_bad0 h6 hp (br_t rfl (br_f h1 (br_t hc6 (br_f hv0 (br_t hv9' ⟨c + 1, ?_⟩)))))
    exact rl_chY hO hp hc ⟨rfl, rl_mk (rl_chO hO hj c) hs hd hsd⟩ (c + 1) 0 (by omega) (by omega)
  · exact br_f hc6 (gy_bad0 h6 hp (br_t rfl (br_f h1 (br_f hc6 ⟨rfl, J⟩))))
theorem i_vc_probe {k : Nat} {u : SX} {v : SY} (I : i_Rel k u v) (hk : k + 4 ≤ 2049) (v1 : Int32) (v2 : Int32) : wpX_probe (fun r u' => wpY_probe (fun r' v' => r' = r ∧ i_Rel (k + 4) u' v') v v1 v2) u v1 v2 := by
  have J : i_Rel (k + 4) u v := I
  obtain ⟨n, sn, dn, a, M, z, l, t, m, rfl, rfl, hO, hs, hd, hsd⟩ := I
  have h6 := hO.2.1
  unfold wpX_probe wpY_probe
  dsimp only
  rcases rl_pt v1 h6 with hb | ⟨p, hp, rfl⟩
  · exact gx_good0 hb (br_t rfl (gy_bad1 hb (br_f (by decide) ⟨rfl, J⟩)))
  refine gx_good1 h6 hp (br_f (by decide) ?_)
  rcases rl_pt v2 h6 with hb | ⟨q, hq, rfl⟩
  · exact gx_good0 hb (br_t rfl (gy_bad0 h6 hp (br_t rfl (gy_bad1 hb (br_f (by decide) ⟨rfl, J⟩)))))
  refine gx_good1 h6 hq (br_f (by decide) ?_)
  by_cases e : p = q
  · subst e
    exact br_t rfl (gy_bad0 h6 hp (br_t rfl (gy_bad0 h6 hp (br_t rfl (br_t rfl ⟨rfl, J⟩)))))
  have e' := rl_ne h6 hp hq e
  exact br_f e' (gy_bad0 h6 hp (br_t rfl (gy_bad0 h6 hq (br_t rfl (br_f e' ⟨rfl, rl_mk hO hp hq e⟩)))))
theorem i_vc_conductance {k : Nat} {u : SX} {v : SY} (I : i_Rel k u v) (hk : k + 4 ≤ 2049) (v1 : Int32) (v2 : Int32) : wpX_conductance (fun r => wpY_conductance (fun r' => r' = r ∧ i_Rel (k + 4) u v) v v1 v2) u v1 v2 := by
  have J : i_Rel (k + 4) u v := I
  obtain ⟨n, sn, dn, a, M, z, l, t, m, rfl, rfl, hO, hs, hd, hsd⟩ := I
  have h6 := hO.2.1
  unfold wpX_conductance wpY_conductance
  dsimp only
  rcases rl_pt v1 h6 with hb | ⟨p, hp, rfl⟩
  · exact gx_good0 hb (br_t rfl (gy_bad1 hb (br_f (by decide) ⟨rfl, J⟩)))
  refine gx_good1 h6 hp (br_f (by decide) ?_)
  rcases rl_pt v2 h6 with hb | ⟨q, hq, rfl⟩
  · exact gx_good0 hb (br_t rfl (gy_bad0 h6 hp (br_t rfl (gy_bad1 hb (br_f (by decide) ⟨rfl, J⟩)))))
  refine gx_good1 h6 hq (br_f (by decide) ?_)
  have k1 : (nI (6 * p + q)).toNatClampNeg = 6 * p + q := nI_clamp (by omega)
  rw [gx_c p q, k1]
  refine ⟨vp_in_nI (by omega) (by omega), ?_⟩
  refine gy_bad0 h6 hp (br_t rfl (gy_bad0 h6 hq (br_t rfl ?_)))
  rw [gy_c p q, k1]
  exact ⟨vp_in_nI (by omega) (by omega), rfl, J⟩
theorem i_vc_joined {k : Nat} {u : SX} {v : SY} (I : i_Rel k u v) (hk : k + 4 ≤ 2049) (v1 : Int32) (v2 : Int32) : wpX_joined (fun r => wpY_joined (fun r' v' => r' = r ∧ i_Rel (k + 4) u v') v v1 v2) u v1 v2 := by
  have J : i_Rel (k + 4) u v := I
  obtain ⟨n, sn, dn, a, M, z, l, t, m, rfl, rfl, hO, hs, hd, hsd⟩ := I
  have h6 := hO.2.1
  unfold wpX_joined wpY_joined
  dsimp only
  rcases rl_pt v1 h6 with hb | ⟨p, hp, rfl⟩
  · exact gx_good0 hb (br_t rfl (gy_bad1 hb (br_f (by decide) ⟨rfl, J⟩)))
  refine gx_good1 h6 hp (br_f (by decide) ?_)
  rcases rl_pt v2 h6 with hb | ⟨q, hq, rfl⟩
  · exact gx_good0 hb (br_t rfl (gy_bad0 h6 hp (br_t rfl (gy_bad1 hb (br_f (by decide) ⟨rfl, J⟩)))))
  refine gx_good1 h6 hq (br_f (by decide) ?_)
  have k1 : (nI p).toNatClampNeg = p := nI_clamp (by omega)
  have k2 : (nI q).toNatClampNeg = q := nI_clamp (by omega)
  refine gx_areJoined hO hp hq (fun hj => ?_) (fun hj => ?_)
  · refine br_f (by decide) (gy_bad0 h6 hp (br_t rfl (gy_bad0 h6 hq (br_t rfl (ly_group hO (fun l' hF => ?_))))))
    dsimp only
    rw [k1, k2]
    exact ⟨vp_in_nI (by omega) (by omega), vp_in_nI (by omega) (by omega), br_t ((ly_eq hO hF hp hq).mpr hj) ⟨rfl, rl_mk hO hs hd hsd⟩⟩
  · refine br_t rfl (gy_bad0 h6 hp (br_t rfl (gy_bad0 h6 hq (br_t rfl (ly_group hO (fun l' hF => ?_))))))
    dsimp only
    rw [k1, k2]
    exact ⟨vp_in_nI (by omega) (by omega), vp_in_nI (by omega) (by omega), br_f (fun h => hj ((ly_eq hO hF hp hq).mp h)) ⟨rfl, rl_mk hO hs hd hsd⟩⟩
theorem rl_parts {n : Nat} {s d : Int32} {a : Nat → Int32} {M : Nat → Int64} {post : Int32 → Prop} (hO : cw_O n a) (hJ : post (nI (lc_L n (lk_l (cw_w a))).length)) :
    ∀ fuel p, p ≤ n → n - p < fuel → wX_parts_4 post (nI n) s d a M fuel (nI (lc_L p (lk_l (cw_w a))).length) (nI p) := by
  have h6 := hO.2.1
  have hw := cw_W hO
  intro fuel
  induction fuel with
  | zero => intro p _ h; omega
  | succ f ih =>
    intro p hp hf
    by_cases e : p = n
    · subst e
      exact br_t (nI_le (Nat.le_refl _) (by omega)) hJ
    · have hpn : p < n := by omega
      have hlow : ((1 : Int32) <<< (nI p &&& 31)) - 1 = nI (2 ^ p - 1) := by rw [mb_1 p (by omega), mb_m p (by omega)]
      have hs := lk_sl p (lk_l (cw_w a))
      have hi := ih (p + 1) (by omega) (by omega)
      refine br_f (nI_ge hpn (by omega)) (nm_r hlow (gx_group hO hpn (fun G hG hGq => ?_)))
      have hb := mb_low G hG p (by omega)
      have hiff : (∀ q, q < p → G.testBit q = false) ↔ lk_l (cw_w a) p = true := by
        rw [lk_lt']
        constructor
        · intro h q hq
          apply Nat.le_of_not_lt
          intro hlt
          have := h q hlt
          rw [(hGq q).mpr hq] at this
          exact absurd this (by decide)
        · intro h q hq
          cases hc : G.testBit q
          · rfl
          · have := h q ((hGq q).mp hc)
            omega
      by_cases el : lk_l (cw_w a) p = true
      · rw [if_pos el] at hs
        rw [hs] at hi
        exact br_t (hb.mpr (hiff.mpr el)) (nm_r (nI_1 _) (nm_r (nI_1 p) hi))
      · rw [if_neg el, Nat.add_zero] at hs
        rw [hs] at hi
        exact br_f (fun h => el (hiff.mp (hb.mp h))) (nm_r (nI_1 p) hi)
theorem i_vc_parts {k : Nat} {u : SX} {v : SY} (I : i_Rel k u v) (hk : k + 4 ≤ 2049) : wpX_parts (fun r => wpY_parts (fun r' v' => r' = r ∧ i_Rel (k + 4) u v') v) u := by
  obtain ⟨n, sn, dn, a, M, z, l, t, m, rfl, rfl, hO, hs, hd, hsd⟩ := I
  refine ⟨n + 1, rl_parts hO ?_ (n + 1) 0 (by omega) (by omega)⟩
  unfold wpY_parts
  dsimp only
  exact ly_groups hO (fun l' _ => ⟨rfl, rl_mk hO hs hd hsd⟩)
