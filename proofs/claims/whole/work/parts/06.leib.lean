def lz_x : List Nat → Nat → Bool → Bool
  | [], _, o => o
  | x :: l, d, o => lz_x l d (if d < x then !o else o)
def lz_go (k : Nat) : Nat → Nat → List Nat → Bool → Option (Bool × List Nat)
  | 0, _, l, o => some (o, l)
  | f + 1, rest, l, o => if l.contains (rest % k) = true then none else lz_go k f (rest / k) (l ++ [rest % k]) (lz_x l (rest % k) o)
def lz_k (s : Nat) : Nat := if s < 1 then 1 else s
def lz_pr (e : Nat → Nat → Int) : Nat → List Nat → Int → Int
  | _, [], a => a
  | i, x :: l, a => lz_pr e (i + 1) l (a * e i x)
def lz_val (e : Nat → Nat → Int) : Option (Bool × List Nat) → Int
  | none => 0
  | some t => lz_pr e 0 t.2 (if t.1 = true then -1 else 1)
def lz_sum (f : Nat → Int) : Nat → Int
  | 0 => 0
  | n + 1 => lz_sum f n + f n
def lz_ls (e : Nat → Nat → Int) : List (Bool × List Nat) → Int
  | [] => 0
  | t :: l => lz_pr e 0 t.2 (if t.1 = true then -1 else 1) + lz_ls e l
theorem lz_lsa (e : Nat → Nat → Int) : ∀ l k : List (Bool × List Nat), lz_ls e (l ++ k) = lz_ls e l + lz_ls e k
  | [], k => by simp [lz_ls]
  | t :: l, k => by
    have := lz_lsa e l k
    simp only [List.cons_append, lz_ls, this]; omega
theorem lz_fm (e : Nat → Nat → Int) (d : Nat → Option (Bool × List Nat)) : ∀ n, lz_sum (fun c => lz_val e (d c)) n = lz_ls e ((List.range n).filterMap d)
  | 0 => rfl
  | n + 1 => by
    rw [List.range_succ, List.filterMap_append, lz_lsa, ← lz_fm e d n]
    cases h : d n <;> simp [lz_sum, lz_val, lz_ls, h]
theorem lz_t0 : (List.range 1).filterMap (fun c => lz_go 1 0 c [] false) = [(false, [])] := by decide +kernel
theorem lz_d0 (e : Nat → Nat → Int) : lz_sum (fun c => lz_val e (lz_go 1 0 c [] false)) 1 = 1 := by
  rw [lz_fm, lz_t0]
  simp only [lz_ls, lz_pr, if_true, if_false, Bool.false_eq_true, reduceIte, Nat.zero_add, Nat.reduceAdd]
  try grind
theorem lz_t1 : (List.range 1).filterMap (fun c => lz_go 1 1 c [] false) = [(false, [0])] := by decide +kernel
theorem lz_d1 (e : Nat → Nat → Int) : lz_sum (fun c => lz_val e (lz_go 1 1 c [] false)) 1 = e 0 0 := by
  rw [lz_fm, lz_t1]
  simp only [lz_ls, lz_pr, if_true, if_false, Bool.false_eq_true, reduceIte, Nat.zero_add, Nat.reduceAdd]
  try grind
theorem lz_t2 : (List.range 4).filterMap (fun c => lz_go 2 2 c [] false) = [(true, [1, 0]), (false, [0, 1])] := by decide +kernel
theorem lz_d2 (e : Nat → Nat → Int) : lz_sum (fun c => lz_val e (lz_go 2 2 c [] false)) 4 = nd_2 (e 0 0) (e 0 1) (e 1 0) (e 1 1) := by
  rw [lz_fm, lz_t2]
  simp only [lz_ls, lz_pr, if_true, if_false, Bool.false_eq_true, reduceIte, Nat.zero_add, Nat.reduceAdd, nd_2]
  grind
theorem lz_t3 : (List.range 27).filterMap (fun c => lz_go 3 3 c [] false) = [(true, [2, 1, 0]), (false, [1, 2, 0]), (false, [2, 0, 1]), (true, [0, 2, 1]), (true, [1, 0, 2]), (false, [0, 1, 2])] := by decide +kernel
theorem lz_d3 (e : Nat → Nat → Int) : lz_sum (fun c => lz_val e (lz_go 3 3 c [] false)) 27 = nd_3 (e 0 0) (e 0 1) (e 0 2) (e 1 0) (e 1 1) (e 1 2) (e 2 0) (e 2 1) (e 2 2) := by
  rw [lz_fm, lz_t3]
  simp only [lz_ls, lz_pr, if_true, if_false, Bool.false_eq_true, reduceIte, Nat.zero_add, Nat.reduceAdd, nd_3, nd_2]
  grind
theorem lz_t4 : (List.range 256).filterMap (fun c => lz_go 4 4 c [] false) = [(false, [3, 2, 1, 0]), (true, [2, 3, 1, 0]), (true, [3, 1, 2, 0]), (false, [1, 3, 2, 0]), (false, [2, 1, 3, 0]), (true, [1, 2, 3, 0]), (true, [3, 2, 0, 1]), (false, [2, 3, 0, 1]), (false, [3, 0, 2, 1]), (true, [0, 3, 2, 1]), (true, [2, 0, 3, 1]), (false, [0, 2, 3, 1]), (false, [3, 1, 0, 2]), (true, [1, 3, 0, 2]), (true, [3, 0, 1, 2]), (false, [0, 3, 1, 2]), (false, [1, 0, 3, 2]), (true, [0, 1, 3, 2]), (true, [2, 1, 0, 3]), (false, [1, 2, 0, 3]), (false, [2, 0, 1, 3]), (true, [0, 2, 1, 3]), (true, [1, 0, 2, 3]), (false, [0, 1, 2, 3])] := by decide +kernel
theorem lz_d4 (e : Nat → Nat → Int) : lz_sum (fun c => lz_val e (lz_go 4 4 c [] false)) 256 = nd_4 (e 0 0) (e 0 1) (e 0 2) (e 0 3) (e 1 0) (e 1 1) (e 1 2) (e 1 3) (e 2 0) (e 2 1) (e 2 2) (e 2 3) (e 3 0) (e 3 1) (e 3 2) (e 3 3) := by
  rw [lz_fm, lz_t4]
  simp only [lz_ls, lz_pr, if_true, if_false, Bool.false_eq_true, reduceIte, Nat.zero_add, Nat.reduceAdd, nd_4, nd_3, nd_2]
  grind
theorem lz_t5 : (List.range 3125).filterMap (fun c => lz_go 5 5 c [] false) = [(false, [4, 3, 2, 1, 0]), (true, [3, 4, 2, 1, 0]), (true, [4, 2, 3, 1, 0]), (false, [2, 4, 3, 1, 0]), (false, [3, 2, 4, 1, 0]), (true, [2, 3, 4, 1, 0]), (true, [4, 3, 1, 2, 0]), (false, [3, 4, 1, 2, 0]), (false, [4, 1, 3, 2, 0]), (true, [1, 4, 3, 2, 0]), (true, [3, 1, 4, 2, 0]), (false, [1, 3, 4, 2, 0]), (false, [4, 2, 1, 3, 0]), (true, [2, 4, 1, 3, 0]), (true, [4, 1, 2, 3, 0]), (false, [1, 4, 2, 3, 0]), (false, [2, 1, 4, 3, 0]), (true, [1, 2, 4, 3, 0]), (true, [3, 2, 1, 4, 0]), (false, [2, 3, 1, 4, 0]), (false, [3, 1, 2, 4, 0]), (true, [1, 3, 2, 4, 0]), (true, [2, 1, 3, 4, 0]), (false, [1, 2, 3, 4, 0]), (true, [4, 3, 2, 0, 1]), (false, [3, 4, 2, 0, 1]), (false, [4, 2, 3, 0, 1]), (true, [2, 4, 3, 0, 1]), (true, [3, 2, 4, 0, 1]), (false, [2, 3, 4, 0, 1]), (false, [4, 3, 0, 2, 1]), (true, [3, 4, 0, 2, 1]), (true, [4, 0, 3, 2, 1]), (false, [0, 4, 3, 2, 1]), (false, [3, 0, 4, 2, 1]), (true, [0, 3, 4, 2, 1]), (true, [4, 2, 0, 3, 1]), (false, [2, 4, 0, 3, 1]), (false, [4, 0, 2, 3, 1]), (true, [0, 4, 2, 3, 1]), (true, [2, 0, 4, 3, 1]), (false, [0, 2, 4, 3, 1]), (false, [3, 2, 0, 4, 1]), (true, [2, 3, 0, 4, 1]), (true, [3, 0, 2, 4, 1]), (false, [0, 3, 2, 4, 1]), (false, [2, 0, 3, 4, 1]), (true, [0, 2, 3, 4, 1]), (false, [4, 3, 1, 0, 2]), (true, [3, 4, 1, 0, 2]), (true, [4, 1, 3, 0, 2]), (false, [1, 4, 3, 0, 2]), (false, [3, 1, 4, 0, 2]), (true, [1, 3, 4, 0, 2]), (true, [4, 3, 0, 1, 2]), (false, [3, 4, 0, 1, 2]), (false, [4, 0, 3, 1, 2]), (true, [0, 4, 3, 1, 2]), (true, [3, 0, 4, 1, 2]), (false, [0, 3, 4, 1, 2]), (false, [4, 1, 0, 3, 2]), (true, [1, 4, 0, 3, 2]), (true, [4, 0, 1, 3, 2]), (false, [0, 4, 1, 3, 2]), (false, [1, 0, 4, 3, 2]), (true, [0, 1, 4, 3, 2]), (true, [3, 1, 0, 4, 2]), (false, [1, 3, 0, 4, 2]), (false, [3, 0, 1, 4, 2]), (true, [0, 3, 1, 4, 2]), (true, [1, 0, 3, 4, 2]), (false, [0, 1, 3, 4, 2]), (true, [4, 2, 1, 0, 3]), (false, [2, 4, 1, 0, 3]), (false, [4, 1, 2, 0, 3]), (true, [1, 4, 2, 0, 3]), (true, [2, 1, 4, 0, 3]), (false, [1, 2, 4, 0, 3]), (false, [4, 2, 0, 1, 3]), (true, [2, 4, 0, 1, 3]), (true, [4, 0, 2, 1, 3]), (false, [0, 4, 2, 1, 3]), (false, [2, 0, 4, 1, 3]), (true, [0, 2, 4, 1, 3]), (true, [4, 1, 0, 2, 3]), (false, [1, 4, 0, 2, 3]), (false, [4, 0, 1, 2, 3]), (true, [0, 4, 1, 2, 3]), (true, [1, 0, 4, 2, 3]), (false, [0, 1, 4, 2, 3]), (false, [2, 1, 0, 4, 3]), (true, [1, 2, 0, 4, 3]), (true, [2, 0, 1, 4, 3]), (false, [0, 2, 1, 4, 3]), (false, [1, 0, 2, 4, 3]), (true, [0, 1, 2, 4, 3]), (false, [3, 2, 1, 0, 4]), (true, [2, 3, 1, 0, 4]), (true, [3, 1, 2, 0, 4]), (false, [1, 3, 2, 0, 4]), (false, [2, 1, 3, 0, 4]), (true, [1, 2, 3, 0, 4]), (true, [3, 2, 0, 1, 4]), (false, [2, 3, 0, 1, 4]), (false, [3, 0, 2, 1, 4]), (true, [0, 3, 2, 1, 4]), (true, [2, 0, 3, 1, 4]), (false, [0, 2, 3, 1, 4]), (false, [3, 1, 0, 2, 4]), (true, [1, 3, 0, 2, 4]), (true, [3, 0, 1, 2, 4]), (false, [0, 3, 1, 2, 4]), (false, [1, 0, 3, 2, 4]), (true, [0, 1, 3, 2, 4]), (true, [2, 1, 0, 3, 4]), (false, [1, 2, 0, 3, 4]), (false, [2, 0, 1, 3, 4]), (true, [0, 2, 1, 3, 4]), (true, [1, 0, 2, 3, 4]), (false, [0, 1, 2, 3, 4])] := by decide +kernel
theorem lz_d5 (e : Nat → Nat → Int) : lz_sum (fun c => lz_val e (lz_go 5 5 c [] false)) 3125 = nd_5 (e 0 0) (e 0 1) (e 0 2) (e 0 3) (e 0 4) (e 1 0) (e 1 1) (e 1 2) (e 1 3) (e 1 4) (e 2 0) (e 2 1) (e 2 2) (e 2 3) (e 2 4) (e 3 0) (e 3 1) (e 3 2) (e 3 3) (e 3 4) (e 4 0) (e 4 1) (e 4 2) (e 4 3) (e 4 4) := by
  rw [lz_fm, lz_t5]
  simp only [lz_ls, lz_pr, if_true, if_false, Bool.false_eq_true, reduceIte, Nat.zero_add, Nat.reduceAdd, nd_5, nd_4, nd_3, nd_2]
  grind
