/-! ===== sluices ===== -/
def zO : Ob := (fun _ _ => 0, fun _ _ => 0)
theorem x_rests11 (fu : Nat) (x y : Nat → Ob) (c c' : Int32 → Int32 → Option Int32) (hc : ∀ a b, c a b = c' a b) : ∀ n v1 v2 v3, p_X9_rests_L11 fu x c n v1 v2 v3 = p_X9_rests_L11 fu y c' n v1 v2 v3 := by
  intro n
  induction n with
  | zero => intro _ _ _; rfl
  | succ n ih => intro v1 v2 v3; rw [p_X9_rests_L11, p_X9_rests_L11]; simp only [ih, hc]
theorem x_rests4 (fu : Nat) (x y : Nat → Ob) : ∀ n v1 v2, p_X9_rests_L4 fu x n v1 v2 = p_X9_rests_L4 fu y n v1 v2 := by
  intro n
  induction n with
  | zero => intro _ _; rfl
  | succ n ih =>
    intro v1 v2
    rw [p_X9_rests_L4, p_X9_rests_L4, x_rests11 fu x y _ _ (fun a b => ih a (b + 1))]
theorem x_rest9 (fu : Nat) (x y : Nat → Ob) (c c' : Int32 → Option Int32) (hc : ∀ a, c a = c' a) : ∀ n v1 v2, p_X9_rest_L9 fu x c n v1 v2 = p_X9_rest_L9 fu y c' n v1 v2 := by
  intro n
  induction n with
  | zero => intro _ _; rfl
  | succ n ih => intro v1 v2; rw [p_X9_rest_L9, p_X9_rest_L9]; simp only [ih, hc]
theorem x_rest2 (fu : Nat) (x y : Nat → Ob) : ∀ n v1, p_X9_rest_L2 fu x n v1 = p_X9_rest_L2 fu y n v1 := by
  intro n
  induction n with
  | zero => intro _; rfl
  | succ n ih =>
    intro v1
    rw [p_X9_rest_L2, p_X9_rest_L2, x_rest9 fu x y _ _ (fun a => ih (a + 1))]
theorem x_treaty21 (fu : Nat) (x y : Nat → Ob) (c c' : Int32 → Int32 → Option Int32) (hc : ∀ a b, c a b = c' a b) : ∀ n v1 v2 v3, p_X9_treaty_L21 fu x c n v1 v2 v3 = p_X9_treaty_L21 fu y c' n v1 v2 v3 := by
  intro n
  induction n with
  | zero => intro _ _ _; rfl
  | succ n ih => intro v1 v2 v3; rw [p_X9_treaty_L21, p_X9_treaty_L21]; simp only [ih, hc]
theorem x_treaty14 (fu : Nat) (x y : Nat → Ob) : ∀ n v1 v2, p_X9_treaty_L14 fu x n v1 v2 = p_X9_treaty_L14 fu y n v1 v2 := by
  intro n
  induction n with
  | zero => intro _ _; rfl
  | succ n ih =>
    intro v1 v2
    rw [p_X9_treaty_L14, p_X9_treaty_L14, x_treaty21 fu x y _ _ (fun a b => ih a (b + 1))]
theorem o_rests (fu : Nat) (o u : Ob) : ∀ n v1 v2, p_X10_rests_L4 fu o n v1 v2 = p_X10_rests_L4 fu u n v1 v2 := by
  intro n
  induction n with
  | zero => intro _ _; rfl
  | succ n ih => intro v1 v2; rw [p_X10_rests_L4, p_X10_rests_L4]; simp only [ih]
theorem o_rest (fu : Nat) (o u : Ob) (c : Int32 → Option Int32) : ∀ n v1, p_X10_rest_L2 fu o c n v1 = p_X10_rest_L2 fu u c n v1 := by
  intro n
  induction n with
  | zero => intro _; rfl
  | succ n ih => intro v1; rw [p_X10_rest_L2, p_X10_rest_L2]; simp only [ih]
theorem o_treaty (fu : Nat) (o u : Ob) : ∀ n v1 v2, p_X10_treaty_L4 fu o n v1 v2 = p_X10_treaty_L4 fu u n v1 v2 := by
  intro n
  induction n with
  | zero => intro _ _; rfl
  | succ n ih => intro v1 v2; rw [p_X10_treaty_L4, p_X10_treaty_L4]; simp only [ih]
set_option maxRecDepth 100000 in
theorem k_rests : p_X9_rests 5000 (fun _ => zO) = p_X10_rests 5000 zO ∧ (p_X9_rests 5000 (fun _ => zO)).isSome = true := by decide +kernel
set_option maxRecDepth 100000 in
theorem k_rest : p_X9_rest 5000 (fun _ => zO) = p_X10_rest 5000 zO ∧ (p_X9_rest 5000 (fun _ => zO)).isSome = true := by decide +kernel
set_option maxRecDepth 100000 in
theorem k_treaty : p_X9_treaty 5000 (fun _ => zO) = p_X10_treaty 5000 zO ∧ (p_X9_treaty 5000 (fun _ => zO)).isSome = true := by decide +kernel
theorem s_rests (x : Nat → Ob) (o : Ob) : ∃ r, p_X9_rests 5000 x = some r ∧ p_X10_rests 5000 o = some r := by
  obtain ⟨r, hr⟩ := Option.isSome_iff_exists.mp k_rests.2
  refine ⟨r, ?_, ?_⟩
  · rw [← hr]; exact x_rests4 5000 x _ 5000 0 0
  · rw [← hr, k_rests.1]; exact o_rests 5000 o _ 5000 0 0
theorem s_rest (x : Nat → Ob) (o : Ob) : ∃ r, p_X9_rest 5000 x = some r ∧ p_X10_rest 5000 o = some r := by
  obtain ⟨r, hr⟩ := Option.isSome_iff_exists.mp k_rest.2
  refine ⟨r, ?_, ?_⟩
  · rw [← hr]; exact x_rest2 5000 x _ 5000 0
  · rw [← hr, k_rest.1]; exact o_rest 5000 o _ _ 5000 0
theorem x_treaty (fu : Nat) (x y : Nat → Ob) : p_X9_treaty fu x = p_X9_treaty fu y := by
  unfold p_X9_treaty p_X9_share
  simp only [Option.bind_some]
  exact x_treaty14 fu x y fu _ 0
theorem o_treaty2 (fu : Nat) (o u : Ob) : p_X10_treaty fu o = p_X10_treaty fu u := o_treaty fu o u fu 0 0
theorem s_treaty (x : Nat → Ob) (o : Ob) : ∃ r, p_X9_treaty 5000 x = some r ∧ p_X10_treaty 5000 o = some r := by
  obtain ⟨r, hr⟩ := Option.isSome_iff_exists.mp k_treaty.2
  refine ⟨r, ?_, ?_⟩
  · exact (x_treaty 5000 x _).trans hr
  · exact (o_treaty2 5000 o zO).trans (k_treaty.1.symm.trans hr)
theorem e_letOut (fu : Nat) (v : Int32) : p_X9_isLetOut fu v = some (ixq v 5) ∧ p_X10_in fu v.toInt64 (0 : Int64) (4 : Int64) = some (ixq v 5) := by
  have key : (if v < 0 then (0 : Int32) else if (4 : Int32) < v then 0 else 1) = ixq v 5 := by
    unfold ixq
    rcases pk_ix v (n := 5) (by omega) with h1 | h1 | ⟨j, hj, rfl⟩
    · rw [if_pos h1, if_pos h1]
    · have h2 : (4 : Int32) < v := by
        have := Int32.le_iff_toInt_le.mp h1
        rw [nI_toInt (by omega)] at this
        rw [Int32.lt_iff_toInt_lt]
        show (4 : Int) < _
        omega
      rw [if_pos h1, if_pos h2]
    · simp (disch := omega) only [inb_nI, inb_lit, cl_nI, cl_lit, nI_add, add_nl, add_ln, mul_ln, pk_mul, le_nn, lt_nn, eq_nn, le_nl, lt_nl, eq_nl, le_ln, lt_ln, eq_ln, eq_ll, lt_ll, le_ll, eq_nm1, eq_nm2, eq_nm3, eq_nm4]
      rw [if_neg (by omega), if_neg (by omega), if_neg (by omega), if_neg (by omega)]
  refine ⟨?_, by rw [e_inl fu (a := 0) (b := 4) (by decide) (by decide) v]; exact congrArg some key⟩
  unfold p_X9_isLetOut
  rw [← key]
  split
  · rfl
  · split <;> rfl
theorem s_has (fu : Nat) (x : Nat → Ob) (o : Ob) (v1 v2 : Int32) : ∃ r, p_X9_has fu x v1 v2 = some r ∧ p_X10_has fu o v1 v2 = some r := by
  unfold p_X9_has p_X10_has p_X9_share p_X10_hasBy
  simp only [(e_letOut fu v1).1, (e_letOut fu v2).1, (e_letOut fu v1).2, (e_letOut fu v2).2, Option.bind_some]
  split
  · exact ⟨_, rfl, rfl⟩
  · split
    · exact ⟨_, rfl, rfl⟩
    · exact ⟨_, rfl, rfl⟩
theorem o_answer (fu : Nat) (o u : Ob) : ∀ n v1 v2 v3, p_X10_answer_L19 fu o n v1 v2 v3 = p_X10_answer_L19 fu u n v1 v2 v3 := by
  intro n
  induction n with
  | zero => intro _ _ _; rfl
  | succ n ih => intro v1 v2 v3; rw [p_X10_answer_L19, p_X10_answer_L19]; simp only [ih]
set_option maxRecDepth 100000 in
theorem k_answer : ∀ j, j < 5 → p_X9_bestAnswer 5000 (nI j) = p_X10_answer_L19 5000 zO 5000 (nI j) 0 1 ∧ (p_X9_bestAnswer 5000 (nI j)).isSome = true := by decide +kernel
theorem s_answer (x : Nat → Ob) (o : Ob) (v : Int32) : ∃ r, p_X9_answer 5000 x v = some r ∧ p_X10_answer 5000 o v = some r := by
  unfold p_X9_answer p_X10_answer
  simp only [(e_letOut 5000 v).1, (e_letOut 5000 v).2, Option.bind_some]
  rcases ixq_of v (n := 5) (by omega) with ⟨e1, -⟩ | ⟨e1, j, hj, rfl⟩
  · simp only [e1, Option.bind_some, ↓reduceIte, if_true, if_false, Nat.reduceEqDiff, Nat.reduceAdd, Nat.reduceMul, Nat.reduceLT, Nat.reduceLeDiff]
    exact ⟨_, rfl, rfl⟩
  · simp (disch := omega) only [e1, inb_nI, inb_lit, cl_nI, cl_lit, nI_add, add_nl, add_ln, mul_ln, pk_mul, le_nn, lt_nn, eq_nn, le_nl, lt_nl, eq_nl, le_ln, lt_ln, eq_ln, eq_ll, lt_ll, le_ll, eq_nm1, eq_nm2, eq_nm3, eq_nm4, Option.bind_some, ↓reduceIte, if_true, if_false, Nat.reduceEqDiff, Nat.reduceAdd, Nat.reduceMul, Nat.reduceLT, Nat.reduceLeDiff]
    obtain ⟨r, hr⟩ := Option.isSome_iff_exists.mp (k_answer j hj).2
    refine ⟨r, by rw [hr]; rfl, ?_⟩
    rw [o_answer 5000 o zO, ← (k_answer j hj).1]
    exact hr
