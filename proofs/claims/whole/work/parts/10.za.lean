def rtF (o : Ob) (j : Nat) (t : Int32) : Int32 := if o.1 38 j = -1 then t else t + 1
theorem SLe.no {x : Nat → Ob} {o : Ob} (h : SLe x o) {j : Nat} (hj : j < 4) : ((x (14 + j)).1 0 0 = 0) = (o.1 38 j = -1) := by
  rcases h j hj with ⟨a, b⟩ | ⟨a, n, b, hn, -, -, c, -⟩
  · rw [a, b]; simp
  · rw [a, c]
    simp (disch := omega) only [eq_nm1, inb_nI, inb_lit, cl_nI, cl_lit, nI_add, add_nl, add_ln, mul_ln, pk_mul, le_nn, lt_nn, eq_nn, le_nl, lt_nl, eq_nl, le_ln, lt_ln, eq_ln, eq_ll, lt_ll, le_ll, eq_nm1, eq_nm2, eq_nm3, eq_nm4]
    simp
theorem s_count (fu : Nat) (hf : 2000 ≤ fu) {x : Nat → Ob} {o : Ob} (h : Rel x o) (v : Int32) : ∃ r, p_X9_count fu x v = some r ∧ p_X10_count fu o v = some r := by
  obtain ⟨n, hn, t1, t2, -⟩ := h.2.2.2.1
  obtain ⟨⟨l, od, sw, hl, hod, hsw, w0, w1, w2⟩, w3, w4, w5, w6, w7⟩ := h.w.1
  obtain ⟨r0, r1, r2, r3, r4, r8, r13, r16⟩ := h.1.2.1
  have e17 : p_X10_in fu v.toInt64 (1 : Int64) (7 : Int64) = some (if v < 1 then 0 else if (7 : Int32) < v then 0 else 1) := e_in fu v 1 7
  have rows9 : p_X9_rowsThere fu x = some (it (rtF o) 0 4) := by
    unfold p_X9_rowsThere
    refine loop_it (fun m i t => p_X9_rowsThere_L13 fu x m t 4 (nI i)) (rtF o) 0 4 _ ?_ ?_ fu 0 (Nat.zero_le _) (by omega)
    · intro m
      show p_X9_rowsThere_L13 fu x (m + 1) _ 4 (nI 4) = _
      rw [p_X9_rowsThere_L13]
      simp (disch := omega) only [inb_nI, inb_lit, cl_nI, cl_lit, nI_add, add_nl, add_ln, mul_ln, pk_mul, le_nn, lt_nn, eq_nn, le_nl, lt_nl, eq_nl, le_ln, lt_ln, eq_ln, eq_ll, lt_ll, le_ll, eq_nm1, eq_nm2, eq_nm3, eq_nm4, Option.bind_some, ↓reduceIte, if_true, if_false, Nat.reduceEqDiff, Nat.reduceAdd, Nat.reduceMul, Nat.reduceLT, Nat.reduceLeDiff]
    · intro m i hi
      show p_X9_rowsThere_L13 fu x (m + 1) _ 4 (nI i) = p_X9_rowsThere_L13 fu x m _ 4 (nI (i + 1))
      rw [p_X9_rowsThere_L13]
      unfold oLet
      simp (disch := omega) only [inb_nI, inb_lit, cl_nI, cl_lit, nI_add, add_nl, add_ln, mul_ln, pk_mul, le_nn, lt_nn, eq_nn, le_nl, lt_nl, eq_nl, le_ln, lt_ln, eq_ln, eq_ll, lt_ll, le_ll, eq_nm1, eq_nm2, eq_nm3, eq_nm4, Option.bind_some, ↓reduceIte, if_true, if_false, Nat.reduceEqDiff, Nat.reduceAdd, Nat.reduceMul, Nat.reduceLT, Nat.reduceLeDiff, if_neg (show ¬ 4 ≤ i by omega), h.2.2.2.2.2.no hi, it, rtF]
      by_cases c : o.1 38 i = -1
      · simp only [if_pos c]
      · simp only [if_neg c]
  have rows10 : p_X10_count_L53 fu o fu 0 0 = some (it (rtF o) 0 4) := by
    refine loop_it (fun m i t => p_X10_count_L53 fu o m t (nI i)) (rtF o) 0 4 _ ?_ ?_ fu 0 (Nat.zero_le _) (by omega)
    · intro m
      show p_X10_count_L53 fu o (m + 1) _ (nI 4) = _
      rw [p_X10_count_L53]
      simp (disch := omega) only [inb_nI, inb_lit, cl_nI, cl_lit, nI_add, add_nl, add_ln, mul_ln, pk_mul, le_nn, lt_nn, eq_nn, le_nl, lt_nl, eq_nl, le_ln, lt_ln, eq_ln, eq_ll, lt_ll, le_ll, eq_nm1, eq_nm2, eq_nm3, eq_nm4, Option.bind_some, ↓reduceIte, if_true, if_false, Nat.reduceEqDiff, Nat.reduceAdd, Nat.reduceMul, Nat.reduceLT, Nat.reduceLeDiff]
    · intro m i hi
      show p_X10_count_L53 fu o (m + 1) _ (nI i) = p_X10_count_L53 fu o m _ (nI (i + 1))
      rw [p_X10_count_L53]
      simp (disch := omega) only [inb_nI, inb_lit, cl_nI, cl_lit, nI_add, add_nl, add_ln, mul_ln, pk_mul, le_nn, lt_nn, eq_nn, le_nl, lt_nl, eq_nl, le_ln, lt_ln, eq_ln, eq_ll, lt_ll, le_ll, eq_nm1, eq_nm2, eq_nm3, eq_nm4, Option.bind_some, ↓reduceIte, if_true, if_false, Nat.reduceEqDiff, Nat.reduceAdd, Nat.reduceMul, Nat.reduceLT, Nat.reduceLeDiff, if_neg (show ¬ 4 ≤ i by omega), it, rtF, Int32.add_zero]
      by_cases c : o.1 38 i = -1
      · simp only [if_pos c]
      · simp only [if_neg c]
  have lines : p_X2_lines fu (x 5) = some (o.1 1 7) := by
    unfold p_X2_lines
    rw [r0, r4, r8, r13, w7]
    by_cases c : nL (o.1 1) = 0
    · rw [if_pos c, c]; rfl
    · rw [if_neg c, if_neg (by decide), h.w.2.2.1.2 c]
      simp (disch := omega) only [inb_nI, inb_lit, cl_nI, cl_lit, nI_add, add_nl, add_ln, mul_ln, pk_mul, le_nn, lt_nn, eq_nn, le_nl, lt_nl, eq_nl, le_ln, lt_ln, eq_ln, eq_ll, lt_ll, le_ll, eq_nm1, eq_nm2, eq_nm3, eq_nm4]
  unfold p_X9_count p_X10_count
  rw [e17, rows9, rows10, lines, r1, r2, r3, r4, r8, r13, r16, t1, t2]
  simp (disch := omega) only [inb_nI, inb_lit, cl_nI, cl_lit, nI_add, add_nl, add_ln, mul_ln, pk_mul, le_nn, lt_nn, eq_nn, le_nl, lt_nl, eq_nl, le_ln, lt_ln, eq_ln, eq_ll, lt_ll, le_ll, eq_nm1, eq_nm2, eq_nm3, eq_nm4, Option.bind_some, ↓reduceIte, if_true, if_false, Nat.reduceEqDiff, Nat.reduceAdd, Nat.reduceMul, Nat.reduceLT, Nat.reduceLeDiff]
  rcases pk_ix v (n := 10) (by omega) with c | c | ⟨j, hj, rfl⟩
  · have ne : ∀ j : Nat, j < 2147483648 → ¬ v = nI j := fun j hj e => by rw [e] at c; exact nn0 hj c
    have c1 : v < 1 := by
      have := Int32.lt_iff_toInt_lt.mp c
      rw [Int32.lt_iff_toInt_lt]
      have e0 : (0 : Int32).toInt = 0 := rfl
      have e1 : (1 : Int32).toInt = 1 := rfl
      omega
    have n0 : ¬ v = 0 := ne 0 (by omega)
    have n1 : ¬ v = 1 := ne 1 (by omega)
    have n2 : ¬ v = 2 := ne 2 (by omega)
    have n3 : ¬ v = 3 := ne 3 (by omega)
    have n4 : ¬ v = 4 := ne 4 (by omega)
    have n5 : ¬ v = 5 := ne 5 (by omega)
    have n6 : ¬ v = 6 := ne 6 (by omega)
    have n7 : ¬ v = 7 := ne 7 (by omega)
    have n8 : ¬ v = 8 := ne 8 (by omega)
    have n9 : ¬ v = 9 := ne 9 (by omega)
    simp only [n0, n1, n2, n3, n4, n5, n6, n7, n8, n9, c1, Option.bind_some, ↓reduceIte, if_true, if_false, Nat.reduceEqDiff, Nat.reduceAdd, Nat.reduceMul, Nat.reduceLT, Nat.reduceLeDiff]
    exact ⟨_, rfl, rfl⟩
  · have ne : ∀ j : Nat, j < 10 → ¬ v = nI j := fun j hj => out_ne (n := 10) (by omega) (Or.inr c) hj
    have z := Int32.le_iff_toInt_le.mp c
    rw [nI_toInt (by omega)] at z
    have c1 : ¬ v < 1 := by
      rw [Int32.lt_iff_toInt_lt]
      have e1 : (1 : Int32).toInt = 1 := rfl
      omega
    have c7 : (7 : Int32) < v := by
      rw [Int32.lt_iff_toInt_lt]
      have e1 : (7 : Int32).toInt = 7 := rfl
      omega
    have n0 : ¬ v = 0 := ne 0 (by omega)
    have n1 : ¬ v = 1 := ne 1 (by omega)
    have n2 : ¬ v = 2 := ne 2 (by omega)
    have n3 : ¬ v = 3 := ne 3 (by omega)
    have n4 : ¬ v = 4 := ne 4 (by omega)
    have n5 : ¬ v = 5 := ne 5 (by omega)
    have n6 : ¬ v = 6 := ne 6 (by omega)
    have n7 : ¬ v = 7 := ne 7 (by omega)
    have n8 : ¬ v = 8 := ne 8 (by omega)
    have n9 : ¬ v = 9 := ne 9 (by omega)
    simp only [n0, n1, n2, n3, n4, n5, n6, n7, n8, n9, c1, c7, Option.bind_some, ↓reduceIte, if_true, if_false, Nat.reduceEqDiff, Nat.reduceAdd, Nat.reduceMul, Nat.reduceLT, Nat.reduceLeDiff]
    exact ⟨_, rfl, rfl⟩
  · have hj' : j = 0 ∨ j = 1 ∨ j = 2 ∨ j = 3 ∨ j = 4 ∨ j = 5 ∨ j = 6 ∨ j = 7 ∨ j = 8 ∨ j = 9 := by omega
    rcases hj' with rfl | rfl | rfl | rfl | rfl | rfl | rfl | rfl | rfl | rfl
    · simp (disch := omega) only [inb_nI, inb_lit, cl_nI, cl_lit, nI_add, add_nl, add_ln, mul_ln, pk_mul, le_nn, lt_nn, eq_nn, le_nl, lt_nl, eq_nl, le_ln, lt_ln, eq_ln, eq_ll, lt_ll, le_ll, eq_nm1, eq_nm2, eq_nm3, eq_nm4, Option.bind_some, ↓reduceIte, if_true, if_false, Nat.reduceEqDiff, Nat.reduceAdd, Nat.reduceMul, Nat.reduceLT, Nat.reduceLeDiff]
      exact ⟨_, rfl, rfl⟩
    · simp (disch := omega) only [inb_nI, inb_lit, cl_nI, cl_lit, nI_add, add_nl, add_ln, mul_ln, pk_mul, le_nn, lt_nn, eq_nn, le_nl, lt_nl, eq_nl, le_ln, lt_ln, eq_ln, eq_ll, lt_ll, le_ll, eq_nm1, eq_nm2, eq_nm3, eq_nm4, Option.bind_some, ↓reduceIte, if_true, if_false, Nat.reduceEqDiff, Nat.reduceAdd, Nat.reduceMul, Nat.reduceLT, Nat.reduceLeDiff]
      exact ⟨_, rfl, rfl⟩
    · simp (disch := omega) only [inb_nI, inb_lit, cl_nI, cl_lit, nI_add, add_nl, add_ln, mul_ln, pk_mul, le_nn, lt_nn, eq_nn, le_nl, lt_nl, eq_nl, le_ln, lt_ln, eq_ln, eq_ll, lt_ll, le_ll, eq_nm1, eq_nm2, eq_nm3, eq_nm4, Option.bind_some, ↓reduceIte, if_true, if_false, Nat.reduceEqDiff, Nat.reduceAdd, Nat.reduceMul, Nat.reduceLT, Nat.reduceLeDiff]
      exact ⟨_, rfl, rfl⟩
    · simp (disch := omega) only [inb_nI, inb_lit, cl_nI, cl_lit, nI_add, add_nl, add_ln, mul_ln, pk_mul, le_nn, lt_nn, eq_nn, le_nl, lt_nl, eq_nl, le_ln, lt_ln, eq_ln, eq_ll, lt_ll, le_ll, eq_nm1, eq_nm2, eq_nm3, eq_nm4, Option.bind_some, ↓reduceIte, if_true, if_false, Nat.reduceEqDiff, Nat.reduceAdd, Nat.reduceMul, Nat.reduceLT, Nat.reduceLeDiff]
      exact ⟨_, rfl, by rw [w3]⟩
    · simp (disch := omega) only [inb_nI, inb_lit, cl_nI, cl_lit, nI_add, add_nl, add_ln, mul_ln, pk_mul, le_nn, lt_nn, eq_nn, le_nl, lt_nl, eq_nl, le_ln, lt_ln, eq_ln, eq_ll, lt_ll, le_ll, eq_nm1, eq_nm2, eq_nm3, eq_nm4, Option.bind_some, ↓reduceIte, if_true, if_false, Nat.reduceEqDiff, Nat.reduceAdd, Nat.reduceMul, Nat.reduceLT, Nat.reduceLeDiff]
      exact ⟨_, rfl, by rw [w4]⟩
    · simp (disch := omega) only [inb_nI, inb_lit, cl_nI, cl_lit, nI_add, add_nl, add_ln, mul_ln, pk_mul, le_nn, lt_nn, eq_nn, le_nl, lt_nl, eq_nl, le_ln, lt_ln, eq_ln, eq_ll, lt_ll, le_ll, eq_nm1, eq_nm2, eq_nm3, eq_nm4, Option.bind_some, ↓reduceIte, if_true, if_false, Nat.reduceEqDiff, Nat.reduceAdd, Nat.reduceMul, Nat.reduceLT, Nat.reduceLeDiff]
      exact ⟨_, rfl, by rw [w5]⟩
    · simp (disch := omega) only [inb_nI, inb_lit, cl_nI, cl_lit, nI_add, add_nl, add_ln, mul_ln, pk_mul, le_nn, lt_nn, eq_nn, le_nl, lt_nl, eq_nl, le_ln, lt_ln, eq_ln, eq_ll, lt_ll, le_ll, eq_nm1, eq_nm2, eq_nm3, eq_nm4, Option.bind_some, ↓reduceIte, if_true, if_false, Nat.reduceEqDiff, Nat.reduceAdd, Nat.reduceMul, Nat.reduceLT, Nat.reduceLeDiff]
      exact ⟨_, rfl, by rw [w6]⟩
    · simp (disch := omega) only [inb_nI, inb_lit, cl_nI, cl_lit, nI_add, add_nl, add_ln, mul_ln, pk_mul, le_nn, lt_nn, eq_nn, le_nl, lt_nl, eq_nl, le_ln, lt_ln, eq_ln, eq_ll, lt_ll, le_ll, eq_nm1, eq_nm2, eq_nm3, eq_nm4, Option.bind_some, ↓reduceIte, if_true, if_false, Nat.reduceEqDiff, Nat.reduceAdd, Nat.reduceMul, Nat.reduceLT, Nat.reduceLeDiff]
      exact ⟨_, rfl, rfl⟩
    · simp (disch := omega) only [inb_nI, inb_lit, cl_nI, cl_lit, nI_add, add_nl, add_ln, mul_ln, pk_mul, le_nn, lt_nn, eq_nn, le_nl, lt_nl, eq_nl, le_ln, lt_ln, eq_ln, eq_ll, lt_ll, le_ll, eq_nm1, eq_nm2, eq_nm3, eq_nm4, Option.bind_some, ↓reduceIte, if_true, if_false, Nat.reduceEqDiff, Nat.reduceAdd, Nat.reduceMul, Nat.reduceLT, Nat.reduceLeDiff]
      exact ⟨_, rfl, rfl⟩
    · simp (disch := omega) only [inb_nI, inb_lit, cl_nI, cl_lit, nI_add, add_nl, add_ln, mul_ln, pk_mul, le_nn, lt_nn, eq_nn, le_nl, lt_nl, eq_nl, le_ln, lt_ln, eq_ln, eq_ll, lt_ll, le_ll, eq_nm1, eq_nm2, eq_nm3, eq_nm4, Option.bind_some, ↓reduceIte, if_true, if_false, Nat.reduceEqDiff, Nat.reduceAdd, Nat.reduceMul, Nat.reduceLT, Nat.reduceLeDiff]
      exact ⟨_, rfl, rfl⟩
/-! ===== acts, images ===== -/
/-- the same in what is told -/
def SW6 (w u : Nat → Int32) : Prop := ∀ k, k < 68 → k ≠ 6 → u k = w k
theorem SW6.n {w u : Nat → Int32} (h : SW6 w u) : nR u = nR w ∧ nJ u = nJ w ∧ nN u = nN w ∧ nL u = nL w := by
  unfold nR nJ nN nL
  rw [h 3 (by omega) (by omega), h 4 (by omega) (by omega), h 5 (by omega) (by omega), h 7 (by omega) (by omega)]
  exact ⟨rfl, rfl, rfl, rfl⟩
theorem SW6.r {w u : Nat → Int32} (h : SW6 w u) {r : Nat} (hr : r < 10) : wT u r = wT w r ∧ wK u r = wK w r ∧ wL u r = wL w r := by
  unfold wT wK wL
  rw [h (8 + 3 * r + 0) (by omega) (by omega), h (8 + 3 * r + 1) (by omega) (by omega), h (8 + 3 * r + 2) (by omega) (by omega)]
  exact ⟨rfl, rfl, rfl⟩
theorem SW6.j {w u : Nat → Int32} (h : SW6 w u) {j : Nat} (hj : j < 5) : wF u j = wF w j ∧ wG u j = wG w j ∧ wE u j = wE w j ∧ wB u j = wB w j := by
  unfold wF wG wE wB
  rw [h (38 + 4 * j + 0) (by omega) (by omega), h (38 + 4 * j + 1) (by omega) (by omega), h (38 + 4 * j + 2) (by omega) (by omega), h (38 + 4 * j + 3) (by omega) (by omega)]
  exact ⟨rfl, rfl, rfl, rfl⟩
theorem SW6.m {w u : Nat → Int32} (h : SW6 w u) {k : Nat} (hk : k < 5) : wM u k = wM w k ∧ wS u k = wS w k := by
  unfold wM wS
  rw [h (58 + 2 * k) (by omega) (by omega), h (58 + 2 * k + 1) (by omega) (by omega)]
  exact ⟨rfl, rfl⟩
theorem OKW.acts {w u : Nat → Int32} (h : OKW w) (e : SW6 w u) {a : Nat} (ha : a ≤ 30) (e6 : u 6 = nI a) (hz : nL w = 0 → a = 0) (hc : ∀ k, k < a → actOK w (wC u k)) : OKW u ∧ nA u = a := by
  obtain ⟨n1, n2, n3, n4⟩ := e.n
  have hA : nA u = a := by unfold nA; rw [e6, cl_nI (by omega)]
  refine ⟨⟨⟨?_, ?_, ?_, ?_, ?_, ?_⟩, ⟨?_, ?_, ?_, ?_, ?_⟩, ⟨?_, ?_⟩, ?_, ?_, ?_, ?_⟩, hA⟩
  · rw [e 0 (by omega) (by omega), e 1 (by omega) (by omega), e 2 (by omega) (by omega)]; exact h.1.1
  · rw [e 3 (by omega) (by omega), n1]; exact h.1.2.1
  · rw [e 4 (by omega) (by omega), n2]; exact h.1.2.2.1
  · rw [e 5 (by omega) (by omega), n3]; exact h.1.2.2.2.1
  · rw [hA]; exact e6
  · rw [e 7 (by omega) (by omega), n4]; exact h.1.2.2.2.2.2
  · rw [n1]; exact h.2.1.1
  · rw [n2]; exact h.2.1.2.1
  · rw [n3]; exact h.2.1.2.2.1
  · rw [hA]; exact ha
  · rw [n4]; exact h.2.1.2.2.2.2
  · rw [n1, n2, n3, n4, hA]
    intro z
    have := h.2.2.1.1 z
    exact ⟨this.1, this.2.1, this.2.2.1, hz z⟩
  · rw [n1, n2, n3, n4]; exact h.2.2.1.2
  · intro r hr
    rw [n1] at hr
    have := h.2.1.1
    obtain ⟨a1, a2, a3⟩ := e.r (show r < 10 by omega)
    rw [a1, a2, a3, n1]
    exact h.2.2.2.1 r hr
  · intro j hj
    rw [n2] at hj
    have := h.2.1.2.1
    obtain ⟨a1, a2, a3, a4⟩ := e.j (show j < 5 by omega)
    rw [a1, a2, a3, a4, n1]
    exact h.2.2.2.2.1 j hj
  · intro k hk
    rw [n3] at hk
    have := h.2.1.2.2.1
    obtain ⟨a1, a2⟩ := e.m (show k < 5 by omega)
    rw [a1, a2]
    exact h.2.2.2.2.2.1 k hk
  · intro k hk
    rw [hA] at hk
    have := hc k hk
    unfold actOK at this ⊢
    rw [n2]
    exact this
theorem RW.acts {w u : Nat → Int32} {r s : Ob} (h : RW r w) (e : SW6 w u) (F : FR [16, 17, 18, 19] r s) {a : Nat} (ha : a ≤ 30) (e6 : u 6 = nI a) (e16 : s.1 16 0 = nI a) (hz : nL w = 0 → a = 0) (hc : ∀ k, k < a → actOK w (wC u k)) (hr : ∀ k, k < a → actR (s.1 17 k) (s.1 18 k) (s.1 19 k) (wC u k)) : RW s u := by
  obtain ⟨hu, hA⟩ := h.1.acts e ha e6 hz hc
  obtain ⟨n1, n2, n3, n4⟩ := e.n
  refine ⟨hu, ?_, ?_, ?_, ?_, ?_⟩
  · rw [n1, n2, n3, n4, hA, F.f1 0 (by decide), F.f1 1 (by decide), F.f1 2 (by decide), F.f1 3 (by decide), F.f1 4 (by decide), F.f1 8 (by decide), F.f1 13 (by decide), e 0 (by omega) (by omega), e 1 (by omega) (by omega), e 2 (by omega) (by omega)]
    have := h.2.1
    exact ⟨this.1, this.2.1, this.2.2.1, this.2.2.2.1, this.2.2.2.2.1, this.2.2.2.2.2.1, this.2.2.2.2.2.2.1, e16⟩
  · intro k hk
    rw [n1] at hk
    have := h.1.2.1.1
    obtain ⟨a1, a2, a3⟩ := e.r (show k < 10 by omega)
    rw [a1, a2, a3, F.f1 5 (by decide), F.f1 6 (by decide), F.f1 7 (by decide)]
    exact h.2.2.1 k hk
  · intro j hj
    rw [n2] at hj
    have := h.1.2.1.2.1
    obtain ⟨a1, a2, a3, a4⟩ := e.j (show j < 5 by omega)
    rw [a1, a2, a3, a4, F.f1 9 (by decide), F.f1 10 (by decide), F.f1 11 (by decide), F.f1 12 (by decide)]
    exact h.2.2.2.1 j hj
  · intro k hk
    rw [n3] at hk
    have := h.1.2.1.2.2.1
    obtain ⟨a1, a2⟩ := e.m (show k < 5 by omega)
    rw [a1, a2, F.f1 14 (by decide), F.f1 15 (by decide)]
    exact h.2.2.2.2.1 k hk
  · intro k hk
    rw [hA] at hk
    exact hr k hk
/-- the rivers and the water new on both sides -/
theorem Rel.new {x : Nat → Ob} {o s : Ob} (h : Rel x o) {r t : Ob} (hr : RW r (s.1 1)) (ht : WT t (s.1 1)) (F : FR (1 :: tF) o s) : Rel (va_up (va_up x 5 r) 10 t) s := by
  refine ⟨hr, ht, ?_, ?_, ?_, ?_⟩
  · have := h.2.2.1
    unfold FTe at this ⊢
    rw [F.f1 12 (by decide), F.f1 13 (by decide)]
    exact this
  · have := h.2.2.2.1
    unfold TPe at this ⊢
    rw [F.f1 5 (by decide), F.f1 4 (by decide)]
    exact this
  · intro k hk
    have := h.2.2.2.2.1 k hk
    rw [F.f1 3 (by decide), F.f1 2 (by decide)]
    have e7 : va_up (va_up x 5 r) 10 t (7 + k) = x (7 + k) := by rw [up_v, if_neg (by omega), up_v, if_neg (by omega)]
    rw [e7]
    exact this
  · intro k hk
    have := h.2.2.2.2.2 k hk
    rw [F.f1 38 (by decide), F.f1 39 (by decide), F.f2 40 (by decide)]
    have e7 : va_up (va_up x 5 r) 10 t (14 + k) = x (14 + k) := by rw [up_v, if_neg (by omega), up_v, if_neg (by omega)]
    rw [e7]
    exact this
theorem actR_ok {w : Nat → Int32} {kd on by' c c' : Int32} (h : actR kd on by' c) (e : c' = c) : actR kd on by' c' := by rw [e]; exact h
theorem s_undo (fu : Nat) (hf : 2000 ≤ fu) {x : Nat → Ob} {o : Ob} (h : Rel x o) : ∃ r y t, p_X9_undo fu x = some (r, y) ∧ p_X10_undo fu o = some (r, t) ∧ Rel y t := by
  have hA := h.w.2.1.2.2.2.1
  have h6 := h.w.1.2.2.2.2.1
  have r16 := h.1.2.1.2.2.2.2.2.2.2
  unfold p_X9_undo p_X10_undo
  rw [e_isRivers fu o h.w, Option.bind_some]
  simp only [told0 h]
  by_cases c : nL (o.1 1) = 0
  · simp only [c, Option.bind_some, ↓reduceIte, if_true, if_false, Nat.reduceEqDiff, Nat.reduceAdd, Nat.reduceMul, Nat.reduceLT, Nat.reduceLeDiff]
    exact ⟨_, _, _, rfl, rfl, h⟩
  · simp (disch := omega) only [c, Option.bind_some, ↓reduceIte, if_true, if_false, Nat.reduceEqDiff, Nat.reduceAdd, Nat.reduceMul, Nat.reduceLT, Nat.reduceLeDiff, inb_nI, inb_lit, cl_nI, cl_lit, nI_add, add_nl, add_ln, mul_ln, pk_mul, le_nn, lt_nn, eq_nn, le_nl, lt_nl, eq_nl, le_ln, lt_ln, eq_ln, eq_ll, lt_ll, le_ll, eq_nm1, eq_nm2, eq_nm3, eq_nm4, h6, r16, oA_1, oI_1, oLA_1, oL_1, oA_2, oI_2, oLA_2, oL_2, up_v, upd_v, updL_v]
    by_cases c0 : nA (o.1 1) = 0
    · simp only [c0, Option.bind_some, ↓reduceIte, if_true, if_false, Nat.reduceEqDiff, Nat.reduceAdd, Nat.reduceMul, Nat.reduceLT, Nat.reduceLeDiff, Nat.lt_irrefl]
      exact ⟨_, _, _, rfl, rfl, h⟩
    · obtain ⟨a, ea⟩ : ∃ a, nA (o.1 1) = a + 1 := ⟨nA (o.1 1) - 1, by omega⟩
      simp only [if_pos (show 0 < nA (o.1 1) by omega), if_neg c0, ea, nI_pred]
      have e : SW6 (o.1 1) (upd (o.1 1) 6 (nI a)) := fun k _ hk => by rw [upd_v, if_neg hk]
      have hC : ∀ k, wC (upd (o.1 1) 6 (nI a)) k = wC (o.1 1) k := fun k => by unfold wC; rw [upd_v, if_neg (by omega)]
      have hr : RW (oI (x 5) 16 (nI a)) (upd (o.1 1) 6 (nI a)) := h.1.acts e (FR.rf.I (by decide) _) (a := a) (by omega) rfl rfl (fun z => absurd z c) (fun k hk => by rw [hC]; exact h.w.2.2.2.2.2.2 k (by omega)) (fun k hk => by rw [hC]; exact h.1.2.2.2.2.2 k (by omega))
      obtain ⟨t, et, ht⟩ := e_settle fu hf (x 10) _ _ hr
      simp only [et, Option.bind_some, if_pos (show 0 < a + 1 by omega), if_neg (show ¬ a + 1 = 0 by omega)]
      exact ⟨nI a, _, oA o 1 (upd (o.1 1) 6 (nI a)), rfl, rfl, h.new hr ht (FR.rf.A (by decide) _)⟩
theorem s_anew (fu : Nat) (hf : 2000 ≤ fu) {x : Nat → Ob} {o : Ob} (h : Rel x o) : ∃ r y t, p_X9_anew fu x = some (r, y) ∧ p_X10_anew fu o = some (r, t) ∧ Rel y t := by
  have hA := h.w.2.1.2.2.2.1
  have h6 := h.w.1.2.2.2.2.1
  have r16 := h.1.2.1.2.2.2.2.2.2.2
  unfold p_X9_anew p_X10_anew
  rw [e_isRivers fu o h.w, Option.bind_some]
  simp only [told0 h]
  by_cases c : nL (o.1 1) = 0
  · simp only [c, Option.bind_some, ↓reduceIte, if_true, if_false, Nat.reduceEqDiff, Nat.reduceAdd, Nat.reduceMul, Nat.reduceLT, Nat.reduceLeDiff]
    exact ⟨_, _, _, rfl, rfl, h⟩
  · simp (disch := omega) only [c, Option.bind_some, ↓reduceIte, if_true, if_false, Nat.reduceEqDiff, Nat.reduceAdd, Nat.reduceMul, Nat.reduceLT, Nat.reduceLeDiff, inb_nI, inb_lit, cl_nI, cl_lit, nI_add, add_nl, add_ln, mul_ln, pk_mul, le_nn, lt_nn, eq_nn, le_nl, lt_nl, eq_nl, le_ln, lt_ln, eq_ln, eq_ll, lt_ll, le_ll, eq_nm1, eq_nm2, eq_nm3, eq_nm4, h6, r16, oA_1, oI_1, oLA_1, oL_1, oA_2, oI_2, oLA_2, oL_2, up_v, upd_v, updL_v]
    have e : SW6 (o.1 1) (upd (o.1 1) 6 0) := fun k _ hk => by rw [upd_v, if_neg hk]
    have hr : RW (oI (x 5) 16 0) (upd (o.1 1) 6 0) := h.1.acts e (FR.rf.I (by decide) _) (a := 0) (by omega) rfl rfl (fun z => absurd z c) (fun k hk => by omega) (fun k hk => by omega)
    obtain ⟨t, et, ht⟩ := e_settle fu hf (x 10) _ _ hr
    simp only [et, Option.bind_some]
    exact ⟨nI (nA (o.1 1)), _, oA o 1 (upd (o.1 1) 6 0), rfl, rfl, h.new hr ht (FR.rf.A (by decide) _)⟩
