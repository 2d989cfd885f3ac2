/-! ===== what is read as it stands: reach, join, rain, fault, end, count ===== -/
theorem ixq_3 (v : Int32) (n : Nat) (hn : n < 100) (P : Prop) (h0 : v < 0 ∨ nI (n + 1) ≤ v → P) (h1 : ∀ j, j ≤ n → v = nI j → P) : P := by
  rcases pk_ix v (n := n + 1) (by omega) with h | h | ⟨j, hj, rfl⟩
  · exact h0 (Or.inl h)
  · exact h0 (Or.inr h)
  · exact h1 j (by omega) rfl
/-- in 0 .. n, as the reference asks it -/
theorem e_in0 (fu : Nat) (v : Int32) {n : Nat} (hn : (OfNat.ofNat n : Nat) < 2147483647) : p_X10_in fu v.toInt64 (0 : Int64) (no_index (OfNat.ofNat n : Int64)) = some (ixq v ((OfNat.ofNat n : Nat) + 1)) := by
  rw [e_inl fu (a := 0) (b := n) (by decide) (by omega) v]
  congr 1
  have hn' : (OfNat.ofNat n : Nat) < 2147483648 := by omega
  unfold ixq
  rcases pk_ix v (n := (OfNat.ofNat n : Nat) + 1) (by omega) with h1 | h1 | ⟨j, hj, rfl⟩
  · rw [if_pos h1, if_pos h1]
  · have h2 : (OfNat.ofNat n : Int32) < v := by
      have := Int32.le_iff_toInt_le.mp h1
      rw [nI_toInt (by omega)] at this
      rw [Int32.lt_iff_toInt_lt]
      have e : (OfNat.ofNat n : Int32).toInt = ((OfNat.ofNat n : Nat) : Int) := nI_toInt (n := (OfNat.ofNat n : Nat)) (by omega)
      rw [e]
      omega
    rw [if_pos h1, if_pos h2]
  · have g1 : ¬ nI j < 0 := nn0 (by omega)
    have g2 : ¬ (OfNat.ofNat n : Int32) < nI j := by
      show ¬ nI (OfNat.ofNat n : Nat) < nI j
      rw [lt_nn hn' (by omega)]
      omega
    have g3 : ¬ nI ((OfNat.ofNat n : Nat) + 1) ≤ nI j := by
      rw [le_nn (by omega) (by omega)]
      omega
    have g1' : ¬ nI j < (OfNat.ofNat 0 : Int32) := g1
    rw [if_neg g1', if_neg g2, if_neg g1, if_neg g3]
theorem out_ne {v : Int32} {n : Nat} (hn : n < 2147483648) (h : v < 0 ∨ nI n ≤ v) {j : Nat} (hj : j < n) : ¬ v = nI j := by
  rintro rfl
  rcases h with h | h
  · exact nn0 (by omega) h
  · rw [le_nn (by omega) (by omega)] at h
    omega
theorem s_reach (fu : Nat) {x : Nat → Ob} {o : Ob} (h : Rel x o) (v1 v2 : Int32) : ∃ r, p_X9_reach fu x v1 v2 = some r ∧ p_X10_reach fu o v1 v2 = some r := by
  have hR := h.w.2.1.1
  unfold p_X9_reach p_X10_reach
  rw [e_cReach fu h, e_isReach fu o _ h.w, Option.bind_some, Option.bind_some]
  rcases ixq_of v1 (n := nR (o.1 1)) (by omega) with ⟨e1, -⟩ | ⟨e1, r, hr, rfl⟩
  · simp only [e1, Option.bind_some, ↓reduceIte, if_true, if_false, Nat.reduceEqDiff, Nat.reduceAdd, Nat.reduceMul, Nat.reduceLT, Nat.reduceLeDiff]
    exact ⟨_, rfl, rfl⟩
  · have hc := h.1.2.2.1 r hr
    simp (disch := omega) only [e1, inb_nI, inb_lit, cl_nI, cl_lit, nI_add, add_nl, add_ln, mul_ln, pk_mul, le_nn, lt_nn, eq_nn, le_nl, lt_nl, eq_nl, le_ln, lt_ln, eq_ln, eq_ll, lt_ll, le_ll, eq_nm1, eq_nm2, eq_nm3, eq_nm4, Option.bind_some, ↓reduceIte, if_true, if_false, Nat.reduceEqDiff, Nat.reduceAdd, Nat.reduceMul, Nat.reduceLT, Nat.reduceLeDiff, e_in0 fu v2 (n := 2) (by decide), e_pick, hc.1, hc.2.1, hc.2.2]
    rcases ixq_of v2 (n := 3) (by omega) with ⟨e2, ho⟩ | ⟨e2, j, hj, rfl⟩
    · have n0 : ¬ v2 = 0 := out_ne (j := 0) (by omega) ho (by omega)
      have n1 : ¬ v2 = 1 := out_ne (j := 1) (by omega) ho (by omega)
      have n2 : ¬ v2 = 2 := out_ne (j := 2) (by omega) ho (by omega)
      simp only [e2, n0, n1, n2, Option.bind_some, ↓reduceIte, if_true, if_false, Nat.reduceEqDiff, Nat.reduceAdd, Nat.reduceMul, Nat.reduceLT, Nat.reduceLeDiff]
      exact ⟨_, rfl, rfl⟩
    · simp only [e2, Option.bind_some, ↓reduceIte, if_true, if_false, Nat.reduceEqDiff, Nat.reduceAdd, Nat.reduceMul, Nat.reduceLT, Nat.reduceLeDiff]
      match j, hj with
      | 0, _ => exact ⟨_, rfl, by rw [show nI 0 = 0 from rfl, e_of0 fu o (by omega)]; rfl⟩
      | 1, _ => exact ⟨_, rfl, by rw [show nI 1 = 1 from rfl, e_of1 fu o (by omega)]; rfl⟩
      | 2, _ => exact ⟨_, rfl, by rw [show nI 2 = 2 from rfl, e_of2 fu o (by omega)]; rfl⟩
      | j + 3, h' => omega
theorem s_join (fu : Nat) {x : Nat → Ob} {o : Ob} (h : Rel x o) (v1 v2 : Int32) : ∃ r, p_X9_join fu x v1 v2 = some r ∧ p_X10_join fu o v1 v2 = some r := by
  have hJ := h.w.2.1.2.1
  unfold p_X9_join p_X10_join
  rw [e_cJoin fu h, e_isJoin fu o _ h.w, Option.bind_some, Option.bind_some]
  rcases ixq_of v1 (n := nJ (o.1 1)) (by omega) with ⟨e1, -⟩ | ⟨e1, r, hr, rfl⟩
  · simp only [e1, Option.bind_some, ↓reduceIte, if_true, if_false, Nat.reduceEqDiff, Nat.reduceAdd, Nat.reduceMul, Nat.reduceLT, Nat.reduceLeDiff]
    exact ⟨_, rfl, rfl⟩
  · have hc := h.1.2.2.2.1 r hr
    simp (disch := omega) only [e1, inb_nI, inb_lit, cl_nI, cl_lit, nI_add, add_nl, add_ln, mul_ln, pk_mul, le_nn, lt_nn, eq_nn, le_nl, lt_nl, eq_nl, le_ln, lt_ln, eq_ln, eq_ll, lt_ll, le_ll, eq_nm1, eq_nm2, eq_nm3, eq_nm4, Option.bind_some, ↓reduceIte, if_true, if_false, Nat.reduceEqDiff, Nat.reduceAdd, Nat.reduceMul, Nat.reduceLT, Nat.reduceLeDiff, e_in0 fu v2 (n := 3) (by decide), e_pick, hc.1, hc.2.1, hc.2.2.1, hc.2.2.2]
    rcases ixq_of v2 (n := 4) (by omega) with ⟨e2, ho⟩ | ⟨e2, j, hj, rfl⟩
    · have n0 : ¬ v2 = 0 := out_ne (j := 0) (by omega) ho (by omega)
      have n1 : ¬ v2 = 1 := out_ne (j := 1) (by omega) ho (by omega)
      have n2 : ¬ v2 = 2 := out_ne (j := 2) (by omega) ho (by omega)
      have n3 : ¬ v2 = 3 := out_ne (j := 3) (by omega) ho (by omega)
      simp only [e2, n0, n1, n2, n3, Option.bind_some, ↓reduceIte, if_true, if_false, Nat.reduceEqDiff, Nat.reduceAdd, Nat.reduceMul, Nat.reduceLT, Nat.reduceLeDiff]
      exact ⟨_, rfl, rfl⟩
    · simp only [e2, Option.bind_some, ↓reduceIte, if_true, if_false, Nat.reduceEqDiff, Nat.reduceAdd, Nat.reduceMul, Nat.reduceLT, Nat.reduceLeDiff]
      match j, hj with
      | 0, _ => exact ⟨_, rfl, by rw [show nI 0 = 0 from rfl, e_oj0 fu o (by omega)]; rfl⟩
      | 1, _ => exact ⟨_, rfl, by rw [show nI 1 = 1 from rfl, e_oj1 fu o (by omega)]; rfl⟩
      | 2, _ => exact ⟨_, rfl, by rw [show nI 2 = 2 from rfl, e_oj2 fu o (by omega)]; rfl⟩
      | 3, _ => exact ⟨_, rfl, by rw [show nI 3 = 3 from rfl, e_oj3 fu o (by omega)]; rfl⟩
      | j + 4, h' => omega
theorem s_rain (fu : Nat) {x : Nat → Ob} {o : Ob} (h : Rel x o) (v1 v2 : Int32) : ∃ r, p_X9_rain fu x v1 v2 = some r ∧ p_X10_rain fu o v1 v2 = some r := by
  have hN := h.w.2.1.2.2.1
  have h5 := h.w.1.2.2.2.1
  unfold p_X9_rain p_X10_rain
  simp (disch := omega) only [inb_nI, inb_lit, cl_nI, cl_lit, nI_add, add_nl, add_ln, mul_ln, pk_mul, le_nn, lt_nn, eq_nn, le_nl, lt_nl, eq_nl, le_ln, lt_ln, eq_ln, eq_ll, lt_ll, le_ll, eq_nm1, eq_nm2, eq_nm3, eq_nm4, Option.bind_some, ↓reduceIte, if_true, if_false, Nat.reduceEqDiff, Nat.reduceAdd, Nat.reduceMul, Nat.reduceLT, Nat.reduceLeDiff, h5, e_inp, h.1.2.1.2.2.2.2.2.2.1, e_in0 fu v2 (n := 1) (by decide)]
  rcases pk_ix v1 (n := nN (o.1 1)) (by omega) with h1 | h1 | ⟨r, hr, rfl⟩
  · simp only [h1, ixq, Option.bind_some, ↓reduceIte, if_true, if_false, Nat.reduceEqDiff, Nat.reduceAdd, Nat.reduceMul, Nat.reduceLT, Nat.reduceLeDiff]
    exact ⟨_, rfl, rfl⟩
  · have : ¬ v1 < nI (nN (o.1 1)) := Int32.not_lt.mpr h1
    simp only [this, ixq, h1, Option.bind_some, ↓reduceIte, if_true, if_false, Nat.reduceEqDiff, Nat.reduceAdd, Nat.reduceMul, Nat.reduceLT, Nat.reduceLeDiff]
    refine ⟨-2, ?_, ?_⟩
    · split <;> rfl
    · split <;> rfl
  · have hc := h.1.2.2.2.2.1 r hr
    simp (disch := omega) only [inb_nI, inb_lit, cl_nI, cl_lit, nI_add, add_nl, add_ln, mul_ln, pk_mul, le_nn, lt_nn, eq_nn, le_nl, lt_nl, eq_nl, le_ln, lt_ln, eq_ln, eq_ll, lt_ll, le_ll, eq_nm1, eq_nm2, eq_nm3, eq_nm4, Option.bind_some, ↓reduceIte, if_true, if_false, Nat.reduceEqDiff, Nat.reduceAdd, Nat.reduceMul, Nat.reduceLT, Nat.reduceLeDiff, ixq_nI hr (by omega), if_neg (show ¬ r < 0 by omega), if_pos hr, e_pick, hc.1, hc.2]
    rcases ixq_of v2 (n := 2) (by omega) with ⟨e2, ho⟩ | ⟨e2, j, hj, rfl⟩
    · have n0 : ¬ v2 = 0 := out_ne (j := 0) (by omega) ho (by omega)
      have n1 : ¬ v2 = 1 := out_ne (j := 1) (by omega) ho (by omega)
      simp only [e2, n0, n1, Option.bind_some, ↓reduceIte, if_true, if_false, Nat.reduceEqDiff, Nat.reduceAdd, Nat.reduceMul, Nat.reduceLT, Nat.reduceLeDiff]
      exact ⟨_, rfl, rfl⟩
    · simp (disch := omega) only [e2, inb_nI, inb_lit, cl_nI, cl_lit, nI_add, add_nl, add_ln, mul_ln, pk_mul, le_nn, lt_nn, eq_nn, le_nl, lt_nl, eq_nl, le_ln, lt_ln, eq_ln, eq_ll, lt_ll, le_ll, eq_nm1, eq_nm2, eq_nm3, eq_nm4, Option.bind_some, ↓reduceIte, if_true, if_false, Nat.reduceEqDiff, Nat.reduceAdd, Nat.reduceMul, Nat.reduceLT, Nat.reduceLeDiff]
      match j, hj with
      | 0, _ => exact ⟨_, rfl, rfl⟩
      | 1, _ => exact ⟨_, rfl, rfl⟩
      | j + 2, h' => omega
theorem s_fault (fu : Nat) {x : Nat → Ob} {o : Ob} (h : Rel x o) (v : Int32) : ∃ r, p_X9_fault fu x v = some r ∧ p_X10_fault fu o v = some r := by
  unfold p_X9_fault p_X10_fault
  rw [h.2.2.1.1, h.2.2.1.2]
  by_cases c : v = 0
  · simp only [if_pos c]; exact ⟨_, rfl, rfl⟩
  · simp only [if_neg c]
    by_cases c2 : v = 1
    · simp only [if_pos c2]; exact ⟨_, rfl, rfl⟩
    · simp only [if_neg c2]; exact ⟨_, rfl, rfl⟩
theorem s_end (fu : Nat) {x : Nat → Ob} {o : Ob} (h : Rel x o) (v : Int32) : ∃ r y t, p_X9_end fu x v = some (r, y) ∧ p_X10_end fu o v = some (r, t) ∧ Rel y t := by
  obtain ⟨n, hn, h1, h2, ht⟩ := h.2.2.2.1
  unfold p_X9_end p_X10_end
  rw [h1, h2, e_inh fu (a := 0) (by decide), Option.bind_some]
  rcases pk_ix v (n := n + 1) (by omega) with c | c | ⟨j, hj, rfl⟩
  · have c0 : v < (OfNat.ofNat 0 : Int32) := c
    simp only [if_pos c, if_pos c0, Option.bind_some, ↓reduceIte, if_true, if_false, Nat.reduceEqDiff, Nat.reduceAdd, Nat.reduceMul, Nat.reduceLT, Nat.reduceLeDiff]
    exact ⟨_, _, _, rfl, rfl, h⟩
  · have c' : nI n < v := by
      have z := Int32.le_iff_toInt_le.mp c
      rw [nI_toInt (by omega)] at z
      rw [Int32.lt_iff_toInt_lt, nI_toInt (by omega)]
      omega
    have c0 : ¬ v < (OfNat.ofNat 0 : Int32) := by
      have z := Int32.le_iff_toInt_le.mp c
      rw [nI_toInt (by omega)] at z
      rw [Int32.lt_iff_toInt_lt]
      have : (OfNat.ofNat 0 : Int32).toInt = 0 := rfl
      omega
    have c1 : ¬ v < 0 := c0
    simp only [if_neg c0, if_neg c1, if_pos c', if_neg (Int32.not_le.mpr c'), Option.bind_some, ↓reduceIte, if_true, if_false, Nat.reduceEqDiff, Nat.reduceAdd, Nat.reduceMul, Nat.reduceLT, Nat.reduceLeDiff]
    exact ⟨_, _, _, rfl, rfl, h⟩
  · have c0 : ¬ nI j < (OfNat.ofNat 0 : Int32) := nn0 (by omega)
    simp only [if_neg c0]
    simp (disch := omega) only [inb_nI, inb_lit, cl_nI, cl_lit, nI_add, add_nl, add_ln, mul_ln, pk_mul, le_nn, lt_nn, eq_nn, le_nl, lt_nl, eq_nl, le_ln, lt_ln, eq_ln, eq_ll, lt_ll, le_ll, eq_nm1, eq_nm2, eq_nm3, eq_nm4, Option.bind_some, ↓reduceIte, if_true, if_false, Nat.reduceEqDiff, Nat.reduceAdd, Nat.reduceMul, Nat.reduceLT, Nat.reduceLeDiff, if_neg (show ¬ j < 0 by omega), if_neg (show ¬ n < j by omega), if_pos (show j ≤ n by omega)]
    refine ⟨_, _, _, rfl, rfl, ?_⟩
    refine ⟨h.1, h.2.1, h.2.2.1, ?_, ?_, ?_⟩
    · refine ⟨j, by omega, rfl, rfl, fun i hi => ?_⟩
      have := ht i (by omega)
      exact this
    · intro k hk
      have := h.2.2.2.2.1 k hk
      have e0 : va_up x 1 (oI (x 1) 1 (nI j)) 0 = x 0 := rfl
      have e7 : va_up x 1 (oI (x 1) 1 (nI j)) (7 + k) = x (7 + k) := by rw [up_v, if_neg (by omega)]
      rw [e0, e7]
      exact this
    · intro k hk
      have := h.2.2.2.2.2 k hk
      have e7 : va_up x 1 (oI (x 1) 1 (nI j)) (14 + k) = x (14 + k) := by rw [up_v, if_neg (by omega)]
      rw [e7]
      exact this
