/-! ===== LEVEL: level, stands, flows, dry, drought, idle, rained, lowest, deeper ===== -/
theorem s_level (fu : Nat) (hf : 2000 ≤ fu) {x : Nat → Ob} {o : Ob} (h : Rel x o) (v : Int32) : ∃ r t, p_X9_level fu x v = some r ∧ p_X10_level fu o v = some (r, t) ∧ Rel x t := by
  obtain ⟨s, e, a⟩ := e_asksRivers fu hf o h.w
  have hs := h.kp KQ.rf a.tf
  unfold p_X9_level p_X10_level
  rw [e_hasStep fu h, Option.bind_some, e, Option.bind_some]
  by_cases c : nL (o.1 1) = 0
  · simp only [c, Option.bind_some, ↓reduceIte, if_true, if_false, Nat.reduceEqDiff, Nat.reduceAdd, Nat.reduceMul, Nat.reduceLT, Nat.reduceLeDiff]
    exact ⟨_, _, rfl, rfl, hs⟩
  · simp only [c, Option.bind_some, ↓reduceIte, if_true, if_false, Nat.reduceEqDiff, Nat.reduceAdd, Nat.reduceMul, Nat.reduceLT, Nat.reduceLeDiff, e_rStep]
    rcases ixq_of v (n := 61) (by omega) with ⟨e1, -⟩ | ⟨e1, n, hn, rfl⟩
    · simp only [e1, Option.bind_some, ↓reduceIte, if_true, if_false, Nat.reduceEqDiff, Nat.reduceAdd, Nat.reduceMul, Nat.reduceLT, Nat.reduceLeDiff]
      exact ⟨_, _, rfl, rfl, hs⟩
    · simp (disch := omega) only [e1, Option.bind_some, ↓reduceIte, if_true, if_false, Nat.reduceEqDiff, Nat.reduceAdd, Nat.reduceMul, Nat.reduceLT, Nat.reduceLeDiff, inb_nI, inb_lit, cl_nI, cl_lit, nI_add, add_nl, add_ln, mul_ln, pk_mul, le_nn, lt_nn, eq_nn, le_nl, lt_nl, eq_nl, le_ln, lt_ln, eq_ln, eq_ll, lt_ll, le_ll, eq_nm1, eq_nm2, eq_nm3, eq_nm4, e_levelAt]
      exact ⟨_, _, rfl, by rw [(a.2.2.1 n hn).1, h.2.1.2.1 n hn], hs⟩
theorem e_standing (fu : Nat) (hf : 2000 ≤ fu) {x : Nat → Ob} {o : Ob} (h : Rel x o) {n : Nat} (hn : n < 61) : p_X9_standing fu x (nI n) = some (stq (o.1 1) (lvW (o.1 1) n) (nR (o.1 1))) := by
  have hR := h.w.2.1.1
  unfold p_X9_standing
  refine loop_it (fun m i s => p_X9_standing_L4 fu x m (nI n) s (nI i)) (fun r s => s ||| (if lvW (o.1 1) n < wL (o.1 1) r then b1 r else 0)) 0 (nR (o.1 1)) _ ?_ ?_ fu 0 (Nat.zero_le _) (by omega)
  · intro m
    show p_X9_standing_L4 fu x (m + 1) (nI n) _ (nI (nR (o.1 1))) = _
    rw [p_X9_standing_L4]
    simp (disch := omega) only [inb_nI, inb_lit, cl_nI, cl_lit, nI_add, add_nl, add_ln, mul_ln, pk_mul, le_nn, lt_nn, eq_nn, le_nl, lt_nl, eq_nl, le_ln, lt_ln, eq_ln, eq_ll, lt_ll, le_ll, eq_nm1, eq_nm2, eq_nm3, eq_nm4, Option.bind_some, ↓reduceIte, if_true, if_false, Nat.reduceEqDiff, Nat.reduceAdd, Nat.reduceMul, Nat.reduceLT, Nat.reduceLeDiff, h.1.2.1.2.2.2.2.1, Nat.le_refl]
    rfl
  · intro m i hi
    show p_X9_standing_L4 fu x (m + 1) (nI n) _ (nI i) = p_X9_standing_L4 fu x m (nI n) _ (nI (i + 1))
    rw [p_X9_standing_L4]
    simp (disch := omega) only [inb_nI, inb_lit, cl_nI, cl_lit, nI_add, add_nl, add_ln, mul_ln, pk_mul, le_nn, lt_nn, eq_nn, le_nl, lt_nl, eq_nl, le_ln, lt_ln, eq_ln, eq_ll, lt_ll, le_ll, eq_nm1, eq_nm2, eq_nm3, eq_nm4, Option.bind_some, ↓reduceIte, if_true, if_false, Nat.reduceEqDiff, Nat.reduceAdd, Nat.reduceMul, Nat.reduceLT, Nat.reduceLeDiff, h.1.2.1.2.2.2.2.1, e_isSt fu h hi hn, e_bit, if_neg (show ¬ nR (o.1 1) ≤ i by omega), it]
    by_cases c : lvW (o.1 1) n < wL (o.1 1) i
    · simp only [c, Option.bind_some, ↓reduceIte, if_true, if_false, Nat.reduceEqDiff, Nat.reduceAdd, Nat.reduceMul, Nat.reduceLT, Nat.reduceLeDiff]
      simp (disch := omega) only [inb_nI, inb_lit, cl_nI, cl_lit, nI_add, add_nl, add_ln, mul_ln, pk_mul, le_nn, lt_nn, eq_nn, le_nl, lt_nl, eq_nl, le_ln, lt_ln, eq_ln, eq_ll, lt_ll, le_ll, eq_nm1, eq_nm2, eq_nm3, eq_nm4, Option.bind_some, ↓reduceIte, if_true, if_false, Nat.reduceEqDiff, Nat.reduceAdd, Nat.reduceMul, Nat.reduceLT, Nat.reduceLeDiff]
    · simp only [c, Option.bind_some, ↓reduceIte, if_true, if_false, Nat.reduceEqDiff, Nat.reduceAdd, Nat.reduceMul, Nat.reduceLT, Nat.reduceLeDiff, Int32.or_zero]
theorem s_stands (fu : Nat) (hf : 2000 ≤ fu) {x : Nat → Ob} {o : Ob} (h : Rel x o) (v : Int32) : ∃ r t, p_X9_stands fu x v = some r ∧ p_X10_stands fu o v = some (r, t) ∧ Rel x t := by
  obtain ⟨s, e, a⟩ := e_asksRivers fu hf o h.w
  have hs := h.kp KQ.rf a.tf
  unfold p_X9_stands p_X10_stands
  rw [e_hasStep fu h, Option.bind_some, e, Option.bind_some]
  by_cases c : nL (o.1 1) = 0
  · simp only [c, Option.bind_some, ↓reduceIte, if_true, if_false, Nat.reduceEqDiff, Nat.reduceAdd, Nat.reduceMul, Nat.reduceLT, Nat.reduceLeDiff]
    exact ⟨_, _, rfl, rfl, hs⟩
  · simp only [c, Option.bind_some, ↓reduceIte, if_true, if_false, Nat.reduceEqDiff, Nat.reduceAdd, Nat.reduceMul, Nat.reduceLT, Nat.reduceLeDiff, e_rStep]
    rcases ixq_of v (n := 61) (by omega) with ⟨e1, -⟩ | ⟨e1, n, hn, rfl⟩
    · simp only [e1, Option.bind_some, ↓reduceIte, if_true, if_false, Nat.reduceEqDiff, Nat.reduceAdd, Nat.reduceMul, Nat.reduceLT, Nat.reduceLeDiff]
      exact ⟨_, _, rfl, rfl, hs⟩
    · simp (disch := omega) only [e1, Option.bind_some, ↓reduceIte, if_true, if_false, Nat.reduceEqDiff, Nat.reduceAdd, Nat.reduceMul, Nat.reduceLT, Nat.reduceLeDiff, inb_nI, inb_lit, cl_nI, cl_lit, nI_add, add_nl, add_ln, mul_ln, pk_mul, le_nn, lt_nn, eq_nn, le_nl, lt_nl, eq_nl, le_ln, lt_ln, eq_ln, eq_ll, lt_ll, le_ll, eq_nm1, eq_nm2, eq_nm3, eq_nm4, e_standing fu hf h hn]
      exact ⟨_, _, rfl, by rw [(a.2.2.1 n hn).2], hs⟩
theorem e_allR (fu : Nat) {x : Nat → Ob} {o : Ob} (h : Rel x o) : p_X9_allReaches fu x = some (b1 (nR (o.1 1)) - 1) := by
  have hR := h.w.2.1.1
  unfold p_X9_allReaches
  rw [h.1.2.1.2.2.2.2.1, e_bit fu hR, Option.bind_some]
theorem s_flows (fu : Nat) (hf : 2000 ≤ fu) {x : Nat → Ob} {o : Ob} (h : Rel x o) (v : Int32) : ∃ r t, p_X9_flows fu x v = some r ∧ p_X10_flows fu o v = some (r, t) ∧ Rel x t := by
  obtain ⟨s, e, a⟩ := e_asksRivers fu hf o h.w
  have hs := h.kp KQ.rf a.tf
  unfold p_X9_flows p_X10_flows
  rw [e_hasStep fu h, Option.bind_some, e, Option.bind_some]
  by_cases c : nL (o.1 1) = 0
  · simp only [c, Option.bind_some, ↓reduceIte, if_true, if_false, Nat.reduceEqDiff, Nat.reduceAdd, Nat.reduceMul, Nat.reduceLT, Nat.reduceLeDiff]
    exact ⟨_, _, rfl, rfl, hs⟩
  · simp only [c, Option.bind_some, ↓reduceIte, if_true, if_false, Nat.reduceEqDiff, Nat.reduceAdd, Nat.reduceMul, Nat.reduceLT, Nat.reduceLeDiff, e_rStep]
    rcases ixq_of v (n := 61) (by omega) with ⟨e1, -⟩ | ⟨e1, n, hn, rfl⟩
    · simp only [e1, Option.bind_some, ↓reduceIte, if_true, if_false, Nat.reduceEqDiff, Nat.reduceAdd, Nat.reduceMul, Nat.reduceLT, Nat.reduceLeDiff]
      exact ⟨_, _, rfl, rfl, hs⟩
    · simp (disch := omega) only [e1, Option.bind_some, ↓reduceIte, if_true, if_false, Nat.reduceEqDiff, Nat.reduceAdd, Nat.reduceMul, Nat.reduceLT, Nat.reduceLeDiff, inb_nI, inb_lit, cl_nI, cl_lit, nI_add, add_nl, add_ln, mul_ln, pk_mul, le_nn, lt_nn, eq_nn, le_nl, lt_nl, eq_nl, le_ln, lt_ln, eq_ln, eq_ll, lt_ll, le_ll, eq_nm1, eq_nm2, eq_nm3, eq_nm4, e_standing fu hf h hn, e_allR fu h, a.w, h.w.1.2.1]
      exact ⟨_, _, rfl, by rw [(a.2.2.1 n hn).2]; rfl, hs⟩
theorem s_dry (fu : Nat) (hf : 2000 ≤ fu) {x : Nat → Ob} {o : Ob} (h : Rel x o) (v : Int32) : ∃ r t, p_X9_dry fu x v = some r ∧ p_X10_dry fu o v = some (r, t) ∧ Rel x t := by
  obtain ⟨s, e, a⟩ := e_asksReach fu hf o h.w v
  have hs := h.kp KQ.rf a.tf
  have hR := h.w.2.1.1
  unfold p_X9_dry p_X10_dry
  rw [e_cReach fu h, Option.bind_some, e, Option.bind_some]
  rcases ixq_of v (n := nR (o.1 1)) (by omega) with ⟨e1, -⟩ | ⟨e1, r, hr, rfl⟩
  · simp only [e1, Option.bind_some, ↓reduceIte, if_true, if_false, Nat.reduceEqDiff, Nat.reduceAdd, Nat.reduceMul, Nat.reduceLT, Nat.reduceLeDiff]
    exact ⟨_, _, rfl, rfl, hs⟩
  · simp (disch := omega) only [e1, inb_nI, inb_lit, cl_nI, cl_lit, nI_add, add_nl, add_ln, mul_ln, pk_mul, le_nn, lt_nn, eq_nn, le_nl, lt_nl, eq_nl, le_ln, lt_ln, eq_ln, eq_ll, lt_ll, le_ll, eq_nm1, eq_nm2, eq_nm3, eq_nm4, Option.bind_some, ↓reduceIte, if_true, if_false, Nat.reduceEqDiff, Nat.reduceAdd, Nat.reduceMul, Nat.reduceLT, Nat.reduceLeDiff]
    refine ⟨_, s, loop_ff (fun m i => p_X9_dry_L13 fu x m (nI r) (nI i)) (fun n => decide (lvW (o.1 1) n < wL (o.1 1) r)) 61 id ?_ ?_ fu 0 (Nat.zero_le _) (by omega), loop_ff (fun m i => p_X10_dry_L13 fu m s (nI r) (nI i)) (fun n => decide (lvW (o.1 1) n < wL (o.1 1) r)) 61 (fun z => (z, s)) ?_ ?_ fu 0 (Nat.zero_le _) (by omega), hs⟩
    · intro m
      show p_X9_dry_L13 fu x (m + 1) (nI r) (nI 61) = _
      rw [p_X9_dry_L13]
      simp (disch := omega) only [inb_nI, inb_lit, cl_nI, cl_lit, nI_add, add_nl, add_ln, mul_ln, pk_mul, le_nn, lt_nn, eq_nn, le_nl, lt_nl, eq_nl, le_ln, lt_ln, eq_ln, eq_ll, lt_ll, le_ll, eq_nm1, eq_nm2, eq_nm3, eq_nm4, Option.bind_some, ↓reduceIte, if_true, if_false, Nat.reduceEqDiff, Nat.reduceAdd, Nat.reduceMul, Nat.reduceLT, Nat.reduceLeDiff]
      rfl
    · intro m i hi
      show p_X9_dry_L13 fu x (m + 1) (nI r) (nI i) = if _ then _ else p_X9_dry_L13 fu x m (nI r) (nI (i + 1))
      rw [p_X9_dry_L13]
      simp (disch := omega) only [inb_nI, inb_lit, cl_nI, cl_lit, nI_add, add_nl, add_ln, mul_ln, pk_mul, le_nn, lt_nn, eq_nn, le_nl, lt_nl, eq_nl, le_ln, lt_ln, eq_ln, eq_ll, lt_ll, le_ll, eq_nm1, eq_nm2, eq_nm3, eq_nm4, Option.bind_some, ↓reduceIte, if_true, if_false, Nat.reduceEqDiff, Nat.reduceAdd, Nat.reduceMul, Nat.reduceLT, Nat.reduceLeDiff, e_isSt fu h hr hi, if_neg (show ¬ 60 < i by omega), decide_eq_true_eq]
      split
      · simp (disch := omega) only [inb_nI, inb_lit, cl_nI, cl_lit, nI_add, add_nl, add_ln, mul_ln, pk_mul, le_nn, lt_nn, eq_nn, le_nl, lt_nl, eq_nl, le_ln, lt_ln, eq_ln, eq_ll, lt_ll, le_ll, eq_nm1, eq_nm2, eq_nm3, eq_nm4, Option.bind_some, ↓reduceIte, if_true, if_false, Nat.reduceEqDiff, Nat.reduceAdd, Nat.reduceMul, Nat.reduceLT, Nat.reduceLeDiff]
        rfl
      · simp only [Option.bind_some, ↓reduceIte, if_true, if_false, Nat.reduceEqDiff, Nat.reduceAdd, Nat.reduceMul, Nat.reduceLT, Nat.reduceLeDiff]
    · intro m
      show p_X10_dry_L13 fu (m + 1) s (nI r) (nI 61) = _
      rw [p_X10_dry_L13]
      simp (disch := omega) only [inb_nI, inb_lit, cl_nI, cl_lit, nI_add, add_nl, add_ln, mul_ln, pk_mul, le_nn, lt_nn, eq_nn, le_nl, lt_nl, eq_nl, le_ln, lt_ln, eq_ln, eq_ll, lt_ll, le_ll, eq_nm1, eq_nm2, eq_nm3, eq_nm4, Option.bind_some, ↓reduceIte, if_true, if_false, Nat.reduceEqDiff, Nat.reduceAdd, Nat.reduceMul, Nat.reduceLT, Nat.reduceLeDiff]
    · intro m i hi
      show p_X10_dry_L13 fu (m + 1) s (nI r) (nI i) = if _ then _ else p_X10_dry_L13 fu m s (nI r) (nI (i + 1))
      rw [p_X10_dry_L13]
      simp (disch := omega) only [inb_nI, inb_lit, cl_nI, cl_lit, nI_add, add_nl, add_ln, mul_ln, pk_mul, le_nn, lt_nn, eq_nn, le_nl, lt_nl, eq_nl, le_ln, lt_ln, eq_ln, eq_ll, lt_ll, le_ll, eq_nm1, eq_nm2, eq_nm3, eq_nm4, Option.bind_some, ↓reduceIte, if_true, if_false, Nat.reduceEqDiff, Nat.reduceAdd, Nat.reduceMul, Nat.reduceLT, Nat.reduceLeDiff, (a.2.2.1 i hi).2, e_rbit, bq_sW h.w hr, if_neg (show ¬ 60 < i by omega), decide_eq_true_eq]
      split
      · simp only [Option.bind_some, ↓reduceIte, if_true, if_false, Nat.reduceEqDiff, Nat.reduceAdd, Nat.reduceMul, Nat.reduceLT, Nat.reduceLeDiff]
      · simp (disch := omega) only [inb_nI, inb_lit, cl_nI, cl_lit, nI_add, add_nl, add_ln, mul_ln, pk_mul, le_nn, lt_nn, eq_nn, le_nl, lt_nl, eq_nl, le_ln, lt_ln, eq_ln, eq_ll, lt_ll, le_ll, eq_nm1, eq_nm2, eq_nm3, eq_nm4, Option.bind_some, ↓reduceIte, if_true, if_false, Nat.reduceEqDiff, Nat.reduceAdd, Nat.reduceMul, Nat.reduceLT, Nat.reduceLeDiff]
