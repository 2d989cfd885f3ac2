def drF (w : Nat → Int32) (r n : Nat) (t : Int32 × Int32) : Int32 × Int32 := if lvW w n < wL w r then ((if t.1 < t.2 + 1 then t.2 + 1 else t.1), t.2 + 1) else ((if t.1 < 0 then 0 else t.1), 0)
def idF (w : Nat → Int32) (r n : Nat) (t : Int32) : Int32 := if lvW w n < wL w r then t + 1 else t
theorem s_drought (fu : Nat) (hf : 2000 ≤ fu) {x : Nat → Ob} {o : Ob} (h : Rel x o) (v : Int32) : ∃ r t, p_X9_drought fu x v = some r ∧ p_X10_drought fu o v = some (r, t) ∧ Rel x t := by
  obtain ⟨s, e, a⟩ := e_asksReach fu hf o h.w v
  have hs := h.kp KQ.rf a.tf
  have hR := h.w.2.1.1
  unfold p_X9_drought p_X10_drought
  rw [e_cReach fu h, Option.bind_some, e, Option.bind_some]
  rcases ixq_of v (n := nR (o.1 1)) (by omega) with ⟨e1, -⟩ | ⟨e1, r, hr, rfl⟩
  · simp only [e1, Option.bind_some, ↓reduceIte, if_true, if_false, Nat.reduceEqDiff, Nat.reduceAdd, Nat.reduceMul, Nat.reduceLT, Nat.reduceLeDiff]
    exact ⟨_, _, rfl, rfl, hs⟩
  · simp (disch := omega) only [e1, inb_nI, inb_lit, cl_nI, cl_lit, nI_add, add_nl, add_ln, mul_ln, pk_mul, le_nn, lt_nn, eq_nn, le_nl, lt_nl, eq_nl, le_ln, lt_ln, eq_ln, eq_ll, lt_ll, le_ll, eq_nm1, eq_nm2, eq_nm3, eq_nm4, Option.bind_some, ↓reduceIte, if_true, if_false, Nat.reduceEqDiff, Nat.reduceAdd, Nat.reduceMul, Nat.reduceLT, Nat.reduceLeDiff]
    refine ⟨(it (drF (o.1 1) r) (0, 0) 61).1, s, loop_it (fun m i (t : Int32 × Int32) => p_X9_drought_L18 fu x m (nI r) t.1 t.2 (nI i)) (drF (o.1 1) r) (0, 0) 61 _ ?_ ?_ fu 0 (Nat.zero_le _) (by omega), loop_it (fun m i (t : Int32 × Int32) => p_X10_drought_L18 fu m s (nI r) t.1 t.2 (nI i)) (drF (o.1 1) r) (0, 0) 61 _ ?_ ?_ fu 0 (Nat.zero_le _) (by omega), hs⟩
    · intro m
      show p_X9_drought_L18 fu x (m + 1) (nI r) _ _ (nI 61) = _
      rw [p_X9_drought_L18]
      simp (disch := omega) only [inb_nI, inb_lit, cl_nI, cl_lit, nI_add, add_nl, add_ln, mul_ln, pk_mul, le_nn, lt_nn, eq_nn, le_nl, lt_nl, eq_nl, le_ln, lt_ln, eq_ln, eq_ll, lt_ll, le_ll, eq_nm1, eq_nm2, eq_nm3, eq_nm4, Option.bind_some, ↓reduceIte, if_true, if_false, Nat.reduceEqDiff, Nat.reduceAdd, Nat.reduceMul, Nat.reduceLT, Nat.reduceLeDiff]
    · intro m i hi
      show p_X9_drought_L18 fu x (m + 1) (nI r) _ _ (nI i) = p_X9_drought_L18 fu x m (nI r) _ _ (nI (i + 1))
      rw [p_X9_drought_L18]
      simp (disch := omega) only [inb_nI, inb_lit, cl_nI, cl_lit, nI_add, add_nl, add_ln, mul_ln, pk_mul, le_nn, lt_nn, eq_nn, le_nl, lt_nl, eq_nl, le_ln, lt_ln, eq_ln, eq_ll, lt_ll, le_ll, eq_nm1, eq_nm2, eq_nm3, eq_nm4, Option.bind_some, ↓reduceIte, if_true, if_false, Nat.reduceEqDiff, Nat.reduceAdd, Nat.reduceMul, Nat.reduceLT, Nat.reduceLeDiff, e_isSt fu h hr hi, if_neg (show ¬ 60 < i by omega), it, drF]
      unfold p_X9_drought_J42
      simp (disch := omega) only [inb_nI, inb_lit, cl_nI, cl_lit, nI_add, add_nl, add_ln, mul_ln, pk_mul, le_nn, lt_nn, eq_nn, le_nl, lt_nl, eq_nl, le_ln, lt_ln, eq_ln, eq_ll, lt_ll, le_ll, eq_nm1, eq_nm2, eq_nm3, eq_nm4]
      by_cases c : lvW (o.1 1) i < wL (o.1 1) r
      · simp (disch := omega) only [c, inb_nI, inb_lit, cl_nI, cl_lit, nI_add, add_nl, add_ln, mul_ln, pk_mul, le_nn, lt_nn, eq_nn, le_nl, lt_nl, eq_nl, le_ln, lt_ln, eq_ln, eq_ll, lt_ll, le_ll, eq_nm1, eq_nm2, eq_nm3, eq_nm4, Option.bind_some, ↓reduceIte, if_true, if_false, Nat.reduceEqDiff, Nat.reduceAdd, Nat.reduceMul, Nat.reduceLT, Nat.reduceLeDiff]
      · simp (disch := omega) only [c, inb_nI, inb_lit, cl_nI, cl_lit, nI_add, add_nl, add_ln, mul_ln, pk_mul, le_nn, lt_nn, eq_nn, le_nl, lt_nl, eq_nl, le_ln, lt_ln, eq_ln, eq_ll, lt_ll, le_ll, eq_nm1, eq_nm2, eq_nm3, eq_nm4, Option.bind_some, ↓reduceIte, if_true, if_false, Nat.reduceEqDiff, Nat.reduceAdd, Nat.reduceMul, Nat.reduceLT, Nat.reduceLeDiff]
    · intro m
      show p_X10_drought_L18 fu (m + 1) s (nI r) _ _ (nI 61) = _
      rw [p_X10_drought_L18]
      simp (disch := omega) only [inb_nI, inb_lit, cl_nI, cl_lit, nI_add, add_nl, add_ln, mul_ln, pk_mul, le_nn, lt_nn, eq_nn, le_nl, lt_nl, eq_nl, le_ln, lt_ln, eq_ln, eq_ll, lt_ll, le_ll, eq_nm1, eq_nm2, eq_nm3, eq_nm4, Option.bind_some, ↓reduceIte, if_true, if_false, Nat.reduceEqDiff, Nat.reduceAdd, Nat.reduceMul, Nat.reduceLT, Nat.reduceLeDiff]
    · intro m i hi
      show p_X10_drought_L18 fu (m + 1) s (nI r) _ _ (nI i) = p_X10_drought_L18 fu m s (nI r) _ _ (nI (i + 1))
      rw [p_X10_drought_L18]
      simp (disch := omega) only [inb_nI, inb_lit, cl_nI, cl_lit, nI_add, add_nl, add_ln, mul_ln, pk_mul, le_nn, lt_nn, eq_nn, le_nl, lt_nl, eq_nl, le_ln, lt_ln, eq_ln, eq_ll, lt_ll, le_ll, eq_nm1, eq_nm2, eq_nm3, eq_nm4, Option.bind_some, ↓reduceIte, if_true, if_false, Nat.reduceEqDiff, Nat.reduceAdd, Nat.reduceMul, Nat.reduceLT, Nat.reduceLeDiff, (a.2.2.1 i hi).2, e_rbit, bq_sW h.w hr, if_neg (show ¬ 60 < i by omega), decide_eq_true_eq, it, drF]
      unfold p_X10_drought_J47
      simp (disch := omega) only [inb_nI, inb_lit, cl_nI, cl_lit, nI_add, add_nl, add_ln, mul_ln, pk_mul, le_nn, lt_nn, eq_nn, le_nl, lt_nl, eq_nl, le_ln, lt_ln, eq_ln, eq_ll, lt_ll, le_ll, eq_nm1, eq_nm2, eq_nm3, eq_nm4]
      by_cases c : lvW (o.1 1) i < wL (o.1 1) r
      · simp (disch := omega) only [c, inb_nI, inb_lit, cl_nI, cl_lit, nI_add, add_nl, add_ln, mul_ln, pk_mul, le_nn, lt_nn, eq_nn, le_nl, lt_nl, eq_nl, le_ln, lt_ln, eq_ln, eq_ll, lt_ll, le_ll, eq_nm1, eq_nm2, eq_nm3, eq_nm4, Option.bind_some, ↓reduceIte, if_true, if_false, Nat.reduceEqDiff, Nat.reduceAdd, Nat.reduceMul, Nat.reduceLT, Nat.reduceLeDiff]
      · simp (disch := omega) only [c, inb_nI, inb_lit, cl_nI, cl_lit, nI_add, add_nl, add_ln, mul_ln, pk_mul, le_nn, lt_nn, eq_nn, le_nl, lt_nl, eq_nl, le_ln, lt_ln, eq_ln, eq_ll, lt_ll, le_ll, eq_nm1, eq_nm2, eq_nm3, eq_nm4, Option.bind_some, ↓reduceIte, if_true, if_false, Nat.reduceEqDiff, Nat.reduceAdd, Nat.reduceMul, Nat.reduceLT, Nat.reduceLeDiff]
theorem s_idle (fu : Nat) (hf : 2000 ≤ fu) {x : Nat → Ob} {o : Ob} (h : Rel x o) (v : Int32) : ∃ r t, p_X9_idle fu x v = some r ∧ p_X10_idle fu o v = some (r, t) ∧ Rel x t := by
  obtain ⟨s, e, a⟩ := e_asksReach fu hf o h.w v
  have hs := h.kp KQ.rf a.tf
  have hR := h.w.2.1.1
  unfold p_X9_idle p_X10_idle
  rw [e_cReach fu h, Option.bind_some, e, Option.bind_some]
  rcases ixq_of v (n := nR (o.1 1)) (by omega) with ⟨e1, -⟩ | ⟨e1, r, hr, rfl⟩
  · simp only [e1, Option.bind_some, ↓reduceIte, if_true, if_false, Nat.reduceEqDiff, Nat.reduceAdd, Nat.reduceMul, Nat.reduceLT, Nat.reduceLeDiff]
    exact ⟨_, _, rfl, rfl, hs⟩
  · simp (disch := omega) only [e1, inb_nI, inb_lit, cl_nI, cl_lit, nI_add, add_nl, add_ln, mul_ln, pk_mul, le_nn, lt_nn, eq_nn, le_nl, lt_nl, eq_nl, le_ln, lt_ln, eq_ln, eq_ll, lt_ll, le_ll, eq_nm1, eq_nm2, eq_nm3, eq_nm4, Option.bind_some, ↓reduceIte, if_true, if_false, Nat.reduceEqDiff, Nat.reduceAdd, Nat.reduceMul, Nat.reduceLT, Nat.reduceLeDiff]
    refine ⟨it (idF (o.1 1) r) 0 61, s, loop_it (fun m i t => p_X9_idle_L15 fu x m (nI r) t (nI i)) (idF (o.1 1) r) 0 61 _ ?_ ?_ fu 0 (Nat.zero_le _) (by omega), loop_it (fun m i t => p_X10_idle_L15 fu m s (nI r) t (nI i)) (idF (o.1 1) r) 0 61 _ ?_ ?_ fu 0 (Nat.zero_le _) (by omega), hs⟩
    · intro m
      show p_X9_idle_L15 fu x (m + 1) (nI r) _ (nI 61) = _
      rw [p_X9_idle_L15]
      simp (disch := omega) only [inb_nI, inb_lit, cl_nI, cl_lit, nI_add, add_nl, add_ln, mul_ln, pk_mul, le_nn, lt_nn, eq_nn, le_nl, lt_nl, eq_nl, le_ln, lt_ln, eq_ln, eq_ll, lt_ll, le_ll, eq_nm1, eq_nm2, eq_nm3, eq_nm4, Option.bind_some, ↓reduceIte, if_true, if_false, Nat.reduceEqDiff, Nat.reduceAdd, Nat.reduceMul, Nat.reduceLT, Nat.reduceLeDiff]
    · intro m i hi
      show p_X9_idle_L15 fu x (m + 1) (nI r) _ (nI i) = p_X9_idle_L15 fu x m (nI r) _ (nI (i + 1))
      rw [p_X9_idle_L15]
      simp (disch := omega) only [inb_nI, inb_lit, cl_nI, cl_lit, nI_add, add_nl, add_ln, mul_ln, pk_mul, le_nn, lt_nn, eq_nn, le_nl, lt_nl, eq_nl, le_ln, lt_ln, eq_ln, eq_ll, lt_ll, le_ll, eq_nm1, eq_nm2, eq_nm3, eq_nm4, Option.bind_some, ↓reduceIte, if_true, if_false, Nat.reduceEqDiff, Nat.reduceAdd, Nat.reduceMul, Nat.reduceLT, Nat.reduceLeDiff, e_isSt fu h hr hi, if_neg (show ¬ 60 < i by omega), it, idF]
      by_cases c : lvW (o.1 1) i < wL (o.1 1) r
      · simp (disch := omega) only [c, inb_nI, inb_lit, cl_nI, cl_lit, nI_add, add_nl, add_ln, mul_ln, pk_mul, le_nn, lt_nn, eq_nn, le_nl, lt_nl, eq_nl, le_ln, lt_ln, eq_ln, eq_ll, lt_ll, le_ll, eq_nm1, eq_nm2, eq_nm3, eq_nm4, Option.bind_some, ↓reduceIte, if_true, if_false, Nat.reduceEqDiff, Nat.reduceAdd, Nat.reduceMul, Nat.reduceLT, Nat.reduceLeDiff]
      · simp (disch := omega) only [c, inb_nI, inb_lit, cl_nI, cl_lit, nI_add, add_nl, add_ln, mul_ln, pk_mul, le_nn, lt_nn, eq_nn, le_nl, lt_nl, eq_nl, le_ln, lt_ln, eq_ln, eq_ll, lt_ll, le_ll, eq_nm1, eq_nm2, eq_nm3, eq_nm4, Option.bind_some, ↓reduceIte, if_true, if_false, Nat.reduceEqDiff, Nat.reduceAdd, Nat.reduceMul, Nat.reduceLT, Nat.reduceLeDiff]
    · intro m
      show p_X10_idle_L15 fu (m + 1) s (nI r) _ (nI 61) = _
      rw [p_X10_idle_L15]
      simp (disch := omega) only [inb_nI, inb_lit, cl_nI, cl_lit, nI_add, add_nl, add_ln, mul_ln, pk_mul, le_nn, lt_nn, eq_nn, le_nl, lt_nl, eq_nl, le_ln, lt_ln, eq_ln, eq_ll, lt_ll, le_ll, eq_nm1, eq_nm2, eq_nm3, eq_nm4, Option.bind_some, ↓reduceIte, if_true, if_false, Nat.reduceEqDiff, Nat.reduceAdd, Nat.reduceMul, Nat.reduceLT, Nat.reduceLeDiff]
    · intro m i hi
      show p_X10_idle_L15 fu (m + 1) s (nI r) _ (nI i) = p_X10_idle_L15 fu m s (nI r) _ (nI (i + 1))
      rw [p_X10_idle_L15]
      simp (disch := omega) only [inb_nI, inb_lit, cl_nI, cl_lit, nI_add, add_nl, add_ln, mul_ln, pk_mul, le_nn, lt_nn, eq_nn, le_nl, lt_nl, eq_nl, le_ln, lt_ln, eq_ln, eq_ll, lt_ll, le_ll, eq_nm1, eq_nm2, eq_nm3, eq_nm4, Option.bind_some, ↓reduceIte, if_true, if_false, Nat.reduceEqDiff, Nat.reduceAdd, Nat.reduceMul, Nat.reduceLT, Nat.reduceLeDiff, (a.2.2.1 i hi).2, e_rbit, bq_sW h.w hr, if_neg (show ¬ 60 < i by omega), decide_eq_true_eq, it, idF]
      by_cases c : lvW (o.1 1) i < wL (o.1 1) r
      · simp (disch := omega) only [c, inb_nI, inb_lit, cl_nI, cl_lit, nI_add, add_nl, add_ln, mul_ln, pk_mul, le_nn, lt_nn, eq_nn, le_nl, lt_nl, eq_nl, le_ln, lt_ln, eq_ln, eq_ll, lt_ll, le_ll, eq_nm1, eq_nm2, eq_nm3, eq_nm4, Option.bind_some, ↓reduceIte, if_true, if_false, Nat.reduceEqDiff, Nat.reduceAdd, Nat.reduceMul, Nat.reduceLT, Nat.reduceLeDiff]
      · simp (disch := omega) only [c, inb_nI, inb_lit, cl_nI, cl_lit, nI_add, add_nl, add_ln, mul_ln, pk_mul, le_nn, lt_nn, eq_nn, le_nl, lt_nl, eq_nl, le_ln, lt_ln, eq_ln, eq_ll, lt_ll, le_ll, eq_nm1, eq_nm2, eq_nm3, eq_nm4, Option.bind_some, ↓reduceIte, if_true, if_false, Nat.reduceEqDiff, Nat.reduceAdd, Nat.reduceMul, Nat.reduceLT, Nat.reduceLeDiff, Int32.add_zero]
theorem s_rained (fu : Nat) (hf : 2000 ≤ fu) {x : Nat → Ob} {o : Ob} (h : Rel x o) (v : Int32) : ∃ r t, p_X9_rained fu x v = some r ∧ p_X10_rained fu o v = some (r, t) ∧ Rel x t := by
  obtain ⟨s, e, a⟩ := e_asksRivers fu hf o h.w
  have hs := h.kp KQ.rf a.tf
  unfold p_X9_rained p_X10_rained
  rw [e_hasStep fu h, Option.bind_some, e, Option.bind_some]
  by_cases c : nL (o.1 1) = 0
  · simp only [c, Option.bind_some, ↓reduceIte, if_true, if_false, Nat.reduceEqDiff, Nat.reduceAdd, Nat.reduceMul, Nat.reduceLT, Nat.reduceLeDiff]
    exact ⟨_, _, rfl, rfl, hs⟩
  · simp only [c, Option.bind_some, ↓reduceIte, if_true, if_false, Nat.reduceEqDiff, Nat.reduceAdd, Nat.reduceMul, Nat.reduceLT, Nat.reduceLeDiff, e_rStep]
    rcases ixq_of v (n := 61) (by omega) with ⟨e1, -⟩ | ⟨e1, n, hn, rfl⟩
    · simp only [e1, Option.bind_some, ↓reduceIte, if_true, if_false, Nat.reduceEqDiff, Nat.reduceAdd, Nat.reduceMul, Nat.reduceLT, Nat.reduceLeDiff]
      exact ⟨_, _, rfl, rfl, hs⟩
    · simp (disch := omega) only [e1, Option.bind_some, ↓reduceIte, if_true, if_false, Nat.reduceEqDiff, Nat.reduceAdd, Nat.reduceMul, Nat.reduceLT, Nat.reduceLeDiff, inb_nI, inb_lit, cl_nI, cl_lit, nI_add, add_nl, add_ln, mul_ln, pk_mul, le_nn, lt_nn, eq_nn, le_nl, lt_nl, eq_nl, le_ln, lt_ln, eq_ln, eq_ll, lt_ll, le_ll, eq_nm1, eq_nm2, eq_nm3, eq_nm4]
      refine ⟨it (fun k t => t + rnW (o.1 1) k) (0 : Int32) (n + 1), s, loop_it (fun m i t => p_X9_rained_L15 fu x m (nI n) t (nI i)) (fun k t => t + rnW (o.1 1) k) 0 (n + 1) _ ?_ ?_ fu 0 (Nat.zero_le _) (by omega), loop_it (fun m i t => p_X10_rained_L22 fu m s (nI n) t (nI i)) (fun k t => t + rnW (o.1 1) k) 0 (n + 1) _ ?_ ?_ fu 0 (Nat.zero_le _) (by omega), hs⟩
      · intro m
        show p_X9_rained_L15 fu x (m + 1) (nI n) _ (nI (n + 1)) = _
        rw [p_X9_rained_L15]
        simp (disch := omega) only [inb_nI, inb_lit, cl_nI, cl_lit, nI_add, add_nl, add_ln, mul_ln, pk_mul, le_nn, lt_nn, eq_nn, le_nl, lt_nl, eq_nl, le_ln, lt_ln, eq_ln, eq_ll, lt_ll, le_ll, eq_nm1, eq_nm2, eq_nm3, eq_nm4, Option.bind_some, ↓reduceIte, if_true, if_false, Nat.reduceEqDiff, Nat.reduceAdd, Nat.reduceMul, Nat.reduceLT, Nat.reduceLeDiff, if_pos (show n < n + 1 by omega)]
      · intro m i hi
        show p_X9_rained_L15 fu x (m + 1) (nI n) _ (nI i) = p_X9_rained_L15 fu x m (nI n) _ (nI (i + 1))
        rw [p_X9_rained_L15]
        simp (disch := omega) only [inb_nI, inb_lit, cl_nI, cl_lit, nI_add, add_nl, add_ln, mul_ln, pk_mul, le_nn, lt_nn, eq_nn, le_nl, lt_nl, eq_nl, le_ln, lt_ln, eq_ln, eq_ll, lt_ll, le_ll, eq_nm1, eq_nm2, eq_nm3, eq_nm4, Option.bind_some, ↓reduceIte, if_true, if_false, Nat.reduceEqDiff, Nat.reduceAdd, Nat.reduceMul, Nat.reduceLT, Nat.reduceLeDiff, e_rainAt, h.2.1.1 i (by omega), if_neg (show ¬ n < i by omega), it]
      · intro m
        show p_X10_rained_L22 fu (m + 1) s (nI n) _ (nI (n + 1)) = _
        rw [p_X10_rained_L22]
        simp (disch := omega) only [inb_nI, inb_lit, cl_nI, cl_lit, nI_add, add_nl, add_ln, mul_ln, pk_mul, le_nn, lt_nn, eq_nn, le_nl, lt_nl, eq_nl, le_ln, lt_ln, eq_ln, eq_ll, lt_ll, le_ll, eq_nm1, eq_nm2, eq_nm3, eq_nm4, Option.bind_some, ↓reduceIte, if_true, if_false, Nat.reduceEqDiff, Nat.reduceAdd, Nat.reduceMul, Nat.reduceLT, Nat.reduceLeDiff, if_pos (show n < n + 1 by omega)]
      · intro m i hi
        show p_X10_rained_L22 fu (m + 1) s (nI n) _ (nI i) = p_X10_rained_L22 fu m s (nI n) _ (nI (i + 1))
        rw [p_X10_rained_L22]
        simp (disch := omega) only [inb_nI, inb_lit, cl_nI, cl_lit, nI_add, add_nl, add_ln, mul_ln, pk_mul, le_nn, lt_nn, eq_nn, le_nl, lt_nl, eq_nl, le_ln, lt_ln, eq_ln, eq_ll, lt_ll, le_ll, eq_nm1, eq_nm2, eq_nm3, eq_nm4, Option.bind_some, ↓reduceIte, if_true, if_false, Nat.reduceEqDiff, Nat.reduceAdd, Nat.reduceMul, Nat.reduceLT, Nat.reduceLeDiff, a.2.1 i (by omega), if_neg (show ¬ n < i by omega), it]
/-- the step of the least level -/
def lst (w : Nat → Int32) (k : Nat) : Nat := it (fun n b => if lvW w (n + 1) < lvW w b then n + 1 else b) 0 k
theorem lst_le (w : Nat → Int32) : ∀ k, lst w k ≤ k := by
  intro k
  induction k with
  | zero => exact Nat.le_refl _
  | succ k ih =>
    show (if _ then _ else _) ≤ _
    split
    · exact Nat.le_refl _
    · exact Nat.le_succ_of_le ih
theorem e_least (fu : Nat) (hf : 2000 ≤ fu) {x : Nat → Ob} {o : Ob} (h : Rel x o) : p_X9_leastStep fu x = some (nI (lst (o.1 1) 60)) := by
  unfold p_X9_leastStep
  refine loop_it (fun m i t => p_X9_leastStep_L4 fu x m (nI t) (nI (i + 1))) (fun n b => if lvW (o.1 1) (n + 1) < lvW (o.1 1) b then n + 1 else b) 0 60 _ ?_ ?_ fu 0 (Nat.zero_le _) (by omega)
  · intro m
    show p_X9_leastStep_L4 fu x (m + 1) _ (nI 61) = _
    rw [p_X9_leastStep_L4]
    simp (disch := omega) only [inb_nI, inb_lit, cl_nI, cl_lit, nI_add, add_nl, add_ln, mul_ln, pk_mul, le_nn, lt_nn, eq_nn, le_nl, lt_nl, eq_nl, le_ln, lt_ln, eq_ln, eq_ll, lt_ll, le_ll, eq_nm1, eq_nm2, eq_nm3, eq_nm4, Option.bind_some, ↓reduceIte, if_true, if_false, Nat.reduceEqDiff, Nat.reduceAdd, Nat.reduceMul, Nat.reduceLT, Nat.reduceLeDiff]
    rfl
  · intro m i hi
    have hl := lst_le (o.1 1) i
    show p_X9_leastStep_L4 fu x (m + 1) (nI (lst (o.1 1) i)) (nI (i + 1)) = p_X9_leastStep_L4 fu x m (nI (if lvW (o.1 1) (i + 1) < lvW (o.1 1) (lst (o.1 1) i) then i + 1 else lst (o.1 1) i)) (nI (i + 1 + 1))
    rw [p_X9_leastStep_L4]
    simp (disch := omega) only [inb_nI, inb_lit, cl_nI, cl_lit, nI_add, add_nl, add_ln, mul_ln, pk_mul, le_nn, lt_nn, eq_nn, le_nl, lt_nl, eq_nl, le_ln, lt_ln, eq_ln, eq_ll, lt_ll, le_ll, eq_nm1, eq_nm2, eq_nm3, eq_nm4, Option.bind_some, ↓reduceIte, if_true, if_false, Nat.reduceEqDiff, Nat.reduceAdd, Nat.reduceMul, Nat.reduceLT, Nat.reduceLeDiff, e_levelAt, h.2.1.2.1 (i + 1) (by omega), h.2.1.2.1 (lst (o.1 1) i) (by omega), if_neg (show ¬ 60 < i + 1 by omega)]
    by_cases c : lvW (o.1 1) (i + 1) < lvW (o.1 1) (lst (o.1 1) i)
    · rw [if_neg (Int32.not_le.mpr c), if_pos c]
    · rw [if_pos (Int32.not_lt.mp c), if_neg c]
theorem e_lowestOf (fu : Nat) (hf : 2000 ≤ fu) {o s : Ob} (a : AI o s) : p_X10_lowestOf fu s = some (nI (lst (o.1 1) 60)) := by
  unfold p_X10_lowestOf
  refine loop_it (fun m i t => p_X10_lowestOf_L4 fu s m (nI t) (nI (i + 1))) (fun n b => if lvW (o.1 1) (n + 1) < lvW (o.1 1) b then n + 1 else b) 0 60 _ ?_ ?_ fu 0 (Nat.zero_le _) (by omega)
  · intro m
    show p_X10_lowestOf_L4 fu s (m + 1) _ (nI 61) = _
    rw [p_X10_lowestOf_L4]
    simp (disch := omega) only [inb_nI, inb_lit, cl_nI, cl_lit, nI_add, add_nl, add_ln, mul_ln, pk_mul, le_nn, lt_nn, eq_nn, le_nl, lt_nl, eq_nl, le_ln, lt_ln, eq_ln, eq_ll, lt_ll, le_ll, eq_nm1, eq_nm2, eq_nm3, eq_nm4, Option.bind_some, ↓reduceIte, if_true, if_false, Nat.reduceEqDiff, Nat.reduceAdd, Nat.reduceMul, Nat.reduceLT, Nat.reduceLeDiff]
    rfl
  · intro m i hi
    have hl := lst_le (o.1 1) i
    show p_X10_lowestOf_L4 fu s (m + 1) (nI (lst (o.1 1) i)) (nI (i + 1)) = p_X10_lowestOf_L4 fu s m (nI (if lvW (o.1 1) (i + 1) < lvW (o.1 1) (lst (o.1 1) i) then i + 1 else lst (o.1 1) i)) (nI (i + 1 + 1))
    rw [p_X10_lowestOf_L4]
    simp (disch := omega) only [inb_nI, inb_lit, cl_nI, cl_lit, nI_add, add_nl, add_ln, mul_ln, pk_mul, le_nn, lt_nn, eq_nn, le_nl, lt_nl, eq_nl, le_ln, lt_ln, eq_ln, eq_ll, lt_ll, le_ll, eq_nm1, eq_nm2, eq_nm3, eq_nm4, Option.bind_some, ↓reduceIte, if_true, if_false, Nat.reduceEqDiff, Nat.reduceAdd, Nat.reduceMul, Nat.reduceLT, Nat.reduceLeDiff, (a.2.2.1 (i + 1) (by omega)).1, (a.2.2.1 (lst (o.1 1) i) (by omega)).1, if_neg (show ¬ 60 < i + 1 by omega)]
    by_cases c : lvW (o.1 1) (i + 1) < lvW (o.1 1) (lst (o.1 1) i)
    · rw [if_neg (Int32.not_le.mpr c), if_pos c]
    · rw [if_pos (Int32.not_lt.mp c), if_neg c]
theorem s_lowest (fu : Nat) (hf : 2000 ≤ fu) {x : Nat → Ob} {o : Ob} (h : Rel x o) : ∃ r t, p_X9_lowest fu x = some r ∧ p_X10_lowest fu o = some (r, t) ∧ Rel x t := by
  obtain ⟨s, e, a⟩ := e_asksRivers fu hf o h.w
  have hs := h.kp KQ.rf a.tf
  unfold p_X9_lowest p_X10_lowest
  rw [e, Option.bind_some]
  simp only [told0 h]
  by_cases c : nL (o.1 1) = 0
  · simp only [c, Option.bind_some, ↓reduceIte, if_true, if_false, Nat.reduceEqDiff, Nat.reduceAdd, Nat.reduceMul, Nat.reduceLT, Nat.reduceLeDiff]
    exact ⟨_, _, rfl, rfl, hs⟩
  · simp only [c, Option.bind_some, ↓reduceIte, if_true, if_false, Nat.reduceEqDiff, Nat.reduceAdd, Nat.reduceMul, Nat.reduceLT, Nat.reduceLeDiff, e_least fu hf h, e_lowestOf fu hf a]
    simp (disch := omega) only [inb_nI, inb_lit, cl_nI, cl_lit, nI_add, add_nl, add_ln, mul_ln, pk_mul, le_nn, lt_nn, eq_nn, le_nl, lt_nl, eq_nl, le_ln, lt_ln, eq_ln, eq_ll, lt_ll, le_ll, eq_nm1, eq_nm2, eq_nm3, eq_nm4, Option.bind_some, ↓reduceIte, if_true, if_false, Nat.reduceEqDiff, Nat.reduceAdd, Nat.reduceMul, Nat.reduceLT, Nat.reduceLeDiff]
    exact ⟨_, _, rfl, rfl, hs⟩
theorem s_deeper (fu : Nat) (hf : 2000 ≤ fu) {x : Nat → Ob} {o : Ob} (h : Rel x o) : ∃ r t, p_X9_deeper fu x = some r ∧ p_X10_deeper fu o = some (r, t) ∧ Rel x t := by
  obtain ⟨s, e, a⟩ := e_asksRivers fu hf o h.w
  have hs := h.kp KQ.rf a.tf
  have hl := lst_le (o.1 1) 60
  unfold p_X9_deeper p_X10_deeper
  rw [e, Option.bind_some]
  simp only [told0 h]
  by_cases c : nL (o.1 1) = 0
  · simp only [c, Option.bind_some, ↓reduceIte, if_true, if_false, Nat.reduceEqDiff, Nat.reduceAdd, Nat.reduceMul, Nat.reduceLT, Nat.reduceLeDiff]
    exact ⟨_, _, rfl, rfl, hs⟩
  · simp only [c, Option.bind_some, ↓reduceIte, if_true, if_false, Nat.reduceEqDiff, Nat.reduceAdd, Nat.reduceMul, Nat.reduceLT, Nat.reduceLeDiff, e_least fu hf h, e_lowestOf fu hf a]
    simp (disch := omega) only [inb_nI, inb_lit, cl_nI, cl_lit, nI_add, add_nl, add_ln, mul_ln, pk_mul, le_nn, lt_nn, eq_nn, le_nl, lt_nl, eq_nl, le_ln, lt_ln, eq_ln, eq_ll, lt_ll, le_ll, eq_nm1, eq_nm2, eq_nm3, eq_nm4, Option.bind_some, ↓reduceIte, if_true, if_false, Nat.reduceEqDiff, Nat.reduceAdd, Nat.reduceMul, Nat.reduceLT, Nat.reduceLeDiff, e_levelAt, h.2.1.2.1 (lst (o.1 1) 60) (by omega), (a.2.2.1 (lst (o.1 1) 60) (by omega)).1]
    exact ⟨_, _, rfl, rfl, hs⟩
