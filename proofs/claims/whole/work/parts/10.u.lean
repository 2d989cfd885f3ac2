/-! ===== a stick put in at any step: can, slowly, soon, quick, quickly, late, often ===== -/
theorem coF_or (P : PP) (r s : Nat) (v : Int32) (hs : s < 61) : coF P r s v = -1 ∨ ∃ j, s ≤ j ∧ j < 61 ∧ coF P r s v = nI j := by
  rcases ffr_or (fun n => decide ((pth P r s (n - s)).1 = v)) (61 - s) s with ⟨e, -⟩ | ⟨j, h1, h2, -, e, -⟩
  · exact Or.inl e
  · exact Or.inr ⟨j, h1, by omega, e⟩
theorem e_coming (fu : Nat) (hf : 2000 ≤ fu) {x z : Nat → Ob} {o : Ob} (h : Rel x o) (k : KQ x z) {r s q : Nat} (hr : r < nR (o.1 1)) (hs : s < 61) (hq : q < nR (o.1 1)) : ∃ y, p_X9_coming fu z (nI r) (nI s) (nI q) = some (coF (PW (o.1 1)) r s (nI q), va_up z 12 y) := by
  have hR := h.w.2.1.1
  obtain ⟨y, ey, d⟩ := e_dr fu hf h k (z 12) hr hs
  refine ⟨y, ?_⟩
  unfold p_X9_coming
  rw [ey, Option.bind_some, up12, e_firstIn fu hf _ hs d (nI q) (by simp (disch := omega) only [eq_nm2, ne_eq, not_false_eq_true]), Option.bind_some]
theorem e_areTwo (fu : Nat) (hf : 2000 ≤ fu) {x : Nat → Ob} {o : Ob} (h : Rel x o) (v1 v2 : Int32) :
    (∃ t, p_X10_areTwo fu o v1 v2 = some (0, t) ∧ FR tF o t ∧ (p_X9_isReach fu x v1 = some 0 ∨ (p_X9_isReach fu x v1 = some 1 ∧ p_X9_isReach fu x v2 = some 0))) ∨
    (∃ r q t, r < nR (o.1 1) ∧ q < nR (o.1 1) ∧ v1 = nI r ∧ v2 = nI q ∧ p_X10_areTwo fu o v1 v2 = some (1, t) ∧ FR tF o t ∧ GP (PW (o.1 1)) t ∧ p_X9_isReach fu x v1 = some 1 ∧ p_X9_isReach fu x v2 = some 1) := by
  have hR := h.w.2.1.1
  unfold p_X10_areTwo
  obtain ⟨s1, e, a⟩ := e_asksReach fu hf o h.w v1
  rw [e_cReach fu h, e_cReach fu h, e, Option.bind_some]
  rcases ixq_of v1 (n := nR (o.1 1)) (by omega) with ⟨e1, -⟩ | ⟨e1, r, hr, rfl⟩
  · simp only [e1, Option.bind_some, ↓reduceIte, if_true, if_false, Nat.reduceEqDiff, Nat.reduceAdd, Nat.reduceMul, Nat.reduceLT, Nat.reduceLeDiff]
    exact Or.inl ⟨s1, (by first | trivial | rfl), a.tf, Or.inl (by first | trivial | rfl)⟩
  · simp (disch := omega) only [e1, Option.bind_some, ↓reduceIte, if_true, if_false, Nat.reduceEqDiff, Nat.reduceAdd, Nat.reduceMul, Nat.reduceLT, Nat.reduceLeDiff, inb_nI, inb_lit, cl_nI, cl_lit, nI_add, add_nl, add_ln, mul_ln, pk_mul, le_nn, lt_nn, eq_nn, le_nl, lt_nl, eq_nl, le_ln, lt_ln, eq_ln, eq_ll, lt_ll, le_ll, eq_nm1, eq_nm2, eq_nm3, eq_nm4, e_isReach fu s1 v2 (by rw [a.w]; exact h.w), a.w]
    rcases ixq_of v2 (n := nR (o.1 1)) (by omega) with ⟨e2, -⟩ | ⟨e2, q, hq, rfl⟩
    · simp only [e2, Option.bind_some, ↓reduceIte, if_true, if_false, Nat.reduceEqDiff, Nat.reduceAdd, Nat.reduceMul, Nat.reduceLT, Nat.reduceLeDiff]
      exact Or.inl ⟨s1, (by first | trivial | rfl), a.tf, Or.inr (by simp)⟩
    · simp (disch := omega) only [e2, inb_nI, inb_lit, cl_nI, cl_lit, nI_add, add_nl, add_ln, mul_ln, pk_mul, le_nn, lt_nn, eq_nn, le_nl, lt_nl, eq_nl, le_ln, lt_ln, eq_ln, eq_ll, lt_ll, le_ll, eq_nm1, eq_nm2, eq_nm3, eq_nm4, Option.bind_some, ↓reduceIte, if_true, if_false, Nat.reduceEqDiff, Nat.reduceAdd, Nat.reduceMul, Nat.reduceLT, Nat.reduceLeDiff]
      exact Or.inr ⟨r, q, s1, hr, hq, rfl, rfl, (by first | trivial | rfl), a.tf, a.gp, (by first | trivial | rfl), (by first | trivial | rfl)⟩
def slF (P : PP) (r q i : Nat) (t : Int32) : Int32 := if coF P r i (nI q) = -1 then t else if t < coF P r i (nI q) - nI i then coF P r i (nI q) - nI i else t
theorem c_slowlyL (fu : Nat) (hf : 2000 ≤ fu) {x z0 : Nat → Ob} {o : Ob} (h : Rel x o) (k0 : KQ x z0) {r q : Nat} (hr : r < nR (o.1 1)) (hq : q < nR (o.1 1)) : ∃ z, p_X9_slowly_L24 fu fu z0 (nI r) (nI q) (-1) 0 = some (it (slF (PW (o.1 1)) r q) (-1) 61, z) ∧ KQ x z := by
  obtain ⟨⟨a, z⟩, e, ha, k⟩ := loop_inv (fun m i (t : (Nat → Ob) × Int32) => p_X9_slowly_L24 fu m t.1 (nI r) (nI q) t.2 (nI i)) 61 (fun i t => KQ x t.1 ∧ t.2 = it (slF (PW (o.1 1)) r q) (-1) i) (fun a => a.1 = it (slF (PW (o.1 1)) r q) (-1) 61 ∧ KQ x a.2) (by
    rintro m ⟨z, t⟩ ⟨k, rfl⟩
    have k : KQ x z := k
    refine ⟨(it (slF (PW (o.1 1)) r q) (-1) 61, z), ?_, rfl, k⟩
    show p_X9_slowly_L24 fu (m + 1) z (nI r) (nI q) _ (nI 61) = _
    rw [p_X9_slowly_L24]
    simp (disch := omega) only [inb_nI, inb_lit, cl_nI, cl_lit, nI_add, add_nl, add_ln, mul_ln, pk_mul, le_nn, lt_nn, eq_nn, le_nl, lt_nl, eq_nl, le_ln, lt_ln, eq_ln, eq_ll, lt_ll, le_ll, eq_nm1, eq_nm2, eq_nm3, eq_nm4, Option.bind_some, ↓reduceIte, if_true, if_false, Nat.reduceEqDiff, Nat.reduceAdd, Nat.reduceMul, Nat.reduceLT, Nat.reduceLeDiff]) (by
    rintro m i ⟨z, t⟩ hi ⟨k, rfl⟩
    have k : KQ x z := k
    right
    obtain ⟨y, ey⟩ := e_coming fu hf h k hr hi hq
    refine ⟨(va_up z 12 y, it (slF (PW (o.1 1)) r q) (-1) (i + 1)), ?_, k.up (by decide) y, rfl⟩
    show p_X9_slowly_L24 fu (m + 1) z (nI r) (nI q) _ (nI i) = p_X9_slowly_L24 fu m (va_up z 12 y) (nI r) (nI q) _ (nI (i + 1))
    rw [p_X9_slowly_L24]
    simp (disch := omega) only [inb_nI, inb_lit, cl_nI, cl_lit, nI_add, add_nl, add_ln, mul_ln, pk_mul, le_nn, lt_nn, eq_nn, le_nl, lt_nl, eq_nl, le_ln, lt_ln, eq_ln, eq_ll, lt_ll, le_ll, eq_nm1, eq_nm2, eq_nm3, eq_nm4, Option.bind_some, ↓reduceIte, if_true, if_false, Nat.reduceEqDiff, Nat.reduceAdd, Nat.reduceMul, Nat.reduceLT, Nat.reduceLeDiff, if_neg (show ¬ 60 < i by omega), ey, it, slF]
    by_cases c1 : coF (PW (o.1 1)) r i (nI q) = -1
    · simp only [if_pos c1]
    · simp only [if_neg c1]) fu 0 (z0, (-1)) (Nat.zero_le _) (by omega) ⟨k0, rfl⟩
  have ha : a = it (slF (PW (o.1 1)) r q) (-1) 61 := ha
  subst ha
  exact ⟨z, e, k⟩
theorem r_slowlyL (fu : Nat) (hf : 2000 ≤ fu) {o t0 : Ob} (hw : OKW (o.1 1)) (F0 : FR tF o t0) (G0 : GP (PW (o.1 1)) t0) {r q : Nat} (hr : r < nR (o.1 1)) (hq : q < nR (o.1 1)) : ∃ z, p_X10_slowly_L17 fu fu t0 (nI r) (nI q) (-1) 0 = some (it (slF (PW (o.1 1)) r q) (-1) 61, z) ∧ FR tF o z := by
  obtain ⟨⟨a, z⟩, e, ha, k⟩ := loop_inv (fun m i (t : Ob × Int32) => p_X10_slowly_L17 fu m t.1 (nI r) (nI q) t.2 (nI i)) 61 (fun i t => (FR tF o t.1 ∧ GP (PW (o.1 1)) t.1) ∧ t.2 = it (slF (PW (o.1 1)) r q) (-1) i) (fun a => a.1 = it (slF (PW (o.1 1)) r q) (-1) 61 ∧ FR tF o a.2) (by
    rintro m ⟨z, t⟩ ⟨⟨F, G⟩, rfl⟩
    have F : FR tF o z := F
    refine ⟨(it (slF (PW (o.1 1)) r q) (-1) 61, z), ?_, rfl, F⟩
    show p_X10_slowly_L17 fu (m + 1) z (nI r) (nI q) _ (nI 61) = _
    rw [p_X10_slowly_L17]
    simp (disch := omega) only [inb_nI, inb_lit, cl_nI, cl_lit, nI_add, add_nl, add_ln, mul_ln, pk_mul, le_nn, lt_nn, eq_nn, le_nl, lt_nl, eq_nl, le_ln, lt_ln, eq_ln, eq_ll, lt_ll, le_ll, eq_nm1, eq_nm2, eq_nm3, eq_nm4, Option.bind_some, ↓reduceIte, if_true, if_false, Nat.reduceEqDiff, Nat.reduceAdd, Nat.reduceMul, Nat.reduceLT, Nat.reduceLeDiff]) (by
    rintro m i ⟨z, t⟩ hi ⟨⟨F, G⟩, rfl⟩
    have F : FR tF o z := F
    have G : GP (PW (o.1 1)) z := G
    right
    obtain ⟨u, eu, Fu, Gu, gu⟩ := e_go fu hf hw G hr hi
    refine ⟨(u, it (slF (PW (o.1 1)) r q) (-1) (i + 1)), ?_, ⟨F.tr (Fu.mono (by decide)), Gu⟩, rfl⟩
    show p_X10_slowly_L17 fu (m + 1) z (nI r) (nI q) _ (nI i) = p_X10_slowly_L17 fu m u (nI r) (nI q) _ (nI (i + 1))
    rw [p_X10_slowly_L17]
    simp (disch := omega) only [inb_nI, inb_lit, cl_nI, cl_lit, nI_add, add_nl, add_ln, mul_ln, pk_mul, le_nn, lt_nn, eq_nn, le_nl, lt_nl, eq_nl, le_ln, lt_ln, eq_ln, eq_ll, lt_ll, le_ll, eq_nm1, eq_nm2, eq_nm3, eq_nm4, Option.bind_some, ↓reduceIte, if_true, if_false, Nat.reduceEqDiff, Nat.reduceAdd, Nat.reduceMul, Nat.reduceLT, Nat.reduceLeDiff, if_neg (show ¬ 60 < i by omega), eu, e_comesOf fu hf _ hi gu, it, slF, Int32.add_zero]
    by_cases c1 : coF (PW (o.1 1)) r i (nI q) = -1
    · simp only [if_pos c1]
    · simp only [if_neg c1]) fu 0 (t0, (-1)) (Nat.zero_le _) (by omega) ⟨⟨F0, G0⟩, rfl⟩
  have ha : a = it (slF (PW (o.1 1)) r q) (-1) 61 := ha
  subst ha
  exact ⟨z, e, k⟩
theorem s_slowly (fu : Nat) (hf : 2000 ≤ fu) {x : Nat → Ob} {o : Ob} (h : Rel x o) (v1 v2 : Int32) : ∃ r y t, p_X9_slowly fu x v1 v2 = some (r, y) ∧ p_X10_slowly fu o v1 v2 = some (r, t) ∧ Rel y t := by
  unfold p_X9_slowly p_X10_slowly
  rcases e_areTwo fu hf h v1 v2 with ⟨t, e1, F, e2 | ⟨e2, e3⟩⟩ | ⟨r, q, t, hr, hq, rfl, rfl, e1, F, G, e2, e3⟩
  · simp only [e1, e2, Option.bind_some, ↓reduceIte, if_true, if_false, Nat.reduceEqDiff, Nat.reduceAdd, Nat.reduceMul, Nat.reduceLT, Nat.reduceLeDiff]
    exact ⟨_, _, _, rfl, rfl, h.kp KQ.rf F⟩
  · simp (disch := omega) only [e1, e2, e3, inb_nI, inb_lit, cl_nI, cl_lit, nI_add, add_nl, add_ln, mul_ln, pk_mul, le_nn, lt_nn, eq_nn, le_nl, lt_nl, eq_nl, le_ln, lt_ln, eq_ln, eq_ll, lt_ll, le_ll, eq_nm1, eq_nm2, eq_nm3, eq_nm4, Option.bind_some, ↓reduceIte, if_true, if_false, Nat.reduceEqDiff, Nat.reduceAdd, Nat.reduceMul, Nat.reduceLT, Nat.reduceLeDiff]
    exact ⟨_, _, _, rfl, rfl, h.kp KQ.rf F⟩
  · simp (disch := omega) only [e1, e2, e3, inb_nI, inb_lit, cl_nI, cl_lit, nI_add, add_nl, add_ln, mul_ln, pk_mul, le_nn, lt_nn, eq_nn, le_nl, lt_nl, eq_nl, le_ln, lt_ln, eq_ln, eq_ll, lt_ll, le_ll, eq_nm1, eq_nm2, eq_nm3, eq_nm4, Option.bind_some, ↓reduceIte, if_true, if_false, Nat.reduceEqDiff, Nat.reduceAdd, Nat.reduceMul, Nat.reduceLT, Nat.reduceLeDiff]
    obtain ⟨z, ez, k⟩ := c_slowlyL fu hf h KQ.rf hr hq
    obtain ⟨u, eu, Fu⟩ := r_slowlyL fu hf h.w F G hr hq
    exact ⟨_, _, _, ez, eu, h.kp k Fu⟩
def ofF (P : PP) (r q i : Nat) (t : Int32) : Int32 := if coF P r i (nI q) = -1 then t else t + 1
theorem c_oftenL (fu : Nat) (hf : 2000 ≤ fu) {x z0 : Nat → Ob} {o : Ob} (h : Rel x o) (k0 : KQ x z0) {r q : Nat} (hr : r < nR (o.1 1)) (hq : q < nR (o.1 1)) : ∃ z, p_X9_often_L24 fu fu z0 (nI r) (nI q) 0 0 = some (it (ofF (PW (o.1 1)) r q) 0 61, z) ∧ KQ x z := by
  obtain ⟨⟨a, z⟩, e, ha, k⟩ := loop_inv (fun m i (t : (Nat → Ob) × Int32) => p_X9_often_L24 fu m t.1 (nI r) (nI q) t.2 (nI i)) 61 (fun i t => KQ x t.1 ∧ t.2 = it (ofF (PW (o.1 1)) r q) 0 i) (fun a => a.1 = it (ofF (PW (o.1 1)) r q) 0 61 ∧ KQ x a.2) (by
    rintro m ⟨z, t⟩ ⟨k, rfl⟩
    have k : KQ x z := k
    refine ⟨(it (ofF (PW (o.1 1)) r q) 0 61, z), ?_, rfl, k⟩
    show p_X9_often_L24 fu (m + 1) z (nI r) (nI q) _ (nI 61) = _
    rw [p_X9_often_L24]
    simp (disch := omega) only [inb_nI, inb_lit, cl_nI, cl_lit, nI_add, add_nl, add_ln, mul_ln, pk_mul, le_nn, lt_nn, eq_nn, le_nl, lt_nl, eq_nl, le_ln, lt_ln, eq_ln, eq_ll, lt_ll, le_ll, eq_nm1, eq_nm2, eq_nm3, eq_nm4, Option.bind_some, ↓reduceIte, if_true, if_false, Nat.reduceEqDiff, Nat.reduceAdd, Nat.reduceMul, Nat.reduceLT, Nat.reduceLeDiff]) (by
    rintro m i ⟨z, t⟩ hi ⟨k, rfl⟩
    have k : KQ x z := k
    right
    obtain ⟨y, ey⟩ := e_coming fu hf h k hr hi hq
    refine ⟨(va_up z 12 y, it (ofF (PW (o.1 1)) r q) 0 (i + 1)), ?_, k.up (by decide) y, rfl⟩
    show p_X9_often_L24 fu (m + 1) z (nI r) (nI q) _ (nI i) = p_X9_often_L24 fu m (va_up z 12 y) (nI r) (nI q) _ (nI (i + 1))
    rw [p_X9_often_L24]
    simp (disch := omega) only [inb_nI, inb_lit, cl_nI, cl_lit, nI_add, add_nl, add_ln, mul_ln, pk_mul, le_nn, lt_nn, eq_nn, le_nl, lt_nl, eq_nl, le_ln, lt_ln, eq_ln, eq_ll, lt_ll, le_ll, eq_nm1, eq_nm2, eq_nm3, eq_nm4, Option.bind_some, ↓reduceIte, if_true, if_false, Nat.reduceEqDiff, Nat.reduceAdd, Nat.reduceMul, Nat.reduceLT, Nat.reduceLeDiff, if_neg (show ¬ 60 < i by omega), ey, it, ofF]
    by_cases c1 : coF (PW (o.1 1)) r i (nI q) = -1
    · simp only [if_pos c1]
    · simp only [if_neg c1]) fu 0 (z0, 0) (Nat.zero_le _) (by omega) ⟨k0, rfl⟩
  have ha : a = it (ofF (PW (o.1 1)) r q) 0 61 := ha
  subst ha
  exact ⟨z, e, k⟩
theorem r_oftenL (fu : Nat) (hf : 2000 ≤ fu) {o t0 : Ob} (hw : OKW (o.1 1)) (F0 : FR tF o t0) (G0 : GP (PW (o.1 1)) t0) {r q : Nat} (hr : r < nR (o.1 1)) (hq : q < nR (o.1 1)) : ∃ z, p_X10_oftenOf_L5 fu fu t0 (nI r) (nI q) 0 0 = some (it (ofF (PW (o.1 1)) r q) 0 61, z) ∧ FR tF o z := by
  obtain ⟨⟨a, z⟩, e, ha, k⟩ := loop_inv (fun m i (t : Ob × Int32) => p_X10_oftenOf_L5 fu m t.1 (nI r) (nI q) t.2 (nI i)) 61 (fun i t => (FR tF o t.1 ∧ GP (PW (o.1 1)) t.1) ∧ t.2 = it (ofF (PW (o.1 1)) r q) 0 i) (fun a => a.1 = it (ofF (PW (o.1 1)) r q) 0 61 ∧ FR tF o a.2) (by
    rintro m ⟨z, t⟩ ⟨⟨F, G⟩, rfl⟩
    have F : FR tF o z := F
    refine ⟨(it (ofF (PW (o.1 1)) r q) 0 61, z), ?_, rfl, F⟩
    show p_X10_oftenOf_L5 fu (m + 1) z (nI r) (nI q) _ (nI 61) = _
    rw [p_X10_oftenOf_L5]
    simp (disch := omega) only [inb_nI, inb_lit, cl_nI, cl_lit, nI_add, add_nl, add_ln, mul_ln, pk_mul, le_nn, lt_nn, eq_nn, le_nl, lt_nl, eq_nl, le_ln, lt_ln, eq_ln, eq_ll, lt_ll, le_ll, eq_nm1, eq_nm2, eq_nm3, eq_nm4, Option.bind_some, ↓reduceIte, if_true, if_false, Nat.reduceEqDiff, Nat.reduceAdd, Nat.reduceMul, Nat.reduceLT, Nat.reduceLeDiff]) (by
    rintro m i ⟨z, t⟩ hi ⟨⟨F, G⟩, rfl⟩
    have F : FR tF o z := F
    have G : GP (PW (o.1 1)) z := G
    right
    obtain ⟨u, eu, Fu, Gu, gu⟩ := e_go fu hf hw G hr hi
    refine ⟨(u, it (ofF (PW (o.1 1)) r q) 0 (i + 1)), ?_, ⟨F.tr (Fu.mono (by decide)), Gu⟩, rfl⟩
    show p_X10_oftenOf_L5 fu (m + 1) z (nI r) (nI q) _ (nI i) = p_X10_oftenOf_L5 fu m u (nI r) (nI q) _ (nI (i + 1))
    rw [p_X10_oftenOf_L5]
    simp (disch := omega) only [inb_nI, inb_lit, cl_nI, cl_lit, nI_add, add_nl, add_ln, mul_ln, pk_mul, le_nn, lt_nn, eq_nn, le_nl, lt_nl, eq_nl, le_ln, lt_ln, eq_ln, eq_ll, lt_ll, le_ll, eq_nm1, eq_nm2, eq_nm3, eq_nm4, Option.bind_some, ↓reduceIte, if_true, if_false, Nat.reduceEqDiff, Nat.reduceAdd, Nat.reduceMul, Nat.reduceLT, Nat.reduceLeDiff, if_neg (show ¬ 60 < i by omega), eu, e_comesOf fu hf _ hi gu, it, ofF, Int32.add_zero]
    by_cases c1 : coF (PW (o.1 1)) r i (nI q) = -1
    · simp only [if_pos c1]
    · simp only [if_neg c1]) fu 0 (t0, 0) (Nat.zero_le _) (by omega) ⟨⟨F0, G0⟩, rfl⟩
  have ha : a = it (ofF (PW (o.1 1)) r q) 0 61 := ha
  subst ha
  exact ⟨z, e, k⟩
theorem s_often (fu : Nat) (hf : 2000 ≤ fu) {x : Nat → Ob} {o : Ob} (h : Rel x o) (v1 v2 : Int32) : ∃ r y t, p_X9_often fu x v1 v2 = some (r, y) ∧ p_X10_often fu o v1 v2 = some (r, t) ∧ Rel y t := by
  unfold p_X9_often p_X10_often
  rcases e_areTwo fu hf h v1 v2 with ⟨t, e1, F, e2 | ⟨e2, e3⟩⟩ | ⟨r, q, t, hr, hq, rfl, rfl, e1, F, G, e2, e3⟩
  · simp only [e1, e2, Option.bind_some, ↓reduceIte, if_true, if_false, Nat.reduceEqDiff, Nat.reduceAdd, Nat.reduceMul, Nat.reduceLT, Nat.reduceLeDiff]
    exact ⟨_, _, _, rfl, rfl, h.kp KQ.rf F⟩
  · simp (disch := omega) only [e1, e2, e3, inb_nI, inb_lit, cl_nI, cl_lit, nI_add, add_nl, add_ln, mul_ln, pk_mul, le_nn, lt_nn, eq_nn, le_nl, lt_nl, eq_nl, le_ln, lt_ln, eq_ln, eq_ll, lt_ll, le_ll, eq_nm1, eq_nm2, eq_nm3, eq_nm4, Option.bind_some, ↓reduceIte, if_true, if_false, Nat.reduceEqDiff, Nat.reduceAdd, Nat.reduceMul, Nat.reduceLT, Nat.reduceLeDiff]
    exact ⟨_, _, _, rfl, rfl, h.kp KQ.rf F⟩
  · simp (disch := omega) only [e1, e2, e3, inb_nI, inb_lit, cl_nI, cl_lit, nI_add, add_nl, add_ln, mul_ln, pk_mul, le_nn, lt_nn, eq_nn, le_nl, lt_nl, eq_nl, le_ln, lt_ln, eq_ln, eq_ll, lt_ll, le_ll, eq_nm1, eq_nm2, eq_nm3, eq_nm4, Option.bind_some, ↓reduceIte, if_true, if_false, Nat.reduceEqDiff, Nat.reduceAdd, Nat.reduceMul, Nat.reduceLT, Nat.reduceLeDiff]
    obtain ⟨z, ez, k⟩ := c_oftenL fu hf h KQ.rf hr hq
    obtain ⟨u, eu, Fu⟩ := r_oftenL fu hf h.w F G hr hq
    unfold p_X10_oftenOf
    simp only [eu, Option.bind_some]
    exact ⟨_, _, _, ez, rfl, h.kp k Fu⟩
def soF (P : PP) (r q i : Nat) (t : Int32 × Int32) : Int32 × Int32 := if coF P r i (nI q) = -1 then t else if t.2 < coF P r i (nI q) then t else (nI i, coF P r i (nI q))
theorem so_any (P : PP) (r q : Nat) (E1 E2 : Nat) (h1 : 61 ≤ E1) (h2 : 61 ≤ E2) (g1 : E1 < 2147483648) (g2 : E2 < 2147483648) : ∀ k, k ≤ 61 → (it (soF P r q) (-1, nI E1) k = (-1, nI E1) ∧ it (soF P r q) (-1, nI E2) k = (-1, nI E2)) ∨ it (soF P r q) (-1, nI E1) k = it (soF P r q) (-1, nI E2) k := by
  intro k
  induction k with
  | zero => intro _; exact Or.inl ⟨rfl, rfl⟩
  | succ k ih =>
    intro hk
    rw [it, it]
    rcases ih (by omega) with ⟨e1, e2⟩ | e
    · rw [e1, e2]
      unfold soF
      rcases coF_or P r k (nI q) (by omega) with e | ⟨j, hj1, hj2, e⟩
      · rw [e, if_pos rfl, if_pos rfl]
        exact Or.inl ⟨rfl, rfl⟩
      · right
        rw [e]
        simp (disch := omega) only [eq_nm1, Option.bind_some, ↓reduceIte, if_true, if_false, Nat.reduceEqDiff, Nat.reduceAdd, Nat.reduceMul, Nat.reduceLT, Nat.reduceLeDiff, inb_nI, inb_lit, cl_nI, cl_lit, nI_add, add_nl, add_ln, mul_ln, pk_mul, le_nn, lt_nn, eq_nn, le_nl, lt_nl, eq_nl, le_ln, lt_ln, eq_ln, eq_ll, lt_ll, le_ll, eq_nm1, eq_nm2, eq_nm3, eq_nm4, if_neg (show ¬ E1 < j by omega), if_neg (show ¬ E2 < j by omega)]
    · right
      rw [e]
theorem c_soonL (fu : Nat) (hf : 2000 ≤ fu) {x z0 : Nat → Ob} {o : Ob} (h : Rel x o) (k0 : KQ x z0) {r q : Nat} (hr : r < nR (o.1 1)) (hq : q < nR (o.1 1)) : ∃ z, p_X9_soon_L29 fu fu z0 (nI r) (nI q) (-1) 1000 0 = some ((it (soF (PW (o.1 1)) r q) (-1, 1000) 61).1, z) ∧ KQ x z := by
  obtain ⟨⟨a, z⟩, e, ha, k⟩ := loop_inv (fun m i (t : (Nat → Ob) × Int32 × Int32) => p_X9_soon_L29 fu m t.1 (nI r) (nI q) t.2.1 t.2.2 (nI i)) 61 (fun i t => KQ x t.1 ∧ t.2 = it (soF (PW (o.1 1)) r q) (-1, 1000) i) (fun a => a.1 = (it (soF (PW (o.1 1)) r q) (-1, 1000) 61).1 ∧ KQ x a.2) (by
    rintro m ⟨z, t⟩ ⟨k, rfl⟩
    have k : KQ x z := k
    refine ⟨((it (soF (PW (o.1 1)) r q) (-1, 1000) 61).1, z), ?_, rfl, k⟩
    show p_X9_soon_L29 fu (m + 1) z (nI r) (nI q) _ _ (nI 61) = _
    rw [p_X9_soon_L29]
    simp (disch := omega) only [inb_nI, inb_lit, cl_nI, cl_lit, nI_add, add_nl, add_ln, mul_ln, pk_mul, le_nn, lt_nn, eq_nn, le_nl, lt_nl, eq_nl, le_ln, lt_ln, eq_ln, eq_ll, lt_ll, le_ll, eq_nm1, eq_nm2, eq_nm3, eq_nm4, Option.bind_some, ↓reduceIte, if_true, if_false, Nat.reduceEqDiff, Nat.reduceAdd, Nat.reduceMul, Nat.reduceLT, Nat.reduceLeDiff]) (by
    rintro m i ⟨z, t⟩ hi ⟨k, rfl⟩
    have k : KQ x z := k
    right
    obtain ⟨y, ey⟩ := e_coming fu hf h k hr hi hq
    refine ⟨(va_up z 12 y, it (soF (PW (o.1 1)) r q) (-1, 1000) (i + 1)), ?_, k.up (by decide) y, rfl⟩
    show p_X9_soon_L29 fu (m + 1) z (nI r) (nI q) _ _ (nI i) = p_X9_soon_L29 fu m (va_up z 12 y) (nI r) (nI q) _ _ (nI (i + 1))
    rw [p_X9_soon_L29]
    simp (disch := omega) only [inb_nI, inb_lit, cl_nI, cl_lit, nI_add, add_nl, add_ln, mul_ln, pk_mul, le_nn, lt_nn, eq_nn, le_nl, lt_nl, eq_nl, le_ln, lt_ln, eq_ln, eq_ll, lt_ll, le_ll, eq_nm1, eq_nm2, eq_nm3, eq_nm4, Option.bind_some, ↓reduceIte, if_true, if_false, Nat.reduceEqDiff, Nat.reduceAdd, Nat.reduceMul, Nat.reduceLT, Nat.reduceLeDiff, if_neg (show ¬ 60 < i by omega), ey, it, soF]
    by_cases c1 : coF (PW (o.1 1)) r i (nI q) = -1
    · simp only [if_pos c1]
    · simp only [if_neg c1]
      by_cases c2 : (it (soF (PW (o.1 1)) r q) (-1, 1000) i).2 < coF (PW (o.1 1)) r i (nI q)
      · simp only [if_pos c2]
      · simp only [if_neg c2]) fu 0 (z0, (-1, 1000)) (Nat.zero_le _) (by omega) ⟨k0, rfl⟩
  have ha : a = (it (soF (PW (o.1 1)) r q) (-1, 1000) 61).1 := ha
  subst ha
  exact ⟨z, e, k⟩
theorem r_soonL (fu : Nat) (hf : 2000 ≤ fu) {o t0 : Ob} (hw : OKW (o.1 1)) (F0 : FR tF o t0) (G0 : GP (PW (o.1 1)) t0) {r q : Nat} (hr : r < nR (o.1 1)) (hq : q < nR (o.1 1)) : ∃ z, p_X10_soon_L22 fu fu t0 (nI r) (nI q) (-1) 1000000000 0 = some ((it (soF (PW (o.1 1)) r q) (-1, 1000000000) 61).1, z) ∧ FR tF o z := by
  obtain ⟨⟨a, z⟩, e, ha, k⟩ := loop_inv (fun m i (t : Ob × Int32 × Int32) => p_X10_soon_L22 fu m t.1 (nI r) (nI q) t.2.1 t.2.2 (nI i)) 61 (fun i t => (FR tF o t.1 ∧ GP (PW (o.1 1)) t.1) ∧ t.2 = it (soF (PW (o.1 1)) r q) (-1, 1000000000) i) (fun a => a.1 = (it (soF (PW (o.1 1)) r q) (-1, 1000000000) 61).1 ∧ FR tF o a.2) (by
    rintro m ⟨z, t⟩ ⟨⟨F, G⟩, rfl⟩
    have F : FR tF o z := F
    refine ⟨((it (soF (PW (o.1 1)) r q) (-1, 1000000000) 61).1, z), ?_, rfl, F⟩
    show p_X10_soon_L22 fu (m + 1) z (nI r) (nI q) _ _ (nI 61) = _
    rw [p_X10_soon_L22]
    simp (disch := omega) only [inb_nI, inb_lit, cl_nI, cl_lit, nI_add, add_nl, add_ln, mul_ln, pk_mul, le_nn, lt_nn, eq_nn, le_nl, lt_nl, eq_nl, le_ln, lt_ln, eq_ln, eq_ll, lt_ll, le_ll, eq_nm1, eq_nm2, eq_nm3, eq_nm4, Option.bind_some, ↓reduceIte, if_true, if_false, Nat.reduceEqDiff, Nat.reduceAdd, Nat.reduceMul, Nat.reduceLT, Nat.reduceLeDiff]) (by
    rintro m i ⟨z, t⟩ hi ⟨⟨F, G⟩, rfl⟩
    have F : FR tF o z := F
    have G : GP (PW (o.1 1)) z := G
    right
    obtain ⟨u, eu, Fu, Gu, gu⟩ := e_go fu hf hw G hr hi
    refine ⟨(u, it (soF (PW (o.1 1)) r q) (-1, 1000000000) (i + 1)), ?_, ⟨F.tr (Fu.mono (by decide)), Gu⟩, rfl⟩
    show p_X10_soon_L22 fu (m + 1) z (nI r) (nI q) _ _ (nI i) = p_X10_soon_L22 fu m u (nI r) (nI q) _ _ (nI (i + 1))
    rw [p_X10_soon_L22]
    simp (disch := omega) only [inb_nI, inb_lit, cl_nI, cl_lit, nI_add, add_nl, add_ln, mul_ln, pk_mul, le_nn, lt_nn, eq_nn, le_nl, lt_nl, eq_nl, le_ln, lt_ln, eq_ln, eq_ll, lt_ll, le_ll, eq_nm1, eq_nm2, eq_nm3, eq_nm4, Option.bind_some, ↓reduceIte, if_true, if_false, Nat.reduceEqDiff, Nat.reduceAdd, Nat.reduceMul, Nat.reduceLT, Nat.reduceLeDiff, if_neg (show ¬ 60 < i by omega), eu, e_comesOf fu hf _ hi gu, it, soF, Int32.add_zero]
    by_cases c1 : coF (PW (o.1 1)) r i (nI q) = -1
    · simp only [if_pos c1]
    · simp only [if_neg c1]
      by_cases c2 : (it (soF (PW (o.1 1)) r q) (-1, 1000000000) i).2 < coF (PW (o.1 1)) r i (nI q)
      · simp only [if_pos c2, if_neg (Int32.not_le.mpr c2)]
      · simp only [if_neg c2, if_pos (Int32.not_lt.mp c2)]) fu 0 (t0, (-1, 1000000000)) (Nat.zero_le _) (by omega) ⟨⟨F0, G0⟩, rfl⟩
  have ha : a = (it (soF (PW (o.1 1)) r q) (-1, 1000000000) 61).1 := ha
  subst ha
  exact ⟨z, e, k⟩
theorem s_soon (fu : Nat) (hf : 2000 ≤ fu) {x : Nat → Ob} {o : Ob} (h : Rel x o) (v1 v2 : Int32) : ∃ r y t, p_X9_soon fu x v1 v2 = some (r, y) ∧ p_X10_soon fu o v1 v2 = some (r, t) ∧ Rel y t := by
  unfold p_X9_soon p_X10_soon
  rcases e_areTwo fu hf h v1 v2 with ⟨t, e1, F, e2 | ⟨e2, e3⟩⟩ | ⟨r, q, t, hr, hq, rfl, rfl, e1, F, G, e2, e3⟩
  · simp only [e1, e2, Option.bind_some, ↓reduceIte, if_true, if_false, Nat.reduceEqDiff, Nat.reduceAdd, Nat.reduceMul, Nat.reduceLT, Nat.reduceLeDiff]
    exact ⟨_, _, _, rfl, rfl, h.kp KQ.rf F⟩
  · simp (disch := omega) only [e1, e2, e3, inb_nI, inb_lit, cl_nI, cl_lit, nI_add, add_nl, add_ln, mul_ln, pk_mul, le_nn, lt_nn, eq_nn, le_nl, lt_nl, eq_nl, le_ln, lt_ln, eq_ln, eq_ll, lt_ll, le_ll, eq_nm1, eq_nm2, eq_nm3, eq_nm4, Option.bind_some, ↓reduceIte, if_true, if_false, Nat.reduceEqDiff, Nat.reduceAdd, Nat.reduceMul, Nat.reduceLT, Nat.reduceLeDiff]
    exact ⟨_, _, _, rfl, rfl, h.kp KQ.rf F⟩
  · simp (disch := omega) only [e1, e2, e3, inb_nI, inb_lit, cl_nI, cl_lit, nI_add, add_nl, add_ln, mul_ln, pk_mul, le_nn, lt_nn, eq_nn, le_nl, lt_nl, eq_nl, le_ln, lt_ln, eq_ln, eq_ll, lt_ll, le_ll, eq_nm1, eq_nm2, eq_nm3, eq_nm4, Option.bind_some, ↓reduceIte, if_true, if_false, Nat.reduceEqDiff, Nat.reduceAdd, Nat.reduceMul, Nat.reduceLT, Nat.reduceLeDiff]
    obtain ⟨z, ez, k⟩ := c_soonL fu hf h KQ.rf hr hq
    obtain ⟨u, eu, Fu⟩ := r_soonL fu hf h.w F G hr hq
    have e : (it (soF (PW (o.1 1)) r q) (-1, 1000) 61).1 = (it (soF (PW (o.1 1)) r q) (-1, 1000000000) 61).1 := by
      rcases so_any (PW (o.1 1)) r q 1000 1000000000 (by omega) (by omega) (by omega) (by omega) 61 (Nat.le_refl _) with ⟨a, b⟩ | a
      · have a : it (soF (PW (o.1 1)) r q) (-1, 1000) 61 = (-1, 1000) := a
        have b : it (soF (PW (o.1 1)) r q) (-1, 1000000000) 61 = (-1, 1000000000) := b
        rw [a, b]
      · have a : it (soF (PW (o.1 1)) r q) (-1, 1000) 61 = it (soF (PW (o.1 1)) r q) (-1, 1000000000) 61 := a
        rw [a]
    rw [e] at ez
    exact ⟨_, _, _, ez, eu, h.kp k Fu⟩
def quF (P : PP) (r q i : Nat) (t : Int32 × Int32) : Int32 × Int32 := if coF P r i (nI q) = -1 then t else if t.2 ≤ coF P r i (nI q) - nI i then t else (nI i, coF P r i (nI q) - nI i)
theorem qu_any (P : PP) (r q : Nat) (E1 E2 : Nat) (h1 : 61 ≤ E1) (h2 : 61 ≤ E2) (g1 : E1 < 2147483648) (g2 : E2 < 2147483648) : ∀ k, k ≤ 61 → (it (quF P r q) (-1, nI E1) k = (-1, nI E1) ∧ it (quF P r q) (-1, nI E2) k = (-1, nI E2)) ∨ (it (quF P r q) (-1, nI E1) k = it (quF P r q) (-1, nI E2) k ∧ ∃ s j, s < 61 ∧ s ≤ j ∧ j < 61 ∧ coF P r s (nI q) = nI j ∧ it (quF P r q) (-1, nI E1) k = (nI s, nI (j - s))) := by
  intro k
  induction k with
  | zero => intro _; exact Or.inl ⟨rfl, rfl⟩
  | succ k ih =>
    intro hk
    rw [it, it]
    rcases ih (by omega) with ⟨e1, e2⟩ | ⟨e, s, j, hs, hj1, hj2, ec, ei⟩
    · rw [e1, e2]
      unfold quF
      rcases coF_or P r k (nI q) (by omega) with e | ⟨j, hj1, hj2, e⟩
      · rw [e, if_pos rfl, if_pos rfl]
        exact Or.inl ⟨rfl, rfl⟩
      · right
        rw [e, pk_sub hj1]
        simp (disch := omega) only [eq_nm1, Option.bind_some, ↓reduceIte, if_true, if_false, Nat.reduceEqDiff, Nat.reduceAdd, Nat.reduceMul, Nat.reduceLT, Nat.reduceLeDiff, inb_nI, inb_lit, cl_nI, cl_lit, nI_add, add_nl, add_ln, mul_ln, pk_mul, le_nn, lt_nn, eq_nn, le_nl, lt_nl, eq_nl, le_ln, lt_ln, eq_ln, eq_ll, lt_ll, le_ll, eq_nm1, eq_nm2, eq_nm3, eq_nm4, if_neg (show ¬ E1 ≤ j - k by omega), if_neg (show ¬ E2 ≤ j - k by omega)]
        exact ⟨trivial, k, j, by omega, hj1, hj2, e, rfl⟩
    · right
      rw [← e]
      refine ⟨rfl, ?_⟩
      rw [ei]
      unfold quF
      rcases coF_or P r k (nI q) (by omega) with e' | ⟨j', hj1', hj2', e'⟩
      · rw [e', if_pos rfl]
        exact ⟨s, j, hs, hj1, hj2, ec, rfl⟩
      · rw [e', pk_sub hj1', if_neg (by simp (disch := omega) only [eq_nm1, not_false_eq_true])]
        split
        · exact ⟨s, j, hs, hj1, hj2, ec, rfl⟩
        · exact ⟨k, j', by omega, hj1', hj2', e', rfl⟩
theorem c_quickestL (fu : Nat) (hf : 2000 ≤ fu) {x z0 : Nat → Ob} {o : Ob} (h : Rel x o) (k0 : KQ x z0) {r q : Nat} (hr : r < nR (o.1 1)) (hq : q < nR (o.1 1)) : ∃ z, p_X9_quickestStep_L10 fu fu z0 (nI r) (nI q) (-1) 1000 0 = some ((it (quF (PW (o.1 1)) r q) (-1, 1000) 61).1, z) ∧ KQ x z := by
  obtain ⟨⟨a, z⟩, e, ha, k⟩ := loop_inv (fun m i (t : (Nat → Ob) × Int32 × Int32) => p_X9_quickestStep_L10 fu m t.1 (nI r) (nI q) t.2.1 t.2.2 (nI i)) 61 (fun i t => KQ x t.1 ∧ t.2 = it (quF (PW (o.1 1)) r q) (-1, 1000) i) (fun a => a.1 = (it (quF (PW (o.1 1)) r q) (-1, 1000) 61).1 ∧ KQ x a.2) (by
    rintro m ⟨z, t⟩ ⟨k, rfl⟩
    have k : KQ x z := k
    refine ⟨((it (quF (PW (o.1 1)) r q) (-1, 1000) 61).1, z), ?_, rfl, k⟩
    show p_X9_quickestStep_L10 fu (m + 1) z (nI r) (nI q) _ _ (nI 61) = _
    rw [p_X9_quickestStep_L10]
    simp (disch := omega) only [inb_nI, inb_lit, cl_nI, cl_lit, nI_add, add_nl, add_ln, mul_ln, pk_mul, le_nn, lt_nn, eq_nn, le_nl, lt_nl, eq_nl, le_ln, lt_ln, eq_ln, eq_ll, lt_ll, le_ll, eq_nm1, eq_nm2, eq_nm3, eq_nm4, Option.bind_some, ↓reduceIte, if_true, if_false, Nat.reduceEqDiff, Nat.reduceAdd, Nat.reduceMul, Nat.reduceLT, Nat.reduceLeDiff]) (by
    rintro m i ⟨z, t⟩ hi ⟨k, rfl⟩
    have k : KQ x z := k
    right
    obtain ⟨y, ey⟩ := e_coming fu hf h k hr hi hq
    refine ⟨(va_up z 12 y, it (quF (PW (o.1 1)) r q) (-1, 1000) (i + 1)), ?_, k.up (by decide) y, rfl⟩
    show p_X9_quickestStep_L10 fu (m + 1) z (nI r) (nI q) _ _ (nI i) = p_X9_quickestStep_L10 fu m (va_up z 12 y) (nI r) (nI q) _ _ (nI (i + 1))
    rw [p_X9_quickestStep_L10]
    simp (disch := omega) only [inb_nI, inb_lit, cl_nI, cl_lit, nI_add, add_nl, add_ln, mul_ln, pk_mul, le_nn, lt_nn, eq_nn, le_nl, lt_nl, eq_nl, le_ln, lt_ln, eq_ln, eq_ll, lt_ll, le_ll, eq_nm1, eq_nm2, eq_nm3, eq_nm4, Option.bind_some, ↓reduceIte, if_true, if_false, Nat.reduceEqDiff, Nat.reduceAdd, Nat.reduceMul, Nat.reduceLT, Nat.reduceLeDiff, if_neg (show ¬ 60 < i by omega), ey, it, quF]
    by_cases c1 : coF (PW (o.1 1)) r i (nI q) = -1
    · simp only [if_pos c1]
    · simp only [if_neg c1]
      by_cases c2 : (it (quF (PW (o.1 1)) r q) (-1, 1000) i).2 ≤ coF (PW (o.1 1)) r i (nI q) - nI i
      · simp only [if_pos c2]
      · simp only [if_neg c2]) fu 0 (z0, (-1, 1000)) (Nat.zero_le _) (by omega) ⟨k0, rfl⟩
  have ha : a = (it (quF (PW (o.1 1)) r q) (-1, 1000) 61).1 := ha
  subst ha
  exact ⟨z, e, k⟩
theorem r_quickL (fu : Nat) (hf : 2000 ≤ fu) {o t0 : Ob} (hw : OKW (o.1 1)) (F0 : FR tF o t0) (G0 : GP (PW (o.1 1)) t0) {r q : Nat} (hr : r < nR (o.1 1)) (hq : q < nR (o.1 1)) : ∃ z, p_X10_quickOf fu t0 (nI r) (nI q) = some ((if (it (quF (PW (o.1 1)) r q) (-1, 1000000000) 61).2 = 1000000000 then -1 else (it (quF (PW (o.1 1)) r q) (-1, 1000000000) 61).2), z) ∧ FR tF o z ∧ z.1 29 0 = (it (quF (PW (o.1 1)) r q) (-1, 1000000000) 61).1 := by
  unfold p_X10_quickOf
  obtain ⟨⟨a, z⟩, e, ha, k⟩ := loop_inv (fun m i (t : Ob × Int32) => p_X10_quickOf_L12 fu m t.1 (nI r) (nI q) t.2 (nI i)) 61 (fun i t => (FR tF o t.1 ∧ GP (PW (o.1 1)) t.1) ∧ t.2 = (it (quF (PW (o.1 1)) r q) (-1, 1000000000) i).2 ∧ t.1.1 29 0 = (it (quF (PW (o.1 1)) r q) (-1, 1000000000) i).1) (fun a => a.1 = (if (it (quF (PW (o.1 1)) r q) (-1, 1000000000) 61).2 = 1000000000 then -1 else (it (quF (PW (o.1 1)) r q) (-1, 1000000000) 61).2) ∧ FR tF o a.2 ∧ a.2.1 29 0 = (it (quF (PW (o.1 1)) r q) (-1, 1000000000) 61).1) (by
    rintro m ⟨z, t⟩ ⟨⟨F, G⟩, ht, h29⟩
    have F : FR tF o z := F
    have ht : t = (it (quF (PW (o.1 1)) r q) (-1, 1000000000) 61).2 := ht
    refine ⟨((if (it (quF (PW (o.1 1)) r q) (-1, 1000000000) 61).2 = 1000000000 then -1 else (it (quF (PW (o.1 1)) r q) (-1, 1000000000) 61).2), z), ?_, rfl, F, h29⟩
    show p_X10_quickOf_L12 fu (m + 1) z (nI r) (nI q) t (nI 61) = _
    rw [p_X10_quickOf_L12, ht]
    simp (disch := omega) only [inb_nI, inb_lit, cl_nI, cl_lit, nI_add, add_nl, add_ln, mul_ln, pk_mul, le_nn, lt_nn, eq_nn, le_nl, lt_nl, eq_nl, le_ln, lt_ln, eq_ln, eq_ll, lt_ll, le_ll, eq_nm1, eq_nm2, eq_nm3, eq_nm4, Option.bind_some, ↓reduceIte, if_true, if_false, Nat.reduceEqDiff, Nat.reduceAdd, Nat.reduceMul, Nat.reduceLT, Nat.reduceLeDiff]
    by_cases c8 : (it (quF (PW (o.1 1)) r q) (-1, 1000000000) 61).2 = 1000000000
    · simp only [if_pos c8]
    · simp only [if_neg c8]) (by
    rintro m i ⟨z, t⟩ hi ⟨⟨F, G⟩, ht, h29⟩
    have F : FR tF o z := F
    have G : GP (PW (o.1 1)) z := G
    have ht : t = (it (quF (PW (o.1 1)) r q) (-1, 1000000000) i).2 := ht
    have h29 : z.1 29 0 = (it (quF (PW (o.1 1)) r q) (-1, 1000000000) i).1 := h29
    right
    obtain ⟨u, eu, Fu, Gu, gu⟩ := e_go fu hf hw G hr hi
    have u29 : u.1 29 0 = (it (quF (PW (o.1 1)) r q) (-1, 1000000000) i).1 := by rw [Fu.f1 29 (by decide)]; exact h29
    have FF : FR tF o u := F.tr (Fu.mono (by decide))
    show ∃ s' : Ob × Int32, p_X10_quickOf_L12 fu (m + 1) z (nI r) (nI q) t (nI i) = p_X10_quickOf_L12 fu m s'.1 (nI r) (nI q) s'.2 (nI (i + 1)) ∧ _
    rw [p_X10_quickOf_L12, ht]
    simp (disch := omega) only [inb_nI, inb_lit, cl_nI, cl_lit, nI_add, add_nl, add_ln, mul_ln, pk_mul, le_nn, lt_nn, eq_nn, le_nl, lt_nl, eq_nl, le_ln, lt_ln, eq_ln, eq_ll, lt_ll, le_ll, eq_nm1, eq_nm2, eq_nm3, eq_nm4, Option.bind_some, ↓reduceIte, if_true, if_false, Nat.reduceEqDiff, Nat.reduceAdd, Nat.reduceMul, Nat.reduceLT, Nat.reduceLeDiff, if_neg (show ¬ 60 < i by omega), eu, e_comesOf fu hf _ hi gu, it, quF]
    by_cases c1 : coF (PW (o.1 1)) r i (nI q) = -1
    · simp only [if_pos c1]
      exact ⟨(u, _), rfl, ⟨FF, Gu⟩, rfl, u29⟩
    · simp only [if_neg c1]
      by_cases c2 : (it (quF (PW (o.1 1)) r q) (-1, 1000000000) i).2 ≤ coF (PW (o.1 1)) r i (nI q) - nI i
      · simp only [if_pos c2, if_neg (Int32.not_lt.mpr c2)]
        exact ⟨(u, _), rfl, ⟨FF, Gu⟩, rfl, u29⟩
      · simp only [if_neg c2, if_pos (Int32.not_le.mp c2)]
        exact ⟨(oI u 29 (nI i), _), rfl, ⟨FF.I (by decide) _, Gu.kp (FR.rf.I (fs := [29]) (by decide) _) (by decide) (by decide) (by decide) (by decide) (by decide) (by decide)⟩, rfl, rfl⟩) fu 0 (oI t0 29 (-1), 1000000000) (Nat.zero_le _) (by omega) ⟨⟨F0.I (by decide) _, G0.kp (FR.rf.I (fs := [29]) (by decide) _) (by decide) (by decide) (by decide) (by decide) (by decide) (by decide)⟩, rfl, rfl⟩
  have ha : a = _ := ha
  subst ha
  exact ⟨z, e, k⟩
theorem s_quickly (fu : Nat) (hf : 2000 ≤ fu) {x : Nat → Ob} {o : Ob} (h : Rel x o) (v1 v2 : Int32) : ∃ r y t, p_X9_quickly fu x v1 v2 = some (r, y) ∧ p_X10_quickly fu o v1 v2 = some (r, t) ∧ Rel y t := by
  unfold p_X9_quickly p_X10_quickly
  rcases e_areTwo fu hf h v1 v2 with ⟨t, e1, F, e2 | ⟨e2, e3⟩⟩ | ⟨r, q, t, hr, hq, rfl, rfl, e1, F, G, e2, e3⟩
  · simp only [e1, e2, Option.bind_some, ↓reduceIte, if_true, if_false, Nat.reduceEqDiff, Nat.reduceAdd, Nat.reduceMul, Nat.reduceLT, Nat.reduceLeDiff]
    exact ⟨_, _, _, rfl, rfl, h.kp KQ.rf F⟩
  · simp (disch := omega) only [e1, e2, e3, inb_nI, inb_lit, cl_nI, cl_lit, nI_add, add_nl, add_ln, mul_ln, pk_mul, le_nn, lt_nn, eq_nn, le_nl, lt_nl, eq_nl, le_ln, lt_ln, eq_ln, eq_ll, lt_ll, le_ll, eq_nm1, eq_nm2, eq_nm3, eq_nm4, Option.bind_some, ↓reduceIte, if_true, if_false, Nat.reduceEqDiff, Nat.reduceAdd, Nat.reduceMul, Nat.reduceLT, Nat.reduceLeDiff]
    exact ⟨_, _, _, rfl, rfl, h.kp KQ.rf F⟩
  · simp (disch := omega) only [e1, e2, e3, inb_nI, inb_lit, cl_nI, cl_lit, nI_add, add_nl, add_ln, mul_ln, pk_mul, le_nn, lt_nn, eq_nn, le_nl, lt_nl, eq_nl, le_ln, lt_ln, eq_ln, eq_ll, lt_ll, le_ll, eq_nm1, eq_nm2, eq_nm3, eq_nm4, Option.bind_some, ↓reduceIte, if_true, if_false, Nat.reduceEqDiff, Nat.reduceAdd, Nat.reduceMul, Nat.reduceLT, Nat.reduceLeDiff]
    obtain ⟨z, ez, k⟩ := c_quickestL fu hf h KQ.rf hr hq
    obtain ⟨u, eu, Fu, h29⟩ := r_quickL fu hf h.w F G hr hq
    unfold p_X9_quickestStep
    simp only [ez, eu, Option.bind_some, h29]
    rcases qu_any (PW (o.1 1)) r q 1000 1000000000 (by omega) (by omega) (by omega) (by omega) 61 (Nat.le_refl _) with ⟨a, b⟩ | ⟨a, -⟩
    · have a : it (quF (PW (o.1 1)) r q) (-1, 1000) 61 = (-1, 1000) := a
      have b : it (quF (PW (o.1 1)) r q) (-1, 1000000000) 61 = (-1, 1000000000) := b
      rw [a, b]
      exact ⟨_, _, _, rfl, rfl, h.kp k Fu⟩
    · have a : it (quF (PW (o.1 1)) r q) (-1, 1000) 61 = it (quF (PW (o.1 1)) r q) (-1, 1000000000) 61 := a
      rw [a]
      exact ⟨_, _, _, rfl, rfl, h.kp k Fu⟩
theorem s_quick (fu : Nat) (hf : 2000 ≤ fu) {x : Nat → Ob} {o : Ob} (h : Rel x o) (v1 v2 : Int32) : ∃ r y t, p_X9_quick fu x v1 v2 = some (r, y) ∧ p_X10_quick fu o v1 v2 = some (r, t) ∧ Rel y t := by
  unfold p_X9_quick p_X10_quick
  rcases e_areTwo fu hf h v1 v2 with ⟨t, e1, F, e2 | ⟨e2, e3⟩⟩ | ⟨r, q, t, hr, hq, rfl, rfl, e1, F, G, e2, e3⟩
  · simp only [e1, e2, Option.bind_some, ↓reduceIte, if_true, if_false, Nat.reduceEqDiff, Nat.reduceAdd, Nat.reduceMul, Nat.reduceLT, Nat.reduceLeDiff]
    exact ⟨_, _, _, rfl, rfl, h.kp KQ.rf F⟩
  · simp (disch := omega) only [e1, e2, e3, inb_nI, inb_lit, cl_nI, cl_lit, nI_add, add_nl, add_ln, mul_ln, pk_mul, le_nn, lt_nn, eq_nn, le_nl, lt_nl, eq_nl, le_ln, lt_ln, eq_ln, eq_ll, lt_ll, le_ll, eq_nm1, eq_nm2, eq_nm3, eq_nm4, Option.bind_some, ↓reduceIte, if_true, if_false, Nat.reduceEqDiff, Nat.reduceAdd, Nat.reduceMul, Nat.reduceLT, Nat.reduceLeDiff]
    exact ⟨_, _, _, rfl, rfl, h.kp KQ.rf F⟩
  · simp (disch := omega) only [e1, e2, e3, inb_nI, inb_lit, cl_nI, cl_lit, nI_add, add_nl, add_ln, mul_ln, pk_mul, le_nn, lt_nn, eq_nn, le_nl, lt_nl, eq_nl, le_ln, lt_ln, eq_ln, eq_ll, lt_ll, le_ll, eq_nm1, eq_nm2, eq_nm3, eq_nm4, Option.bind_some, ↓reduceIte, if_true, if_false, Nat.reduceEqDiff, Nat.reduceAdd, Nat.reduceMul, Nat.reduceLT, Nat.reduceLeDiff]
    have hR := h.w.2.1.1
    obtain ⟨z, ez, k⟩ := c_quickestL fu hf h KQ.rf hr hq
    obtain ⟨u, eu, Fu, h29⟩ := r_quickL fu hf h.w F G hr hq
    unfold p_X9_quickestStep
    simp only [ez, eu, Option.bind_some]
    rcases qu_any (PW (o.1 1)) r q 1000 1000000000 (by omega) (by omega) (by omega) (by omega) 61 (Nat.le_refl _) with ⟨a, b⟩ | ⟨a, s, j, hs, hj1, hj2, ec, ei⟩
    · have a : it (quF (PW (o.1 1)) r q) (-1, 1000) 61 = (-1, 1000) := a
      have b : it (quF (PW (o.1 1)) r q) (-1, 1000000000) 61 = (-1, 1000000000) := b
      rw [a, b]
      simp only [Option.bind_some, ↓reduceIte, if_true, if_false, Nat.reduceEqDiff, Nat.reduceAdd, Nat.reduceMul, Nat.reduceLT, Nat.reduceLeDiff]
      exact ⟨_, _, _, rfl, rfl, h.kp k Fu⟩
    · have a : it (quF (PW (o.1 1)) r q) (-1, 1000) 61 = it (quF (PW (o.1 1)) r q) (-1, 1000000000) 61 := a
      have ei : it (quF (PW (o.1 1)) r q) (-1, 1000) 61 = (nI s, nI (j - s)) := ei
      obtain ⟨y, ey⟩ := e_coming fu hf h k hr hs hq
      rw [← a, ei]
      simp (disch := omega) only [inb_nI, inb_lit, cl_nI, cl_lit, nI_add, add_nl, add_ln, mul_ln, pk_mul, le_nn, lt_nn, eq_nn, le_nl, lt_nl, eq_nl, le_ln, lt_ln, eq_ln, eq_ll, lt_ll, le_ll, eq_nm1, eq_nm2, eq_nm3, eq_nm4, Option.bind_some, ↓reduceIte, if_true, if_false, Nat.reduceEqDiff, Nat.reduceAdd, Nat.reduceMul, Nat.reduceLT, Nat.reduceLeDiff, ey, ec, if_neg (show ¬ j - s = 1000000000 by omega)]
      exact ⟨_, _, _, by rw [pk_sub hj1], rfl, h.kp (k.up (by decide) y) Fu⟩
theorem e_putsIn (fu : Nat) (hf : 2000 ≤ fu) {o : Ob} (hw : OKW (o.1 1)) {r s : Nat} (hr : r < nR (o.1 1)) (hs : s < 61) : ∃ t, p_X10_putsIn fu o (nI r) (nI s) = some (1, t) ∧ FR tF o t ∧ GP (PW (o.1 1)) t ∧ GSt (PW (o.1 1)) r s t := by
  have hR := hw.2.1.1
  unfold p_X10_putsIn
  obtain ⟨s1, e, a⟩ := e_asksReach fu hf o hw (nI r)
  obtain ⟨t, et, ft, gt⟩ := e_goStick fu hf (PW (o.1 1)) hw.p hr hs s1 a.gp
  rw [e, Option.bind_some, ixq_nI hr (by omega)]
  simp (disch := omega) only [inb_nI, inb_lit, cl_nI, cl_lit, nI_add, add_nl, add_ln, mul_ln, pk_mul, le_nn, lt_nn, eq_nn, le_nl, lt_nl, eq_nl, le_ln, lt_ln, eq_ln, eq_ll, lt_ll, le_ll, eq_nm1, eq_nm2, eq_nm3, eq_nm4, Option.bind_some, ↓reduceIte, if_true, if_false, Nat.reduceEqDiff, Nat.reduceAdd, Nat.reduceMul, Nat.reduceLT, Nat.reduceLeDiff, e_rStep, ixq_nI hs (by omega), et]
  exact ⟨t, rfl, a.tf.tr (ft.mono (by decide)), a.gp.kp ft (by decide) (by decide) (by decide) (by decide) (by decide) (by decide), gt⟩
def caF (P : PP) (r i : Nat) (t : Int32) : Int32 := t ||| (aVis P r i (61 - i)).1
theorem s_can (fu : Nat) (hf : 2000 ≤ fu) {x : Nat → Ob} {o : Ob} (h : Rel x o) (v1 : Int32) : ∃ r y t, p_X9_can fu x v1 = some (r, y) ∧ p_X10_can fu o v1 = some (r, t) ∧ Rel y t := by
  have hR := h.w.2.1.1
  obtain ⟨s, e, a⟩ := e_asksReach fu hf o h.w v1
  unfold p_X9_can p_X10_can
  rw [e_cReach fu h, Option.bind_some, e, Option.bind_some]
  rcases ixq_of v1 (n := nR (o.1 1)) (by omega) with ⟨e1, -⟩ | ⟨e1, r, hr, rfl⟩
  · simp only [e1, Option.bind_some, ↓reduceIte, if_true, if_false, Nat.reduceEqDiff, Nat.reduceAdd, Nat.reduceMul, Nat.reduceLT, Nat.reduceLeDiff]
    exact ⟨_, _, _, rfl, rfl, h.kp KQ.rf a.tf⟩
  · simp (disch := omega) only [e1, inb_nI, inb_lit, cl_nI, cl_lit, nI_add, add_nl, add_ln, mul_ln, pk_mul, le_nn, lt_nn, eq_nn, le_nl, lt_nl, eq_nl, le_ln, lt_ln, eq_ln, eq_ll, lt_ll, le_ll, eq_nm1, eq_nm2, eq_nm3, eq_nm4, Option.bind_some, ↓reduceIte, if_true, if_false, Nat.reduceEqDiff, Nat.reduceAdd, Nat.reduceMul, Nat.reduceLT, Nat.reduceLeDiff]
    obtain ⟨⟨a1, z1⟩, c1, c2, c3⟩ := loop_inv (fun m i (t : (Nat → Ob) × Int32) => p_X9_can_L15 fu m t.1 (nI r) t.2 (nI i)) 61 (fun i t => KQ x t.1 ∧ t.2 = it (caF (PW (o.1 1)) r) 0 i) (fun z => z.1 = it (caF (PW (o.1 1)) r) 0 61 ∧ KQ x z.2) (by
      rintro m ⟨z, t⟩ ⟨k, rfl⟩
      have k : KQ x z := k
      refine ⟨(it (caF (PW (o.1 1)) r) 0 61, z), ?_, rfl, k⟩
      show p_X9_can_L15 fu (m + 1) z (nI r) _ (nI 61) = _
      rw [p_X9_can_L15]
      simp (disch := omega) only [inb_nI, inb_lit, cl_nI, cl_lit, nI_add, add_nl, add_ln, mul_ln, pk_mul, le_nn, lt_nn, eq_nn, le_nl, lt_nl, eq_nl, le_ln, lt_ln, eq_ln, eq_ll, lt_ll, le_ll, eq_nm1, eq_nm2, eq_nm3, eq_nm4, Option.bind_some, ↓reduceIte, if_true, if_false, Nat.reduceEqDiff, Nat.reduceAdd, Nat.reduceMul, Nat.reduceLT, Nat.reduceLeDiff]) (by
      rintro m i ⟨z, t⟩ hi ⟨k, rfl⟩
      have k : KQ x z := k
      right
      obtain ⟨y, ey, d⟩ := e_dr fu hf h k (z 12) hr hi
      refine ⟨(va_up z 12 y, it (caF (PW (o.1 1)) r) 0 (i + 1)), ?_, k.up (by decide) y, rfl⟩
      show p_X9_can_L15 fu (m + 1) z (nI r) _ (nI i) = p_X9_can_L15 fu m _ (nI r) _ (nI (i + 1))
      rw [p_X9_can_L15]
      simp (disch := omega) only [inb_nI, inb_lit, cl_nI, cl_lit, nI_add, add_nl, add_ln, mul_ln, pk_mul, le_nn, lt_nn, eq_nn, le_nl, lt_nl, eq_nl, le_ln, lt_ln, eq_ln, eq_ll, lt_ll, le_ll, eq_nm1, eq_nm2, eq_nm3, eq_nm4, Option.bind_some, ↓reduceIte, if_true, if_false, Nat.reduceEqDiff, Nat.reduceAdd, Nat.reduceMul, Nat.reduceLT, Nat.reduceLeDiff, if_neg (show ¬ 60 < i by omega), ey, up12, d.2.1, it, caF]) fu 0 (x, 0) (Nat.zero_le _) (by omega) ⟨KQ.rf, rfl⟩
    obtain ⟨⟨a2, z2⟩, d1, d2, d3⟩ := loop_inv (fun m i (t : Ob × Int32) => p_X10_can_L15 fu m t.1 (nI r) t.2 (nI i)) 61 (fun i t => FR tF o t.1 ∧ t.2 = it (caF (PW (o.1 1)) r) 0 i) (fun z => z.1 = it (caF (PW (o.1 1)) r) 0 61 ∧ FR tF o z.2) (by
      rintro m ⟨z, t⟩ ⟨F, rfl⟩
      have F : FR tF o z := F
      refine ⟨(it (caF (PW (o.1 1)) r) 0 61, z), ?_, rfl, F⟩
      show p_X10_can_L15 fu (m + 1) z (nI r) _ (nI 61) = _
      rw [p_X10_can_L15]
      simp (disch := omega) only [inb_nI, inb_lit, cl_nI, cl_lit, nI_add, add_nl, add_ln, mul_ln, pk_mul, le_nn, lt_nn, eq_nn, le_nl, lt_nl, eq_nl, le_ln, lt_ln, eq_ln, eq_ll, lt_ll, le_ll, eq_nm1, eq_nm2, eq_nm3, eq_nm4, Option.bind_some, ↓reduceIte, if_true, if_false, Nat.reduceEqDiff, Nat.reduceAdd, Nat.reduceMul, Nat.reduceLT, Nat.reduceLeDiff]) (by
      rintro m i ⟨z, t⟩ hi ⟨F, rfl⟩
      have F : FR tF o z := F
      right
      have w1 : z.1 1 = o.1 1 := F.f1 1 (by decide)
      obtain ⟨u, eu, Fu, Gu, gu⟩ := e_putsIn fu hf (o := z) (by rw [w1]; exact h.w) (by rw [w1]; exact hr) hi
      rw [w1] at Gu gu
      have ew := e_wayL fu hf _ h.w.p hr hi gu
      refine ⟨(u, it (caF (PW (o.1 1)) r) 0 (i + 1)), ?_, F.tr Fu, rfl⟩
      show p_X10_can_L15 fu (m + 1) z (nI r) _ (nI i) = p_X10_can_L15 fu m _ (nI r) _ (nI (i + 1))
      rw [p_X10_can_L15]
      unfold p_X10_way
      simp (disch := omega) only [inb_nI, inb_lit, cl_nI, cl_lit, nI_add, add_nl, add_ln, mul_ln, pk_mul, le_nn, lt_nn, eq_nn, le_nl, lt_nl, eq_nl, le_ln, lt_ln, eq_ln, eq_ll, lt_ll, le_ll, eq_nm1, eq_nm2, eq_nm3, eq_nm4, Option.bind_some, ↓reduceIte, if_true, if_false, Nat.reduceEqDiff, Nat.reduceAdd, Nat.reduceMul, Nat.reduceLT, Nat.reduceLeDiff, if_neg (show ¬ 60 < i by omega), eu, ew, it, caF]) fu 0 (s, 0) (Nat.zero_le _) (by omega) ⟨a.tf, rfl⟩
    simp only at c2 c3 d2 d3
    subst c2 d2
    exact ⟨_, z1, z2, c1, d1, h.kp c3 d3⟩
theorem s_late (fu : Nat) (hf : 2000 ≤ fu) {x : Nat → Ob} {o : Ob} (h : Rel x o) (v1 v2 v3 : Int32) : ∃ r y t, p_X9_late fu x v1 v2 v3 = some (r, y) ∧ p_X10_late fu o v1 v2 v3 = some (r, t) ∧ Rel y t := by
  have hR := h.w.2.1.1
  unfold p_X9_late p_X10_late
  rcases e_areTwo fu hf h v1 v2 with ⟨t, e1, F, e2 | ⟨e2, e3⟩⟩ | ⟨r, q, t, hr, hq, rfl, rfl, e1, F, G, e2, e3⟩
  · simp only [e1, e2, Option.bind_some, ↓reduceIte, if_true, if_false, Nat.reduceEqDiff, Nat.reduceAdd, Nat.reduceMul, Nat.reduceLT, Nat.reduceLeDiff]
    exact ⟨_, _, _, rfl, rfl, h.kp KQ.rf F⟩
  · simp (disch := omega) only [e1, e2, e3, inb_nI, inb_lit, cl_nI, cl_lit, nI_add, add_nl, add_ln, mul_ln, pk_mul, le_nn, lt_nn, eq_nn, le_nl, lt_nl, eq_nl, le_ln, lt_ln, eq_ln, eq_ll, lt_ll, le_ll, eq_nm1, eq_nm2, eq_nm3, eq_nm4, Option.bind_some, ↓reduceIte, if_true, if_false, Nat.reduceEqDiff, Nat.reduceAdd, Nat.reduceMul, Nat.reduceLT, Nat.reduceLeDiff]
    exact ⟨_, _, _, rfl, rfl, h.kp KQ.rf F⟩
  · simp (disch := omega) only [e1, e2, e3, inb_nI, inb_lit, cl_nI, cl_lit, nI_add, add_nl, add_ln, mul_ln, pk_mul, le_nn, lt_nn, eq_nn, le_nl, lt_nl, eq_nl, le_ln, lt_ln, eq_ln, eq_ll, lt_ll, le_ll, eq_nm1, eq_nm2, eq_nm3, eq_nm4, Option.bind_some, ↓reduceIte, if_true, if_false, Nat.reduceEqDiff, Nat.reduceAdd, Nat.reduceMul, Nat.reduceLT, Nat.reduceLeDiff, e_cStep, e_rStep]
    rcases ixq_of v3 (n := 61) (by omega) with ⟨e4, -⟩ | ⟨e4, n, hn, rfl⟩
    · simp only [e4, Option.bind_some, ↓reduceIte, if_true, if_false, Nat.reduceEqDiff, Nat.reduceAdd, Nat.reduceMul, Nat.reduceLT, Nat.reduceLeDiff]
      exact ⟨_, _, _, rfl, rfl, h.kp KQ.rf F⟩
    · simp (disch := omega) only [e4, inb_nI, inb_lit, cl_nI, cl_lit, nI_add, add_nl, add_ln, mul_ln, pk_mul, le_nn, lt_nn, eq_nn, le_nl, lt_nl, eq_nl, le_ln, lt_ln, eq_ln, eq_ll, lt_ll, le_ll, eq_nm1, eq_nm2, eq_nm3, eq_nm4, Option.bind_some, ↓reduceIte, if_true, if_false, Nat.reduceEqDiff, Nat.reduceAdd, Nat.reduceMul, Nat.reduceLT, Nat.reduceLeDiff]
      obtain ⟨vv, hvv⟩ : ∃ vv : Nat → Int32, vv = fun k => if k ≤ n then nI (n - k) else -1 := ⟨_, rfl⟩
      have v0 : ∀ k, k ≤ n → vv k = nI (n - k) := fun k hk => by rw [hvv]; exact if_pos hk
      have vs : ∀ k, k ≤ n → nI (n - k) + (-1) = vv (k + 1) := fun k hk => by
        rw [hvv]
        by_cases c : k + 1 ≤ n
        · show _ = if _ then _ else _
          rw [if_pos c, show n - k = (n - (k + 1)) + 1 by omega, pk_m1]
        · show _ = if _ then _ else _
          rw [if_neg c, show n - k = 0 by omega]; rfl
      have ve : vv (n + 1) = -1 := by rw [hvv]; exact if_neg (by omega)
      obtain ⟨p, hp⟩ : ∃ p : Nat → Bool, p = fun k => decide ((pth (PW (o.1 1)) r (n - k) k).1 = nI q) := ⟨_, rfl⟩
      obtain ⟨⟨a1, z1⟩, c1, c2, c3⟩ := loop_inv (fun m i (z : Nat → Ob) => p_X9_late_L29 fu m z (nI r) (nI q) (nI n) (vv i)) (n + 1) (fun i z => KQ x z ∧ ∀ j, j < i → p j = false) (fun a => a.1 = (if ffr p 0 (n + 1) = -1 then -1 else nI (n - (ffr p 0 (n + 1)).toNatClampNeg)) ∧ KQ x a.2) (by
        rintro m z ⟨k, hk⟩
        refine ⟨(-1, z), ?_, ?_, k⟩
        · show p_X9_late_L29 fu (m + 1) z (nI r) (nI q) (nI n) (vv (n + 1)) = _
          rw [p_X9_late_L29, ve, if_pos (by decide)]
        · rw [ffr_no (n + 1) 0 (fun j h1 h2 => hk j (by omega)), if_pos rfl]) (by
        rintro m i z hi ⟨k, hk⟩
        obtain ⟨y, ey, d⟩ := e_dr fu hf h k (z 12) hr (show n - i < 61 by omega)
        show (∃ a, p_X9_late_L29 fu (m + 1) z (nI r) (nI q) (nI n) (vv i) = some a ∧ _) ∨ (∃ s', p_X9_late_L29 fu (m + 1) z (nI r) (nI q) (nI n) (vv i) = p_X9_late_L29 fu m s' (nI r) (nI q) (nI n) (vv (i + 1)) ∧ _)
        rw [p_X9_late_L29, v0 i (by omega)]
        have dn : y.1 0 n = (pth (PW (o.1 1)) r (n - i) i).1 := by
          rw [d.at (show n - i ≤ n by omega) hn, show n - (n - i) = i by omega]
        simp (disch := omega) only [inb_nI, inb_lit, cl_nI, cl_lit, nI_add, add_nl, add_ln, mul_ln, pk_mul, le_nn, lt_nn, eq_nn, le_nl, lt_nl, eq_nl, le_ln, lt_ln, eq_ln, eq_ll, lt_ll, le_ll, eq_nm1, eq_nm2, eq_nm3, eq_nm4, Option.bind_some, ↓reduceIte, if_true, if_false, Nat.reduceEqDiff, Nat.reduceAdd, Nat.reduceMul, Nat.reduceLT, Nat.reduceLeDiff, if_neg (show ¬ n - i < 0 by omega), ey, up12, e_spotAt, dn, vs i (by omega)]
        by_cases c : (pth (PW (o.1 1)) r (n - i) i).1 = nI q
        · left
          refine ⟨(nI (n - i), va_up z 12 y), by rw [if_pos c], ?_, k.up (by decide) y⟩
          rw [ffr_at (p := p) (Nat.zero_le i) (by omega) (by rw [hp]; exact decide_eq_true c) (fun j g1 g2 => hk j g2), if_neg (by simp (disch := omega) only [eq_nm1, not_false_eq_true]), cl_nI (by omega)]
        · right
          refine ⟨va_up z 12 y, by rw [if_neg c], k.up (by decide) y, fun j hj => ?_⟩
          by_cases g : j = i
          · subst g; rw [hp]; exact decide_eq_false c
          · exact hk j (by omega)) fu 0 x (Nat.zero_le _) (by omega) ⟨KQ.rf, fun j hj => by omega⟩
      obtain ⟨⟨a2, z2⟩, d1, d2, d3⟩ := loop_inv (fun m i (z : Ob) => p_X10_late_L23 fu m z (nI r) (nI q) (nI n) (vv i)) (n + 1) (fun i z => (FR tF o z ∧ GP (PW (o.1 1)) z) ∧ ∀ j, j < i → p j = false) (fun a => a.1 = (if ffr p 0 (n + 1) = -1 then -1 else nI (n - (ffr p 0 (n + 1)).toNatClampNeg)) ∧ FR tF o a.2) (by
        rintro m z ⟨⟨F, G⟩, hk⟩
        refine ⟨(-1, z), ?_, ?_, F⟩
        · show p_X10_late_L23 fu (m + 1) z (nI r) (nI q) (nI n) (vv (n + 1)) = _
          rw [p_X10_late_L23, ve, if_pos (by decide)]
        · rw [ffr_no (n + 1) 0 (fun j h1 h2 => hk j (by omega)), if_pos rfl]) (by
        rintro m i z hi ⟨⟨F, G⟩, hk⟩
        obtain ⟨u, eu, Fu, Gu, gu⟩ := e_go fu hf h.w G hr (show n - i < 61 by omega)
        show (∃ a, p_X10_late_L23 fu (m + 1) z (nI r) (nI q) (nI n) (vv i) = some a ∧ _) ∨ (∃ s', p_X10_late_L23 fu (m + 1) z (nI r) (nI q) (nI n) (vv i) = p_X10_late_L23 fu m s' (nI r) (nI q) (nI n) (vv (i + 1)) ∧ _)
        rw [p_X10_late_L23, v0 i (by omega)]
        have dn : u.1 22 n = (pth (PW (o.1 1)) r (n - i) i).1 := by
          rw [gu.at2 (show n - i ≤ n by omega) hn, show n - (n - i) = i by omega]
        have FF := F.tr (Fu.mono (gs := tF) (by decide))
        simp (disch := omega) only [inb_nI, inb_lit, cl_nI, cl_lit, nI_add, add_nl, add_ln, mul_ln, pk_mul, le_nn, lt_nn, eq_nn, le_nl, lt_nl, eq_nl, le_ln, lt_ln, eq_ln, eq_ll, lt_ll, le_ll, eq_nm1, eq_nm2, eq_nm3, eq_nm4, Option.bind_some, ↓reduceIte, if_true, if_false, Nat.reduceEqDiff, Nat.reduceAdd, Nat.reduceMul, Nat.reduceLT, Nat.reduceLeDiff, if_neg (show ¬ n - i < 0 by omega), eu, dn, vs i (by omega)]
        by_cases c : (pth (PW (o.1 1)) r (n - i) i).1 = nI q
        · left
          refine ⟨(nI (n - i), u), by rw [if_pos c], ?_, FF⟩
          rw [ffr_at (p := p) (Nat.zero_le i) (by omega) (by rw [hp]; exact decide_eq_true c) (fun j g1 g2 => hk j g2), if_neg (by simp (disch := omega) only [eq_nm1, not_false_eq_true]), cl_nI (by omega)]
        · right
          refine ⟨u, by rw [if_neg c], ⟨FF, Gu⟩, fun j hj => ?_⟩
          by_cases g : j = i
          · subst g; rw [hp]; exact decide_eq_false c
          · exact hk j (by omega)) fu 0 t (Nat.zero_le _) (by omega) ⟨⟨F, G⟩, fun j hj => by omega⟩
      simp only at c2 c3 d2 d3
      subst c2 d2
      have c1 : p_X9_late_L29 fu fu x (nI r) (nI q) (nI n) (vv 0) = _ := c1
      have d1 : p_X10_late_L23 fu fu t (nI r) (nI q) (nI n) (vv 0) = _ := d1
      rw [v0 0 (Nat.zero_le _)] at c1 d1
      exact ⟨_, z1, z2, c1, d1, h.kp c3 d3⟩
