/-- two sticks put in at step 0: both are asked for -/
theorem e_both (fu : Nat) (hf : 2000 ≤ fu) {x : Nat → Ob} {o : Ob} (h : Rel x o) (v1 v2 : Int32) :
    (∃ t, p_X9_putBothIn fu x v1 v2 = some (0, x) ∧ FR tF o t ∧ ((p_X10_isReach fu o v2.toInt64 = some 0 ∧ t = o) ∨ (p_X10_isReach fu o v2.toInt64 = some 1 ∧ p_X10_putsIn fu o v1 0 = some (0, t)))) ∨
    (∃ t b, p_X9_putBothIn fu x v1 v2 = some (0, b) ∧ KQ x b ∧ FR tF o t ∧ p_X10_isReach fu o v2.toInt64 = some 1 ∧ p_X10_putsIn fu o v1 0 = some (0, t)) ∨
    (∃ r q y b t, r < nR (o.1 1) ∧ q < nR (o.1 1) ∧ v1 = nI r ∧ v2 = nI q ∧ p_X9_putBothIn fu x v1 v2 = some (1, va_up (va_up x 12 y) 13 b) ∧ DSt (PW (o.1 1)) r 0 y ∧ DSt (PW (o.1 1)) q 0 b ∧
      p_X10_isReach fu o v2.toInt64 = some 1 ∧ p_X10_putsIn fu o v1 0 = some (1, t) ∧ FR tF o t ∧ GP (PW (o.1 1)) t ∧ GSt (PW (o.1 1)) r 0 t) := by
  have hR := h.w.2.1.1
  unfold p_X9_putBothIn
  rw [e_cReach fu h, e_isReach fu o _ h.w, Option.bind_some]
  rcases ixq_of v2 (n := nR (o.1 1)) (by omega) with ⟨e3, -⟩ | ⟨e3, q, hq, rfl⟩
  · simp only [e3, Option.bind_some, ↓reduceIte, if_true, if_false, Nat.reduceEqDiff, Nat.reduceAdd, Nat.reduceMul, Nat.reduceLT, Nat.reduceLeDiff]
    exact Or.inl ⟨o, (by first | trivial | rfl), FR.rf, Or.inl ⟨(by first | trivial | rfl), rfl⟩⟩
  · simp (disch := omega) only [e3, inb_nI, inb_lit, cl_nI, cl_lit, nI_add, add_nl, add_ln, mul_ln, pk_mul, le_nn, lt_nn, eq_nn, le_nl, lt_nl, eq_nl, le_ln, lt_ln, eq_ln, eq_ll, lt_ll, le_ll, eq_nm1, eq_nm2, eq_nm3, eq_nm4, Option.bind_some, ↓reduceIte, if_true, if_false, Nat.reduceEqDiff, Nat.reduceAdd, Nat.reduceMul, Nat.reduceLT, Nat.reduceLeDiff]
    rcases e_putIn fu hf h v1 0 with ⟨e1, t, e2, F⟩ | ⟨r, s, y, t, hr, hs, rfl, hs0, e1, d, e2, F, G, g⟩
    · simp only [e1, e2, Option.bind_some, ↓reduceIte, if_true, if_false, Nat.reduceEqDiff, Nat.reduceAdd, Nat.reduceMul, Nat.reduceLT, Nat.reduceLeDiff]
      exact Or.inl ⟨t, (by first | trivial | rfl), F, Or.inr ⟨(by first | trivial | rfl), (by first | trivial | rfl)⟩⟩
    · have : s = 0 := by
        have z : nI 0 = nI s := hs0
        rw [eq_nn (by omega) (by omega)] at z
        exact z.symm
      subst this
      obtain ⟨b, eb, db⟩ := e_dr fu hf h (KQ.s12 y) (x 13) hq (show 0 < 61 by omega)
      have eb' : p_X5_drift fu (va_up x 12 y 13) (va_up x 12 y 5) (va_up x 12 y 10) (nI q) 0 = some b := eb
      simp (disch := omega) only [e1, e2, inb_nI, inb_lit, cl_nI, cl_lit, nI_add, add_nl, add_ln, mul_ln, pk_mul, le_nn, lt_nn, eq_nn, le_nl, lt_nl, eq_nl, le_ln, lt_ln, eq_ln, eq_ll, lt_ll, le_ll, eq_nm1, eq_nm2, eq_nm3, eq_nm4, Option.bind_some, ↓reduceIte, if_true, if_false, Nat.reduceEqDiff, Nat.reduceAdd, Nat.reduceMul, Nat.reduceLT, Nat.reduceLeDiff, eb']
      exact Or.inr (Or.inr ⟨r, q, y, b, t, hr, hq, rfl, rfl, (by first | trivial | rfl), d, db, (by first | trivial | rfl), (by first | trivial | rfl), F, G, g⟩)
/-- they are in one reach at step n -/
def shq (P : PP) (r q n : Nat) : Bool := !decide ((pth P q 0 n).1 < 0) && decide ((pth P q 0 n).1 = (pth P r 0 n).1)
theorem e_share (fu : Nat) {x : Nat → Ob} {P : PP} (h : OKP P) (h0 : P.2.2.2.2.2 = 0) {r q n : Nat} (hr : r < nR P.1) (hq : q < nR P.1) (hn : n < 61) (d : DSt P r 0 (x 12)) (b : DSt P q 0 (x 13)) : p_X9_shareReach fu x (nI n) = some (if shq P r q n = true then 1 else 0) := by
  unfold p_X9_shareReach
  simp (disch := omega) only [e_spotAt, Option.bind_some, ↓reduceIte, if_true, if_false, Nat.reduceEqDiff, Nat.reduceAdd, Nat.reduceMul, Nat.reduceLT, Nat.reduceLeDiff, d.at (Nat.zero_le n) hn, b.at (Nat.zero_le n) hn, Nat.sub_zero]
  have hR := h.1.2.1.1
  unfold shq
  rcases spo_neg h (pth_ok P h hr 0 n).1 with ⟨hneg, hv⟩ | ⟨i, hi, hi10, ei⟩
  · have hm : (pth P r 0 n).1 = -1 := by
      rcases hv with z | z
      · exact z
      · rcases pth_np P h0 (r := r) 0 n with w | w | w
        · exact absurd z w
        · exact absurd h w
        · exact absurd hr w
    rw [hm, if_pos rfl]
    by_cases c : (pth P q 0 n).1 = -1
    · rw [c]; rfl
    · simp [c]
  · rw [ei, if_neg (by simp (disch := omega) only [eq_nm1, not_false_eq_true])]
    by_cases c : nI i = (pth P q 0 n).1
    · rw [if_pos c, ← c]
      simp [nn0 (show i < 2147483648 by omega)]
    · rw [if_neg c]
      have c' : ¬ (pth P q 0 n).1 = nI i := fun z => c z.symm
      simp [c']
theorem e_wasAt (fu : Nat) (hf : 2000 ≤ fu) (c : Ob → Int32 → Option (Int32 × Ob)) (t : Ob) (v : Int32) : ∃ u, p_X10_meet_L23 fu c fu t v 0 = c u v ∧ FR [27] t u ∧ ∀ k, k < 61 → u.1 27 k = t.1 22 k := by
  refine loop_to (fun n i s => p_X10_meet_L23 fu c n s v (nI i)) 61 (fun i s => FR [27] t s ∧ ∀ k, k < i → s.1 27 k = t.1 22 k) (fun s => c s v) ?_ ?_ fu 0 t (Nat.zero_le _) (by omega) ⟨FR.rf, fun k hk => by omega⟩
  · rintro n s hs
    show p_X10_meet_L23 fu c (n + 1) s v (nI 61) = _
    rw [p_X10_meet_L23]
    simp (disch := omega) only [inb_nI, inb_lit, cl_nI, cl_lit, nI_add, add_nl, add_ln, mul_ln, pk_mul, le_nn, lt_nn, eq_nn, le_nl, lt_nl, eq_nl, le_ln, lt_ln, eq_ln, eq_ll, lt_ll, le_ll, eq_nm1, eq_nm2, eq_nm3, eq_nm4, Option.bind_some, ↓reduceIte, if_true, if_false, Nat.reduceEqDiff, Nat.reduceAdd, Nat.reduceMul, Nat.reduceLT, Nat.reduceLeDiff]
  · rintro n i s hi ⟨hF, hk⟩
    refine ⟨oA s 27 (upd (s.1 27) i (s.1 22 i)), ?_, hF.A (by decide) _, ?_⟩
    · show p_X10_meet_L23 fu c (n + 1) s v (nI i) = p_X10_meet_L23 fu c n _ v (nI (i + 1))
      rw [p_X10_meet_L23]
      simp (disch := omega) only [inb_nI, inb_lit, cl_nI, cl_lit, nI_add, add_nl, add_ln, mul_ln, pk_mul, le_nn, lt_nn, eq_nn, le_nl, lt_nl, eq_nl, le_ln, lt_ln, eq_ln, eq_ll, lt_ll, le_ll, eq_nm1, eq_nm2, eq_nm3, eq_nm4, Option.bind_some, ↓reduceIte, if_true, if_false, Nat.reduceEqDiff, Nat.reduceAdd, Nat.reduceMul, Nat.reduceLT, Nat.reduceLeDiff, if_neg (show ¬ 60 < i by omega)]
    · intro k hk1
      rw [oA_1, if_pos rfl, upd_v]
      split
      · rename_i e; rw [e, hF.f1 22 (by decide)]
      · exact hk k (by omega)
theorem al_me (fu : Nat) (c : Ob → Int32 → Option (Int32 × Ob)) : ∀ n t v i, p_X10_alike_L23 fu c n t v i = p_X10_meet_L23 fu c n t v i := by
  intro n
  induction n with
  | zero => intro t v i; rfl
  | succ n ih =>
    intro t v i
    rw [p_X10_alike_L23, p_X10_meet_L23]
    simp only [ih]
theorem s_meet (fu : Nat) (hf : 2000 ≤ fu) {x : Nat → Ob} {o : Ob} (h : Rel x o) (v1 v2 : Int32) : ∃ r y t, p_X9_meet fu x v1 v2 = some (r, y) ∧ p_X10_meet fu o v1 v2 = some (r, t) ∧ Rel y t := by
  unfold p_X9_meet p_X10_meet
  rcases e_both fu hf h v1 v2 with ⟨t, e1, F, ⟨e2, rfl⟩ | ⟨e2, e3⟩⟩ | ⟨t, b, e1, k, F, e2, e3⟩ | ⟨r, q, y, b, t, hr, hq, rfl, rfl, e1, d, db, e2, e3, F, G, g⟩
  · simp only [e1, e2, Option.bind_some, ↓reduceIte, if_true, if_false, Nat.reduceEqDiff, Nat.reduceAdd, Nat.reduceMul, Nat.reduceLT, Nat.reduceLeDiff]
    exact ⟨_, _, _, rfl, rfl, h⟩
  · simp (disch := omega) only [e1, e2, e3, inb_nI, inb_lit, cl_nI, cl_lit, nI_add, add_nl, add_ln, mul_ln, pk_mul, le_nn, lt_nn, eq_nn, le_nl, lt_nl, eq_nl, le_ln, lt_ln, eq_ln, eq_ll, lt_ll, le_ll, eq_nm1, eq_nm2, eq_nm3, eq_nm4, Option.bind_some, ↓reduceIte, if_true, if_false, Nat.reduceEqDiff, Nat.reduceAdd, Nat.reduceMul, Nat.reduceLT, Nat.reduceLeDiff]
    exact ⟨_, _, _, rfl, rfl, h.kp KQ.rf F⟩
  · simp (disch := omega) only [e1, e2, e3, inb_nI, inb_lit, cl_nI, cl_lit, nI_add, add_nl, add_ln, mul_ln, pk_mul, le_nn, lt_nn, eq_nn, le_nl, lt_nl, eq_nl, le_ln, lt_ln, eq_ln, eq_ll, lt_ll, le_ll, eq_nm1, eq_nm2, eq_nm3, eq_nm4, Option.bind_some, ↓reduceIte, if_true, if_false, Nat.reduceEqDiff, Nat.reduceAdd, Nat.reduceMul, Nat.reduceLT, Nat.reduceLeDiff]
    exact ⟨_, _, _, rfl, rfl, h.kp k F⟩
  · simp (disch := omega) only [e1, e2, e3, inb_nI, inb_lit, cl_nI, cl_lit, nI_add, add_nl, add_ln, mul_ln, pk_mul, le_nn, lt_nn, eq_nn, le_nl, lt_nl, eq_nl, le_ln, lt_ln, eq_ln, eq_ll, lt_ll, le_ll, eq_nm1, eq_nm2, eq_nm3, eq_nm4, Option.bind_some, ↓reduceIte, if_true, if_false, Nat.reduceEqDiff, Nat.reduceAdd, Nat.reduceMul, Nat.reduceLT, Nat.reduceLeDiff]
    obtain ⟨u, eu, Fu, hu⟩ := e_wasAt fu hf (fun oz v2 => (p_X10_goStick fu oz v2 (0 : Int32)).bind fun r_50 => p_X10_meet_L55 fu fu r_50 0) t (nI q)
    have Gu : GP (PW (o.1 1)) u := G.kp Fu (by decide) (by decide) (by decide) (by decide) (by decide) (by decide)
    obtain ⟨u2, e4, F2, G2, g2⟩ := e_go fu hf h.w Gu hq (show 0 < 61 by omega)
    have e4' : p_X10_goStick fu u (nI q) 0 = some u2 := e4
    rw [eu]
    simp only [e4', Option.bind_some]
    refine ⟨ffr (shq (PW (o.1 1)) r q) 0 61, va_up (va_up x 12 y) 13 b, u2, loop_ff (fun m i => p_X9_meet_L14 fu m (va_up (va_up x 12 y) 13 b) (nI i)) (shq (PW (o.1 1)) r q) 61 (fun z => (z, va_up (va_up x 12 y) 13 b)) ?_ ?_ fu 0 (Nat.zero_le _) (by omega), loop_ff (fun m i => p_X10_meet_L55 fu m u2 (nI i)) (shq (PW (o.1 1)) r q) 61 (fun z => (z, u2)) ?_ ?_ fu 0 (Nat.zero_le _) (by omega), h.kp ((KQ.s12 y).up (by decide) b) (F.tr ((Fu.mono (by decide)).tr (F2.mono (by decide))))⟩
    · intro m
      show p_X9_meet_L14 fu (m + 1) _ (nI 61) = _
      rw [p_X9_meet_L14]
      simp (disch := omega) only [inb_nI, inb_lit, cl_nI, cl_lit, nI_add, add_nl, add_ln, mul_ln, pk_mul, le_nn, lt_nn, eq_nn, le_nl, lt_nl, eq_nl, le_ln, lt_ln, eq_ln, eq_ll, lt_ll, le_ll, eq_nm1, eq_nm2, eq_nm3, eq_nm4, Option.bind_some, ↓reduceIte, if_true, if_false, Nat.reduceEqDiff, Nat.reduceAdd, Nat.reduceMul, Nat.reduceLT, Nat.reduceLeDiff]
    · intro m i hi
      show p_X9_meet_L14 fu (m + 1) _ (nI i) = if _ then _ else p_X9_meet_L14 fu m _ (nI (i + 1))
      rw [p_X9_meet_L14]
      simp (disch := omega) only [inb_nI, inb_lit, cl_nI, cl_lit, nI_add, add_nl, add_ln, mul_ln, pk_mul, le_nn, lt_nn, eq_nn, le_nl, lt_nl, eq_nl, le_ln, lt_ln, eq_ln, eq_ll, lt_ll, le_ll, eq_nm1, eq_nm2, eq_nm3, eq_nm4, Option.bind_some, ↓reduceIte, if_true, if_false, Nat.reduceEqDiff, Nat.reduceAdd, Nat.reduceMul, Nat.reduceLT, Nat.reduceLeDiff, e_share fu (x := va_up (va_up x 12 y) 13 b) h.w.p rfl hr hq hi d db, if_neg (show ¬ 60 < i by omega)]
      cases shq (PW (o.1 1)) r q i
      · simp only [Option.bind_some, ↓reduceIte, if_true, if_false, Nat.reduceEqDiff, Nat.reduceAdd, Nat.reduceMul, Nat.reduceLT, Nat.reduceLeDiff, Bool.false_eq_true]
      · simp (disch := omega) only [inb_nI, inb_lit, cl_nI, cl_lit, nI_add, add_nl, add_ln, mul_ln, pk_mul, le_nn, lt_nn, eq_nn, le_nl, lt_nl, eq_nl, le_ln, lt_ln, eq_ln, eq_ll, lt_ll, le_ll, eq_nm1, eq_nm2, eq_nm3, eq_nm4, Option.bind_some, ↓reduceIte, if_true, if_false, Nat.reduceEqDiff, Nat.reduceAdd, Nat.reduceMul, Nat.reduceLT, Nat.reduceLeDiff]
    · intro m
      show p_X10_meet_L55 fu (m + 1) _ (nI 61) = _
      rw [p_X10_meet_L55]
      simp (disch := omega) only [inb_nI, inb_lit, cl_nI, cl_lit, nI_add, add_nl, add_ln, mul_ln, pk_mul, le_nn, lt_nn, eq_nn, le_nl, lt_nl, eq_nl, le_ln, lt_ln, eq_ln, eq_ll, lt_ll, le_ll, eq_nm1, eq_nm2, eq_nm3, eq_nm4, Option.bind_some, ↓reduceIte, if_true, if_false, Nat.reduceEqDiff, Nat.reduceAdd, Nat.reduceMul, Nat.reduceLT, Nat.reduceLeDiff]
    · intro m i hi
      show p_X10_meet_L55 fu (m + 1) _ (nI i) = if _ then _ else p_X10_meet_L55 fu m _ (nI (i + 1))
      rw [p_X10_meet_L55]
      have w27 : u2.1 27 i = (pth (PW (o.1 1)) r 0 i).1 := by
        rw [F2.f1 27 (by decide), hu i hi, g.at2 (Nat.zero_le i) hi, Nat.sub_zero]
      simp (disch := omega) only [inb_nI, inb_lit, cl_nI, cl_lit, nI_add, add_nl, add_ln, mul_ln, pk_mul, le_nn, lt_nn, eq_nn, le_nl, lt_nl, eq_nl, le_ln, lt_ln, eq_ln, eq_ll, lt_ll, le_ll, eq_nm1, eq_nm2, eq_nm3, eq_nm4, Option.bind_some, ↓reduceIte, if_true, if_false, Nat.reduceEqDiff, Nat.reduceAdd, Nat.reduceMul, Nat.reduceLT, Nat.reduceLeDiff, g2.at2 (Nat.zero_le i) hi, Nat.sub_zero, w27, if_neg (show ¬ 60 < i by omega)]
      unfold shq
      by_cases c : (pth (PW (o.1 1)) q 0 i).1 < 0
      · simp only [c, Option.bind_some, ↓reduceIte, if_true, if_false, Nat.reduceEqDiff, Nat.reduceAdd, Nat.reduceMul, Nat.reduceLT, Nat.reduceLeDiff, decide_true, Bool.not_true, Bool.false_and, Bool.false_eq_true]
      · simp only [c, Option.bind_some, ↓reduceIte, if_true, if_false, Nat.reduceEqDiff, Nat.reduceAdd, Nat.reduceMul, Nat.reduceLT, Nat.reduceLeDiff, decide_false, Bool.not_false, Bool.true_and, decide_eq_true_eq]
theorem s_alike (fu : Nat) (hf : 2000 ≤ fu) {x : Nat → Ob} {o : Ob} (h : Rel x o) (v1 v2 : Int32) : ∃ r y t, p_X9_alike fu x v1 v2 = some (r, y) ∧ p_X10_alike fu o v1 v2 = some (r, t) ∧ Rel y t := by
  unfold p_X9_alike p_X10_alike
  rcases e_both fu hf h v1 v2 with ⟨t, e1, F, ⟨e2, rfl⟩ | ⟨e2, e3⟩⟩ | ⟨t, b, e1, k, F, e2, e3⟩ | ⟨r, q, y, b, t, hr, hq, rfl, rfl, e1, d, db, e2, e3, F, G, g⟩
  · simp only [e1, e2, Option.bind_some, ↓reduceIte, if_true, if_false, Nat.reduceEqDiff, Nat.reduceAdd, Nat.reduceMul, Nat.reduceLT, Nat.reduceLeDiff]
    exact ⟨_, _, _, rfl, rfl, h⟩
  · simp (disch := omega) only [e1, e2, e3, inb_nI, inb_lit, cl_nI, cl_lit, nI_add, add_nl, add_ln, mul_ln, pk_mul, le_nn, lt_nn, eq_nn, le_nl, lt_nl, eq_nl, le_ln, lt_ln, eq_ln, eq_ll, lt_ll, le_ll, eq_nm1, eq_nm2, eq_nm3, eq_nm4, Option.bind_some, ↓reduceIte, if_true, if_false, Nat.reduceEqDiff, Nat.reduceAdd, Nat.reduceMul, Nat.reduceLT, Nat.reduceLeDiff]
    exact ⟨_, _, _, rfl, rfl, h.kp KQ.rf F⟩
  · simp (disch := omega) only [e1, e2, e3, inb_nI, inb_lit, cl_nI, cl_lit, nI_add, add_nl, add_ln, mul_ln, pk_mul, le_nn, lt_nn, eq_nn, le_nl, lt_nl, eq_nl, le_ln, lt_ln, eq_ln, eq_ll, lt_ll, le_ll, eq_nm1, eq_nm2, eq_nm3, eq_nm4, Option.bind_some, ↓reduceIte, if_true, if_false, Nat.reduceEqDiff, Nat.reduceAdd, Nat.reduceMul, Nat.reduceLT, Nat.reduceLeDiff]
    exact ⟨_, _, _, rfl, rfl, h.kp k F⟩
  · simp (disch := omega) only [e1, e2, e3, inb_nI, inb_lit, cl_nI, cl_lit, nI_add, add_nl, add_ln, mul_ln, pk_mul, le_nn, lt_nn, eq_nn, le_nl, lt_nl, eq_nl, le_ln, lt_ln, eq_ln, eq_ll, lt_ll, le_ll, eq_nm1, eq_nm2, eq_nm3, eq_nm4, Option.bind_some, ↓reduceIte, if_true, if_false, Nat.reduceEqDiff, Nat.reduceAdd, Nat.reduceMul, Nat.reduceLT, Nat.reduceLeDiff, al_me]
    obtain ⟨u, eu, Fu, hu⟩ := e_wasAt fu hf (fun oz v2 => (p_X10_goStick fu oz v2 (0 : Int32)).bind fun r_50 => p_X10_alike_L58 fu fu r_50 0 0) t (nI q)
    have Gu : GP (PW (o.1 1)) u := G.kp Fu (by decide) (by decide) (by decide) (by decide) (by decide) (by decide)
    obtain ⟨u2, e4, F2, G2, g2⟩ := e_go fu hf h.w Gu hq (show 0 < 61 by omega)
    have e4' : p_X10_goStick fu u (nI q) 0 = some u2 := e4
    rw [eu]
    simp only [e4', Option.bind_some]
    refine ⟨it (fun n t => if shq (PW (o.1 1)) r q n = true then t + 1 else t) 0 61, va_up (va_up x 12 y) 13 b, u2, loop_it (fun m i t => p_X9_alike_L17 fu m (va_up (va_up x 12 y) 13 b) t (nI i)) (fun n t => if shq (PW (o.1 1)) r q n = true then t + 1 else t) 0 61 _ ?_ ?_ fu 0 (Nat.zero_le _) (by omega), loop_it (fun m i t => p_X10_alike_L58 fu m u2 t (nI i)) (fun n t => if shq (PW (o.1 1)) r q n = true then t + 1 else t) 0 61 _ ?_ ?_ fu 0 (Nat.zero_le _) (by omega), h.kp ((KQ.s12 y).up (by decide) b) (F.tr ((Fu.mono (by decide)).tr (F2.mono (by decide))))⟩
    · intro m
      show p_X9_alike_L17 fu (m + 1) _ _ (nI 61) = _
      rw [p_X9_alike_L17]
      simp (disch := omega) only [inb_nI, inb_lit, cl_nI, cl_lit, nI_add, add_nl, add_ln, mul_ln, pk_mul, le_nn, lt_nn, eq_nn, le_nl, lt_nl, eq_nl, le_ln, lt_ln, eq_ln, eq_ll, lt_ll, le_ll, eq_nm1, eq_nm2, eq_nm3, eq_nm4, Option.bind_some, ↓reduceIte, if_true, if_false, Nat.reduceEqDiff, Nat.reduceAdd, Nat.reduceMul, Nat.reduceLT, Nat.reduceLeDiff]
    · intro m i hi
      show p_X9_alike_L17 fu (m + 1) _ _ (nI i) = p_X9_alike_L17 fu m _ _ (nI (i + 1))
      rw [p_X9_alike_L17]
      simp (disch := omega) only [inb_nI, inb_lit, cl_nI, cl_lit, nI_add, add_nl, add_ln, mul_ln, pk_mul, le_nn, lt_nn, eq_nn, le_nl, lt_nl, eq_nl, le_ln, lt_ln, eq_ln, eq_ll, lt_ll, le_ll, eq_nm1, eq_nm2, eq_nm3, eq_nm4, Option.bind_some, ↓reduceIte, if_true, if_false, Nat.reduceEqDiff, Nat.reduceAdd, Nat.reduceMul, Nat.reduceLT, Nat.reduceLeDiff, e_share fu (x := va_up (va_up x 12 y) 13 b) h.w.p rfl hr hq hi d db, if_neg (show ¬ 60 < i by omega), it]
      cases shq (PW (o.1 1)) r q i
      · simp only [Option.bind_some, ↓reduceIte, if_true, if_false, Nat.reduceEqDiff, Nat.reduceAdd, Nat.reduceMul, Nat.reduceLT, Nat.reduceLeDiff, Bool.false_eq_true]
      · simp (disch := omega) only [inb_nI, inb_lit, cl_nI, cl_lit, nI_add, add_nl, add_ln, mul_ln, pk_mul, le_nn, lt_nn, eq_nn, le_nl, lt_nl, eq_nl, le_ln, lt_ln, eq_ln, eq_ll, lt_ll, le_ll, eq_nm1, eq_nm2, eq_nm3, eq_nm4, Option.bind_some, ↓reduceIte, if_true, if_false, Nat.reduceEqDiff, Nat.reduceAdd, Nat.reduceMul, Nat.reduceLT, Nat.reduceLeDiff]
    · intro m
      show p_X10_alike_L58 fu (m + 1) _ _ (nI 61) = _
      rw [p_X10_alike_L58]
      simp (disch := omega) only [inb_nI, inb_lit, cl_nI, cl_lit, nI_add, add_nl, add_ln, mul_ln, pk_mul, le_nn, lt_nn, eq_nn, le_nl, lt_nl, eq_nl, le_ln, lt_ln, eq_ln, eq_ll, lt_ll, le_ll, eq_nm1, eq_nm2, eq_nm3, eq_nm4, Option.bind_some, ↓reduceIte, if_true, if_false, Nat.reduceEqDiff, Nat.reduceAdd, Nat.reduceMul, Nat.reduceLT, Nat.reduceLeDiff]
    · intro m i hi
      show p_X10_alike_L58 fu (m + 1) _ _ (nI i) = p_X10_alike_L58 fu m _ _ (nI (i + 1))
      rw [p_X10_alike_L58]
      have w27 : u2.1 27 i = (pth (PW (o.1 1)) r 0 i).1 := by
        rw [F2.f1 27 (by decide), hu i hi, g.at2 (Nat.zero_le i) hi, Nat.sub_zero]
      simp (disch := omega) only [inb_nI, inb_lit, cl_nI, cl_lit, nI_add, add_nl, add_ln, mul_ln, pk_mul, le_nn, lt_nn, eq_nn, le_nl, lt_nl, eq_nl, le_ln, lt_ln, eq_ln, eq_ll, lt_ll, le_ll, eq_nm1, eq_nm2, eq_nm3, eq_nm4, Option.bind_some, ↓reduceIte, if_true, if_false, Nat.reduceEqDiff, Nat.reduceAdd, Nat.reduceMul, Nat.reduceLT, Nat.reduceLeDiff, g2.at2 (Nat.zero_le i) hi, Nat.sub_zero, w27, if_neg (show ¬ 60 < i by omega), it, Int32.add_zero]
      unfold shq
      by_cases c : (pth (PW (o.1 1)) q 0 i).1 < 0
      · simp only [c, Option.bind_some, ↓reduceIte, if_true, if_false, Nat.reduceEqDiff, Nat.reduceAdd, Nat.reduceMul, Nat.reduceLT, Nat.reduceLeDiff, decide_true, Bool.not_true, Bool.false_and, Bool.false_eq_true]
      · simp only [c, Option.bind_some, ↓reduceIte, if_true, if_false, Nat.reduceEqDiff, Nat.reduceAdd, Nat.reduceMul, Nat.reduceLT, Nat.reduceLeDiff, decide_false, Bool.not_false, Bool.true_and, decide_eq_true_eq]
        split <;> rfl
