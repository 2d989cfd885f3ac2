/-! images -/
theorem bind_ex {α β : Type} {a : Option α} {f : α → Option β} {P : α → Prop} {Q : β → Prop} (h : ∃ u, a = some u ∧ P u) (k : ∀ u, P u → ∃ s, f u = some s ∧ Q s) : ∃ s, a.bind f = some s ∧ Q s := by
  obtain ⟨u, rfl, hu⟩ := h
  exact k u hu
theorem e_become2 (fu : Nat) (hf : 2000 ≤ fu) (o r : Ob) (w : Nat → Int32) (h : RW r w) : ∃ s, p_X2_become fu o r = some s ∧ RW s w := by
  have hR := h.1.2.1.1
  have hJ := h.1.2.1.2.1
  have hN := h.1.2.1.2.2.1
  have hA := h.1.2.1.2.2.2.1
  have ht : (r.1 0 0 = 0 ∨ r.1 0 0 = 1) := by
    rw [h.2.1.1]
    split
    · exact Or.inl rfl
    · exact Or.inr rfl
  unfold p_X2_become
  rw [if_pos ht]
  refine bind_ex (e_copy fu hf 10 (by omega) (r.1 5) _) (fun u5 h5 => ?_)
  refine bind_ex (e_copy fu hf 10 (by omega) (r.1 6) _) (fun u6 h6 => ?_)
  refine bind_ex (e_copy fu hf 10 (by omega) (r.1 7) _) (fun u7 h7 => ?_)
  refine bind_ex (e_copy fu hf 5 (by omega) (r.1 9) _) (fun u9 h9 => ?_)
  refine bind_ex (e_copy fu hf 5 (by omega) (r.1 10) _) (fun u10 h10 => ?_)
  refine bind_ex (e_copy fu hf 5 (by omega) (r.1 11) _) (fun u11 h11 => ?_)
  refine bind_ex (e_copy fu hf 5 (by omega) (r.1 12) _) (fun u12 h12 => ?_)
  refine bind_ex (e_copy fu hf 5 (by omega) (r.1 14) _) (fun u14 h14 => ?_)
  refine bind_ex (e_copy fu hf 5 (by omega) (r.1 15) _) (fun u15 h15 => ?_)
  refine bind_ex (e_copy fu hf 30 (by omega) (r.1 17) _) (fun u17 h17 => ?_)
  refine bind_ex (e_copy fu hf 30 (by omega) (r.1 18) _) (fun u18 h18 => ?_)
  refine bind_ex (e_copy fu hf 30 (by omega) (r.1 19) _) (fun u19 h19 => ?_)
  refine ⟨_, rfl, h.1, ?_, ?_, ?_, ?_, ?_⟩
  · simp only [oA_1, oI_1, oLA_1, oL_1, oA_2, oI_2, oLA_2, oL_2, up_v, upd_v, updL_v, Option.bind_some, ↓reduceIte, if_true, if_false, Nat.reduceEqDiff, Nat.reduceAdd, Nat.reduceMul, Nat.reduceLT, Nat.reduceLeDiff]
    exact h.2.1
  · intro k hk
    simp only [oA_1, oI_1, oLA_1, oL_1, oA_2, oI_2, oLA_2, oL_2, up_v, upd_v, updL_v, Option.bind_some, ↓reduceIte, if_true, if_false, Nat.reduceEqDiff, Nat.reduceAdd, Nat.reduceMul, Nat.reduceLT, Nat.reduceLeDiff]
    rw [h5 k (by omega), h6 k (by omega), h7 k (by omega)]
    exact h.2.2.1 k hk
  · intro k hk
    simp only [oA_1, oI_1, oLA_1, oL_1, oA_2, oI_2, oLA_2, oL_2, up_v, upd_v, updL_v, Option.bind_some, ↓reduceIte, if_true, if_false, Nat.reduceEqDiff, Nat.reduceAdd, Nat.reduceMul, Nat.reduceLT, Nat.reduceLeDiff]
    rw [h9 k (by omega), h10 k (by omega), h11 k (by omega), h12 k (by omega)]
    exact h.2.2.2.1 k hk
  · intro k hk
    simp only [oA_1, oI_1, oLA_1, oL_1, oA_2, oI_2, oLA_2, oL_2, up_v, upd_v, updL_v, Option.bind_some, ↓reduceIte, if_true, if_false, Nat.reduceEqDiff, Nat.reduceAdd, Nat.reduceMul, Nat.reduceLT, Nat.reduceLeDiff]
    rw [h14 k (by omega), h15 k (by omega)]
    exact h.2.2.2.2.1 k hk
  · intro k hk
    simp only [oA_1, oI_1, oLA_1, oL_1, oA_2, oI_2, oLA_2, oL_2, up_v, upd_v, updL_v, Option.bind_some, ↓reduceIte, if_true, if_false, Nat.reduceEqDiff, Nat.reduceAdd, Nat.reduceMul, Nat.reduceLT, Nat.reduceLeDiff]
    rw [h17 k (by omega), h18 k (by omega), h19 k (by omega)]
    exact h.2.2.2.2.2 k hk
theorem RW.cg {w u : Nat → Int32} {r : Ob} (h : RW r w) (e : ∀ i, i < 98 → u i = w i) : RW r u := by
  have hA := h.1.2.1.2.2.2.1
  have hC : ∀ k, k < nA w → wC u k = wC w k := fun k hk => by unfold wC; rw [e _ (by omega)]
  exact h.acts (fun k h1 _ => e k (by omega)) FR.rf (a := nA w) hA ((e 6 (by omega)).trans h.1.1.2.2.2.2.1) h.2.1.2.2.2.2.2.2.2 (fun z => (h.1.2.2.1.1 z).2.2.2) (fun k hk => by rw [hC k hk]; exact h.1.2.2.2.2.2.2 k hk) (fun k hk => by rw [hC k hk]; exact h.2.2.2.2.2 k hk)
theorem e_imgOf (fu : Nat) (x : Nat → Ob) (v : Int32) : (p_X9_imageOf fu x v = some none ∧ ixq v 3 = 0) ∨ ∃ k, k < 3 ∧ v = nI k ∧ p_X9_imageOf fu x v = some (some k) ∧ ixq v 3 = 1 := by
  unfold p_X9_imageOf oLet
  rcases pk_ix v (n := 3) (by omega) with h1 | h1 | ⟨k, hk, rfl⟩
  · left
    rw [if_pos h1]
    exact ⟨rfl, by unfold ixq; rw [if_pos h1]⟩
  · left
    have h1' : (3 : Int32) ≤ v := h1
    refine ⟨?_, by
      unfold ixq
      split
      · rfl
      · first | rfl | rw [if_pos h1]⟩
    split
    · rfl
    · first | rfl | rw [if_pos h1']
  · right
    refine ⟨k, hk, rfl, ?_, ixq_nI hk (by omega)⟩
    simp (disch := omega) only [inb_nI, inb_lit, cl_nI, cl_lit, nI_add, add_nl, add_ln, mul_ln, pk_mul, le_nn, lt_nn, eq_nn, le_nl, lt_nl, eq_nl, le_ln, lt_ln, eq_ln, eq_ll, lt_ll, le_ll, eq_nm1, eq_nm2, eq_nm3, eq_nm4, Option.bind_some, ↓reduceIte, if_true, if_false, Nat.reduceEqDiff, Nat.reduceAdd, Nat.reduceMul, Nat.reduceLT, Nat.reduceLeDiff, if_neg (show ¬ k < 0 by omega), if_neg (show ¬ 3 ≤ k by omega)]
theorem s_image (fu : Nat) (hf : 2000 ≤ fu) {x : Nat → Ob} {o : Ob} (h : Rel x o) (v : Int32) : ∃ r y t, p_X9_image fu x v = some (r, y) ∧ p_X10_image fu o v = some (r, t) ∧ Rel y t := by
  unfold p_X9_image p_X10_image
  rw [e_in0 fu v (n := 2) (by decide), Option.bind_some]
  rcases e_imgOf fu x v with ⟨e1, e2⟩ | ⟨k, hk, rfl, e1, e2⟩
  · rw [e1, Option.bind_some]
    simp only [e2, Option.bind_some, ↓reduceIte, if_true, if_false, Nat.reduceEqDiff, Nat.reduceAdd, Nat.reduceMul, Nat.reduceLT, Nat.reduceLeDiff, oCase]
    exact ⟨_, _, _, rfl, rfl, h⟩
  · rw [e1, Option.bind_some]
    obtain ⟨s, es, hs⟩ := e_become2 fu hf (x (7 + k)) (x 5) _ h.1
    simp (disch := omega) only [e2, Option.bind_some, ↓reduceIte, if_true, if_false, Nat.reduceEqDiff, Nat.reduceAdd, Nat.reduceMul, Nat.reduceLT, Nat.reduceLeDiff, inb_nI, inb_lit, cl_nI, cl_lit, nI_add, add_nl, add_ln, mul_ln, pk_mul, le_nn, lt_nn, eq_nn, le_nl, lt_nl, eq_nl, le_ln, lt_ln, eq_ln, eq_ll, lt_ll, le_ll, eq_nm1, eq_nm2, eq_nm3, eq_nm4, oCase, if_pos hk, es, e_bit]
    obtain ⟨⟨a, z⟩, ez, rfl, Fz, hz1, hz2, hz3⟩ := loop_inv (fun m i t => p_X10_image_L17 fu m t (nI k) (nI i)) 98 (fun i t => FR [2] o t ∧ (∀ j, j < i → t.1 2 (98 * k + j) = o.1 1 j) ∧ (∀ j, (j < 98 * k ∨ 98 * k + 98 ≤ j) → t.1 2 j = o.1 2 j)) (fun a => a.1 = 0 ∧ FR [2, 3] o a.2 ∧ (∀ j, j < 98 → a.2.1 2 (98 * k + j) = o.1 1 j) ∧ (∀ j, (j < 98 * k ∨ 98 * k + 98 ≤ j) → a.2.1 2 j = o.1 2 j) ∧ a.2.1 3 = upd (o.1 3) k 1) (by
      rintro m t ⟨F, h1, h2⟩
      refine ⟨(0, oA t 3 (upd (t.1 3) k 1)), ?_, rfl, (F.mono (by decide)).A (by decide) _, ?_, ?_, ?_⟩
      · show p_X10_image_L17 fu (m + 1) t (nI k) (nI 98) = _
        rw [p_X10_image_L17]
        simp (disch := omega) only [inb_nI, inb_lit, cl_nI, cl_lit, nI_add, add_nl, add_ln, mul_ln, pk_mul, le_nn, lt_nn, eq_nn, le_nl, lt_nl, eq_nl, le_ln, lt_ln, eq_ln, eq_ll, lt_ll, le_ll, eq_nm1, eq_nm2, eq_nm3, eq_nm4, Option.bind_some, ↓reduceIte, if_true, if_false, Nat.reduceEqDiff, Nat.reduceAdd, Nat.reduceMul, Nat.reduceLT, Nat.reduceLeDiff, nar1]
      · simp only [oA_1, oI_1, oLA_1, oL_1, oA_2, oI_2, oLA_2, oL_2, up_v, upd_v, updL_v, Option.bind_some, ↓reduceIte, if_true, if_false, Nat.reduceEqDiff, Nat.reduceAdd, Nat.reduceMul, Nat.reduceLT, Nat.reduceLeDiff]; exact h1
      · simp only [oA_1, oI_1, oLA_1, oL_1, oA_2, oI_2, oLA_2, oL_2, up_v, upd_v, updL_v, Option.bind_some, ↓reduceIte, if_true, if_false, Nat.reduceEqDiff, Nat.reduceAdd, Nat.reduceMul, Nat.reduceLT, Nat.reduceLeDiff]; exact h2
      · simp only [oA_1, Option.bind_some, ↓reduceIte, if_true, if_false, Nat.reduceEqDiff, Nat.reduceAdd, Nat.reduceMul, Nat.reduceLT, Nat.reduceLeDiff]
        rw [F.f1 3 (by decide)]) (by
      rintro m i t hi ⟨F, h1, h2⟩
      right
      refine ⟨oA t 2 (upd (t.1 2) (98 * k + i) (o.1 1 i)), ?_, F.A (by decide) _, ?_, ?_⟩
      · show p_X10_image_L17 fu (m + 1) t (nI k) (nI i) = p_X10_image_L17 fu m _ (nI k) (nI (i + 1))
        rw [p_X10_image_L17]
        simp (disch := omega) only [inb_nI, inb_lit, cl_nI, cl_lit, nI_add, add_nl, add_ln, mul_ln, pk_mul, le_nn, lt_nn, eq_nn, le_nl, lt_nl, eq_nl, le_ln, lt_ln, eq_ln, eq_ll, lt_ll, le_ll, eq_nm1, eq_nm2, eq_nm3, eq_nm4, Option.bind_some, ↓reduceIte, if_true, if_false, Nat.reduceEqDiff, Nat.reduceAdd, Nat.reduceMul, Nat.reduceLT, Nat.reduceLeDiff, if_neg (show ¬ 98 ≤ i by omega), F.f1 1 (by decide)]
      · intro j hj
        simp only [oA_1, oI_1, oLA_1, oL_1, oA_2, oI_2, oLA_2, oL_2, up_v, upd_v, updL_v, Option.bind_some, ↓reduceIte, if_true, if_false, Nat.reduceEqDiff, Nat.reduceAdd, Nat.reduceMul, Nat.reduceLT, Nat.reduceLeDiff]
        by_cases g : j = i
        · rw [if_pos (by omega), g]
        · rw [if_neg (by omega)]; exact h1 j (by omega)
      · intro j hj
        simp only [oA_1, oI_1, oLA_1, oL_1, oA_2, oI_2, oLA_2, oL_2, up_v, upd_v, updL_v, Option.bind_some, ↓reduceIte, if_true, if_false, Nat.reduceEqDiff, Nat.reduceAdd, Nat.reduceMul, Nat.reduceLT, Nat.reduceLeDiff]
        rw [if_neg (by omega)]
        exact h2 j hj) fu 0 o (Nat.zero_le _) (by omega) ⟨FR.rf, fun j hj => by omega, fun j _ => rfl⟩
    have ez' : p_X10_image_L17 fu fu o (nI k) 0 = some (0, z) := ez
    rw [ez']
    refine ⟨0, _, z, rfl, rfl, ?_⟩
    simp only at Fz hz1 hz2 hz3
    have hy0 : (va_up (va_up x (7 + k) s) 0 (oI (va_up x (7 + k) s 0) 5 (((va_up x (7 + k) s 0).1 5 0) ||| b1 k)) 0).1 5 0 = (x 0).1 5 0 ||| b1 k := by
      rw [up_v, if_pos rfl, oI_1, if_pos rfl, up_v, if_neg (by omega)]
    have hyj : ∀ j, j ≠ 0 → j ≠ 7 + k → va_up (va_up x (7 + k) s) 0 (oI (va_up x (7 + k) s 0) 5 (((va_up x (7 + k) s 0).1 5 0) ||| b1 k)) j = x j := fun j h1 h2 => by
      rw [up_v, if_neg h1, up_v, if_neg h2]
    have hyk : va_up (va_up x (7 + k) s) 0 (oI (va_up x (7 + k) s 0) 5 (((va_up x (7 + k) s 0).1 5 0) ||| b1 k)) (7 + k) = s := by
      rw [up_v, if_neg (by omega), up_v, if_pos rfl]
    generalize va_up (va_up x (7 + k) s) 0 (oI (va_up x (7 + k) s 0) 5 (((va_up x (7 + k) s 0).1 5 0) ||| b1 k)) = y at hy0 hyj hyk ⊢
    refine ⟨?_, ?_, ?_, ?_, ?_, ?_⟩
    · rw [hyj 5 (by omega) (by omega), Fz.f1 1 (by decide)]; exact h.1
    · rw [hyj 10 (by omega) (by omega), Fz.f1 1 (by decide)]; exact h.2.1
    · have := h.2.2.1
      unfold FTe at this ⊢
      rw [hyj 2 (by omega) (by omega), Fz.f1 12 (by decide), Fz.f1 13 (by decide)]; exact this
    · have := h.2.2.2.1
      unfold TPe at this ⊢
      rw [hyj 1 (by omega) (by omega), Fz.f1 5 (by decide), Fz.f1 4 (by decide)]; exact this
    · intro q hq
      rw [hy0, hz3, bq_or, bq_b1 k (by omega) q (by omega), upd_v]
      by_cases g : q = k
      · subst g
        right
        refine ⟨by simp, by simp, ?_⟩
        rw [hyk]
        exact hs.cg (fun i hi => hz1 i hi)
      · rw [if_neg g, hyj (7 + q) (by omega) (by omega)]
        simp only [g, decide_false, Bool.or_false]
        rcases h.2.2.2.2.1 q hq with z1 | ⟨z1, z2, z3⟩
        · exact Or.inl z1
        · refine Or.inr ⟨z1, z2, z3.cg (fun i hi => hz2 _ (by omega))⟩
    · intro q hq
      have := h.2.2.2.2.2 q hq
      rw [hyj (14 + q) (by omega) (by omega), Fz.f1 38 (by decide), Fz.f1 39 (by decide), Fz.f2 40 (by decide)]
      exact this
theorem s_back (fu : Nat) (hf : 2000 ≤ fu) {x : Nat → Ob} {o : Ob} (h : Rel x o) (v : Int32) : ∃ r y t, p_X9_back fu x v = some (r, y) ∧ p_X10_back fu o v = some (r, t) ∧ Rel y t := by
  unfold p_X9_back p_X10_back
  rw [e_in0 fu v (n := 2) (by decide), Option.bind_some]
  rcases e_imgOf fu x v with ⟨e1, e2⟩ | ⟨k, hk, rfl, e1, e2⟩
  · rw [e1, Option.bind_some]
    simp only [e2, Option.bind_some, ↓reduceIte, if_true, if_false, Nat.reduceEqDiff, Nat.reduceAdd, Nat.reduceMul, Nat.reduceLT, Nat.reduceLeDiff, oCase]
    exact ⟨_, _, _, rfl, rfl, h⟩
  · rw [e1, Option.bind_some]
    simp (disch := omega) only [e2, Option.bind_some, ↓reduceIte, if_true, if_false, Nat.reduceEqDiff, Nat.reduceAdd, Nat.reduceMul, Nat.reduceLT, Nat.reduceLeDiff, inb_nI, inb_lit, cl_nI, cl_lit, nI_add, add_nl, add_ln, mul_ln, pk_mul, le_nn, lt_nn, eq_nn, le_nl, lt_nl, eq_nl, le_ln, lt_ln, eq_ln, eq_ll, lt_ll, le_ll, eq_nm1, eq_nm2, eq_nm3, eq_nm4, oCase, if_pos hk, e_bit, and_b1]
    rcases h.2.2.2.2.1 k hk with ⟨z1, z2⟩ | ⟨z1, z2, z3⟩
    · simp only [z1, z2, Option.bind_some, ↓reduceIte, if_true, if_false, Nat.reduceEqDiff, Nat.reduceAdd, Nat.reduceMul, Nat.reduceLT, Nat.reduceLeDiff]
      exact ⟨_, _, _, rfl, rfl, h⟩
    · simp only [z1, z2, Option.bind_some, ↓reduceIte, if_true, if_false, Nat.reduceEqDiff, Nat.reduceAdd, Nat.reduceMul, Nat.reduceLT, Nat.reduceLeDiff, Bool.true_eq_false]
      obtain ⟨s, es, hs⟩ := e_become2 fu hf (x 5) (x (7 + k)) _ z3
      obtain ⟨⟨a, z⟩, ez, rfl, Fz, hz1⟩ := loop_inv (fun m i t => p_X10_back_L29 fu m t (nI k) (nI i)) 98 (fun i t => FR [1] o t ∧ (∀ j, j < i → t.1 1 j = o.1 2 (98 * k + j))) (fun a => a.1 = 0 ∧ FR [1] o a.2 ∧ (∀ j, j < 98 → a.2.1 1 j = o.1 2 (98 * k + j))) (by
        rintro m t ⟨F, h1⟩
        refine ⟨(0, t), ?_, rfl, F, h1⟩
        show p_X10_back_L29 fu (m + 1) t (nI k) (nI 98) = _
        rw [p_X10_back_L29]
        simp (disch := omega) only [inb_nI, inb_lit, cl_nI, cl_lit, nI_add, add_nl, add_ln, mul_ln, pk_mul, le_nn, lt_nn, eq_nn, le_nl, lt_nl, eq_nl, le_ln, lt_ln, eq_ln, eq_ll, lt_ll, le_ll, eq_nm1, eq_nm2, eq_nm3, eq_nm4, Option.bind_some, ↓reduceIte, if_true, if_false, Nat.reduceEqDiff, Nat.reduceAdd, Nat.reduceMul, Nat.reduceLT, Nat.reduceLeDiff]) (by
        rintro m i t hi ⟨F, h1⟩
        right
        refine ⟨oA t 1 (upd (t.1 1) i (o.1 2 (98 * k + i))), ?_, F.A (by decide) _, ?_⟩
        · show p_X10_back_L29 fu (m + 1) t (nI k) (nI i) = p_X10_back_L29 fu m _ (nI k) (nI (i + 1))
          rw [p_X10_back_L29]
          simp (disch := omega) only [inb_nI, inb_lit, cl_nI, cl_lit, nI_add, add_nl, add_ln, mul_ln, pk_mul, le_nn, lt_nn, eq_nn, le_nl, lt_nl, eq_nl, le_ln, lt_ln, eq_ln, eq_ll, lt_ll, le_ll, eq_nm1, eq_nm2, eq_nm3, eq_nm4, Option.bind_some, ↓reduceIte, if_true, if_false, Nat.reduceEqDiff, Nat.reduceAdd, Nat.reduceMul, Nat.reduceLT, Nat.reduceLeDiff, if_neg (show ¬ 98 ≤ i by omega), F.f1 2 (by decide)]
        · intro j hj
          simp only [oA_1, oI_1, oLA_1, oL_1, oA_2, oI_2, oLA_2, oL_2, up_v, upd_v, updL_v, Option.bind_some, ↓reduceIte, if_true, if_false, Nat.reduceEqDiff, Nat.reduceAdd, Nat.reduceMul, Nat.reduceLT, Nat.reduceLeDiff]
          by_cases g : j = i
          · rw [if_pos g, g]
          · rw [if_neg g]; exact h1 j (by omega)) fu 0 o (Nat.zero_le _) (by omega) ⟨FR.rf, fun j hj => by omega⟩
      have ez' : p_X10_back_L29 fu fu o (nI k) 0 = some (0, z) := ez
      have hz : RW s (z.1 1) := hs.cg (fun i hi => hz1 i hi)
      obtain ⟨t, et, ht⟩ := e_settle fu hf (x 10) s _ hz
      have u5 : va_up x 5 s 5 = s := rfl
      have u10 : va_up x 5 s 10 = x 10 := rfl
      simp only [es, Option.bind_some, u5, u10, et, ez', if_neg (show ¬ (1 : Int32) = 0 by decide)]
      exact ⟨0, _, z, rfl, rfl, h.new hz ht (Fz.mono (by decide))⟩
