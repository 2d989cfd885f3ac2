/-! the reference: as it is -/
theorem e_as12 (fu : Nat) (hf : 2000 ≤ fu) (c : Ob → Option Ob) (o : Ob) : ∃ s, p_X10_asItIs_L12 fu c fu o 0 = c s ∧ FR [15] o s ∧ E61 (s.1 15) (fun _ => 0) := by
  refine loop_to (fun n i s => p_X10_asItIs_L12 fu c n s (nI i)) 61 (fun i s => FR [15] o s ∧ ∀ k, k < i → s.1 15 k = 0) (fun s => c s) ?_ ?_ fu 0 o (Nat.zero_le _) (by omega) ⟨FR.rf, fun k hk => by omega⟩
  · rintro n s hs
    show p_X10_asItIs_L12 fu c (n + 1) s (nI 61) = _
    rw [p_X10_asItIs_L12]
    simp (disch := omega) only [inb_nI, inb_lit, cl_nI, cl_lit, nI_add, add_nl, add_ln, mul_ln, pk_mul, le_nn, lt_nn, eq_nn, le_nl, lt_nl, eq_nl, le_ln, lt_ln, eq_ln, eq_ll, lt_ll, le_ll, eq_nm1, eq_nm2, eq_nm3, eq_nm4, Option.bind_some, ↓reduceIte, if_true, if_false, Nat.reduceEqDiff, Nat.reduceAdd, Nat.reduceMul, Nat.reduceLT, Nat.reduceLeDiff]
  · rintro n i s hi ⟨hF, hk⟩
    refine ⟨oA s 15 (upd (s.1 15) i 0), ?_, hF.A (by decide) _, ?_⟩
    · show p_X10_asItIs_L12 fu c (n + 1) s (nI i) = p_X10_asItIs_L12 fu c n _ (nI (i + 1))
      rw [p_X10_asItIs_L12]
      simp (disch := omega) only [inb_nI, inb_lit, cl_nI, cl_lit, nI_add, add_nl, add_ln, mul_ln, pk_mul, le_nn, lt_nn, eq_nn, le_nl, lt_nl, eq_nl, le_ln, lt_ln, eq_ln, eq_ll, lt_ll, le_ll, eq_nm1, eq_nm2, eq_nm3, eq_nm4, Option.bind_some, ↓reduceIte, if_true, if_false, Nat.reduceEqDiff, Nat.reduceAdd, Nat.reduceMul, Nat.reduceLT, Nat.reduceLeDiff, if_neg (show ¬ 60 < i by omega)]
    · intro k hk1
      rw [oA_1, if_pos rfl, upd_v]
      split
      · rfl
      · exact hk k (by omega)
theorem e_as33 (fu : Nat) (hf : 2000 ≤ fu) (c : Ob → Option Ob) (o : Ob) (hw : OKW (o.1 1)) (h0 : E61 (o.1 15) (fun _ => 0)) : ∃ s, p_X10_asItIs_L33 fu c fu o 0 = c s ∧ FR [15] o s ∧ E61 (s.1 15) (rn0 (o.1 1) (nN (o.1 1))) := by
  have hN := hw.2.1.2.2.1
  have h5 := hw.1.2.2.2.1
  refine loop_to (fun n i s => p_X10_asItIs_L33 fu c n s (nI i)) (nN (o.1 1)) (fun i s => FR [15] o s ∧ E61 (s.1 15) (rn0 (o.1 1) i)) (fun s => c s) ?_ ?_ fu 0 o (Nat.zero_le _) (by omega) ⟨FR.rf, h0⟩
  · rintro n s ⟨hF, hs⟩
    have e1 := hF.f1 1 (by decide)
    show p_X10_asItIs_L33 fu c (n + 1) s (nI (nN (o.1 1))) = _
    rw [p_X10_asItIs_L33]
    simp (disch := omega) only [inb_nI, inb_lit, cl_nI, cl_lit, nI_add, add_nl, add_ln, mul_ln, pk_mul, le_nn, lt_nn, eq_nn, le_nl, lt_nl, eq_nl, le_ln, lt_ln, eq_ln, eq_ll, lt_ll, le_ll, eq_nm1, eq_nm2, eq_nm3, eq_nm4, Option.bind_some, ↓reduceIte, if_true, if_false, Nat.reduceEqDiff, Nat.reduceAdd, Nat.reduceMul, Nat.reduceLT, Nat.reduceLeDiff, e1, h5, Nat.le_refl]
  · rintro n i s hi ⟨hF, hk⟩
    have e1 := hF.f1 1 (by decide)
    obtain ⟨⟨m, -, -, hm⟩, t, ht, hs⟩ := hw.2.2.2.2.2.1 i hi
    unfold wS at hs
    refine ⟨oA s 15 (upd (s.1 15) t (s.1 15 t + wM (o.1 1) i)), ?_, hF.A (by decide) _, ?_⟩
    · show p_X10_asItIs_L33 fu c (n + 1) s (nI i) = p_X10_asItIs_L33 fu c n _ (nI (i + 1))
      rw [p_X10_asItIs_L33]
      simp (disch := omega) only [inb_nI, inb_lit, cl_nI, cl_lit, nI_add, add_nl, add_ln, mul_ln, pk_mul, le_nn, lt_nn, eq_nn, le_nl, lt_nl, eq_nl, le_ln, lt_ln, eq_ln, eq_ll, lt_ll, le_ll, eq_nm1, eq_nm2, eq_nm3, eq_nm4, Option.bind_some, ↓reduceIte, if_true, if_false, Nat.reduceEqDiff, Nat.reduceAdd, Nat.reduceMul, Nat.reduceLT, Nat.reduceLeDiff, e1, h5, hs, if_neg (show ¬ nN (o.1 1) ≤ i by omega)]
      rfl
    · rw [oA_1, if_pos rfl, rn0, it, ← rn0]
      unfold wS
      rw [hs, cl_nI (by omega)]
      exact hk.ad (by omega) _
theorem e_as83 (fu : Nat) (hf : 2000 ≤ fu) (c : Ob → Option Ob) (o : Ob) (hw : OKW (o.1 1)) : ∃ s, p_X10_asItIs_L83 fu c fu o 0 = c s ∧ FR [18, 19] o s ∧ ∀ j, j < nJ (o.1 1) → s.1 18 j = wE (o.1 1) j ∧ s.1 19 j = wB (o.1 1) j := by
  have hJ := hw.2.1.2.1
  have h4 := hw.1.2.2.1
  refine loop_to (fun n i s => p_X10_asItIs_L83 fu c n s (nI i)) (nJ (o.1 1)) (fun i s => FR [18, 19] o s ∧ ∀ j, j < i → s.1 18 j = wE (o.1 1) j ∧ s.1 19 j = wB (o.1 1) j) (fun s => c s) ?_ ?_ fu 0 o (Nat.zero_le _) (by omega) ⟨FR.rf, fun k hk => by omega⟩
  · rintro n s ⟨hF, hs⟩
    have e1 := hF.f1 1 (by decide)
    show p_X10_asItIs_L83 fu c (n + 1) s (nI (nJ (o.1 1))) = _
    rw [p_X10_asItIs_L83]
    simp (disch := omega) only [inb_nI, inb_lit, cl_nI, cl_lit, nI_add, add_nl, add_ln, mul_ln, pk_mul, le_nn, lt_nn, eq_nn, le_nl, lt_nl, eq_nl, le_ln, lt_ln, eq_ln, eq_ll, lt_ll, le_ll, eq_nm1, eq_nm2, eq_nm3, eq_nm4, Option.bind_some, ↓reduceIte, if_true, if_false, Nat.reduceEqDiff, Nat.reduceAdd, Nat.reduceMul, Nat.reduceLT, Nat.reduceLeDiff, e1, h4, Nat.le_refl]
  · rintro n i s hi ⟨hF, hk⟩
    have e1 := hF.f1 1 (by decide)
    refine ⟨oA (oA s 18 (upd (s.1 18) i (wE (o.1 1) i))) 19 (upd (s.1 19) i (wB (o.1 1) i)), ?_, (hF.A (by decide) _).A (by decide) _, ?_⟩
    · show p_X10_asItIs_L83 fu c (n + 1) s (nI i) = p_X10_asItIs_L83 fu c n _ (nI (i + 1))
      rw [p_X10_asItIs_L83]
      simp (disch := omega) only [inb_nI, inb_lit, cl_nI, cl_lit, nI_add, add_nl, add_ln, mul_ln, pk_mul, le_nn, lt_nn, eq_nn, le_nl, lt_nl, eq_nl, le_ln, lt_ln, eq_ln, eq_ll, lt_ll, le_ll, eq_nm1, eq_nm2, eq_nm3, eq_nm4, Option.bind_some, ↓reduceIte, if_true, if_false, Nat.reduceEqDiff, Nat.reduceAdd, Nat.reduceMul, Nat.reduceLT, Nat.reduceLeDiff, oA_1, oI_1, oLA_1, oL_1, oA_2, oI_2, oLA_2, oL_2, up_v, upd_v, updL_v, e1, h4, e_oj2, e_oj3, if_neg (show ¬ nJ (o.1 1) ≤ i by omega)]
    · intro j hj
      simp only [oA_1, oI_1, oLA_1, oL_1, oA_2, oI_2, oLA_2, oL_2, up_v, upd_v, updL_v, Option.bind_some, ↓reduceIte, if_true, if_false, Nat.reduceEqDiff, Nat.reduceAdd, Nat.reduceMul, Nat.reduceLT, Nat.reduceLeDiff]
      by_cases hji : j = i
      · subst hji; simp only [Option.bind_some, ↓reduceIte, if_true, if_false, Nat.reduceEqDiff, Nat.reduceAdd, Nat.reduceMul, Nat.reduceLT, Nat.reduceLeDiff, and_self]
      · simp only [hji, Option.bind_some, ↓reduceIte, if_true, if_false, Nat.reduceEqDiff, Nat.reduceAdd, Nat.reduceMul, Nat.reduceLT, Nat.reduceLeDiff]
        exact hk j (by omega)
theorem e_as125 (fu : Nat) (hf : 2000 ≤ fu) (o : Ob) (hw : OKW (o.1 1)) (h0 : E61 (o.1 15) (rn0 (o.1 1) (nN (o.1 1)))) (h20 : o.1 20 0 = 0) : ∃ s, p_X10_asItIs_L125 fu fu o 0 = some s ∧ FR [15, 16, 17, 20] o s ∧ E61 (s.1 15) (rnW (o.1 1)) ∧ s.1 20 0 = shW (o.1 1) ∧ ∀ k, k < 61 → LV s s k := by
  have hA := hw.2.1.2.2.2.1
  have h6 := hw.1.2.2.2.2.1
  have hJ := hw.2.1.2.1
  refine loop_inv (fun n i s => p_X10_asItIs_L125 fu n s (nI i)) (nA (o.1 1)) (fun i s => FR [15, 20] o s ∧ E61 (s.1 15) (raA (o.1 1) i).1 ∧ s.1 20 0 = (raA (o.1 1) i).2) (fun s => FR [15, 16, 17, 20] o s ∧ E61 (s.1 15) (rnW (o.1 1)) ∧ s.1 20 0 = shW (o.1 1) ∧ ∀ k, k < 61 → LV s s k) ?_ ?_ fu 0 o (Nat.zero_le _) (by omega) ⟨FR.rf, h0, h20⟩
  · rintro n s ⟨hF, hs, h2⟩
    have e1 := hF.f1 1 (by decide)
    obtain ⟨t, et, tF, tL⟩ := e_lay fu hf s (by rw [e1]; exact hw)
    refine ⟨t, ?_, (hF.mono (by decide)).tr (tF.mono (by decide)), ?_, ?_, ?_⟩
    · show p_X10_asItIs_L125 fu (n + 1) s (nI (nA (o.1 1))) = _
      rw [p_X10_asItIs_L125]
      simp (disch := omega) only [inb_nI, inb_lit, cl_nI, cl_lit, nI_add, add_nl, add_ln, mul_ln, pk_mul, le_nn, lt_nn, eq_nn, le_nl, lt_nl, eq_nl, le_ln, lt_ln, eq_ln, eq_ll, lt_ll, le_ll, eq_nm1, eq_nm2, eq_nm3, eq_nm4, Option.bind_some, ↓reduceIte, if_true, if_false, Nat.reduceEqDiff, Nat.reduceAdd, Nat.reduceMul, Nat.reduceLT, Nat.reduceLeDiff, e1, h6, Nat.le_refl, et]
    · rw [tF.f1 15 (by decide)]; exact hs
    · rw [tF.f1 20 (by decide)]; exact h2
    · intro k hk
      have := tL k hk
      unfold LV at this ⊢
      rw [tF.f1 1 (by decide), tF.f1 15 (by decide)]
      exact this
  · rintro n i s hi ⟨hF, hk, h2⟩
    right
    have e1 := hF.f1 1 (by decide)
    have n3 : ¬ nA (o.1 1) ≤ i := by omega
    rcases hw.2.2.2.2.2.2 i hi with ⟨j, b, hj, hb, hc⟩ | ⟨t, m, ht, hm1, hm2, hc⟩
    · have hcw := hc
      unfold wC at hc
      have d2 : nI (2 * j + b) / 2 = nI j := by
        rw [show (2 : Int32) = nI 2 from rfl, pk_div (by omega) (by omega) (by omega)]
        congr 1; omega
      have m2 : nI (2 * j + b) - nI j * 2 = nI b := by
        rw [← d2, show (2 : Int32) = nI 2 from rfl, pk_rem (by omega) (by omega) (by omega)]
        congr 1; omega
      have ra : raA (o.1 1) (i + 1) = actF (2 * j + b) (raA (o.1 1) i) := by
        rw [raA, it, ← raA, hcw, cl_nI (by omega)]
      have ra2 : raA (o.1 1) (i + 1) = if b = 1 then ((raA (o.1 1) i).1, (raA (o.1 1) i).2 ||| b1 j) else ((raA (o.1 1) i).1, (raA (o.1 1) i).2 &&& (b1 j ^^^ (-1))) := by
        rw [ra, actF, if_neg (by omega), show (2 * j + b) / 2 = j by omega, show (2 * j + b) % 2 = b by omega]
      by_cases hb1 : b = 1
      · subst hb1
        refine ⟨oI s 20 (s.1 20 0 ||| b1 j), ?_, hF.I (by decide) _, ?_, ?_⟩
        · show p_X10_asItIs_L125 fu (n + 1) s (nI i) = p_X10_asItIs_L125 fu n _ (nI (i + 1))
          rw [p_X10_asItIs_L125]
          simp (disch := omega) only [inb_nI, inb_lit, cl_nI, cl_lit, nI_add, add_nl, add_ln, mul_ln, pk_mul, le_nn, lt_nn, eq_nn, le_nl, lt_nl, eq_nl, le_ln, lt_ln, eq_ln, eq_ll, lt_ll, le_ll, eq_nm1, eq_nm2, eq_nm3, eq_nm4, Option.bind_some, ↓reduceIte, if_true, if_false, Nat.reduceEqDiff, Nat.reduceAdd, Nat.reduceMul, Nat.reduceLT, Nat.reduceLeDiff, e1, h6, hc, if_neg n3, if_pos (show 2 * j + 1 < 100 by omega), d2, m2]
          rfl
        · rw [ra2, if_pos rfl]; exact hk
        · rw [ra2, if_pos rfl, oI_1, if_pos rfl, h2]
      · have hb0 : b = 0 := by omega
        subst hb0
        refine ⟨oI s 20 (s.1 20 0 &&& (b1 j ^^^ (-1))), ?_, hF.I (by decide) _, ?_, ?_⟩
        · show p_X10_asItIs_L125 fu (n + 1) s (nI i) = p_X10_asItIs_L125 fu n _ (nI (i + 1))
          rw [p_X10_asItIs_L125]
          simp (disch := omega) only [inb_nI, inb_lit, cl_nI, cl_lit, nI_add, add_nl, add_ln, mul_ln, pk_mul, le_nn, lt_nn, eq_nn, le_nl, lt_nl, eq_nl, le_ln, lt_ln, eq_ln, eq_ll, lt_ll, le_ll, eq_nm1, eq_nm2, eq_nm3, eq_nm4, Option.bind_some, ↓reduceIte, if_true, if_false, Nat.reduceEqDiff, Nat.reduceAdd, Nat.reduceMul, Nat.reduceLT, Nat.reduceLeDiff, e1, h6, hc, if_neg n3, if_pos (show 2 * j + 0 < 100 by omega), d2, m2]
          rfl
        · rw [ra2, if_neg hb1]; exact hk
        · rw [ra2, if_neg hb1, oI_1, if_pos rfl, h2]
    · have hcw := hc
      unfold wC at hc
      have d2 : nI (100 * (t + 1) + m) / 100 = nI (t + 1) := by
        rw [show (100 : Int32) = nI 100 from rfl, pk_div (by omega) (by omega) (by omega)]
        congr 1; omega
      have m2 : nI (100 * (t + 1) + m) - nI (t + 1) * 100 = nI m := by
        rw [← d2, show (100 : Int32) = nI 100 from rfl, pk_rem (by omega) (by omega) (by omega)]
        congr 1; omega
      have ra : raA (o.1 1) (i + 1) = actF (100 * (t + 1) + m) (raA (o.1 1) i) := by
        rw [raA, it, ← raA, hcw, cl_nI (by omega)]
      have ra2 : raA (o.1 1) (i + 1) = (upd (raA (o.1 1) i).1 t ((raA (o.1 1) i).1 t + nI m), (raA (o.1 1) i).2) := by
        rw [ra, actF, if_pos (by omega), show (100 * (t + 1) + m) / 100 - 1 = t by omega, show (100 * (t + 1) + m) % 100 = m by omega]
      refine ⟨oA s 15 (upd (s.1 15) t (s.1 15 t + nI m)), ?_, hF.A (by decide) _, ?_, ?_⟩
      · show p_X10_asItIs_L125 fu (n + 1) s (nI i) = p_X10_asItIs_L125 fu n _ (nI (i + 1))
        rw [p_X10_asItIs_L125]
        simp (disch := omega) only [inb_nI, inb_lit, cl_nI, cl_lit, nI_add, add_nl, add_ln, mul_ln, pk_mul, le_nn, lt_nn, eq_nn, le_nl, lt_nl, eq_nl, le_ln, lt_ln, eq_ln, eq_ll, lt_ll, le_ll, eq_nm1, eq_nm2, eq_nm3, eq_nm4, Option.bind_some, ↓reduceIte, if_true, if_false, Nat.reduceEqDiff, Nat.reduceAdd, Nat.reduceMul, Nat.reduceLT, Nat.reduceLeDiff, e1, h6, hc, if_neg n3, if_neg (show ¬ 100 * (t + 1) + m < 100 by omega), d2, m2, nI_pred]
      · rw [ra2, oA_1, if_pos rfl]
        exact hk.ad (by omega) _
      · rw [ra2]; exact h2
/-- the reference's numbers, laid anew -/
def AI (o s : Ob) : Prop := FR [15, 16, 17, 18, 19, 20, 21] o s ∧ E61 (s.1 15) (rnW (o.1 1)) ∧ (∀ k, k < 61 → s.1 16 k = lvW (o.1 1) k ∧ s.1 17 k = stq (o.1 1) (lvW (o.1 1) k) (nR (o.1 1))) ∧ (∀ j, j < nJ (o.1 1) → s.1 18 j = wE (o.1 1) j ∧ s.1 19 j = wB (o.1 1) j) ∧ s.1 20 0 = shW (o.1 1) ∧ s.1 21 0 = 0
theorem e_asItIs (fu : Nat) (hf : 2000 ≤ fu) (o : Ob) (hw : OKW (o.1 1)) : ∃ s, p_X10_asItIs fu o = some s ∧ AI o s := by
  unfold p_X10_asItIs
  obtain ⟨s1, e1, F1, h1⟩ := e_as12 fu hf (fun oz => p_X10_asItIs_L33 fu (fun oz => p_X10_asItIs_L83 fu (fun oz => p_X10_asItIs_L125 fu fu oz 0) fu oz 0) fu oz 0) (oI (oI o 20 (0 : Int32)) 21 (0 : Int32))
  have w1 : s1.1 1 = o.1 1 := F1.f1 1 (by decide)
  obtain ⟨s2, e2, F2, h2⟩ := e_as33 fu hf (fun oz => p_X10_asItIs_L83 fu (fun oz => p_X10_asItIs_L125 fu fu oz 0) fu oz 0) s1 (by rw [w1]; exact hw) h1
  have w2 : s2.1 1 = o.1 1 := (F2.f1 1 (by decide)).trans w1
  obtain ⟨s3, e3, F3, h3⟩ := e_as83 fu hf (fun oz => p_X10_asItIs_L125 fu fu oz 0) s2 (by rw [w2]; exact hw)
  have w3 : s3.1 1 = o.1 1 := (F3.f1 1 (by decide)).trans w2
  rw [w2] at h3
  rw [w1] at h2
  have q20 : s3.1 20 0 = 0 := by rw [F3.f1 20 (by decide), F2.f1 20 (by decide), F1.f1 20 (by decide)]; rfl
  obtain ⟨s4, e4, F4, h4, h5, h6⟩ := e_as125 fu hf s3 (by rw [w3]; exact hw) (by rw [w3, F3.f1 15 (by decide)]; exact h2) q20
  have w4 : s4.1 1 = o.1 1 := (F4.f1 1 (by decide)).trans w3
  rw [w3] at h4 h5
  have F0 : FR [15, 16, 17, 18, 19, 20, 21] o s4 := ((((FR.rf.I (by decide) _).I (by decide) _).tr (F1.mono (by decide))).tr (F2.mono (by decide))).tr ((F3.mono (by decide)).tr (F4.mono (by decide)))
  refine ⟨s4, by rw [e1, e2, e3, e4], F0, h4, ?_, ?_, h5, ?_⟩
  · intro k hk
    obtain ⟨a, b⟩ := h6 k hk
    rw [w4, lv_cg h4 k hk] at a b
    exact ⟨a, b⟩
  · intro j hj
    rw [F4.f1 18 (by decide), F4.f1 19 (by decide)]
    exact h3 j hj
  · rw [F4.f1 21 (by decide), F3.f1 21 (by decide), F2.f1 21 (by decide), F1.f1 21 (by decide)]
    rfl
