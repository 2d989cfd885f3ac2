theorem dpO_f (P : PP) (o : Ob) (z : Int32) {f : Nat} (h6 : f ≠ 6) (h7 : f ≠ 7) (h8 : f ≠ 8) : (dpO P o z).1 f = o.1 f := by
  unfold dpO
  split <;> simp only [oA_1, oI_1, oLA_1, oL_1, oA_2, oI_2, oLA_2, oL_2, up_v, upd_v, updL_v, h6, h7, h8, Option.bind_some, ↓reduceIte, if_true, if_false, Nat.reduceEqDiff, Nat.reduceAdd, Nat.reduceMul, Nat.reduceLT, Nat.reduceLeDiff]
theorem dpO_6 (P : PP) (o : Ob) (z : Int32) : (dpO P o z).1 6 0 = o.1 6 0 + 1 := by
  unfold dpO
  split <;> simp only [oA_1, oI_1, oLA_1, oL_1, oA_2, oI_2, oLA_2, oL_2, up_v, upd_v, updL_v, Option.bind_some, ↓reduceIte, if_true, if_false, Nat.reduceEqDiff, Nat.reduceAdd, Nat.reduceMul, Nat.reduceLT, Nat.reduceLeDiff]
theorem dpO_7 (P : PP) (o : Ob) (z : Int32) : (dpO P o z).1 7 0 = if z = -1 then o.1 7 0 else o.1 7 0 + 1 := by
  unfold dpO
  split <;> simp only [oA_1, oI_1, oLA_1, oL_1, oA_2, oI_2, oLA_2, oL_2, up_v, upd_v, updL_v, Option.bind_some, ↓reduceIte, if_true, if_false, Nat.reduceEqDiff, Nat.reduceAdd, Nat.reduceMul, Nat.reduceLT, Nat.reduceLeDiff]
theorem dpO_8 (P : PP) (o : Ob) (z : Int32) : (dpO P o z).1 8 0 = if z = -1 then o.1 8 0 else o.1 8 0 ||| b1 z.toNatClampNeg := by
  unfold dpO
  split <;> simp only [oA_1, oI_1, oLA_1, oL_1, oA_2, oI_2, oLA_2, oL_2, up_v, upd_v, updL_v, Option.bind_some, ↓reduceIte, if_true, if_false, Nat.reduceEqDiff, Nat.reduceAdd, Nat.reduceMul, Nat.reduceLT, Nat.reduceLeDiff]
theorem arO_f (o : Ob) (v : Int32) (n : Nat) {f : Nat} (h1 : f ≠ 1) (h2 : f ≠ 2) (h3 : f ≠ 3) (h4 : f ≠ 4) : (arO o v n).1 f = o.1 f := by
  unfold arO
  split
  · split
    · simp only [oA_1, oI_1, oLA_1, oL_1, oA_2, oI_2, oLA_2, oL_2, up_v, upd_v, updL_v, h4, Option.bind_some, ↓reduceIte, if_true, if_false, Nat.reduceEqDiff, Nat.reduceAdd, Nat.reduceMul, Nat.reduceLT, Nat.reduceLeDiff]
    · split
      · simp only [oA_1, oI_1, oLA_1, oL_1, oA_2, oI_2, oLA_2, oL_2, up_v, upd_v, updL_v, h1, h2, Option.bind_some, ↓reduceIte, if_true, if_false, Nat.reduceEqDiff, Nat.reduceAdd, Nat.reduceMul, Nat.reduceLT, Nat.reduceLeDiff]
      · split
        · simp only [oA_1, oI_1, oLA_1, oL_1, oA_2, oI_2, oLA_2, oL_2, up_v, upd_v, updL_v, h3, Option.bind_some, ↓reduceIte, if_true, if_false, Nat.reduceEqDiff, Nat.reduceAdd, Nat.reduceMul, Nat.reduceLT, Nat.reduceLeDiff]
        · rfl
  · rfl
/-- a step at which it leaves -/
theorem DI.go {P : PP} (h : OKP P) (h00 : P.2.2.2.2.2 = 0) {r : Nat} (hr : r < nR P.1) {s : Nat} {k : Nat} (hk : s + k < 61) {t : Ob} {v3 v4 v : Int32} (hI : DI P r s k (t, v3, v4)) (hl : lvs P (s + k) (pth P r s k) = true) (hp : pth P r s (k + 1) = (v, 0)) :
    DI P r s (k + 1) (arO (dpO P (oA t 0 (upd (t.1 0) (s + k) v3)) (fJ P (pth P r s k).1 (s + k))) v (s + k + 1), v, 0) := by
  obtain ⟨h0, h1, h2, h3, h4, h5, h6, h7, h8, h9⟩ := hI
  have hR := h.1.2.1.1
  have e3 : v3 = (pth P r s k).1 := congrArg Prod.fst h0
  have hpv : (pth P r s (k + 1)).1 = v := by rw [hp]
  have hnn : ¬ (pth P r s k).1 < 0 := by
    intro z
    simp [lvs, z] at hl
  have hns : stds P (s + k) (pth P r s k).1 = false := by
    cases c : stds P (s + k) (pth P r s k).1
    · rfl
    · simp [lvs, c] at hl
  have f0 : (arO (dpO P (oA t 0 (upd (t.1 0) (s + k) v3)) (fJ P (pth P r s k).1 (s + k))) v (s + k + 1)).1 0 = upd (t.1 0) (s + k) v3 := by
    rw [arO_f _ _ _ (by decide) (by decide) (by decide) (by decide), dpO_f _ _ _ (by decide) (by decide) (by decide), oA_1, if_pos rfl]
  have g1 : ∀ f, f ≠ 0 → f ≠ 6 → f ≠ 7 → f ≠ 8 → (dpO P (oA t 0 (upd (t.1 0) (s + k) v3)) (fJ P (pth P r s k).1 (s + k))).1 f = t.1 f := fun f a b c d => by
    rw [dpO_f _ _ _ b c d, oA_1, if_neg a]
  have new : (((arO (dpO P (oA t 0 (upd (t.1 0) (s + k) v3)) (fJ P (pth P r s k).1 (s + k))) v (s + k + 1)).1 1 0, (arO (dpO P (oA t 0 (upd (t.1 0) (s + k) v3)) (fJ P (pth P r s k).1 (s + k))) v (s + k + 1)).1 2 0) = aVis P r s (min (k + 1 + 1) (61 - s))) ∧
      (arO (dpO P (oA t 0 (upd (t.1 0) (s + k) v3)) (fJ P (pth P r s k).1 (s + k))) v (s + k + 1)).1 3 0 = ffr (fun n => agq P r s (n - s)) s (min (k + 1 + 1) (61 - s)) ∧
      (arO (dpO P (oA t 0 (upd (t.1 0) (s + k) v3)) (fJ P (pth P r s k).1 (s + k))) v (s + k + 1)).1 4 0 = ffr (fun n => decide ((pth P r s (n - s)).1 = -1)) s (min (k + 1 + 1) (61 - s)) := by
    generalize hE : dpO P (oA t 0 (upd (t.1 0) (s + k) v3)) (fJ P (pth P r s k).1 (s + k)) = E at g1 ⊢
    have E1 := g1 1 (by decide) (by decide) (by decide) (by decide)
    have E2 := g1 2 (by decide) (by decide) (by decide) (by decide)
    have E3 := g1 3 (by decide) (by decide) (by decide) (by decide)
    have E4 := g1 4 (by decide) (by decide) (by decide) (by decide)
    unfold arO
    by_cases c : s + k = 60
    · rw [show min (k + 1) (61 - s) = min (k + 1 + 1) (61 - s) by omega] at h3 h4 h5
      rw [if_neg (by omega), E1, E2, E3, E4]
      exact ⟨h3, h4, h5⟩
    · rw [show min (k + 1) (61 - s) = k + 1 by omega] at h3 h4 h5
      rw [if_pos (by omega), show min (k + 1 + 1) (61 - s) = k + 1 + 1 by omega, ffr_snoc _ (k + 1) s (by omega), ffr_snoc _ (k + 1) s (by omega), Nat.add_sub_cancel_left, aVis_s P r s (k + 1), hpv, ← h3, ← h4, ← h5]
      have hag : agq P r s (k + 1) = (!decide (v < 0) && bq (aVis P r s (k + 1)).1 v.toNatClampNeg) := by
        rw [agq, hpv]
        show (lvs P (s + k) (pth P r s k) && _) = _
        rw [hl, Bool.true_and]
      rw [← h3] at hag
      have hsea : t.1 4 0 = -1 := by
        show t.1 4 0 = -1
        refine h5.trans ?_
        rcases ffr_or (fun n => decide ((pth P r s (n - s)).1 = -1)) (k + 1) s with ⟨e, -⟩ | ⟨j, hj1, hj2, hj3, -, -⟩
        · exact e
        · exfalso
          have hj4 : (pth P r s (j - s)).1 = -1 := of_decide_eq_true hj3
          have := pth_neg P r s (i := j - s) (by rw [hj4]; decide) (k - (j - s))
          rw [show j - s + (k - (j - s)) = k by omega] at this
          rw [this, hj4] at hnn
          exact hnn (by decide)
      have hpk := pth_ok P h hr s (k + 1)
      rw [hp] at hpk
      rw [hag]
      rcases spo_neg h hpk.1 with ⟨hneg, hv⟩ | ⟨q, hq, hq10, eq⟩
      · rcases hv with rfl | rfl
        · simp only [oA_1, oI_1, oLA_1, oL_1, oA_2, oI_2, oLA_2, oL_2, up_v, upd_v, updL_v, Option.bind_some, ↓reduceIte, if_true, if_false, Nat.reduceEqDiff, Nat.reduceAdd, Nat.reduceMul, Nat.reduceLT, Nat.reduceLeDiff, hsea, E1, E2, E3, if_pos hneg, decide_true, Bool.not_true, Bool.false_and, Bool.false_eq_true]
          refine ⟨trivial, ?_, ?_⟩
          · split
            · rename_i z; exact z
            · rfl
          · rfl
        · exfalso
          rcases pth_np P h00 (r := r) s (k + 1) with z | z | z
          · rw [hp] at z; exact z rfl
          · exact z h
          · exact z hr
      · have eq : v = nI q := eq
        have hv0 : ¬ v < 0 := by rw [eq]; simp (disch := omega) only [inb_nI, inb_lit, cl_nI, cl_lit, nI_add, add_nl, add_ln, mul_ln, pk_mul, le_nn, lt_nn, eq_nn, le_nl, lt_nl, eq_nl, le_ln, lt_ln, eq_ln, eq_ll, lt_ll, le_ll, eq_nm1, eq_nm2, eq_nm3, eq_nm4, Nat.not_lt_zero, not_false_eq_true]
        have hv1 : ¬ v = -1 := by rw [eq]; simp (disch := omega) only [eq_nm1, not_false_eq_true]
        simp only [if_neg hv0, if_neg hv1, hv0, hv1, decide_false, Bool.not_false, Bool.true_and, E1, E3, Bool.false_eq_true, if_false, hsea, if_true]
        cases cb : bq (t.1 1 0) v.toNatClampNeg
        · simp only [oA_1, oI_1, oLA_1, oL_1, oA_2, oI_2, oLA_2, oL_2, up_v, upd_v, updL_v, Option.bind_some, ↓reduceIte, if_true, if_false, Nat.reduceEqDiff, Nat.reduceAdd, Nat.reduceMul, Nat.reduceLT, Nat.reduceLeDiff, E1, E2, E3, E4, Bool.false_eq_true, hsea]
          refine ⟨trivial, ?_, trivial⟩
          split
          · rename_i z; exact z
          · rfl
        · simp only [Option.bind_some, ↓reduceIte, if_true, if_false, Nat.reduceEqDiff, Nat.reduceAdd, Nat.reduceMul, Nat.reduceLT, Nat.reduceLeDiff, Bool.true_eq_false]
          by_cases c3 : t.1 3 0 = -1
          · simp only [c3, oA_1, oI_1, oLA_1, oL_1, oA_2, oI_2, oLA_2, oL_2, up_v, upd_v, updL_v, Option.bind_some, ↓reduceIte, if_true, if_false, Nat.reduceEqDiff, Nat.reduceAdd, Nat.reduceMul, Nat.reduceLT, Nat.reduceLeDiff, E1, E2, E3, E4, hsea]
            exact ⟨trivial, rfl, trivial⟩
          · simp only [c3, oA_1, oI_1, oLA_1, oL_1, oA_2, oI_2, oLA_2, oL_2, up_v, upd_v, updL_v, Option.bind_some, ↓reduceIte, if_true, if_false, Nat.reduceEqDiff, Nat.reduceAdd, Nat.reduceMul, Nat.reduceLT, Nat.reduceLeDiff, E1, E2, E3, E4, hsea]
            exact ⟨trivial, trivial, trivial⟩
  refine ⟨hp.symm, ?_, ?_, new.1, new.2.1, new.2.2, ?_, ?_, ?_, ?_⟩
  · intro q hq
    show (arO _ _ _).1 0 q = _
    rw [f0, upd_v, if_neg (by omega)]
    exact h1 q hq
  · intro q hq
    show (arO _ _ _).1 0 (s + q) = _
    rw [f0, upd_v]
    by_cases c : q = k
    · subst c
      rw [if_pos rfl]
      exact e3
    · rw [if_neg (by omega)]
      exact h2 q (by omega)
  · show (arO _ _ _).1 5 0 = _
    rw [arO_f _ _ _ (by decide) (by decide) (by decide) (by decide), g1 5 (by decide) (by decide) (by decide) (by decide)]
    refine h6.trans ?_
    show _ = if _ then _ else if _ then _ else _
    rw [if_neg hnn, hns]; rfl
  · show (arO _ _ _).1 6 0 = _
    rw [arO_f _ _ _ (by decide) (by decide) (by decide) (by decide), dpO_6]
    show t.1 6 0 + 1 = if _ then _ else _
    rw [hl, if_pos rfl]
    exact congrArg (· + 1) h7
  · show (arO _ _ _).1 7 0 = _
    rw [arO_f _ _ _ (by decide) (by decide) (by decide) (by decide), dpO_7]
    show (if _ then t.1 7 0 else t.1 7 0 + 1) = if _ then _ else _
    rw [hl, if_pos rfl, show t.1 7 0 = _ from h8]
    rfl
  · show (arO _ _ _).1 8 0 = _
    rw [arO_f _ _ _ (by decide) (by decide) (by decide) (by decide), dpO_8]
    show (if _ then t.1 8 0 else t.1 8 0 ||| _) = if _ then _ else _
    rw [hl, if_pos rfl, show t.1 8 0 = _ from h9]
    rfl
theorem DI_5 {P : PP} {r s k : Nat} {t : Ob} {v : Int32} {p : Int32 × Int32} (h : DI P r s k (oI t 5 v, p)) (hv : t.1 5 0 = v) : DI P r s k (t, p) := by
  obtain ⟨h0, h1, h2, h3, h4, h5, h6, h7, h8, h9⟩ := h
  simp only [oA_1, oI_1, oLA_1, oL_1, oA_2, oI_2, oLA_2, oL_2, up_v, upd_v, updL_v, Option.bind_some, ↓reduceIte, if_true, if_false, Nat.reduceEqDiff, Nat.reduceAdd, Nat.reduceMul, Nat.reduceLT, Nat.reduceLeDiff] at h0 h1 h2 h3 h4 h5 h6 h7 h8 h9
  exact ⟨h0, h1, h2, h3, h4, h5, hv.trans h6, h7, h8, h9⟩
theorem e_drift (fu : Nat) (hf : 2000 ≤ fu) (P : PP) (h : OKP P) {r s : Nat} (hr : r < nR P.1) (hs : s < 61) (o rv wt : Ob) (d : DP P rv wt) :
    ∃ t, p_X5_drift fu o rv wt (nI r) (nI s) = some t ∧ DSt P r s t := by
  have hR := h.1.2.1.1
  have h00 := d.2.2.2.2.2
  have est : st0 P r = nI r := by unfold st0; rw [h00, bq_0, if_neg (by decide)]
  unfold p_X5_drift p_X5_forget
  obtain ⟨s1, e1, i1⟩ := loop_to (fun n i t => p_X5_forget_L2 fu (fun oz => some (oI (oI (oI (oI (oI (oI oz 3 ((-1) : Int32)) 4 ((-1) : Int32)) 5 (0 : Int32)) 6 (0 : Int32)) 7 (0 : Int32)) 8 (0 : Int32))) n t (nI s) (nI i)) s (fun i t => ∀ k, k < i → t.1 0 k = -2) (fun oz => some (oI (oI (oI (oI (oI (oI oz 3 ((-1) : Int32)) 4 ((-1) : Int32)) 5 (0 : Int32)) 6 (0 : Int32)) 7 (0 : Int32)) 8 (0 : Int32))) (by
    rintro n t -
    show p_X5_forget_L2 fu _ (n + 1) t (nI s) (nI s) = _
    rw [p_X5_forget_L2]
    simp (disch := omega) only [inb_nI, inb_lit, cl_nI, cl_lit, nI_add, add_nl, add_ln, mul_ln, pk_mul, le_nn, lt_nn, eq_nn, le_nl, lt_nl, eq_nl, le_ln, lt_ln, eq_ln, eq_ll, lt_ll, le_ll, eq_nm1, eq_nm2, eq_nm3, eq_nm4, Option.bind_some, ↓reduceIte, if_true, if_false, Nat.reduceEqDiff, Nat.reduceAdd, Nat.reduceMul, Nat.reduceLT, Nat.reduceLeDiff, Nat.le_refl]) (by
    rintro n i t hi h1
    refine ⟨oA t 0 (upd (t.1 0) i (-2)), ?_, ?_⟩
    · show p_X5_forget_L2 fu _ (n + 1) t (nI s) (nI i) = p_X5_forget_L2 fu _ n _ (nI s) (nI (i + 1))
      rw [p_X5_forget_L2]
      simp (disch := omega) only [inb_nI, inb_lit, cl_nI, cl_lit, nI_add, add_nl, add_ln, mul_ln, pk_mul, le_nn, lt_nn, eq_nn, le_nl, lt_nl, eq_nl, le_ln, lt_ln, eq_ln, eq_ll, lt_ll, le_ll, eq_nm1, eq_nm2, eq_nm3, eq_nm4, Option.bind_some, ↓reduceIte, if_true, if_false, Nat.reduceEqDiff, Nat.reduceAdd, Nat.reduceMul, Nat.reduceLT, Nat.reduceLeDiff, e_put, if_neg (show ¬ s ≤ i by omega)]
    · intro k hk
      simp only [oA_1, oI_1, oLA_1, oL_1, oA_2, oI_2, oLA_2, oL_2, up_v, upd_v, updL_v, Option.bind_some, ↓reduceIte, if_true, if_false, Nat.reduceEqDiff, Nat.reduceAdd, Nat.reduceMul, Nat.reduceLT, Nat.reduceLeDiff]
      split
      · rfl
      · exact h1 k (by omega)) fu 0 o (Nat.zero_le _) (by omega) (fun k hk => by omega)
  rw [show p_X5_forget_L2 fu _ fu o (nI s) 0 = _ from e1, Option.bind_some, e_bit fu (by omega), Option.bind_some]
  refine loop_inv (fun n k t => p_X5_drift_L29 fu rv wt n t.1 t.2.1 t.2.2 (nI (s + k))) (61 - s) (DI P r s) (DSt P r s) ?_ ?_ fu 0 (_, nI r, 0) (Nat.zero_le _) (by omega) ?_
  · rintro n t ht
    refine ⟨t.1, ?_, ht.end hs⟩
    show p_X5_drift_L29 fu rv wt (n + 1) t.1 t.2.1 t.2.2 (nI (s + (61 - s))) = _
    rw [p_X5_drift_L29, show s + (61 - s) = 61 by omega]
    simp (disch := omega) only [inb_nI, inb_lit, cl_nI, cl_lit, nI_add, add_nl, add_ln, mul_ln, pk_mul, le_nn, lt_nn, eq_nn, le_nl, lt_nl, eq_nl, le_ln, lt_ln, eq_ln, eq_ll, lt_ll, le_ll, eq_nm1, eq_nm2, eq_nm3, eq_nm4, Option.bind_some, ↓reduceIte, if_true, if_false, Nat.reduceEqDiff, Nat.reduceAdd, Nat.reduceMul, Nat.reduceLT, Nat.reduceLeDiff]
  · rintro n k ⟨t, v3, v4⟩ hk hI
    right
    have hI0 := hI
    obtain ⟨h0, -, -, -, -, -, h5, -, -, -⟩ := hI
    have e3 : v3 = (pth P r s k).1 := congrArg Prod.fst h0
    have e4 : v4 = (pth P r s k).2 := congrArg Prod.snd h0
    have h5' : t.1 5 0 = aStd P r s k := h5
    have hp := pth_ok P h hr s k
    have hps : pth P r s (k + 1) = stp P (s + k) (pth P r s k) := rfl
    have hss : aStd P r s (k + 1) = if (pth P r s k).1 < 0 then aStd P r s k else if stds P (s + k) (pth P r s k).1 = true then aStd P r s k + 1 else aStd P r s k := rfl
    show (∃ s' : Ob × Int32 × Int32, p_X5_drift_L29 fu rv wt (n + 1) t v3 v4 (nI (s + k)) = p_X5_drift_L29 fu rv wt n s'.1 s'.2.1 s'.2.2 (nI (s + (k + 1))) ∧ _)
    rw [p_X5_drift_L29]
    simp (disch := omega) only [inb_nI, inb_lit, cl_nI, cl_lit, nI_add, add_nl, add_ln, mul_ln, pk_mul, le_nn, lt_nn, eq_nn, le_nl, lt_nl, eq_nl, le_ln, lt_ln, eq_ln, eq_ll, lt_ll, le_ll, eq_nm1, eq_nm2, eq_nm3, eq_nm4, Option.bind_some, ↓reduceIte, if_true, if_false, Nat.reduceEqDiff, Nat.reduceAdd, Nat.reduceMul, Nat.reduceLT, Nat.reduceLeDiff, e_put, e_levelAt, d.2.2.2.1, if_neg (show ¬ 60 < s + k by omega)]
    rcases spo_neg h hp.1 with ⟨hneg, hv⟩ | ⟨q, hq, hq10, eq⟩
    · have hm1 : (pth P r s k).1 = -1 := by
        rcases hv with z | z
        · exact z
        · rcases pth_np P h00 (r := r) s k with y | y | y
          · exact absurd z y
          · exact absurd h y
          · exact absurd hr y
      refine ⟨(oA t 0 (upd (t.1 0) (s + k) v3), v3, v4), ?_, ?_⟩
      · rw [if_pos (e3.trans hm1)]
        rfl
      · have := hI0.stay h hr (by omega) (a := v3) (b := v4) (by simp [lvs, hneg]) (by rw [hps, stp, if_pos hneg, e3, e4]) e3 (z := t.1 5 0) (by rw [hss, if_pos hneg]; exact h5')
        exact DI_5 this (by simp only [oA_1, oI_1, oLA_1, oL_1, oA_2, oI_2, oLA_2, oL_2, up_v, upd_v, updL_v, Option.bind_some, ↓reduceIte, if_true, if_false, Nat.reduceEqDiff, Nat.reduceAdd, Nat.reduceMul, Nat.reduceLT, Nat.reduceLeDiff])
    · have hq0 : ¬ (pth P r s k).1 < 0 := by rw [eq]; simp (disch := omega) only [inb_nI, inb_lit, cl_nI, cl_lit, nI_add, add_nl, add_ln, mul_ln, pk_mul, le_nn, lt_nn, eq_nn, le_nl, lt_nl, eq_nl, le_ln, lt_ln, eq_ln, eq_ll, lt_ll, le_ll, eq_nm1, eq_nm2, eq_nm3, eq_nm4, Nat.not_lt_zero, not_false_eq_true]
      have hst : stds P (s + k) (nI q) = decide (P.2.2.2.1 (s + k) < wL P.1 q) := by rw [stds, cl_nI (by omega)]
      have e3' : v3 = nI q := e3.trans eq
      subst e3'
      rw [if_neg (by simp (disch := omega) only [eq_nm1, not_false_eq_true])]
      simp (disch := omega) only [e_pick, Option.bind_some, (d.2.1 q hq).2.2, (d.2.1 q hq).2.1]
      by_cases c1 : P.2.2.2.1 (s + k) < wL P.1 q
      · rw [if_neg (Int32.not_le.mpr c1)]
        refine ⟨(_, nI q, v4), rfl, hI0.stay h hr (by omega) ?_ ?_ e3 ?_⟩
        · rw [lvs, eq, hst]; simp [c1]
        · rw [hps, stp, if_neg hq0, eq, hst, if_pos (decide_eq_true c1), ← eq, e4]
        · rw [hss, if_neg hq0, eq, hst, if_pos (decide_eq_true c1), ← h5']
          simp only [oA_1, oI_1, oLA_1, oL_1, oA_2, oI_2, oLA_2, oL_2, up_v, upd_v, updL_v, Option.bind_some, ↓reduceIte, if_true, if_false, Nat.reduceEqDiff, Nat.reduceAdd, Nat.reduceMul, Nat.reduceLT, Nat.reduceLeDiff]
      · rw [if_pos (Int32.not_lt.mp c1)]
        have c1' : stds P (s + k) (nI q) = false := by rw [hst]; exact decide_eq_false c1
        by_cases c2 : v4 + 1 < wK P.1 q
        · refine ⟨(oA t 0 (upd (t.1 0) (s + k) (nI q)), nI q, v4 + 1), ?_, ?_⟩
          · rw [if_neg (Int32.not_le.mpr c2)]
            rfl
          · have := hI0.stay h hr (by omega) (a := nI q) (b := v4 + 1) (by rw [lvs, eq, cl_nI (by omega), ← e4]; simp [c2]) (by rw [hps, stp, if_neg hq0, eq, c1', if_neg (by decide), cl_nI (by omega), ← e4, if_pos c2]) e3 (z := t.1 5 0) (by rw [hss, if_neg hq0, eq, c1', if_neg (by decide)]; exact h5')
            exact DI_5 this (by simp only [oA_1, oI_1, oLA_1, oL_1, oA_2, oI_2, oLA_2, oL_2, up_v, upd_v, updL_v, Option.bind_some, ↓reduceIte, if_true, if_false, Nat.reduceEqDiff, Nat.reduceAdd, Nat.reduceMul, Nat.reduceLT, Nat.reduceLeDiff])
        · have hl : lvs P (s + k) (pth P r s k) = true := by
            rw [lvs, eq, cl_nI (by omega), ← e4, c1']
            simp (disch := omega) only [inb_nI, inb_lit, cl_nI, cl_lit, nI_add, add_nl, add_ln, mul_ln, pk_mul, le_nn, lt_nn, eq_nn, le_nl, lt_nl, eq_nl, le_ln, lt_ln, eq_ln, eq_ll, lt_ll, le_ll, eq_nm1, eq_nm2, eq_nm3, eq_nm4]
            simp [c2]
          have hd := dst_ok P h hq (s + k)
          have hent : ent P (dst P (nI q) (s + k)) = dst P (nI q) (s + k) := by
            unfold ent
            rw [h00]
            split
            · rename_i z; exact z.symm
            · rw [bq_0, if_neg (by decide)]
          have hpk : pth P r s (k + 1) = (dst P (nI q) (s + k), 0) := by
            rw [hps, stp, if_neg hq0, eq, c1', if_neg (by decide), cl_nI (by omega), ← e4, if_neg c2, hent]
          rw [if_pos (Int32.not_lt.mp c2), d.2.2.2.2.1, e_depart fu hf P h rv wt d _ hq, Option.bind_some]
          simp only []
          rw [e_arrive fu _ (hd.imp id (fun ⟨t', ht, z⟩ => ⟨t', by omega, z⟩)) (by omega), Option.bind_some]
          have := hI0.go h h00 hr (by omega) hl hpk
          rw [eq] at this
          exact ⟨(_, dst P (nI q) (s + k), 0), rfl, this⟩
  · refine ⟨?_, ?_, fun q hq => by omega, ?_, ?_, ?_, rfl, rfl, rfl, rfl⟩
    · show (nI r, (0 : Int32)) = (st0 P r, 0)
      rw [est]
    · intro q hq
      simp only [oA_1, oI_1, oLA_1, oL_1, oA_2, oI_2, oLA_2, oL_2, up_v, upd_v, updL_v, Option.bind_some, ↓reduceIte, if_true, if_false, Nat.reduceEqDiff, Nat.reduceAdd, Nat.reduceMul, Nat.reduceLT, Nat.reduceLeDiff]
      exact i1 q hq
    · simp only [oA_1, oI_1, oLA_1, oL_1, oA_2, oI_2, oLA_2, oL_2, up_v, upd_v, updL_v, Option.bind_some, ↓reduceIte, if_true, if_false, Nat.reduceEqDiff, Nat.reduceAdd, Nat.reduceMul, Nat.reduceLT, Nat.reduceLeDiff]
      rw [show min (0 + 1) (61 - s) = 0 + 1 by omega, aVis_s]
      have e0 : (pth P r s 0).1 = nI r := est
      rw [e0, if_neg (by simp (disch := omega) only [inb_nI, inb_lit, cl_nI, cl_lit, nI_add, add_nl, add_ln, mul_ln, pk_mul, le_nn, lt_nn, eq_nn, le_nl, lt_nl, eq_nl, le_ln, lt_ln, eq_ln, eq_ll, lt_ll, le_ll, eq_nm1, eq_nm2, eq_nm3, eq_nm4, Nat.not_lt_zero, not_false_eq_true]), cl_nI (by omega)]
      show _ = if bq 0 r = true then _ else (0 ||| b1 r, nI r)
      rw [bq_0, if_neg (by decide), Int32.zero_or]
    · simp only [oA_1, oI_1, oLA_1, oL_1, oA_2, oI_2, oLA_2, oL_2, up_v, upd_v, updL_v, Option.bind_some, ↓reduceIte, if_true, if_false, Nat.reduceEqDiff, Nat.reduceAdd, Nat.reduceMul, Nat.reduceLT, Nat.reduceLeDiff]
      rw [show min (0 + 1) (61 - s) = 1 by omega]
      show _ = if agq P r s (s - s) = true then _ else _
      rw [Nat.sub_self]
      rfl
    · simp only [oA_1, oI_1, oLA_1, oL_1, oA_2, oI_2, oLA_2, oL_2, up_v, upd_v, updL_v, Option.bind_some, ↓reduceIte, if_true, if_false, Nat.reduceEqDiff, Nat.reduceAdd, Nat.reduceMul, Nat.reduceLT, Nat.reduceLeDiff]
      rw [show min (0 + 1) (61 - s) = 1 by omega]
      show _ = if decide ((pth P r s (s - s)).1 = -1) = true then _ else _
      rw [Nat.sub_self]
      have e0 : (pth P r s 0).1 = nI r := est
      rw [e0]
      simp (disch := omega) only [eq_nm1, decide_false, Bool.false_eq_true, if_false]
      rfl
