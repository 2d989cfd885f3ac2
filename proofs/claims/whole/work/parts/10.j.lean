theorem min_lt {a b k : Nat} (h : k + 1 ≤ b) : min (k + 1) b = k + 1 := by omega
/-- the newest counts, one step on: what is seen at step k + 1 -/
theorem aVis_s (P : PP) (r s k : Nat) : aVis P r s (k + 1) = if (pth P r s k).1 < 0 then aVis P r s k else if bq (aVis P r s k).1 (pth P r s k).1.toNatClampNeg = true then aVis P r s k else ((aVis P r s k).1 ||| b1 (pth P r s k).1.toNatClampNeg, (pth P r s k).1) := rfl
/-- a step at which it doesn't leave -/
theorem DI.stay {P : PP} (h : OKP P) {r : Nat} (hr : r < nR P.1) {s : Nat} {k : Nat} (hk : s + k < 61) {t : Ob} {v3 v4 a b : Int32} (hI : DI P r s k (t, v3, v4)) (hl : lvs P (s + k) (pth P r s k) = false) (hp : pth P r s (k + 1) = (a, b)) (ha : a = (pth P r s k).1) {z : Int32}
    (hz : z = aStd P r s (k + 1)) : DI P r s (k + 1) (oI (oA t 0 (upd (t.1 0) (s + k) v3)) 5 z, a, b) := by
  obtain ⟨h0, h1, h2, h3, h4, h5, h6, h7, h8, h9⟩ := hI
  have hR := h.1.2.1.1
  have e3 : v3 = (pth P r s k).1 := congrArg Prod.fst h0
  have hpa : (pth P r s (k + 1)).1 = (pth P r s k).1 := by rw [hp]; exact ha
  refine ⟨hp.symm, ?_, ?_, ?_, ?_, ?_, ?_, ?_, ?_, ?_⟩
  · intro q hq
    simp only [oA_1, oI_1, oLA_1, oL_1, oA_2, oI_2, oLA_2, oL_2, up_v, upd_v, updL_v, Option.bind_some, ↓reduceIte, if_true, if_false, Nat.reduceEqDiff, Nat.reduceAdd, Nat.reduceMul, Nat.reduceLT, Nat.reduceLeDiff, show ¬ q = s + k by omega]
    exact h1 q hq
  · intro q hq
    by_cases c : q = k
    · subst c
      simp only [oA_1, oI_1, oLA_1, oL_1, oA_2, oI_2, oLA_2, oL_2, up_v, upd_v, updL_v, Option.bind_some, ↓reduceIte, if_true, if_false, Nat.reduceEqDiff, Nat.reduceAdd, Nat.reduceMul, Nat.reduceLT, Nat.reduceLeDiff]
      exact e3
    · simp only [oA_1, oI_1, oLA_1, oL_1, oA_2, oI_2, oLA_2, oL_2, up_v, upd_v, updL_v, Option.bind_some, ↓reduceIte, if_true, if_false, Nat.reduceEqDiff, Nat.reduceAdd, Nat.reduceMul, Nat.reduceLT, Nat.reduceLeDiff, show ¬ s + q = s + k by omega]
      exact h2 q (by omega)
  · simp only [oA_1, oI_1, oLA_1, oL_1, oA_2, oI_2, oLA_2, oL_2, up_v, upd_v, updL_v, Option.bind_some, ↓reduceIte, if_true, if_false, Nat.reduceEqDiff, Nat.reduceAdd, Nat.reduceMul, Nat.reduceLT, Nat.reduceLeDiff]
    refine h3.trans ?_
    by_cases c : s + k = 60
    · rw [show min (k + 1 + 1) (61 - s) = min (k + 1) (61 - s) by omega]
    · rw [show min (k + 1 + 1) (61 - s) = k + 1 + 1 by omega, show min (k + 1) (61 - s) = k + 1 by omega, aVis_s P r s (k + 1), hpa]
      rcases spo_neg h (pth_ok P h hr s k).1 with ⟨hneg, -⟩ | ⟨q, hq, hq10, eq⟩
      · rw [if_pos hneg]
      · rw [eq, cl_nI (by omega), if_neg (by simp (disch := omega) only [inb_nI, inb_lit, cl_nI, cl_lit, nI_add, add_nl, add_ln, mul_ln, pk_mul, le_nn, lt_nn, eq_nn, le_nl, lt_nl, eq_nl, le_ln, lt_ln, eq_ln, eq_ll, lt_ll, le_ll, eq_nm1, eq_nm2, eq_nm3, eq_nm4, Nat.not_lt_zero, not_false_eq_true]), if_pos (vis_in P h hr s eq (by omega) (k + 1) (by omega))]
  · simp only [oA_1, oI_1, oLA_1, oL_1, oA_2, oI_2, oLA_2, oL_2, up_v, upd_v, updL_v, Option.bind_some, ↓reduceIte, if_true, if_false, Nat.reduceEqDiff, Nat.reduceAdd, Nat.reduceMul, Nat.reduceLT, Nat.reduceLeDiff]
    refine h4.trans ?_
    by_cases c : s + k = 60
    · rw [show min (k + 1 + 1) (61 - s) = min (k + 1) (61 - s) by omega]
    · rw [show min (k + 1 + 1) (61 - s) = k + 1 + 1 by omega, show min (k + 1) (61 - s) = k + 1 by omega, ffr_snoc _ (k + 1) s (by omega)]
      have : agq P r s (s + (k + 1) - s) = false := by
        rw [Nat.add_sub_cancel_left, agq]
        show (lvs P (s + k) (pth P r s k) && _) = false
        rw [hl]; rfl
      rw [this]
      split
      · assumption
      · rfl
  · simp only [oA_1, oI_1, oLA_1, oL_1, oA_2, oI_2, oLA_2, oL_2, up_v, upd_v, updL_v, Option.bind_some, ↓reduceIte, if_true, if_false, Nat.reduceEqDiff, Nat.reduceAdd, Nat.reduceMul, Nat.reduceLT, Nat.reduceLeDiff]
    refine h5.trans ?_
    by_cases c : s + k = 60
    · rw [show min (k + 1 + 1) (61 - s) = min (k + 1) (61 - s) by omega]
    · rw [show min (k + 1 + 1) (61 - s) = k + 1 + 1 by omega, show min (k + 1) (61 - s) = k + 1 by omega, ffr_snoc _ (k + 1) s (by omega), Nat.add_sub_cancel_left, hpa]
      split
      · rename_i hn
        rcases ffr_or (fun n => decide ((pth P r s (n - s)).1 = -1)) (k + 1) s with ⟨e, hh⟩ | ⟨j, hj1, hj2, hj3, e, -⟩
        · have := hh (s + k) (by omega) (by omega)
          simp only [Nat.add_sub_cancel_left] at this
          rw [this, if_neg (by decide)]
          exact hn
        · rw [e] at hn
          simp (disch := omega) only [eq_nm1] at hn
      · rfl
  · simp only [oA_1, oI_1, oLA_1, oL_1, oA_2, oI_2, oLA_2, oL_2, up_v, upd_v, updL_v, Option.bind_some, ↓reduceIte, if_true, if_false, Nat.reduceEqDiff, Nat.reduceAdd, Nat.reduceMul, Nat.reduceLT, Nat.reduceLeDiff]
    exact hz
  · simp only [oA_1, oI_1, oLA_1, oL_1, oA_2, oI_2, oLA_2, oL_2, up_v, upd_v, updL_v, Option.bind_some, ↓reduceIte, if_true, if_false, Nat.reduceEqDiff, Nat.reduceAdd, Nat.reduceMul, Nat.reduceLT, Nat.reduceLeDiff]
    refine h7.trans ?_
    show _ = if _ then _ else _
    rw [hl]; rfl
  · simp only [oA_1, oI_1, oLA_1, oL_1, oA_2, oI_2, oLA_2, oL_2, up_v, upd_v, updL_v, Option.bind_some, ↓reduceIte, if_true, if_false, Nat.reduceEqDiff, Nat.reduceAdd, Nat.reduceMul, Nat.reduceLT, Nat.reduceLeDiff]
    refine h8.trans ?_
    show _ = if _ then _ else _
    rw [hl]; rfl
  · simp only [oA_1, oI_1, oLA_1, oL_1, oA_2, oI_2, oLA_2, oL_2, up_v, upd_v, updL_v, Option.bind_some, ↓reduceIte, if_true, if_false, Nat.reduceEqDiff, Nat.reduceAdd, Nat.reduceMul, Nat.reduceLT, Nat.reduceLeDiff]
    refine h9.trans ?_
    show _ = if _ then _ else _
    rw [hl]; rfl
/-- what coming to v at step n does -/
def arO (o : Ob) (v : Int32) (n : Nat) : Ob :=
  if n ≤ 60 then (if v = -1 then oI o 4 (nI n) else if bq (o.1 1 0) v.toNatClampNeg = false then oI (oI o 1 (o.1 1 0 ||| b1 v.toNatClampNeg)) 2 v else if o.1 3 0 = -1 then oI o 3 (nI n) else o) else o
theorem e_arrive (fu : Nat) (o : Ob) {v : Int32} (hv : v = -1 ∨ ∃ q, q < 10 ∧ v = nI q) {n : Nat} (hn : n ≤ 61) : p_X5_arrive fu o v (nI n) = some (arO o v n) := by
  unfold p_X5_arrive arO
  by_cases c : n ≤ 60
  · simp (disch := omega) only [inb_nI, inb_lit, cl_nI, cl_lit, nI_add, add_nl, add_ln, mul_ln, pk_mul, le_nn, lt_nn, eq_nn, le_nl, lt_nl, eq_nl, le_ln, lt_ln, eq_ln, eq_ll, lt_ll, le_ll, eq_nm1, eq_nm2, eq_nm3, eq_nm4, Option.bind_some, ↓reduceIte, if_true, if_false, Nat.reduceEqDiff, Nat.reduceAdd, Nat.reduceMul, Nat.reduceLT, Nat.reduceLeDiff, c]
    rcases hv with rfl | ⟨q, hq, rfl⟩
    · simp only [Option.bind_some, ↓reduceIte, if_true, if_false, Nat.reduceEqDiff, Nat.reduceAdd, Nat.reduceMul, Nat.reduceLT, Nat.reduceLeDiff]
    · simp (disch := omega) only [inb_nI, inb_lit, cl_nI, cl_lit, nI_add, add_nl, add_ln, mul_ln, pk_mul, le_nn, lt_nn, eq_nn, le_nl, lt_nl, eq_nl, le_ln, lt_ln, eq_ln, eq_ll, lt_ll, le_ll, eq_nm1, eq_nm2, eq_nm3, eq_nm4, Option.bind_some, ↓reduceIte, if_true, if_false, Nat.reduceEqDiff, Nat.reduceAdd, Nat.reduceMul, Nat.reduceLT, Nat.reduceLeDiff, e_bit, and_b1]
      split
      · rfl
      · split <;> rfl
  · simp (disch := omega) only [inb_nI, inb_lit, cl_nI, cl_lit, nI_add, add_nl, add_ln, mul_ln, pk_mul, le_nn, lt_nn, eq_nn, le_nl, lt_nl, eq_nl, le_ln, lt_ln, eq_ln, eq_ll, lt_ll, le_ll, eq_nm1, eq_nm2, eq_nm3, eq_nm4, Option.bind_some, ↓reduceIte, if_true, if_false, Nat.reduceEqDiff, Nat.reduceAdd, Nat.reduceMul, Nat.reduceLT, Nat.reduceLeDiff, c]
