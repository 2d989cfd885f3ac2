/-! the class' stick -/
theorem ffr_snoc (p : Nat → Bool) : ∀ (k i : Nat), i + k < 2147483648 → ffr p i (k + 1) = if ffr p i k = -1 then (if p (i + k) = true then nI (i + k) else -1) else ffr p i k := by
  intro k
  induction k with
  | zero => intro i _; simp only [ffr, Nat.add_zero, if_true]
  | succ k ih =>
    intro i h
    rw [ffr, ih (i + 1) (by omega), show i + 1 + k = i + (k + 1) by omega]
    by_cases c : p i = true
    · have e : ffr p i (k + 1) = nI i := by rw [ffr, if_pos c]
      rw [e, if_pos c, if_neg (by simp (disch := omega) only [eq_nm1, not_false_eq_true])]
    · have e : ffr p i (k + 1) = ffr p (i + 1) k := by rw [ffr, if_neg c]
      rw [e, if_neg c]
def DP (P : PP) (r wt : Ob) : Prop := r.1 8 0 = nI (nJ P.1) ∧ (∀ k, k < nR P.1 → r.1 5 k = wT P.1 k ∧ r.1 6 k = wK P.1 k ∧ r.1 7 k = wL P.1 k) ∧
  (∀ j, j < nJ P.1 → r.1 9 j = wF P.1 j ∧ r.1 10 j = wG P.1 j ∧ r.1 11 j = P.2.1 j ∧ r.1 12 j = P.2.2.1 j) ∧ (∀ k, k < 61 → wt.1 1 k = P.2.2.2.1 k) ∧ wt.1 2 0 = P.2.2.2.2.1 ∧ P.2.2.2.2.2 = 0
theorem e_turn (fu : Nat) (P : PP) (h : OKP P) (r wt : Ob) (d : DP P r wt) {j : Nat} (hj : j < nJ P.1) (n : Nat) : p_X2_takesTurn fu r (nI j) (nI n) = some (if nI n - nI n / P.2.1 j * P.2.1 j = P.2.2.1 j then 1 else 0) := by
  have hJ := h.1.2.1.2.1
  have h0 := je_ne h.2 hj
  obtain ⟨e, a, h1, h2, h3, e1, e2⟩ := h.2 j hj
  have hle : (P.2.1 j ≤ 0) = False := by
    rw [e1]
    simp (disch := omega) only [inb_nI, inb_lit, cl_nI, cl_lit, nI_add, add_nl, add_ln, mul_ln, pk_mul, le_nn, lt_nn, eq_nn, le_nl, lt_nl, eq_nl, le_ln, lt_ln, eq_ln, eq_ll, lt_ll, le_ll, eq_nm1, eq_nm2, eq_nm3, eq_nm4]
    exact propext ⟨fun z => by omega, False.elim⟩
  unfold p_X2_takesTurn
  simp (disch := omega) only [Option.bind_some, ↓reduceIte, if_true, if_false, Nat.reduceEqDiff, Nat.reduceAdd, Nat.reduceMul, Nat.reduceLT, Nat.reduceLeDiff, e_pick, (d.2.2.1 j hj).2.2.1, (d.2.2.1 j hj).2.2.2, h0, hle]
  split <;> rfl
/-- what leaving does to the counts -/
def dpO (P : PP) (o : Ob) (z : Int32) : Ob := if z = -1 then oI o 6 (o.1 6 0 + 1) else oI (oI (oI o 6 (o.1 6 0 + 1)) 7 (o.1 7 0 + 1)) 8 (o.1 8 0 ||| b1 z.toNatClampNeg)
theorem e_depart (fu : Nat) (hf : 2000 ≤ fu) (P : PP) (h : OKP P) (r wt : Ob) (d : DP P r wt) (o : Ob) {q : Nat} (hq : q < nR P.1) (n : Nat) :
    p_X5_depart fu o r (nI q) (nI n) P.2.2.2.2.1 = some (dst P (nI q) n, dpO P o (fJ P (nI q) n)) := by
  have hJ := h.1.2.1.2.1
  have hR := h.1.2.1.1
  unfold p_X5_depart
  have key := loop_ff (fun m i => p_X5_depart_L13 fu r (fun oz v5 => (p_X9_bit fu v5).bind fun r_85 => (p_X9_pick fu 5 (r.1 10) v5).bind fun r_98 => some (r_98, (oI (oI oz 7 ((oz.1 7 0) + 1)) 8 (((oI oz 7 ((oz.1 7 0) + 1)).1 8 0) ||| r_85)))) m (oI o 6 ((o.1 6 0) + 1)) (nI q) (nI n) P.2.2.2.2.1 (nI i)) (goJ P (nI q) n) (nJ P.1) (fun z => (if z = -1 then wT P.1 q else wG P.1 z.toNatClampNeg, dpO P o z)) ?_ ?_ fu 0 (Nat.zero_le _) (by omega)
  · refine Eq.trans key ?_
    unfold dst fJ
    rw [cl_nI (by omega)]
    rfl
  · intro m
    show p_X5_depart_L13 fu r _ (m + 1) _ (nI q) (nI n) P.2.2.2.2.1 (nI (nJ P.1)) = _
    rw [p_X5_depart_L13]
    simp (disch := omega) only [inb_nI, inb_lit, cl_nI, cl_lit, nI_add, add_nl, add_ln, mul_ln, pk_mul, le_nn, lt_nn, eq_nn, le_nl, lt_nl, eq_nl, le_ln, lt_ln, eq_ln, eq_ll, lt_ll, le_ll, eq_nm1, eq_nm2, eq_nm3, eq_nm4, Option.bind_some, ↓reduceIte, if_true, if_false, Nat.reduceEqDiff, Nat.reduceAdd, Nat.reduceMul, Nat.reduceLT, Nat.reduceLeDiff, d.1, Nat.le_refl, e_pick, (d.2.1 q hq).1]
    unfold dpO
    rw [if_pos rfl]
  · intro m i hi
    show p_X5_depart_L13 fu r _ (m + 1) _ (nI q) (nI n) P.2.2.2.2.1 (nI i) = if _ then _ else p_X5_depart_L13 fu r _ m _ (nI q) (nI n) P.2.2.2.2.1 (nI (i + 1))
    rw [p_X5_depart_L13]
    simp (disch := omega) only [inb_nI, inb_lit, cl_nI, cl_lit, nI_add, add_nl, add_ln, mul_ln, pk_mul, le_nn, lt_nn, eq_nn, le_nl, lt_nl, eq_nl, le_ln, lt_ln, eq_ln, eq_ll, lt_ll, le_ll, eq_nm1, eq_nm2, eq_nm3, eq_nm4, Option.bind_some, ↓reduceIte, if_true, if_false, Nat.reduceEqDiff, Nat.reduceAdd, Nat.reduceMul, Nat.reduceLT, Nat.reduceLeDiff, d.1, e_bit, if_neg (show ¬ nJ P.1 ≤ i by omega)]
    simp (disch := omega) only [and_b1]
    unfold goJ p_X5_depart_J38
    simp (disch := omega) only [inb_nI, inb_lit, cl_nI, cl_lit, nI_add, add_nl, add_ln, mul_ln, pk_mul, le_nn, lt_nn, eq_nn, le_nl, lt_nl, eq_nl, le_ln, lt_ln, eq_ln, eq_ll, lt_ll, le_ll, eq_nm1, eq_nm2, eq_nm3, eq_nm4, Option.bind_some, ↓reduceIte, if_true, if_false, Nat.reduceEqDiff, Nat.reduceAdd, Nat.reduceMul, Nat.reduceLT, Nat.reduceLeDiff, e_pick, (d.2.2.1 i hi).1, (d.2.2.1 i hi).2.1, e_turn fu P h r wt d hi, e_bit]
    cases c2 : bq P.2.2.2.2.1 i
    · simp only [Option.bind_some, ↓reduceIte, if_true, if_false, Nat.reduceEqDiff, Nat.reduceAdd, Nat.reduceMul, Nat.reduceLT, Nat.reduceLeDiff]
      by_cases c1 : wF P.1 i = nI q
      · by_cases c3 : nI n - nI n / P.2.1 i * P.2.1 i = P.2.2.1 i
        · simp only [c1, c3, Option.bind_some, ↓reduceIte, if_true, if_false, Nat.reduceEqDiff, Nat.reduceAdd, Nat.reduceMul, Nat.reduceLT, Nat.reduceLeDiff, decide_true, Bool.not_false, Bool.and_self, Bool.and_true]
          simp (disch := omega) only [inb_nI, inb_lit, cl_nI, cl_lit, nI_add, add_nl, add_ln, mul_ln, pk_mul, le_nn, lt_nn, eq_nn, le_nl, lt_nl, eq_nl, le_ln, lt_ln, eq_ln, eq_ll, lt_ll, le_ll, eq_nm1, eq_nm2, eq_nm3, eq_nm4, Option.bind_some, ↓reduceIte, if_true, if_false, Nat.reduceEqDiff, Nat.reduceAdd, Nat.reduceMul, Nat.reduceLT, Nat.reduceLeDiff]
          unfold dpO
          simp (disch := omega) only [inb_nI, inb_lit, cl_nI, cl_lit, nI_add, add_nl, add_ln, mul_ln, pk_mul, le_nn, lt_nn, eq_nn, le_nl, lt_nl, eq_nl, le_ln, lt_ln, eq_ln, eq_ll, lt_ll, le_ll, eq_nm1, eq_nm2, eq_nm3, eq_nm4, Option.bind_some, ↓reduceIte, if_true, if_false, Nat.reduceEqDiff, Nat.reduceAdd, Nat.reduceMul, Nat.reduceLT, Nat.reduceLeDiff, oA_1, oI_1, oLA_1, oL_1, oA_2, oI_2, oLA_2, oL_2, up_v, upd_v, updL_v]
        · simp only [c1, c3, Option.bind_some, ↓reduceIte, if_true, if_false, Nat.reduceEqDiff, Nat.reduceAdd, Nat.reduceMul, Nat.reduceLT, Nat.reduceLeDiff, decide_true, decide_false, Bool.not_false, Bool.and_false, Bool.false_eq_true]
      · simp only [c1, Option.bind_some, ↓reduceIte, if_true, if_false, Nat.reduceEqDiff, Nat.reduceAdd, Nat.reduceMul, Nat.reduceLT, Nat.reduceLeDiff, decide_false, Bool.false_and, Bool.false_eq_true]
    · simp [c2]
def wc (P : PP) (r s k : Nat) : Int32 := if k < s then -2 else (pth P r s (k - s)).1
def DSt (P : PP) (r s : Nat) (o : Ob) : Prop :=
  (∀ k, k < 61 → o.1 0 k = wc P r s k) ∧ o.1 1 0 = (aVis P r s (61 - s)).1 ∧ o.1 2 0 = (aVis P r s (61 - s)).2 ∧ o.1 3 0 = ffr (fun n => agq P r s (n - s)) s (61 - s) ∧
  o.1 4 0 = ffr (fun n => decide ((pth P r s (n - s)).1 = -1)) s (61 - s) ∧ o.1 5 0 = aStd P r s (61 - s) ∧ o.1 6 0 = aDep P r s (61 - s) ∧ o.1 7 0 = aJm P r s (61 - s) ∧ o.1 8 0 = aJs P r s (61 - s)
/-- once in the sea, in the sea -/
theorem pth_neg (P : PP) (r s : Nat) {i : Nat} (h : (pth P r s i).1 < 0) : ∀ j, pth P r s (i + j) = pth P r s i := by
  intro j
  induction j with
  | zero => rfl
  | succ j ih =>
    show stp P _ (pth P r s (i + j)) = _
    rw [ih, stp, if_pos h]
/-- a reach that it was in at i is among those of the first k steps -/
theorem vis_in (P : PP) (h : OKP P) {r : Nat} (hr : r < nR P.1) (s : Nat) {i q : Nat} (e : (pth P r s i).1 = nI q) (hq : q < 32) : ∀ k, i < k → bq (aVis P r s k).1 q = true := by
  intro k
  induction k with
  | zero => intro h; omega
  | succ k ih =>
    intro hk
    have hR := h.1.2.1.1
    have step : aVis P r s (k + 1) = if (pth P r s k).1 < 0 then aVis P r s k else if bq (aVis P r s k).1 (pth P r s k).1.toNatClampNeg = true then aVis P r s k else ((aVis P r s k).1 ||| b1 (pth P r s k).1.toNatClampNeg, (pth P r s k).1) := rfl
    rw [step]
    by_cases c : i = k
    · subst c
      rw [e, cl_nI (by omega), if_neg (by simp (disch := omega) only [inb_nI, inb_lit, cl_nI, cl_lit, nI_add, add_nl, add_ln, mul_ln, pk_mul, le_nn, lt_nn, eq_nn, le_nl, lt_nl, eq_nl, le_ln, lt_ln, eq_ln, eq_ll, lt_ll, le_ll, eq_nm1, eq_nm2, eq_nm3, eq_nm4, Nat.not_lt_zero, not_false_eq_true])]
      split
      · assumption
      · show bq (_ ||| _) q = true
        rw [bq_or, bq_b1 q hq q hq]
        simp
    · have := ih (by omega)
      split
      · exact this
      · split
        · exact this
        · show bq (_ ||| _) q = true
          rw [bq_or, this]
          rfl
/-- the loop's state behind k steps -/
def DI (P : PP) (r s : Nat) (k : Nat) (t : Ob × Int32 × Int32) : Prop :=
  t.2 = pth P r s k ∧ (∀ q, q < s → t.1.1 0 q = -2) ∧ (∀ q, q < k → t.1.1 0 (s + q) = (pth P r s q).1) ∧
  (t.1.1 1 0, t.1.1 2 0) = aVis P r s (min (k + 1) (61 - s)) ∧ t.1.1 3 0 = ffr (fun n => agq P r s (n - s)) s (min (k + 1) (61 - s)) ∧
  t.1.1 4 0 = ffr (fun n => decide ((pth P r s (n - s)).1 = -1)) s (min (k + 1) (61 - s)) ∧ t.1.1 5 0 = aStd P r s k ∧ t.1.1 6 0 = aDep P r s k ∧ t.1.1 7 0 = aJm P r s k ∧ t.1.1 8 0 = aJs P r s k
theorem DI.end {P : PP} {r s : Nat} (hs : s < 61) {t : Ob × Int32 × Int32} (h : DI P r s (61 - s) t) : DSt P r s t.1 := by
  obtain ⟨-, h1, h2, h3, h4, h5, h6, h7, h8, h9⟩ := h
  rw [show min (61 - s + 1) (61 - s) = 61 - s by omega] at h3 h4 h5
  refine ⟨?_, congrArg Prod.fst h3, congrArg Prod.snd h3, h4, h5, h6, h7, h8, h9⟩
  intro k hk
  unfold wc
  by_cases c : k < s
  · rw [if_pos c, h1 k c]
  · rw [if_neg c]
    have := h2 (k - s) (by omega)
    rw [show s + (k - s) = k by omega] at this
    exact this
