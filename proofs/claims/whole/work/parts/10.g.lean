/-! the reference's stick -/
def GP (P : PP) (o : Ob) : Prop := o.1 1 = P.1 ∧ (∀ j, j < nJ P.1 → o.1 18 j = P.2.1 j ∧ o.1 19 j = P.2.2.1 j) ∧ (∀ k, k < 61 → o.1 17 k = stq P.1 (P.2.2.2.1 k) (nR P.1)) ∧ o.1 20 0 = P.2.2.2.2.1 ∧ o.1 21 0 = P.2.2.2.2.2
theorem GP.kp {P : PP} {o s : Ob} {fs : List Nat} (h : GP P o) (F : FR fs o s) (h1 : 1 ∉ fs) (h2 : 17 ∉ fs) (h3 : 18 ∉ fs) (h4 : 19 ∉ fs) (h5 : 20 ∉ fs) (h6 : 21 ∉ fs) : GP P s := by
  unfold GP
  rw [F.f1 1 h1, F.f1 17 h2, F.f1 18 h3, F.f1 19 h4, F.f1 20 h5, F.f1 21 h6]
  exact h
theorem je_ne {w je ja : Nat → Int32} (h : OKt w je ja) {j : Nat} (hj : j < nJ w) : (je j = 0) = False := by
  obtain ⟨e, a, h1, h2, h3, e1, e2⟩ := h j hj
  rw [e1]
  simp (disch := omega) only [eq_nl]
  exact propext ⟨fun z => by omega, False.elim⟩
theorem e_joinFrom (fu : Nat) (hf : 2000 ≤ fu) (P : PP) (h : OKP P) (o : Ob) (g : GP P o) (s : Int32) (n : Nat) : p_X10_joinFrom fu o s (nI n) = some (fJ P s n) := by
  have hJ := h.1.2.1.2.1
  have h4 := h.1.1.2.2.1
  unfold p_X10_joinFrom fJ
  refine loop_ff (fun m i => p_X10_joinFrom_L2 fu o m s (nI n) (nI i)) (goJ P s n) (nJ P.1) id ?_ ?_ fu 0 (Nat.zero_le _) (by omega)
  · intro m
    show p_X10_joinFrom_L2 fu o (m + 1) s (nI n) (nI (nJ P.1)) = _
    rw [p_X10_joinFrom_L2]
    simp (disch := omega) only [inb_nI, inb_lit, cl_nI, cl_lit, nI_add, add_nl, add_ln, mul_ln, pk_mul, le_nn, lt_nn, eq_nn, le_nl, lt_nl, eq_nl, le_ln, lt_ln, eq_ln, eq_ll, lt_ll, le_ll, eq_nm1, eq_nm2, eq_nm3, eq_nm4, Option.bind_some, ↓reduceIte, if_true, if_false, Nat.reduceEqDiff, Nat.reduceAdd, Nat.reduceMul, Nat.reduceLT, Nat.reduceLeDiff, g.1, h4, Nat.le_refl]
    rfl
  · intro m i hi
    have hj0 := je_ne h.2 hi
    show p_X10_joinFrom_L2 fu o (m + 1) s (nI n) (nI i) = if _ then _ else p_X10_joinFrom_L2 fu o m s (nI n) (nI (i + 1))
    rw [p_X10_joinFrom_L2]
    simp (disch := omega) only [inb_nI, inb_lit, cl_nI, cl_lit, nI_add, add_nl, add_ln, mul_ln, pk_mul, le_nn, lt_nn, eq_nn, le_nl, lt_nl, eq_nl, le_ln, lt_ln, eq_ln, eq_ll, lt_ll, le_ll, eq_nm1, eq_nm2, eq_nm3, eq_nm4, Option.bind_some, ↓reduceIte, if_true, if_false, Nat.reduceEqDiff, Nat.reduceAdd, Nat.reduceMul, Nat.reduceLT, Nat.reduceLeDiff, g.1, h4, e_oj0, e_rbit, g.2.2.2.1, (g.2.1 i hi).1, (g.2.1 i hi).2, hj0, if_neg (show ¬ nJ P.1 ≤ i by omega)]
    unfold goJ
    by_cases c1 : wF P.1 i = s
    · rw [if_pos c1]
      cases c2 : bq P.2.2.2.2.1 i
      · by_cases c3 : nI n - nI n / P.2.1 i * P.2.1 i = P.2.2.1 i
        · simp [c1, c3]
        · simp [c1, c3]
      · simp
    · rw [if_neg c1]
      simp [c1]
def wh (P : PP) (r s k : Nat) : Int32 := if k < s then -4 else (pth P r s (k - s)).1
def GSt (P : PP) (r s : Nat) (o : Ob) : Prop :=
  (∀ k, k < 61 → o.1 22 k = wh P r s k) ∧ (∀ k, s ≤ k → k < 61 → o.1 23 k = if arr P r s (k - s) = true then 1 else 0) ∧ o.1 24 0 = aDep P r s (61 - s) ∧ o.1 25 0 = aJm P r s (61 - s) ∧ o.1 26 0 = aJs P r s (61 - s)
theorem nar0 : vp_nar .boolean (0 : Int32) = 0 := rfl
theorem nar1 : vp_nar .boolean (1 : Int32) = 1 := rfl
/-- the loop's state behind k steps -/
def GI (P : PP) (r s : Nat) (o : Ob) (k : Nat) (t : Ob × Int32 × Int32) : Prop :=
  FR [22, 23, 24, 25, 26] o t.1 ∧ t.2 = pth P r s k ∧ (∀ q, q < s → t.1.1 22 q = -4) ∧ (∀ q, q < k → t.1.1 22 (s + q) = (pth P r s q).1) ∧
  (∀ q, s + q < 61 → t.1.1 23 (s + q) = if q ≤ k ∧ arr P r s q = true then 1 else 0) ∧ t.1.1 24 0 = aDep P r s k ∧ t.1.1 25 0 = aJm P r s k ∧ t.1.1 26 0 = aJs P r s k
theorem GI.end {P : PP} {r s : Nat} {o : Ob} (hs : s < 61) {t : Ob × Int32 × Int32} (h : GI P r s o (61 - s) t) : FR [22, 23, 24, 25, 26] o t.1 ∧ GSt P r s t.1 := by
  obtain ⟨F, -, h1, h2, h3, h4, h5, h6⟩ := h
  refine ⟨F, ?_, ?_, h4, h5, h6⟩
  · intro k hk
    unfold wh
    by_cases c : k < s
    · rw [if_pos c, h1 k c]
    · rw [if_neg c]
      have := h2 (k - s) (by omega)
      rw [show s + (k - s) = k by omega] at this
      exact this
  · intro k h1 hk
    have := h3 (k - s) (by omega)
    rw [show s + (k - s) = k by omega] at this
    rw [this]
    simp only [show k - s ≤ 61 - s by omega, true_and]
/-- a step at which it doesn't leave -/
theorem GI.stay {P : PP} {r s : Nat} {o : Ob} {k : Nat} (hk : s + k < 61) {t : Ob} {v3 v4 a b : Int32} (h : GI P r s o k (t, v3, v4)) (hl : lvs P (s + k) (pth P r s k) = false) (hp : pth P r s (k + 1) = (a, b)) :
    GI P r s o (k + 1) (oA t 22 (upd (t.1 22) (s + k) v3), a, b) := by
  obtain ⟨F, h0, h1, h2, h3, h4, h5, h6⟩ := h
  have e3 : v3 = (pth P r s k).1 := congrArg Prod.fst h0
  refine ⟨F.A (by decide) _, hp.symm, ?_, ?_, ?_, ?_, ?_, ?_⟩
  · intro q hq
    simp only [oA_1, oI_1, oLA_1, oL_1, oA_2, oI_2, oLA_2, oL_2, up_v, upd_v, updL_v, Option.bind_some, ↓reduceIte, if_true, if_false, Nat.reduceEqDiff, Nat.reduceAdd, Nat.reduceMul, Nat.reduceLT, Nat.reduceLeDiff, show ¬ q = s + k by omega]
    exact h1 q hq
  · intro q hq
    by_cases c : q = k
    · subst c
      simp only [oA_1, oI_1, oLA_1, oL_1, oA_2, oI_2, oLA_2, oL_2, up_v, upd_v, updL_v, Option.bind_some, ↓reduceIte, if_true, if_false, Nat.reduceEqDiff, Nat.reduceAdd, Nat.reduceMul, Nat.reduceLT, Nat.reduceLeDiff]
      exact e3
    · simp only [oA_1, oI_1, oLA_1, oL_1, oA_2, oI_2, oLA_2, oL_2, up_v, upd_v, updL_v, Option.bind_some, ↓reduceIte, if_true, if_false, Nat.reduceEqDiff, Nat.reduceAdd, Nat.reduceMul, Nat.reduceLT, Nat.reduceLeDiff, show ¬ s + q = s + k by omega]
      exact h2 q (by omega)
  · intro q hq
    simp only [oA_1, oI_1, oLA_1, oL_1, oA_2, oI_2, oLA_2, oL_2, up_v, upd_v, updL_v, Option.bind_some, ↓reduceIte, if_true, if_false, Nat.reduceEqDiff, Nat.reduceAdd, Nat.reduceMul, Nat.reduceLT, Nat.reduceLeDiff]
    rw [h3 q hq]
    by_cases c : q = k + 1
    · subst c
      have : arr P r s (k + 1) = false := hl
      rw [this]
      simp
    · simp only [show (q ≤ k + 1) = (q ≤ k) from propext (by omega)]
  · simp only [oA_1, oI_1, oLA_1, oL_1, oA_2, oI_2, oLA_2, oL_2, up_v, upd_v, updL_v, Option.bind_some, ↓reduceIte, if_true, if_false, Nat.reduceEqDiff, Nat.reduceAdd, Nat.reduceMul, Nat.reduceLT, Nat.reduceLeDiff]
    show _ = if _ then _ else _
    rw [hl]; exact h4
  · simp only [oA_1, oI_1, oLA_1, oL_1, oA_2, oI_2, oLA_2, oL_2, up_v, upd_v, updL_v, Option.bind_some, ↓reduceIte, if_true, if_false, Nat.reduceEqDiff, Nat.reduceAdd, Nat.reduceMul, Nat.reduceLT, Nat.reduceLeDiff]
    show _ = if _ then _ else _
    rw [hl]; exact h5
  · simp only [oA_1, oI_1, oLA_1, oL_1, oA_2, oI_2, oLA_2, oL_2, up_v, upd_v, updL_v, Option.bind_some, ↓reduceIte, if_true, if_false, Nat.reduceEqDiff, Nat.reduceAdd, Nat.reduceMul, Nat.reduceLT, Nat.reduceLeDiff]
    show _ = if _ then _ else _
    rw [hl]; exact h6
/-- a step at which it leaves -/
theorem GI.go {P : PP} {r s : Nat} {o : Ob} {k : Nat} (hk : s + k < 60) {t : Ob} {v3 v4 a b : Int32} (h : GI P r s o k (t, v3, v4)) (hl : lvs P (s + k) (pth P r s k) = true) (hp : pth P r s (k + 1) = (a, b)) {jm js : Int32}
    (ejm : jm = if fJ P (pth P r s k).1 (s + k) = -1 then aJm P r s k else aJm P r s k + 1) (ejs : js = if fJ P (pth P r s k).1 (s + k) = -1 then aJs P r s k else aJs P r s k ||| b1 (fJ P (pth P r s k).1 (s + k)).toNatClampNeg) :
    GI P r s o (k + 1) (oA (oI (oI (oI (oA t 22 (upd (t.1 22) (s + k) v3)) 24 (aDep P r s k + 1)) 25 jm) 26 js) 23 (upd (t.1 23) (s + k + 1) 1), a, b) := by
  obtain ⟨F, h0, h1, h2, h3, h4, h5, h6⟩ := h
  have e3 : v3 = (pth P r s k).1 := congrArg Prod.fst h0
  refine ⟨((((F.A (by decide) _).I (by decide) _).I (by decide) _).I (by decide) _).A (by decide) _, hp.symm, ?_, ?_, ?_, ?_, ?_, ?_⟩
  · intro q hq
    simp only [oA_1, oI_1, oLA_1, oL_1, oA_2, oI_2, oLA_2, oL_2, up_v, upd_v, updL_v, Option.bind_some, ↓reduceIte, if_true, if_false, Nat.reduceEqDiff, Nat.reduceAdd, Nat.reduceMul, Nat.reduceLT, Nat.reduceLeDiff, show ¬ q = s + k by omega]
    exact h1 q hq
  · intro q hq
    by_cases c : q = k
    · subst c
      simp only [oA_1, oI_1, oLA_1, oL_1, oA_2, oI_2, oLA_2, oL_2, up_v, upd_v, updL_v, Option.bind_some, ↓reduceIte, if_true, if_false, Nat.reduceEqDiff, Nat.reduceAdd, Nat.reduceMul, Nat.reduceLT, Nat.reduceLeDiff]
      exact e3
    · simp only [oA_1, oI_1, oLA_1, oL_1, oA_2, oI_2, oLA_2, oL_2, up_v, upd_v, updL_v, Option.bind_some, ↓reduceIte, if_true, if_false, Nat.reduceEqDiff, Nat.reduceAdd, Nat.reduceMul, Nat.reduceLT, Nat.reduceLeDiff, show ¬ s + q = s + k by omega]
      exact h2 q (by omega)
  · intro q hq
    simp only [oA_1, oI_1, oLA_1, oL_1, oA_2, oI_2, oLA_2, oL_2, up_v, upd_v, updL_v, Option.bind_some, ↓reduceIte, if_true, if_false, Nat.reduceEqDiff, Nat.reduceAdd, Nat.reduceMul, Nat.reduceLT, Nat.reduceLeDiff]
    by_cases c : q = k + 1
    · subst c
      have : arr P r s (k + 1) = true := hl
      rw [this, if_pos (by omega)]
      simp
    · rw [if_neg (by omega), h3 q hq]
      simp only [show (q ≤ k + 1) = (q ≤ k) from propext (by omega)]
  · simp only [oA_1, oI_1, oLA_1, oL_1, oA_2, oI_2, oLA_2, oL_2, up_v, upd_v, updL_v, Option.bind_some, ↓reduceIte, if_true, if_false, Nat.reduceEqDiff, Nat.reduceAdd, Nat.reduceMul, Nat.reduceLT, Nat.reduceLeDiff]
    show _ = if _ then _ else _
    rw [hl]; rfl
  · simp only [oA_1, oI_1, oLA_1, oL_1, oA_2, oI_2, oLA_2, oL_2, up_v, upd_v, updL_v, Option.bind_some, ↓reduceIte, if_true, if_false, Nat.reduceEqDiff, Nat.reduceAdd, Nat.reduceMul, Nat.reduceLT, Nat.reduceLeDiff]
    show _ = if _ then _ else _
    rw [hl, ejm]; rfl
  · simp only [oA_1, oI_1, oLA_1, oL_1, oA_2, oI_2, oLA_2, oL_2, up_v, upd_v, updL_v, Option.bind_some, ↓reduceIte, if_true, if_false, Nat.reduceEqDiff, Nat.reduceAdd, Nat.reduceMul, Nat.reduceLT, Nat.reduceLeDiff]
    show _ = if _ then _ else _
    rw [hl, ejs]; rfl
/-- the last step, at which it leaves -/
theorem GI.last {P : PP} {r s : Nat} {o : Ob} {k : Nat} (hk : s + k = 60) {t : Ob} {v3 v4 : Int32} (h : GI P r s o k (t, v3, v4)) (hl : lvs P (s + k) (pth P r s k) = true) {jm js : Int32}
    (ejm : jm = if fJ P (pth P r s k).1 (s + k) = -1 then aJm P r s k else aJm P r s k + 1) (ejs : js = if fJ P (pth P r s k).1 (s + k) = -1 then aJs P r s k else aJs P r s k ||| b1 (fJ P (pth P r s k).1 (s + k)).toNatClampNeg) :
    FR [22, 23, 24, 25, 26] o (oI (oI (oI (oA t 22 (upd (t.1 22) (s + k) v3)) 24 (aDep P r s k + 1)) 25 jm) 26 js) ∧ GSt P r s (oI (oI (oI (oA t 22 (upd (t.1 22) (s + k) v3)) 24 (aDep P r s k + 1)) 25 jm) 26 js) := by
  obtain ⟨F, h0, h1, h2, h3, h4, h5, h6⟩ := h
  have e3 : v3 = (pth P r s k).1 := congrArg Prod.fst h0
  have ek : 61 - s = k + 1 := by omega
  refine ⟨(((F.A (by decide) _).I (by decide) _).I (by decide) _).I (by decide) _, ?_, ?_, ?_, ?_, ?_⟩
  · intro q hq
    unfold wh
    simp only [oA_1, oI_1, oLA_1, oL_1, oA_2, oI_2, oLA_2, oL_2, up_v, upd_v, updL_v, Option.bind_some, ↓reduceIte, if_true, if_false, Nat.reduceEqDiff, Nat.reduceAdd, Nat.reduceMul, Nat.reduceLT, Nat.reduceLeDiff]
    by_cases c : q < s
    · rw [if_pos c, if_neg (by omega), h1 q c]
    · rw [if_neg c]
      by_cases c2 : q = s + k
      · rw [if_pos c2, c2, Nat.add_sub_cancel_left]
        exact e3
      · rw [if_neg c2]
        have := h2 (q - s) (by omega)
        rw [show s + (q - s) = q by omega] at this
        exact this
  · intro q hq1 hq
    simp only [oA_1, oI_1, oLA_1, oL_1, oA_2, oI_2, oLA_2, oL_2, up_v, upd_v, updL_v, Option.bind_some, ↓reduceIte, if_true, if_false, Nat.reduceEqDiff, Nat.reduceAdd, Nat.reduceMul, Nat.reduceLT, Nat.reduceLeDiff]
    have := h3 (q - s) (by omega)
    rw [show s + (q - s) = q by omega] at this
    rw [this]
    simp only [show q - s ≤ k by omega, true_and]
  · rw [ek]
    simp only [oA_1, oI_1, oLA_1, oL_1, oA_2, oI_2, oLA_2, oL_2, up_v, upd_v, updL_v, Option.bind_some, ↓reduceIte, if_true, if_false, Nat.reduceEqDiff, Nat.reduceAdd, Nat.reduceMul, Nat.reduceLT, Nat.reduceLeDiff]
    show _ = if _ then _ else _
    rw [hl]; rfl
  · rw [ek]
    simp only [oA_1, oI_1, oLA_1, oL_1, oA_2, oI_2, oLA_2, oL_2, up_v, upd_v, updL_v, Option.bind_some, ↓reduceIte, if_true, if_false, Nat.reduceEqDiff, Nat.reduceAdd, Nat.reduceMul, Nat.reduceLT, Nat.reduceLeDiff]
    show _ = if _ then _ else _
    rw [hl, ejm]; rfl
  · rw [ek]
    simp only [oA_1, oI_1, oLA_1, oL_1, oA_2, oI_2, oLA_2, oL_2, up_v, upd_v, updL_v, Option.bind_some, ↓reduceIte, if_true, if_false, Nat.reduceEqDiff, Nat.reduceAdd, Nat.reduceMul, Nat.reduceLT, Nat.reduceLeDiff]
    show _ = if _ then _ else _
    rw [hl, ejs]; rfl
