/-! ===== seen: what a row tells ===== -/
theorem lgl (v c : Int64) : (lg_cmp v c < 0) = (v.toInt < c.toInt) := by
  unfold lg_cmp
  apply propext
  by_cases h1 : v > c
  · rw [if_pos h1]
    have h1' : c.toInt < v.toInt := Int64.lt_iff_toInt_lt.mp h1
    exact ⟨fun h => absurd h (by decide), fun h => by omega⟩
  · rw [if_neg h1]
    have h1' : ¬ c.toInt < v.toInt := fun h => h1 (Int64.lt_iff_toInt_lt.mpr h)
    by_cases h2 : v = c
    · rw [if_pos h2, h2]
      exact ⟨fun h => absurd h (by decide), fun h => by omega⟩
    · rw [if_neg h2]
      have : v.toInt ≠ c.toInt := fun e => h2 (Int64.toInt_inj.mp e)
      exact ⟨fun _ => by omega, fun _ => by decide⟩
theorem lgg (v c : Int64) : (0 < lg_cmp v c) = (c.toInt < v.toInt) := by
  unfold lg_cmp
  apply propext
  by_cases h1 : v > c
  · rw [if_pos h1]
    exact ⟨fun _ => Int64.lt_iff_toInt_lt.mp h1, fun _ => by decide⟩
  · rw [if_neg h1]
    have h1' : ¬ c.toInt < v.toInt := fun h => h1 (Int64.lt_iff_toInt_lt.mpr h)
    refine ⟨fun h => ?_, fun h => absurd h h1'⟩
    by_cases h2 : v = c
    · rw [if_pos h2] at h; exact absurd h (by decide)
    · rw [if_neg h2] at h; exact absurd h (by decide)
theorem lge (v c : Int64) : (lg_cmp v c = 0) = (v = c) := by
  unfold lg_cmp
  apply propext
  by_cases h1 : v > c
  · rw [if_pos h1]
    refine ⟨fun h => absurd h (by decide), fun h => ?_⟩
    have h1' : c.toInt < v.toInt := Int64.lt_iff_toInt_lt.mp h1
    rw [h] at h1'
    omega
  · rw [if_neg h1]
    by_cases h2 : v = c
    · rw [if_pos h2]; exact ⟨fun _ => h2, fun _ => rfl⟩
    · rw [if_neg h2]; exact ⟨fun h => absurd h (by decide), fun h => absurd h h2⟩
theorem e_numberAt (fu : Nat) (o : Ob) {k i : Nat} (hk : k < 4) (hi : i < 60) : p_X10_numberAt fu o (nI k) (nI i) = some (o.2 40 (60 * k + i)) := by
  unfold p_X10_numberAt
  simp (disch := omega) only [inb_nI, inb_lit, cl_nI, cl_lit, nI_add, add_nl, add_ln, mul_ln, pk_mul, le_nn, lt_nn, eq_nn, le_nl, lt_nl, eq_nl, le_ln, lt_ln, eq_ln, eq_ll, lt_ll, le_ll, eq_nm1, eq_nm2, eq_nm3, eq_nm4, Option.bind_some, ↓reduceIte, if_true, if_false, Nat.reduceEqDiff, Nat.reduceAdd, Nat.reduceMul, Nat.reduceLT, Nat.reduceLeDiff]
theorem l_0 : (0 : Int64).toInt = 0 := rfl
theorem l_60 : (60 : Int64).toInt = 60 := rfl
theorem isStepL (fu : Nat) (v : Int64) : p_X10_isStep fu v = some (if v.toInt < 0 ∨ 60 < v.toInt then 0 else 1) := by
  unfold p_X10_isStep p_X10_in
  simp only [lgl, lgg, l_0, l_60]
  by_cases h1 : v.toInt < 0
  · simp only [h1, Option.bind_some, ↓reduceIte, if_true, if_false, Nat.reduceEqDiff, Nat.reduceAdd, Nat.reduceMul, Nat.reduceLT, Nat.reduceLeDiff, true_or]
  · by_cases h2 : 60 < v.toInt
    · simp only [h1, h2, Option.bind_some, ↓reduceIte, if_true, if_false, Nat.reduceEqDiff, Nat.reduceAdd, Nat.reduceMul, Nat.reduceLT, Nat.reduceLeDiff, or_true, true_or]
    · simp only [h1, h2, Option.bind_some, ↓reduceIte, if_true, if_false, Nat.reduceEqDiff, Nat.reduceAdd, Nat.reduceMul, Nat.reduceLT, Nat.reduceLeDiff, or_self, or_true]
theorem nI_predL {R : Nat} (h : R < 2147483648) : (nI R - 1).toInt64.toInt = (R : Int) - 1 := by
  rw [Int32.toInt_toInt64]
  cases R with
  | zero => rfl
  | succ q =>
    have e : nI (q + 1) - 1 = nI q := by
      have := pk_sub (a := q + 1) (b := 1) (by omega)
      exact this
    rw [e, nI_toInt (by omega)]
    omega
theorem isReachL (fu : Nat) (o : Ob) (h : OKW (o.1 1)) (v : Int64) : p_X10_isReach fu o v = some (if v.toInt < 0 ∨ (nR (o.1 1) : Int) ≤ v.toInt then 0 else 1) := by
  have h3 := h.1.2.1
  have hb := h.2.1.1
  unfold p_X10_isReach p_X10_in
  simp (disch := omega) only [inb_nI, inb_lit, cl_nI, cl_lit, nI_add, add_nl, add_ln, mul_ln, pk_mul, le_nn, lt_nn, eq_nn, le_nl, lt_nl, eq_nl, le_ln, lt_ln, eq_ln, eq_ll, lt_ll, le_ll, eq_nm1, eq_nm2, eq_nm3, eq_nm4, Option.bind_some, ↓reduceIte, if_true, if_false, Nat.reduceEqDiff, Nat.reduceAdd, Nat.reduceMul, Nat.reduceLT, Nat.reduceLeDiff, h3]
  simp only [lgl, lgg, l_0, nI_predL (show nR (o.1 1) < 2147483648 by omega)]
  by_cases h1 : v.toInt < 0
  · simp only [h1, Option.bind_some, ↓reduceIte, if_true, if_false, Nat.reduceEqDiff, Nat.reduceAdd, Nat.reduceMul, Nat.reduceLT, Nat.reduceLeDiff, true_or]
  · by_cases h2 : (nR (o.1 1) : Int) ≤ v.toInt
    · have h2' : (nR (o.1 1) : Int) - 1 < v.toInt := by omega
      simp only [h1, h2, h2', Option.bind_some, ↓reduceIte, if_true, if_false, Nat.reduceEqDiff, Nat.reduceAdd, Nat.reduceMul, Nat.reduceLT, Nat.reduceLeDiff, or_true, true_or]
    · have h2' : ¬ (nR (o.1 1) : Int) - 1 < v.toInt := by omega
      simp only [h1, h2, h2', Option.bind_some, ↓reduceIte, if_true, if_false, Nat.reduceEqDiff, Nat.reduceAdd, Nat.reduceMul, Nat.reduceLT, Nat.reduceLeDiff, or_self, or_true]
theorem l_of {v : Int64} {n : Nat} (h0 : ¬ v.toInt < 0) (h1 : v.toInt < n) (hn : n < 2147483648) : ∃ a, a < n ∧ v = (nI a).toInt64 := by
  refine ⟨v.toInt.toNat, by omega, ?_⟩
  apply Int64.toInt_inj.mp
  rw [Int32.toInt_toInt64, nI_toInt (by omega)]
  omega
theorem l_i32 {a : Nat} (h : a < 2147483648) : (nI a).toInt64.toInt32 = nI a := by
  exact Int32.toInt32_toInt64 (nI a)
/-- the row's numbers tell spots -/
def tel (N : Nat → Int64) (R i m : Nat) : Prop := ∀ q, i ≤ q → q < i + m → ∃ a b, a < 61 ∧ b < R ∧ N (2 * q) = (nI a).toInt64 ∧ N (2 * q + 1) = (nI b).toInt64
theorem e_tell (fu : Nat) {o r : Ob} (hw : OKW (o.1 1)) {k n : Nat} (hk : k < 4) (hn : n ≤ 60) (er : r.1 2 0 = nI n) (eo : o.1 38 k = nI n) (eN : ∀ i, i < 60 → r.2 3 i = o.2 40 (60 * k + i)) :
    ∀ m i fc fr, 2 * (i + m) = n → m < fc → m < fr →
    (p_X3_tellsSpots_L13 fu r fc (nI (nR (o.1 1))) (nI (2 * i)) = some 1 ∧ p_X10_askSeen_L50 fu fr o (nI k) (nI (2 * i)) = (p_X10_asItIs fu o).bind (fun s => some ((0 : Int32), s)) ∧ tel (fun q => o.2 40 (60 * k + q)) (nR (o.1 1)) i m) ∨
    (p_X3_tellsSpots_L13 fu r fc (nI (nR (o.1 1))) (nI (2 * i)) = some 0 ∧ p_X10_askSeen_L50 fu fr o (nI k) (nI (2 * i)) = some (-2, o)) := by
  have hb := hw.2.1.1
  intro m
  induction m with
  | zero =>
    intro i fc fr h1 h2 h3
    obtain ⟨c, rfl⟩ : ∃ c, fc = c + 1 := ⟨fc - 1, by omega⟩
    obtain ⟨d, rfl⟩ : ∃ d, fr = d + 1 := ⟨fr - 1, by omega⟩
    left
    rw [p_X3_tellsSpots_L13, p_X10_askSeen_L50]
    simp (disch := omega) only [inb_nI, inb_lit, cl_nI, cl_lit, nI_add, add_nl, add_ln, mul_ln, pk_mul, le_nn, lt_nn, eq_nn, le_nl, lt_nl, eq_nl, le_ln, lt_ln, eq_ln, eq_ll, lt_ll, le_ll, eq_nm1, eq_nm2, eq_nm3, eq_nm4, Option.bind_some, ↓reduceIte, if_true, if_false, Nat.reduceEqDiff, Nat.reduceAdd, Nat.reduceMul, Nat.reduceLT, Nat.reduceLeDiff, er, eo, show n ≤ 2 * i by omega]
    exact ⟨trivial, trivial, fun q h4 h5 => by omega⟩
  | succ m ih =>
    intro i fc fr h1 h2 h3
    obtain ⟨c, rfl⟩ : ∃ c, fc = c + 1 := ⟨fc - 1, by omega⟩
    obtain ⟨d, rfl⟩ : ∃ d, fr = d + 1 := ⟨fr - 1, by omega⟩
    rw [p_X3_tellsSpots_L13, p_X10_askSeen_L50]
    simp (disch := omega) only [inb_nI, inb_lit, cl_nI, cl_lit, nI_add, add_nl, add_ln, mul_ln, pk_mul, le_nn, lt_nn, eq_nn, le_nl, lt_nl, eq_nl, le_ln, lt_ln, eq_ln, eq_ll, lt_ll, le_ll, eq_nm1, eq_nm2, eq_nm3, eq_nm4, Option.bind_some, ↓reduceIte, if_true, if_false, Nat.reduceEqDiff, Nat.reduceAdd, Nat.reduceMul, Nat.reduceLT, Nat.reduceLeDiff, er, eo, show ¬ n ≤ 2 * i by omega, e_number, e_numberAt, isStepL, isReachL fu o hw, eN (2 * i) (by omega), eN (2 * i + 1) (by omega)]
    simp only [lgl, lgg, l_0, l_60, Int32.toInt_toInt64, nI_toInt (show nR (o.1 1) < 2147483648 by omega)]
    obtain ⟨a, ea⟩ : ∃ a, a = o.2 40 (60 * k + 2 * i) := ⟨_, rfl⟩
    obtain ⟨b, eb⟩ : ∃ b, b = o.2 40 (60 * k + (2 * i + 1)) := ⟨_, rfl⟩
    simp only [← ea, ← eb]
    by_cases c1 : a.toInt < 0
    · right
      constructor <;> simp (disch := omega) only [c1, inb_nI, inb_lit, cl_nI, cl_lit, nI_add, add_nl, add_ln, mul_ln, pk_mul, le_nn, lt_nn, eq_nn, le_nl, lt_nl, eq_nl, le_ln, lt_ln, eq_ln, eq_ll, lt_ll, le_ll, eq_nm1, eq_nm2, eq_nm3, eq_nm4, Option.bind_some, ↓reduceIte, if_true, if_false, Nat.reduceEqDiff, Nat.reduceAdd, Nat.reduceMul, Nat.reduceLT, Nat.reduceLeDiff, true_or]
    · by_cases c2 : 60 < a.toInt
      · right
        constructor <;> simp (disch := omega) only [c1, c2, inb_nI, inb_lit, cl_nI, cl_lit, nI_add, add_nl, add_ln, mul_ln, pk_mul, le_nn, lt_nn, eq_nn, le_nl, lt_nl, eq_nl, le_ln, lt_ln, eq_ln, eq_ll, lt_ll, le_ll, eq_nm1, eq_nm2, eq_nm3, eq_nm4, Option.bind_some, ↓reduceIte, if_true, if_false, Nat.reduceEqDiff, Nat.reduceAdd, Nat.reduceMul, Nat.reduceLT, Nat.reduceLeDiff, or_true]
      · by_cases c3 : b.toInt < 0
        · right
          constructor <;> simp (disch := omega) only [c1, c2, c3, inb_nI, inb_lit, cl_nI, cl_lit, nI_add, add_nl, add_ln, mul_ln, pk_mul, le_nn, lt_nn, eq_nn, le_nl, lt_nl, eq_nl, le_ln, lt_ln, eq_ln, eq_ll, lt_ll, le_ll, eq_nm1, eq_nm2, eq_nm3, eq_nm4, Option.bind_some, ↓reduceIte, if_true, if_false, Nat.reduceEqDiff, Nat.reduceAdd, Nat.reduceMul, Nat.reduceLT, Nat.reduceLeDiff, or_self, true_or]
        · by_cases c4 : b.toInt < (nR (o.1 1) : Int)
          · have c4' : ¬ (nR (o.1 1) : Int) ≤ b.toInt := by omega
            have e2 : nI (2 * i + 2) = nI (2 * (i + 1)) := rfl
            simp (disch := omega) only [c1, c2, c3, c4, c4', inb_nI, inb_lit, cl_nI, cl_lit, nI_add, add_nl, add_ln, mul_ln, pk_mul, le_nn, lt_nn, eq_nn, le_nl, lt_nl, eq_nl, le_ln, lt_ln, eq_ln, eq_ll, lt_ll, le_ll, eq_nm1, eq_nm2, eq_nm3, eq_nm4, Option.bind_some, ↓reduceIte, if_true, if_false, Nat.reduceEqDiff, Nat.reduceAdd, Nat.reduceMul, Nat.reduceLT, Nat.reduceLeDiff, or_self]
            rcases ih (i + 1) c d (by omega) (by omega) (by omega) with ⟨g1, g2, g3⟩ | ⟨g1, g2⟩
            · left
              refine ⟨g1, g2, fun q h4 h5 => ?_⟩
              by_cases e : q = i
              · obtain ⟨a', ha, ha'⟩ := l_of (n := 61) c1 (by omega) (by omega)
                obtain ⟨b', hb, hb'⟩ := l_of c3 c4 (by omega)
                subst e
                exact ⟨a', b', ha, hb, ea.symm.trans ha', eb.symm.trans hb'⟩
              · exact g3 q (by omega) (by omega)
            · exact Or.inr ⟨g1, g2⟩
          · right
            have c4' : (nR (o.1 1) : Int) ≤ b.toInt := by omega
            constructor <;> simp (disch := omega) only [c1, c2, c3, c4, c4', inb_nI, inb_lit, cl_nI, cl_lit, nI_add, add_nl, add_ln, mul_ln, pk_mul, le_nn, lt_nn, eq_nn, le_nl, lt_nl, eq_nl, le_ln, lt_ln, eq_ln, eq_ll, lt_ll, le_ll, eq_nm1, eq_nm2, eq_nm3, eq_nm4, Option.bind_some, ↓reduceIte, if_true, if_false, Nat.reduceEqDiff, Nat.reduceAdd, Nat.reduceMul, Nat.reduceLT, Nat.reduceLeDiff, or_self, or_true]
