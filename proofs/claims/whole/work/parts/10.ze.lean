/-! paste -/
theorem e_over (fu : Nat) (o : Ob) {n : Nat} (hn : n ≤ 60) (e : o.1 2 0 = nI n) (i m : Int32) :
    (p_X3_reachesOver fu o i m = some 0 ∧ (i < 0 ∨ m < 0 ∨ 0 < lg_cmp (i.toInt64 + m.toInt64) (nI n).toInt64)) ∨
    ∃ a b : Nat, a + b ≤ n ∧ i = nI a ∧ m = nI b ∧ p_X3_reachesOver fu o i m = some 1 := by
  unfold p_X3_reachesOver
  rw [e]
  have big : ∀ a b : Nat, a < 2147483648 → b < 2147483648 → n < a + b → 0 < lg_cmp ((nI a).toInt64 + (nI b).toInt64) (nI n).toInt64 := by
    intro a b ha hb hab
    rw [nI_l ha, nI_l hb, nI_l (by omega)]
    show 0 < lg_cmp (lN a + lN b) (lN n)
    have e1 : lN a + lN b = lN (a + b) := (Int64.ofNat_add a b).symm
    rw [e1]
    unfold lg_cmp
    have e2 : lN (a + b) > lN n := by
      rw [gt_iff_lt, Int64.lt_iff_toInt_lt]
      have t1 : (lN n).toInt = n := Int64.toInt_ofNat_of_lt (by omega)
      have t2 : (lN (a + b)).toInt = ((a + b : Nat) : Int) := Int64.toInt_ofNat_of_lt (by omega)
      rw [t1, t2]
      omega
    rw [if_pos e2]
    decide
  by_cases h1 : i < 0
  · rw [if_pos h1]
    exact Or.inl ⟨rfl, Or.inl h1⟩
  · by_cases h2 : m < 0
    · rw [if_neg h1, if_pos h2]
      exact Or.inl ⟨rfl, Or.inr (Or.inl h2)⟩
    · obtain ⟨a, ha, rfl⟩ := nI_of h1
      obtain ⟨b, hb, rfl⟩ := nI_of h2
      rw [if_neg h1, if_neg h2]
      by_cases h3 : n < a
      · refine Or.inl ⟨by rw [if_pos (by rw [lt_nn (by omega) (by omega)]; exact h3)], Or.inr (Or.inr (big a b (by omega) (by omega) (by omega)))⟩
      · rw [if_neg (by rw [lt_nn (by omega) (by omega)]; exact h3), pk_sub (by omega)]
        by_cases h4 : n - a < b
        · refine Or.inl ⟨by rw [if_pos (by rw [lt_nn (by omega) (by omega)]; exact h4)], Or.inr (Or.inr (big a b (by omega) (by omega) (by omega)))⟩
        · exact Or.inr ⟨a, b, by omega, rfl, rfl, by rw [if_neg (by rw [lt_nn (by omega) (by omega)]; exact h4)]⟩
theorem small_cmp {a b n : Nat} (h : a + b ≤ n) (hn : n ≤ 60) : ¬ 0 < lg_cmp ((nI a).toInt64 + (nI b).toInt64) (nI n).toInt64 ∧ lg_cmp ((nI a).toInt64 + (nI b).toInt64) (nI n).toInt64 ≤ 0 := by
  have key : ¬ 0 < lg_cmp ((nI a).toInt64 + (nI b).toInt64) (nI n).toInt64 := by
    rw [nI_l (by omega), nI_l (by omega), nI_l (by omega)]
    show ¬ 0 < lg_cmp (lN a + lN b) (lN n)
    have e1 : lN a + lN b = lN (a + b) := (Int64.ofNat_add a b).symm
    rw [e1]
    unfold lg_cmp
    have e2 : ¬ lN (a + b) > lN n := by
      rw [gt_iff_lt, Int64.lt_iff_toInt_lt]
      have t1 : (lN n).toInt = n := Int64.toInt_ofNat_of_lt (by omega)
      have t2 : (lN (a + b)).toInt = ((a + b : Nat) : Int) := Int64.toInt_ofNat_of_lt (by omega)
      rw [t1, t2]
      omega
    rw [if_neg e2]
    split <;> decide
  exact ⟨key, Int32.not_lt.mp key⟩
/-- the places put so far: m of them, from the first on or from the last on -/
def psD (fw : Bool) (k n m p : Nat) : Bool := if fw = true then decide (k ≤ p) && decide (p < k + m) else decide (k + n - m ≤ p) && decide (p < k + n)
theorem e_number (fu : Nat) (o : Ob) {i : Nat} (hi : i < 60) : p_X3_number fu o (nI i) = some (o.2 3 i) := by
  unfold p_X3_number
  simp (disch := omega) only [inb_nI, inb_lit, cl_nI, cl_lit, nI_add, add_nl, add_ln, mul_ln, pk_mul, le_nn, lt_nn, eq_nn, le_nl, lt_nl, eq_nl, le_ln, lt_ln, eq_ln, eq_ll, lt_ll, le_ll, eq_nm1, eq_nm2, eq_nm3, eq_nm4, Option.bind_some, ↓reduceIte, if_true, if_false, Nat.reduceEqDiff, Nat.reduceAdd, Nat.reduceMul, Nat.reduceLT, Nat.reduceLeDiff, if_neg (show ¬ i < 0 by omega), if_neg (show ¬ 60 ≤ i by omega)]
theorem e_store (fu : Nat) (o : Ob) {i : Nat} (hi : i < 60) (v : Int64) : p_X3_store fu o (nI i) v = some (oLA o 3 (vp_updL (o.2 3) i v)) := by
  unfold p_X3_store
  simp (disch := omega) only [inb_nI, inb_lit, cl_nI, cl_lit, nI_add, add_nl, add_ln, mul_ln, pk_mul, le_nn, lt_nn, eq_nn, le_nl, lt_nl, eq_nl, le_ln, lt_ln, eq_ln, eq_ll, lt_ll, le_ll, eq_nm1, eq_nm2, eq_nm3, eq_nm4, Option.bind_some, ↓reduceIte, if_true, if_false, Nat.reduceEqDiff, Nat.reduceAdd, Nat.reduceMul, Nat.reduceLT, Nat.reduceLeDiff, if_neg (show ¬ i < 0 by omega), if_neg (show ¬ 60 ≤ i by omega)]
theorem e_pasteL (fu : Nat) (hf : 2000 ≤ fu) (x : Nat → Ob) {js jt i k n : Nat} (hi : i + n ≤ 60) (hk : k + n ≤ 60) (fw : Bool) (hfw : js = jt → (fw = true ↔ k ≤ i)) :
    ∃ z, p_X9_paste_L104 fu fu x js jt (nI i) (nI k) (nI n) (if fw = true then 0 else 1) 0 = some (0, z) ∧ (∀ m, m ≠ 14 + jt → z m = x m) ∧ FR [3] (x (14 + jt)) (z (14 + jt)) ∧
      ∀ p, p < 60 → (z (14 + jt)).2 3 p = if k ≤ p ∧ p < k + n then (x (14 + js)).2 3 (i + (p - k)) else (x (14 + jt)).2 3 p := by
  obtain ⟨⟨a, z⟩, ez, ea, h1, h2, h3⟩ := loop_inv (fun m d z => p_X9_paste_L104 fu m z js jt (nI i) (nI k) (nI n) (if fw = true then 0 else 1) (nI d)) n (fun d z => (∀ m, m ≠ 14 + jt → z m = x m) ∧ FR [3] (x (14 + jt)) (z (14 + jt)) ∧
      ∀ p, p < 60 → (z (14 + jt)).2 3 p = if psD fw k n d p = true then (x (14 + js)).2 3 (i + (p - k)) else (x (14 + jt)).2 3 p) (fun a => a.1 = 0 ∧ (∀ m, m ≠ 14 + jt → a.2 m = x m) ∧ FR [3] (x (14 + jt)) (a.2 (14 + jt)) ∧
      ∀ p, p < 60 → (a.2 (14 + jt)).2 3 p = if psD fw k n n p = true then (x (14 + js)).2 3 (i + (p - k)) else (x (14 + jt)).2 3 p) (by
    rintro m z hz
    refine ⟨(0, z), ?_, rfl, hz⟩
    show p_X9_paste_L104 fu (m + 1) z js jt _ _ _ _ (nI n) = _
    rw [p_X9_paste_L104]
    simp (disch := omega) only [inb_nI, inb_lit, cl_nI, cl_lit, nI_add, add_nl, add_ln, mul_ln, pk_mul, le_nn, lt_nn, eq_nn, le_nl, lt_nl, eq_nl, le_ln, lt_ln, eq_ln, eq_ll, lt_ll, le_ll, eq_nm1, eq_nm2, eq_nm3, eq_nm4, Option.bind_some, ↓reduceIte, if_true, if_false, Nat.reduceEqDiff, Nat.reduceAdd, Nat.reduceMul, Nat.reduceLT, Nat.reduceLeDiff, Nat.le_refl]) (by
    rintro m d z hd ⟨h1, h2, h3⟩
    right
    obtain ⟨e, he, hel, hes⟩ : ∃ e : Nat, (e = if fw = true then d else n - 1 - d) ∧ e < n ∧ True := ⟨_, rfl, by split <;> omega, trivial⟩
    -- what is read is as it was
    have hrd : (z (14 + js)).2 3 (i + e) = (x (14 + js)).2 3 (i + e) := by
      by_cases g : js = jt
      · subst g
        rw [h3 (i + e) (by omega)]
        have : psD fw k n d (i + e) = false := by
          have hk' := hfw rfl
          unfold psD
          cases fw
          · have : ¬ k ≤ i := fun z => by have := hk'.mpr z; cases this
            simp only [Bool.false_eq_true, if_false] at he ⊢
            simp only [Bool.and_eq_false_iff, decide_eq_false_iff_not]
            omega
          · have : k ≤ i := hk'.mp rfl
            simp only [if_true] at he ⊢
            simp only [Bool.and_eq_false_iff, decide_eq_false_iff_not]
            omega
        rw [this, if_neg (by decide)]
      · rw [h1 (14 + js) (by omega)]
    refine ⟨va_up z (14 + jt) (oLA (z (14 + jt)) 3 (vp_updL ((z (14 + jt)).2 3) (k + e) ((z (14 + js)).2 3 (i + e)))), ?_, fun q hq => by rw [up_v, if_neg hq]; exact h1 q hq, ?_, ?_⟩
    · show p_X9_paste_L104 fu (m + 1) z js jt _ _ _ _ (nI d) = p_X9_paste_L104 fu m _ js jt _ _ _ _ (nI (d + 1))
      rw [p_X9_paste_L104]
      have key : p_X9_paste_J128 fu (fun xz j_2 j_9 v2 v4 v5 v8 v9 => p_X9_paste_L104 fu m xz j_2 j_9 v2 v4 v5 v8 v9) z js jt (nI i) (nI k) (nI n) (if fw = true then 0 else 1) (nI d) (nI e) = p_X9_paste_L104 fu m (va_up z (14 + jt) (oLA (z (14 + jt)) 3 (vp_updL ((z (14 + jt)).2 3) (k + e) ((z (14 + js)).2 3 (i + e))))) js jt (nI i) (nI k) (nI n) (if fw = true then 0 else 1) (nI (d + 1)) := by
        unfold p_X9_paste_J128
        simp (disch := omega) only [inb_nI, inb_lit, cl_nI, cl_lit, nI_add, add_nl, add_ln, mul_ln, pk_mul, le_nn, lt_nn, eq_nn, le_nl, lt_nl, eq_nl, le_ln, lt_ln, eq_ln, eq_ll, lt_ll, le_ll, eq_nm1, eq_nm2, eq_nm3, eq_nm4, Option.bind_some, ↓reduceIte, if_true, if_false, Nat.reduceEqDiff, Nat.reduceAdd, Nat.reduceMul, Nat.reduceLT, Nat.reduceLeDiff, e_number, e_store]
      simp (disch := omega) only [inb_nI, inb_lit, cl_nI, cl_lit, nI_add, add_nl, add_ln, mul_ln, pk_mul, le_nn, lt_nn, eq_nn, le_nl, lt_nl, eq_nl, le_ln, lt_ln, eq_ln, eq_ll, lt_ll, le_ll, eq_nm1, eq_nm2, eq_nm3, eq_nm4, if_neg (show ¬ n ≤ d by omega)]
      cases fw
      · simp only [Bool.false_eq_true, if_false] at he key ⊢
        rw [if_neg (by decide), show nI n - 1 - nI d = nI e by
          rw [show (1 : Int32) = nI 1 from rfl, pk_sub (by omega), pk_sub (by omega), he]]
        exact key
      · simp only [if_true] at he key ⊢
        subst he
        exact key
    · rw [up_v, if_pos rfl]
      exact h2.LA (by decide) _
    · intro p hp
      rw [up_v, if_pos rfl, oLA_2, if_pos rfl, updL_v, hrd]
      by_cases g : p = k + e
      · rw [if_pos g]
        have : psD fw k n (d + 1) p = true := by
          unfold psD
          cases fw
          · simp only [Bool.false_eq_true, if_false] at he ⊢
            simp only [Bool.and_eq_true, decide_eq_true_eq]
            omega
          · simp only [if_true] at he ⊢
            simp only [Bool.and_eq_true, decide_eq_true_eq]
            omega
        rw [if_pos this, g, show k + e - k = e by omega]
      · rw [if_neg g, h3 p hp]
        have : psD fw k n (d + 1) p = psD fw k n d p := by
          unfold psD
          cases fw
          · simp only [Bool.false_eq_true, if_false] at he ⊢
            rw [Bool.eq_iff_iff]
            simp only [Bool.and_eq_true, decide_eq_true_eq]
            omega
          · simp only [if_true] at he ⊢
            rw [Bool.eq_iff_iff]
            simp only [Bool.and_eq_true, decide_eq_true_eq]
            omega
        rw [this]) fu 0 x (Nat.zero_le _) (by omega) ⟨fun _ _ => rfl, FR.rf, fun p hp => by
      have : psD fw k n 0 p = false := by
        unfold psD
        cases fw
        · simp only [Bool.false_eq_true, if_false, Bool.and_eq_false_iff, decide_eq_false_iff_not]
          omega
        · simp only [if_true, Bool.and_eq_false_iff, decide_eq_false_iff_not]
          omega
      rw [this, if_neg (by decide)]⟩
  have ea : a = 0 := ea
  subst ea
  refine ⟨z, ez, h1, h2, fun p hp => ?_⟩
  have := h3 p hp
  simp only at this
  rw [this]
  have e : (psD fw k n n p = true) = (k ≤ p ∧ p < k + n) := by
    apply propext
    unfold psD
    cases fw
    · simp only [Bool.false_eq_true, if_false, Bool.and_eq_true, decide_eq_true_eq]
      omega
    · simp only [if_true, Bool.and_eq_true, decide_eq_true_eq]
  simp only [e]
theorem s_paste (fu : Nat) (hf : 2000 ≤ fu) {x : Nat → Ob} {o : Ob} (h : Rel x o) (v1 v2 v3 v4 v5 : Int32) : ∃ r y t, p_X9_paste fu x v1 v2 v3 v4 v5 = some (r, y) ∧ p_X10_paste fu o v1 v2 v3 v4 v5 = some (r, t) ∧ Rel y t := by
  unfold p_X9_paste p_X10_paste
  rw [e_isSlot, Option.bind_some, e_isSlot, Option.bind_some]
  have oN : ∀ {α : Type} (a : Option α) (f : Nat → Option α), oCase none a f = a := fun _ _ => rfl
  have oS : ∀ {α : Type} (j : Nat) (a : Option α) (f : Nat → Option α), oCase (some j) a f = f j := fun _ _ _ => rfl
  have d10 : ¬ (1 : Int32) = 0 := by decide
  rcases e_rowOf fu x v1 with ⟨e1, e2⟩ | ⟨js, hjs, rfl, e1, e2⟩
  · rw [e1, Option.bind_some, oN, e2, if_pos rfl]
    rcases e_rowOf fu x v3 with ⟨f1, f2⟩ | ⟨jt, hjt, rfl, f1, f2⟩
    · rw [f1, Option.bind_some, oN]
      exact ⟨_, _, _, rfl, rfl, h⟩
    · rw [f1, Option.bind_some, oS, if_pos hjt]
      exact ⟨_, _, _, rfl, rfl, h⟩
  · rw [e1, Option.bind_some, oS, if_pos hjs, e2, if_neg d10]
    rcases e_rowOf fu x v3 with ⟨f1, f2⟩ | ⟨jt, hjt, rfl, f1, f2⟩
    · rw [f1, Option.bind_some, oN, f2, if_pos rfl]
      exact ⟨_, _, _, rfl, rfl, h⟩
    · rw [f1, Option.bind_some, oS, if_pos hjt, f2, if_neg d10]
      have i1 : inb (nI js) 4 = true := by simp (disch := omega) only [inb_nI]
      have i2 : inb (nI jt) 4 = true := by simp (disch := omega) only [inb_nI]
      have i3 : (nI js).toNatClampNeg = js := by simp (disch := omega) only [cl_nI]
      have i4 : (nI jt).toNatClampNeg = jt := by simp (disch := omega) only [cl_nI]
      simp only [i1, i2, i3, i4, if_true]
      rcases h.2.2.2.2.2 js hjs with ⟨a1, a2⟩ | ⟨a1, n, b, hn, hb, a2, a3, a4, a5, a6⟩
      · simp only [a1, a2, Option.bind_some, ↓reduceIte, if_true, if_false, Nat.reduceEqDiff, Nat.reduceAdd, Nat.reduceMul, Nat.reduceLT, Nat.reduceLeDiff]
        exact ⟨_, _, _, rfl, rfl, h⟩
      · rcases h.2.2.2.2.2 jt hjt with ⟨c1, c2⟩ | ⟨c1, n', b', hn', hb', c2, c3, c4, c5, c6⟩
        · simp (disch := omega) only [a1, a3, c1, c2, inb_nI, inb_lit, cl_nI, cl_lit, nI_add, add_nl, add_ln, mul_ln, pk_mul, le_nn, lt_nn, eq_nn, le_nl, lt_nl, eq_nl, le_ln, lt_ln, eq_ln, eq_ll, lt_ll, le_ll, eq_nm1, eq_nm2, eq_nm3, eq_nm4, Option.bind_some, ↓reduceIte, if_true, if_false, Nat.reduceEqDiff, Nat.reduceAdd, Nat.reduceMul, Nat.reduceLT, Nat.reduceLeDiff]
          exact ⟨_, _, _, rfl, rfl, h⟩
        · simp (disch := omega) only [a1, a3, a4, a5, c1, c3, c4, c5, inb_nI, inb_lit, cl_nI, cl_lit, nI_add, add_nl, add_ln, mul_ln, pk_mul, le_nn, lt_nn, eq_nn, le_nl, lt_nl, eq_nl, le_ln, lt_ln, eq_ln, eq_ll, lt_ll, le_ll, eq_nm1, eq_nm2, eq_nm3, eq_nm4, Option.bind_some, ↓reduceIte, if_true, if_false, Nat.reduceEqDiff, Nat.reduceAdd, Nat.reduceMul, Nat.reduceLT, Nat.reduceLeDiff]
          by_cases gw : b = b'
          · subst gw
            simp only [Option.bind_some, ↓reduceIte, if_true, if_false, Nat.reduceEqDiff, Nat.reduceAdd, Nat.reduceMul, Nat.reduceLT, Nat.reduceLeDiff]
            rcases e_over fu (x (14 + js)) hn a2 v2 v5 with ⟨o1, oo⟩ | ⟨i, m, him, rfl, rfl, o1⟩
            · simp only [o1, Option.bind_some, ↓reduceIte, if_true, if_false, Nat.reduceEqDiff, Nat.reduceAdd, Nat.reduceMul, Nat.reduceLT, Nat.reduceLeDiff]
              refine ⟨-7, x, o, rfl, ?_, h⟩
              by_cases g1 : v2 < 0
              · rw [if_pos g1]
              · rw [if_neg g1]
                by_cases g2 : v4 < 0
                · rw [if_pos g2]
                · rw [if_neg g2]
                  by_cases g3 : v5 < 0
                  · rw [if_pos g3]
                  · rw [if_neg g3]
                    rcases oo with z | z | z
                    · exact absurd z g1
                    · exact absurd z g3
                    · rw [if_pos z]
            · simp (disch := omega) only [o1, inb_nI, inb_lit, cl_nI, cl_lit, nI_add, add_nl, add_ln, mul_ln, pk_mul, le_nn, lt_nn, eq_nn, le_nl, lt_nl, eq_nl, le_ln, lt_ln, eq_ln, eq_ll, lt_ll, le_ll, eq_nm1, eq_nm2, eq_nm3, eq_nm4, Option.bind_some, ↓reduceIte, if_true, if_false, Nat.reduceEqDiff, Nat.reduceAdd, Nat.reduceMul, Nat.reduceLT, Nat.reduceLeDiff]
              rcases e_over fu (x (14 + jt)) hn' c2 v4 (nI m) with ⟨o2, oo⟩ | ⟨k, m', hkm, rfl, em, o2⟩
              · simp only [o2, Option.bind_some, ↓reduceIte, if_true, if_false, Nat.reduceEqDiff, Nat.reduceAdd, Nat.reduceMul, Nat.reduceLT, Nat.reduceLeDiff]
                refine ⟨-7, x, o, rfl, ?_, h⟩
                simp only [if_neg (show ¬ i < 0 by omega), if_neg (show ¬ m < 0 by omega), if_neg (small_cmp him hn).1]
                by_cases g2 : v4 < 0
                · rw [if_pos g2]
                · rw [if_neg g2]
                  rcases oo with z | z | z
                  · exact absurd z g2
                  · exact absurd z (nn0 (by omega))
                  · rw [if_neg (Int32.not_le.mpr z)]
              · rw [eq_nn (by omega) (by omega)] at em
                subst em
                simp (disch := omega) only [o2, inb_nI, inb_lit, cl_nI, cl_lit, nI_add, add_nl, add_ln, mul_ln, pk_mul, le_nn, lt_nn, eq_nn, le_nl, lt_nl, eq_nl, le_ln, lt_ln, eq_ln, eq_ll, lt_ll, le_ll, eq_nm1, eq_nm2, eq_nm3, eq_nm4, Option.bind_some, ↓reduceIte, if_true, if_false, Nat.reduceEqDiff, Nat.reduceAdd, Nat.reduceMul, Nat.reduceLT, Nat.reduceLeDiff, if_neg (show ¬ i < 0 by omega), if_neg (show ¬ m < 0 by omega), if_neg (show ¬ k < 0 by omega), if_neg (small_cmp him hn).1, if_pos (small_cmp hkm hn').2]
                obtain ⟨fw, hfw⟩ : ∃ fw : Bool, fw = decide (k ≤ i) := ⟨_, rfl⟩
                have hfi : fw = true ↔ k ≤ i := by rw [hfw]; exact decide_eq_true_iff
                obtain ⟨z, ez, z1, z2, z3⟩ := e_pasteL fu hf x (js := js) (jt := jt) (i := i) (k := k) (n := m) (by omega) (by omega) fw (fun _ => hfi)
                have ecl : (if k ≤ i then p_X9_paste_L104 fu fu x js jt (nI i) (nI k) (nI m) 0 0 else p_X9_paste_L104 fu fu x js jt (nI i) (nI k) (nI m) 1 0) = some (0, z) := by
                  rw [← ez]
                  by_cases g : k ≤ i
                  · rw [if_pos g, if_pos (hfi.mpr g)]
                  · rw [if_neg g, if_neg (fun q => g (hfi.mp q))]
                rw [ecl]
                obtain ⟨s1, g1, F1, q1⟩ := loop_to (fun p d t => p_X10_paste_L113 fu (fun oz v3 v4 v5 => p_X10_paste_L150 fu fu oz v3 v4 v5 0) p t (nI js) (nI i) (nI jt) (nI k) (nI m) (nI d)) m (fun d t => FR [41] o t ∧ ∀ p, p < d → t.2 41 p = o.2 40 (60 * js + (i + p))) (fun t => p_X10_paste_L150 fu fu t (nI jt) (nI k) (nI m) 0) (by
                  rintro p t -
                  show p_X10_paste_L113 fu _ (p + 1) t _ _ _ _ _ (nI m) = _
                  rw [p_X10_paste_L113]
                  simp (disch := omega) only [inb_nI, inb_lit, cl_nI, cl_lit, nI_add, add_nl, add_ln, mul_ln, pk_mul, le_nn, lt_nn, eq_nn, le_nl, lt_nl, eq_nl, le_ln, lt_ln, eq_ln, eq_ll, lt_ll, le_ll, eq_nm1, eq_nm2, eq_nm3, eq_nm4, Option.bind_some, ↓reduceIte, if_true, if_false, Nat.reduceEqDiff, Nat.reduceAdd, Nat.reduceMul, Nat.reduceLT, Nat.reduceLeDiff, Nat.le_refl]) (by
                  rintro p d t hd ⟨F, hq⟩
                  refine ⟨oLA t 41 (vp_updL (t.2 41) d (t.2 40 (60 * js + i + d))), ?_, F.LA (by decide) _, ?_⟩
                  · show p_X10_paste_L113 fu _ (p + 1) t _ _ _ _ _ (nI d) = p_X10_paste_L113 fu _ p _ _ _ _ _ _ (nI (d + 1))
                    rw [p_X10_paste_L113]
                    simp (disch := omega) only [inb_nI, inb_lit, cl_nI, cl_lit, nI_add, add_nl, add_ln, mul_ln, pk_mul, le_nn, lt_nn, eq_nn, le_nl, lt_nl, eq_nl, le_ln, lt_ln, eq_ln, eq_ll, lt_ll, le_ll, eq_nm1, eq_nm2, eq_nm3, eq_nm4, Option.bind_some, ↓reduceIte, if_true, if_false, Nat.reduceEqDiff, Nat.reduceAdd, Nat.reduceMul, Nat.reduceLT, Nat.reduceLeDiff, if_neg (show ¬ m ≤ d by omega)]
                  · intro q hq1
                    simp only [oA_1, oI_1, oLA_1, oL_1, oA_2, oI_2, oLA_2, oL_2, up_v, upd_v, updL_v, Option.bind_some, ↓reduceIte, if_true, if_false, Nat.reduceEqDiff, Nat.reduceAdd, Nat.reduceMul, Nat.reduceLT, Nat.reduceLeDiff]
                    by_cases g : q = d
                    · rw [if_pos g, g, F.f2 40 (by decide), Nat.add_assoc]
                    · rw [if_neg g]; exact hq q (by omega)) fu 0 o (Nat.zero_le _) (by omega) ⟨FR.rf, fun p hp => by omega⟩
                obtain ⟨⟨a, s2⟩, g2, ha, F2, q2, q3⟩ := loop_inv (fun p d t => p_X10_paste_L150 fu p t (nI jt) (nI k) (nI m) (nI d)) m (fun d t => FR [40] s1 t ∧ (∀ p, p < d → t.2 40 (60 * jt + (k + p)) = s1.2 41 p) ∧ ∀ p, (p < 60 * jt + k ∨ 60 * jt + k + d ≤ p) → t.2 40 p = s1.2 40 p) (fun a => a.1 = 0 ∧ FR [40] s1 a.2 ∧ (∀ p, p < m → a.2.2 40 (60 * jt + (k + p)) = s1.2 41 p) ∧ ∀ p, (p < 60 * jt + k ∨ 60 * jt + k + m ≤ p) → a.2.2 40 p = s1.2 40 p) (by
                  rintro p t ht
                  refine ⟨(0, t), ?_, rfl, ht⟩
                  show p_X10_paste_L150 fu (p + 1) t _ _ _ (nI m) = _
                  rw [p_X10_paste_L150]
                  simp (disch := omega) only [inb_nI, inb_lit, cl_nI, cl_lit, nI_add, add_nl, add_ln, mul_ln, pk_mul, le_nn, lt_nn, eq_nn, le_nl, lt_nl, eq_nl, le_ln, lt_ln, eq_ln, eq_ll, lt_ll, le_ll, eq_nm1, eq_nm2, eq_nm3, eq_nm4, Option.bind_some, ↓reduceIte, if_true, if_false, Nat.reduceEqDiff, Nat.reduceAdd, Nat.reduceMul, Nat.reduceLT, Nat.reduceLeDiff, Nat.le_refl]) (by
                  rintro p d t hd ⟨F, hq, hq'⟩
                  right
                  refine ⟨oLA t 40 (vp_updL (t.2 40) (60 * jt + k + d) (t.2 41 d)), ?_, F.LA (by decide) _, ?_, ?_⟩
                  · show p_X10_paste_L150 fu (p + 1) t _ _ _ (nI d) = p_X10_paste_L150 fu p _ _ _ _ (nI (d + 1))
                    rw [p_X10_paste_L150]
                    simp (disch := omega) only [inb_nI, inb_lit, cl_nI, cl_lit, nI_add, add_nl, add_ln, mul_ln, pk_mul, le_nn, lt_nn, eq_nn, le_nl, lt_nl, eq_nl, le_ln, lt_ln, eq_ln, eq_ll, lt_ll, le_ll, eq_nm1, eq_nm2, eq_nm3, eq_nm4, Option.bind_some, ↓reduceIte, if_true, if_false, Nat.reduceEqDiff, Nat.reduceAdd, Nat.reduceMul, Nat.reduceLT, Nat.reduceLeDiff, if_neg (show ¬ m ≤ d by omega)]
                  · intro q hq1
                    simp only [oA_1, oI_1, oLA_1, oL_1, oA_2, oI_2, oLA_2, oL_2, up_v, upd_v, updL_v, Option.bind_some, ↓reduceIte, if_true, if_false, Nat.reduceEqDiff, Nat.reduceAdd, Nat.reduceMul, Nat.reduceLT, Nat.reduceLeDiff]
                    by_cases g : q = d
                    · rw [if_pos (by omega), g, F.f2 41 (by decide)]
                    · rw [if_neg (by omega)]; exact hq q (by omega)
                  · intro q hq1
                    simp only [oA_1, oI_1, oLA_1, oL_1, oA_2, oI_2, oLA_2, oL_2, up_v, upd_v, updL_v, Option.bind_some, ↓reduceIte, if_true, if_false, Nat.reduceEqDiff, Nat.reduceAdd, Nat.reduceMul, Nat.reduceLT, Nat.reduceLeDiff]
                    rw [if_neg (by omega)]
                    exact hq' q (by omega)) fu 0 s1 (Nat.zero_le _) (by omega) ⟨FR.rf, fun p hp => by omega, fun p _ => rfl⟩
                have ha : a = 0 := ha
                subst ha
                simp only at F2 q2 q3
                have g1' : p_X10_paste_L113 fu (fun oz v3 v4 v5 => p_X10_paste_L150 fu fu oz v3 v4 v5 0) fu o (nI js) (nI i) (nI jt) (nI k) (nI m) 0 = some (0, s2) := Eq.trans g1 g2
                rw [g1']
                refine ⟨0, z, s2, rfl, rfl, ?_⟩
                have F12 : FR (38 :: 39 :: 40 :: tF) o s2 := (F1.mono (by decide)).tr (F2.mono (by decide))
                have z0 : z = va_up x (14 + jt) (z (14 + jt)) := by
                  funext q
                  rw [up_v]
                  by_cases g : q = 14 + jt
                  · rw [if_pos g, g]
                  · rw [if_neg g, z1 q g]
                rw [z0]
                have e38 : s2.1 38 = o.1 38 := (F2.f1 38 (by decide)).trans (F1.f1 38 (by decide))
                have e39 : s2.1 39 = o.1 39 := (F2.f1 39 (by decide)).trans (F1.f1 39 (by decide))
                have e40 : s1.2 40 = o.2 40 := F1.f2 40 (by decide)
                refine h.slot hjt F12 (fun j hj hjk => ⟨by rw [e38], by rw [e39], fun q hq => by rw [q3 _ (by omega), e40]⟩) ⟨?_, n', b, hn', hb', ?_, ?_, ?_, ?_, fun q hq => ?_⟩
                · rw [z2.f1 0 (by decide)]; exact c1
                · rw [z2.f1 2 (by decide)]; exact c2
                · rw [e38]; exact c3
                · rw [z2.f1 1 (by decide)]; exact c4
                · rw [e39]; exact c5
                · rw [z3 q hq]
                  by_cases g : k ≤ q ∧ q < k + m
                  · rw [if_pos g, a6 _ (by omega)]
                    have := q2 (q - k) (by omega)
                    rw [show k + (q - k) = q by omega] at this
                    rw [this, q1 (q - k) (by omega)]
                  · rw [if_neg g, c6 q hq, q3 _ (by omega), e40]
          · have gw' : ¬ b = b' := gw
            simp only [gw', Option.bind_some, ↓reduceIte, if_true, if_false, Nat.reduceEqDiff, Nat.reduceAdd, Nat.reduceMul, Nat.reduceLT, Nat.reduceLeDiff]
            exact ⟨_, _, _, rfl, rfl, h⟩
