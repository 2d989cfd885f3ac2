/-! ===== the course as told: mouths, springs, depth, rings, goes ===== -/
theorem loop_c {σ R α : Type} (L : Nat → Nat → σ → Option R) (b : Nat) (I : Nat → σ → Prop) (c : α → Option R) (Q : α → Prop)
    (hend : ∀ n s, I b s → ∃ a, L (n + 1) b s = c a ∧ Q a)
    (hstep : ∀ n i s, i < b → I i s → (∃ a, L (n + 1) i s = c a ∧ Q a) ∨ (∃ s', L (n + 1) i s = L n (i + 1) s' ∧ I (i + 1) s')) :
    ∀ n i s, i ≤ b → b - i < n → I i s → ∃ a, L n i s = c a ∧ Q a := by
  intro n
  induction n with
  | zero => intro i s _ h; omega
  | succ n ih =>
    intro i s hi hn hI
    by_cases hb : i = b
    · subst hb; exact hend n s hI
    · rcases hstep n i s (by omega) hI with h | ⟨s', e, h⟩
      · exact h
      · rw [e]
        exact ih (i + 1) s' (by omega) (by omega) h
def moF (w : Nat → Int32) (r : Nat) (t : Int32) : Int32 := if wT w r = -1 then t ||| b1 r else t
theorem s_mouths (fu : Nat) (hf : 2000 ≤ fu) {x : Nat → Ob} {o : Ob} (h : Rel x o) : ∃ r, p_X9_mouths fu x = some r ∧ p_X10_mouths fu o = some r := by
  have hR := h.w.2.1.1
  have h3 := h.w.1.2.1
  unfold p_X9_mouths p_X10_mouths
  rw [e_isRivers fu o h.w, Option.bind_some]
  simp only [told0 h]
  by_cases c : nL (o.1 1) = 0
  · simp only [c, Option.bind_some, ↓reduceIte, if_true, if_false, Nat.reduceEqDiff, Nat.reduceAdd, Nat.reduceMul, Nat.reduceLT, Nat.reduceLeDiff]
    exact ⟨_, rfl, rfl⟩
  · simp (disch := omega) only [c, Option.bind_some, ↓reduceIte, if_true, if_false, Nat.reduceEqDiff, Nat.reduceAdd, Nat.reduceMul, Nat.reduceLT, Nat.reduceLeDiff, inb_nI, inb_lit, cl_nI, cl_lit, nI_add, add_nl, add_ln, mul_ln, pk_mul, le_nn, lt_nn, eq_nn, le_nl, lt_nl, eq_nl, le_ln, lt_ln, eq_ln, eq_ll, lt_ll, le_ll, eq_nm1, eq_nm2, eq_nm3, eq_nm4]
    refine ⟨it (moF (o.1 1)) 0 (nR (o.1 1)), loop_it (fun m i t => p_X9_mouths_L17 fu x m t (nI i)) (moF (o.1 1)) 0 (nR (o.1 1)) _ ?_ ?_ fu 0 (Nat.zero_le _) (by omega), loop_it (fun m i t => p_X10_mouths_L14 fu o m t (nI i)) (moF (o.1 1)) 0 (nR (o.1 1)) _ ?_ ?_ fu 0 (Nat.zero_le _) (by omega)⟩
    · intro m
      show p_X9_mouths_L17 fu x (m + 1) _ (nI (nR (o.1 1))) = _
      rw [p_X9_mouths_L17]
      simp (disch := omega) only [inb_nI, inb_lit, cl_nI, cl_lit, nI_add, add_nl, add_ln, mul_ln, pk_mul, le_nn, lt_nn, eq_nn, le_nl, lt_nl, eq_nl, le_ln, lt_ln, eq_ln, eq_ll, lt_ll, le_ll, eq_nm1, eq_nm2, eq_nm3, eq_nm4, Option.bind_some, ↓reduceIte, if_true, if_false, Nat.reduceEqDiff, Nat.reduceAdd, Nat.reduceMul, Nat.reduceLT, Nat.reduceLeDiff, h.1.2.1.2.2.2.2.1, Nat.le_refl]
    · intro m i hi
      show p_X9_mouths_L17 fu x (m + 1) _ (nI i) = p_X9_mouths_L17 fu x m _ (nI (i + 1))
      rw [p_X9_mouths_L17]
      simp (disch := omega) only [inb_nI, inb_lit, cl_nI, cl_lit, nI_add, add_nl, add_ln, mul_ln, pk_mul, le_nn, lt_nn, eq_nn, le_nl, lt_nl, eq_nl, le_ln, lt_ln, eq_ln, eq_ll, lt_ll, le_ll, eq_nm1, eq_nm2, eq_nm3, eq_nm4, Option.bind_some, ↓reduceIte, if_true, if_false, Nat.reduceEqDiff, Nat.reduceAdd, Nat.reduceMul, Nat.reduceLT, Nat.reduceLeDiff, h.1.2.1.2.2.2.2.1, if_neg (show ¬ nR (o.1 1) ≤ i by omega), e_pick, (h.1.2.2.1 i hi).1, e_bit, it, moF]
      by_cases c8 : wT (o.1 1) i = -1
      · simp only [if_pos c8]
      · simp only [if_neg c8]
    · intro m
      show p_X10_mouths_L14 fu o (m + 1) _ (nI (nR (o.1 1))) = _
      rw [p_X10_mouths_L14]
      simp (disch := omega) only [inb_nI, inb_lit, cl_nI, cl_lit, nI_add, add_nl, add_ln, mul_ln, pk_mul, le_nn, lt_nn, eq_nn, le_nl, lt_nl, eq_nl, le_ln, lt_ln, eq_ln, eq_ll, lt_ll, le_ll, eq_nm1, eq_nm2, eq_nm3, eq_nm4, Option.bind_some, ↓reduceIte, if_true, if_false, Nat.reduceEqDiff, Nat.reduceAdd, Nat.reduceMul, Nat.reduceLT, Nat.reduceLeDiff, h3, Nat.le_refl]
    · intro m i hi
      show p_X10_mouths_L14 fu o (m + 1) _ (nI i) = p_X10_mouths_L14 fu o m _ (nI (i + 1))
      rw [p_X10_mouths_L14]
      simp (disch := omega) only [inb_nI, inb_lit, cl_nI, cl_lit, nI_add, add_nl, add_ln, mul_ln, pk_mul, le_nn, lt_nn, eq_nn, le_nl, lt_nl, eq_nl, le_ln, lt_ln, eq_ln, eq_ll, lt_ll, le_ll, eq_nm1, eq_nm2, eq_nm3, eq_nm4, Option.bind_some, ↓reduceIte, if_true, if_false, Nat.reduceEqDiff, Nat.reduceAdd, Nat.reduceMul, Nat.reduceLT, Nat.reduceLeDiff, h3, if_neg (show ¬ nR (o.1 1) ≤ i by omega), e_of0, it, moF, Int32.or_zero]
      by_cases c8 : wT (o.1 1) i = -1
      · simp only [if_pos c8]; rfl
      · simp only [if_neg c8]
def spF (w : Nat → Int32) (r : Nat) (t : Int32) : Int32 := if wT w r = -1 then t else t ||| b1 (wT w r).toNatClampNeg
def spG (w : Nat → Int32) (j : Nat) (t : Int32) : Int32 := t ||| b1 (wG w j).toNatClampNeg
theorem s_springs (fu : Nat) (hf : 2000 ≤ fu) {x : Nat → Ob} {o : Ob} (h : Rel x o) : ∃ r, p_X9_springs fu x = some r ∧ p_X10_springs fu o = some r := by
  have hR := h.w.2.1.1
  have hJ := h.w.2.1.2.1
  have h3 := h.w.1.2.1
  have h4 := h.w.1.2.2.1
  unfold p_X9_springs p_X10_springs
  rw [e_isRivers fu o h.w, Option.bind_some]
  simp only [told0 h]
  by_cases c : nL (o.1 1) = 0
  · simp only [c, Option.bind_some, ↓reduceIte, if_true, if_false, Nat.reduceEqDiff, Nat.reduceAdd, Nat.reduceMul, Nat.reduceLT, Nat.reduceLeDiff]
    exact ⟨_, rfl, rfl⟩
  · simp (disch := omega) only [c, Option.bind_some, ↓reduceIte, if_true, if_false, Nat.reduceEqDiff, Nat.reduceAdd, Nat.reduceMul, Nat.reduceLT, Nat.reduceLeDiff, inb_nI, inb_lit, cl_nI, cl_lit, nI_add, add_nl, add_ln, mul_ln, pk_mul, le_nn, lt_nn, eq_nn, le_nl, lt_nl, eq_nl, le_ln, lt_ln, eq_ln, eq_ll, lt_ll, le_ll, eq_nm1, eq_nm2, eq_nm3, eq_nm4, e_allR fu h, h3]
    refine ⟨(b1 (nR (o.1 1)) - 1) &&& (it (spG (o.1 1)) (it (spF (o.1 1)) 0 (nR (o.1 1))) (nJ (o.1 1)) ^^^ (-1)), ?_, ?_⟩
    · refine (loop_it (fun m i t => p_X9_springs_L17 fu x (fun v1 => p_X9_springs_L53 fu x (fun v1 => some ((b1 (nR (o.1 1)) - 1) &&& (v1 ^^^ (-1)))) fu v1 0) m t (nI i)) (spF (o.1 1)) 0 (nR (o.1 1)) (p_X9_springs_L53 fu x (fun v1 => some ((b1 (nR (o.1 1)) - 1) &&& (v1 ^^^ (-1)))) fu (it (spF (o.1 1)) 0 (nR (o.1 1))) 0) ?_ ?_ fu 0 (Nat.zero_le _) (by omega)).trans (loop_it (fun m i t => p_X9_springs_L53 fu x (fun v1 => some ((b1 (nR (o.1 1)) - 1) &&& (v1 ^^^ (-1)))) m t (nI i)) (spG (o.1 1)) _ (nJ (o.1 1)) _ ?_ ?_ fu 0 (Nat.zero_le _) (by omega))
      · intro m
        show p_X9_springs_L17 fu x _ (m + 1) _ (nI (nR (o.1 1))) = _
        rw [p_X9_springs_L17]
        simp (disch := omega) only [inb_nI, inb_lit, cl_nI, cl_lit, nI_add, add_nl, add_ln, mul_ln, pk_mul, le_nn, lt_nn, eq_nn, le_nl, lt_nl, eq_nl, le_ln, lt_ln, eq_ln, eq_ll, lt_ll, le_ll, eq_nm1, eq_nm2, eq_nm3, eq_nm4, Option.bind_some, ↓reduceIte, if_true, if_false, Nat.reduceEqDiff, Nat.reduceAdd, Nat.reduceMul, Nat.reduceLT, Nat.reduceLeDiff, h.1.2.1.2.2.2.2.1, Nat.le_refl]
      · intro m i hi
        show p_X9_springs_L17 fu x _ (m + 1) _ (nI i) = p_X9_springs_L17 fu x _ m _ (nI (i + 1))
        rw [p_X9_springs_L17]
        simp (disch := omega) only [inb_nI, inb_lit, cl_nI, cl_lit, nI_add, add_nl, add_ln, mul_ln, pk_mul, le_nn, lt_nn, eq_nn, le_nl, lt_nl, eq_nl, le_ln, lt_ln, eq_ln, eq_ll, lt_ll, le_ll, eq_nm1, eq_nm2, eq_nm3, eq_nm4, Option.bind_some, ↓reduceIte, if_true, if_false, Nat.reduceEqDiff, Nat.reduceAdd, Nat.reduceMul, Nat.reduceLT, Nat.reduceLeDiff, h.1.2.1.2.2.2.2.1, if_neg (show ¬ nR (o.1 1) ≤ i by omega), e_pick, (h.1.2.2.1 i hi).1, it, spF]
        rcases (h.w.2.2.2.1 i hi).1 with e | ⟨t, ht, e⟩
        · simp only [e, Option.bind_some, ↓reduceIte, if_true, if_false, Nat.reduceEqDiff, Nat.reduceAdd, Nat.reduceMul, Nat.reduceLT, Nat.reduceLeDiff, e_bitm1, Int32.or_zero]
        · simp (disch := omega) only [e, inb_nI, inb_lit, cl_nI, cl_lit, nI_add, add_nl, add_ln, mul_ln, pk_mul, le_nn, lt_nn, eq_nn, le_nl, lt_nl, eq_nl, le_ln, lt_ln, eq_ln, eq_ll, lt_ll, le_ll, eq_nm1, eq_nm2, eq_nm3, eq_nm4, Option.bind_some, ↓reduceIte, if_true, if_false, Nat.reduceEqDiff, Nat.reduceAdd, Nat.reduceMul, Nat.reduceLT, Nat.reduceLeDiff, e_bit]
      · intro m
        show p_X9_springs_L53 fu x _ (m + 1) _ (nI (nJ (o.1 1))) = _
        rw [p_X9_springs_L53]
        simp (disch := omega) only [inb_nI, inb_lit, cl_nI, cl_lit, nI_add, add_nl, add_ln, mul_ln, pk_mul, le_nn, lt_nn, eq_nn, le_nl, lt_nl, eq_nl, le_ln, lt_ln, eq_ln, eq_ll, lt_ll, le_ll, eq_nm1, eq_nm2, eq_nm3, eq_nm4, Option.bind_some, ↓reduceIte, if_true, if_false, Nat.reduceEqDiff, Nat.reduceAdd, Nat.reduceMul, Nat.reduceLT, Nat.reduceLeDiff, h.1.2.1.2.2.2.2.2.1, Nat.le_refl]
      · intro m i hi
        show p_X9_springs_L53 fu x _ (m + 1) _ (nI i) = p_X9_springs_L53 fu x _ m _ (nI (i + 1))
        rw [p_X9_springs_L53]
        obtain ⟨-, ⟨t, ht, e⟩, -⟩ := h.w.2.2.2.2.1 i hi
        simp (disch := omega) only [inb_nI, inb_lit, cl_nI, cl_lit, nI_add, add_nl, add_ln, mul_ln, pk_mul, le_nn, lt_nn, eq_nn, le_nl, lt_nl, eq_nl, le_ln, lt_ln, eq_ln, eq_ll, lt_ll, le_ll, eq_nm1, eq_nm2, eq_nm3, eq_nm4, Option.bind_some, ↓reduceIte, if_true, if_false, Nat.reduceEqDiff, Nat.reduceAdd, Nat.reduceMul, Nat.reduceLT, Nat.reduceLeDiff, h.1.2.1.2.2.2.2.2.1, if_neg (show ¬ nJ (o.1 1) ≤ i by omega), e_pick, (h.1.2.2.2.1 i hi).2.1, it, spG, e, e_bit]
    · refine (loop_it (fun m i t => p_X10_springs_L14 fu o (fun v1 => p_X10_springs_L57 fu o (fun v1 => some ((((1 : Int32) <<< (nI (nR (o.1 1)) &&& 31)) - 1) &&& (v1 ^^^ (-1)))) fu v1 0) m t (nI i)) (spF (o.1 1)) 0 (nR (o.1 1)) (p_X10_springs_L57 fu o (fun v1 => some ((((1 : Int32) <<< (nI (nR (o.1 1)) &&& 31)) - 1) &&& (v1 ^^^ (-1)))) fu (it (spF (o.1 1)) 0 (nR (o.1 1))) 0) ?_ ?_ fu 0 (Nat.zero_le _) (by omega)).trans (loop_it (fun m i t => p_X10_springs_L57 fu o (fun v1 => some ((((1 : Int32) <<< (nI (nR (o.1 1)) &&& 31)) - 1) &&& (v1 ^^^ (-1)))) m t (nI i)) (spG (o.1 1)) _ (nJ (o.1 1)) _ ?_ ?_ fu 0 (Nat.zero_le _) (by omega))
      · intro m
        show p_X10_springs_L14 fu o _ (m + 1) _ (nI (nR (o.1 1))) = _
        rw [p_X10_springs_L14]
        simp (disch := omega) only [inb_nI, inb_lit, cl_nI, cl_lit, nI_add, add_nl, add_ln, mul_ln, pk_mul, le_nn, lt_nn, eq_nn, le_nl, lt_nl, eq_nl, le_ln, lt_ln, eq_ln, eq_ll, lt_ll, le_ll, eq_nm1, eq_nm2, eq_nm3, eq_nm4, Option.bind_some, ↓reduceIte, if_true, if_false, Nat.reduceEqDiff, Nat.reduceAdd, Nat.reduceMul, Nat.reduceLT, Nat.reduceLeDiff, h3, Nat.le_refl]
      · intro m i hi
        show p_X10_springs_L14 fu o _ (m + 1) _ (nI i) = p_X10_springs_L14 fu o _ m _ (nI (i + 1))
        rw [p_X10_springs_L14]
        simp (disch := omega) only [inb_nI, inb_lit, cl_nI, cl_lit, nI_add, add_nl, add_ln, mul_ln, pk_mul, le_nn, lt_nn, eq_nn, le_nl, lt_nl, eq_nl, le_ln, lt_ln, eq_ln, eq_ll, lt_ll, le_ll, eq_nm1, eq_nm2, eq_nm3, eq_nm4, Option.bind_some, ↓reduceIte, if_true, if_false, Nat.reduceEqDiff, Nat.reduceAdd, Nat.reduceMul, Nat.reduceLT, Nat.reduceLeDiff, h3, if_neg (show ¬ nR (o.1 1) ≤ i by omega), e_of0, it, spF, Int32.or_zero]
        rcases (h.w.2.2.2.1 i hi).1 with e | ⟨t, ht, e⟩
        · simp only [e, Option.bind_some, ↓reduceIte, if_true, if_false, Nat.reduceEqDiff, Nat.reduceAdd, Nat.reduceMul, Nat.reduceLT, Nat.reduceLeDiff]
        · simp (disch := omega) only [e, inb_nI, inb_lit, cl_nI, cl_lit, nI_add, add_nl, add_ln, mul_ln, pk_mul, le_nn, lt_nn, eq_nn, le_nl, lt_nl, eq_nl, le_ln, lt_ln, eq_ln, eq_ll, lt_ll, le_ll, eq_nm1, eq_nm2, eq_nm3, eq_nm4, Option.bind_some, ↓reduceIte, if_true, if_false, Nat.reduceEqDiff, Nat.reduceAdd, Nat.reduceMul, Nat.reduceLT, Nat.reduceLeDiff]
          rfl
      · intro m
        show p_X10_springs_L57 fu o _ (m + 1) _ (nI (nJ (o.1 1))) = _
        rw [p_X10_springs_L57]
        simp (disch := omega) only [inb_nI, inb_lit, cl_nI, cl_lit, nI_add, add_nl, add_ln, mul_ln, pk_mul, le_nn, lt_nn, eq_nn, le_nl, lt_nl, eq_nl, le_ln, lt_ln, eq_ln, eq_ll, lt_ll, le_ll, eq_nm1, eq_nm2, eq_nm3, eq_nm4, Option.bind_some, ↓reduceIte, if_true, if_false, Nat.reduceEqDiff, Nat.reduceAdd, Nat.reduceMul, Nat.reduceLT, Nat.reduceLeDiff, h4, Nat.le_refl]
        rfl
      · intro m i hi
        show p_X10_springs_L57 fu o _ (m + 1) _ (nI i) = p_X10_springs_L57 fu o _ m _ (nI (i + 1))
        rw [p_X10_springs_L57]
        obtain ⟨-, ⟨t, ht, e⟩, -⟩ := h.w.2.2.2.2.1 i hi
        simp (disch := omega) only [inb_nI, inb_lit, cl_nI, cl_lit, nI_add, add_nl, add_ln, mul_ln, pk_mul, le_nn, lt_nn, eq_nn, le_nl, lt_nl, eq_nl, le_ln, lt_ln, eq_ln, eq_ll, lt_ll, le_ll, eq_nm1, eq_nm2, eq_nm3, eq_nm4, Option.bind_some, ↓reduceIte, if_true, if_false, Nat.reduceEqDiff, Nat.reduceAdd, Nat.reduceMul, Nat.reduceLT, Nat.reduceLeDiff, h4, if_neg (show ¬ nJ (o.1 1) ≤ i by omega), e_oj1, it, spG, e]
        rfl
/-- down the course from r, k reaches on -/
def chn (w : Nat → Int32) (r : Nat) : Nat → Int32
  | 0 => nI r
  | k + 1 => wT w (chn w r k).toNatClampNeg
theorem chn_s {w : Nat → Int32} {r k q : Nat} (e : chn w r k = nI q) (hq : q < 2147483648) : chn w r (k + 1) = wT w q := by
  rw [chn, e, cl_nI hq]
theorem s_depth (fu : Nat) (hf : 2000 ≤ fu) {x : Nat → Ob} {o : Ob} (h : Rel x o) (v : Int32) : ∃ r, p_X9_depth fu x v = some r ∧ p_X10_depth fu o v = some r := by
  have hR := h.w.2.1.1
  unfold p_X9_depth p_X10_depth
  rw [e_cReach fu h, e_isReach fu o _ h.w, Option.bind_some, Option.bind_some]
  rcases ixq_of v (n := nR (o.1 1)) (by omega) with ⟨e1, -⟩ | ⟨e1, r, hr, rfl⟩
  · simp only [e1, Option.bind_some, ↓reduceIte, if_true, if_false, Nat.reduceEqDiff, Nat.reduceAdd, Nat.reduceMul, Nat.reduceLT, Nat.reduceLeDiff]
    exact ⟨_, rfl, rfl⟩
  · simp (disch := omega) only [e1, inb_nI, inb_lit, cl_nI, cl_lit, nI_add, add_nl, add_ln, mul_ln, pk_mul, le_nn, lt_nn, eq_nn, le_nl, lt_nl, eq_nl, le_ln, lt_ln, eq_ln, eq_ll, lt_ll, le_ll, eq_nm1, eq_nm2, eq_nm3, eq_nm4, Option.bind_some, ↓reduceIte, if_true, if_false, Nat.reduceEqDiff, Nat.reduceAdd, Nat.reduceMul, Nat.reduceLT, Nat.reduceLeDiff]
    obtain ⟨a, ea, rfl⟩ := loop_inv (fun m i t => p_X9_depth_L15 fu x m t (nI i)) 11 (fun i t => t = chn (o.1 1) r (i - 1) ∧ 1 ≤ i ∧ (∃ q, q < nR (o.1 1) ∧ t = nI q) ∧ ∀ j, 1 ≤ j → j < i → decide (chn (o.1 1) r j = -1) = false) (fun z => z = ffr (fun n => decide (chn (o.1 1) r n = -1)) 1 10) (by
      rintro m t ⟨-, -, -, hn⟩
      refine ⟨_, ?_, (ffr_no 10 1 (fun j h1 h2 => hn j h1 (by omega))).symm⟩
      show p_X9_depth_L15 fu x (m + 1) t (nI 11) = _
      rw [p_X9_depth_L15]
      simp (disch := omega) only [inb_nI, inb_lit, cl_nI, cl_lit, nI_add, add_nl, add_ln, mul_ln, pk_mul, le_nn, lt_nn, eq_nn, le_nl, lt_nl, eq_nl, le_ln, lt_ln, eq_ln, eq_ll, lt_ll, le_ll, eq_nm1, eq_nm2, eq_nm3, eq_nm4, Option.bind_some, ↓reduceIte, if_true, if_false, Nat.reduceEqDiff, Nat.reduceAdd, Nat.reduceMul, Nat.reduceLT, Nat.reduceLeDiff]) (by
      rintro m i t hi ⟨ht, h1, ⟨q, hq, rfl⟩, hn⟩
      show (∃ z, p_X9_depth_L15 fu x (m + 1) (nI q) (nI i) = some z ∧ _) ∨ (∃ s', p_X9_depth_L15 fu x (m + 1) (nI q) (nI i) = p_X9_depth_L15 fu x m s' (nI (i + 1)) ∧ _)
      rw [p_X9_depth_L15]
      have hc : chn (o.1 1) r i = wT (o.1 1) q := by
        have := chn_s (k := i - 1) ht.symm (by omega)
        rwa [show i - 1 + 1 = i by omega] at this
      simp (disch := omega) only [inb_nI, inb_lit, cl_nI, cl_lit, nI_add, add_nl, add_ln, mul_ln, pk_mul, le_nn, lt_nn, eq_nn, le_nl, lt_nl, eq_nl, le_ln, lt_ln, eq_ln, eq_ll, lt_ll, le_ll, eq_nm1, eq_nm2, eq_nm3, eq_nm4, Option.bind_some, ↓reduceIte, if_true, if_false, Nat.reduceEqDiff, Nat.reduceAdd, Nat.reduceMul, Nat.reduceLT, Nat.reduceLeDiff, if_neg (show ¬ 10 < i by omega), e_pick, (h.1.2.2.1 q hq).1]
      rcases (h.w.2.2.2.1 q hq).1 with e | ⟨u, hu, e⟩
      · left
        refine ⟨nI i, by rw [if_pos e], ?_⟩
        rw [ffr_at (p := fun n => decide (chn (o.1 1) r n = -1)) h1 (by omega) (by rw [hc, e]; rfl) (fun j g1 g2 => hn j g1 g2)]
      · right
        refine ⟨nI u, by rw [e, if_neg (by simp (disch := omega) only [eq_nm1, not_false_eq_true])], ?_, (by first | trivial | omega), ⟨u, hu, rfl⟩, fun j g1 g2 => ?_⟩
        · rw [Nat.add_sub_cancel, hc, e]
        · by_cases g : j = i
          · subst g
            rw [hc, e]
            exact decide_eq_false (by simp (disch := omega) only [eq_nm1, not_false_eq_true])
          · exact hn j g1 (by omega)) fu 1 (nI r) (by omega) (by omega) ⟨rfl, Nat.le_refl _, ⟨r, hr, rfl⟩, fun j g1 g2 => by omega⟩
    obtain ⟨b, eb, rfl⟩ := loop_inv (fun m i t => p_X10_depth_L16 fu o m t (nI i)) 11 (fun i t => t = chn (o.1 1) r (i - 1) ∧ 1 ≤ i ∧ (∃ q, q < nR (o.1 1) ∧ t = nI q) ∧ ∀ j, 1 ≤ j → j < i → decide (chn (o.1 1) r j = -1) = false) (fun z => z = ffr (fun n => decide (chn (o.1 1) r n = -1)) 1 10) (by
      rintro m t ⟨-, -, -, hn⟩
      refine ⟨_, ?_, (ffr_no 10 1 (fun j h1 h2 => hn j h1 (by omega))).symm⟩
      show p_X10_depth_L16 fu o (m + 1) t (nI 11) = _
      rw [p_X10_depth_L16]
      simp (disch := omega) only [inb_nI, inb_lit, cl_nI, cl_lit, nI_add, add_nl, add_ln, mul_ln, pk_mul, le_nn, lt_nn, eq_nn, le_nl, lt_nl, eq_nl, le_ln, lt_ln, eq_ln, eq_ll, lt_ll, le_ll, eq_nm1, eq_nm2, eq_nm3, eq_nm4, Option.bind_some, ↓reduceIte, if_true, if_false, Nat.reduceEqDiff, Nat.reduceAdd, Nat.reduceMul, Nat.reduceLT, Nat.reduceLeDiff]) (by
      rintro m i t hi ⟨ht, h1, ⟨q, hq, rfl⟩, hn⟩
      show (∃ z, p_X10_depth_L16 fu o (m + 1) (nI q) (nI i) = some z ∧ _) ∨ (∃ s', p_X10_depth_L16 fu o (m + 1) (nI q) (nI i) = p_X10_depth_L16 fu o m s' (nI (i + 1)) ∧ _)
      rw [p_X10_depth_L16]
      have hc : chn (o.1 1) r i = wT (o.1 1) q := by
        have := chn_s (k := i - 1) ht.symm (by omega)
        rwa [show i - 1 + 1 = i by omega] at this
      simp (disch := omega) only [inb_nI, inb_lit, cl_nI, cl_lit, nI_add, add_nl, add_ln, mul_ln, pk_mul, le_nn, lt_nn, eq_nn, le_nl, lt_nl, eq_nl, le_ln, lt_ln, eq_ln, eq_ll, lt_ll, le_ll, eq_nm1, eq_nm2, eq_nm3, eq_nm4, Option.bind_some, ↓reduceIte, if_true, if_false, Nat.reduceEqDiff, Nat.reduceAdd, Nat.reduceMul, Nat.reduceLT, Nat.reduceLeDiff, if_neg (show ¬ 10 < i by omega), e_of0]
      rcases (h.w.2.2.2.1 q hq).1 with e | ⟨u, hu, e⟩
      · left
        refine ⟨nI i, by rw [if_pos e], ?_⟩
        rw [ffr_at (p := fun n => decide (chn (o.1 1) r n = -1)) h1 (by omega) (by rw [hc, e]; rfl) (fun j g1 g2 => hn j g1 g2)]
      · right
        refine ⟨nI u, by rw [e, if_neg (by simp (disch := omega) only [eq_nm1, not_false_eq_true])], ?_, (by first | trivial | omega), ⟨u, hu, rfl⟩, fun j g1 g2 => ?_⟩
        · rw [Nat.add_sub_cancel, hc, e]
        · by_cases g : j = i
          · subst g
            rw [hc, e]
            exact decide_eq_false (by simp (disch := omega) only [eq_nm1, not_false_eq_true])
          · exact hn j g1 (by omega)) fu 1 (nI r) (by omega) (by omega) ⟨rfl, Nat.le_refl _, ⟨r, hr, rfl⟩, fun j g1 g2 => by omega⟩
    exact ⟨_, ea, eb⟩
theorem s_goes (fu : Nat) (hf : 2000 ≤ fu) {x : Nat → Ob} {o : Ob} (h : Rel x o) (v1 v2 : Int32) : ∃ r t, p_X9_goes fu x v1 v2 = some r ∧ p_X10_goes fu o v1 v2 = some (r, t) ∧ Rel x t := by
  have hJ := h.w.2.1.2.1
  obtain ⟨s, e, a⟩ := e_asItIs fu hf o h.w
  have hs := h.kp KQ.rf a.tf
  unfold p_X9_goes p_X10_goes
  rw [e_cJoin fu h, e, Option.bind_some, Option.bind_some, e_isJoin fu s _ (by rw [a.w]; exact h.w), a.w, Option.bind_some]
  rcases ixq_of v1 (n := nJ (o.1 1)) (by omega) with ⟨e1, -⟩ | ⟨e1, j, hj, rfl⟩
  · simp only [e1, Option.bind_some, ↓reduceIte, if_true, if_false, Nat.reduceEqDiff, Nat.reduceAdd, Nat.reduceMul, Nat.reduceLT, Nat.reduceLeDiff]
    exact ⟨_, _, rfl, rfl, hs⟩
  · simp (disch := omega) only [e1, Option.bind_some, ↓reduceIte, if_true, if_false, Nat.reduceEqDiff, Nat.reduceAdd, Nat.reduceMul, Nat.reduceLT, Nat.reduceLeDiff, inb_nI, inb_lit, cl_nI, cl_lit, nI_add, add_nl, add_ln, mul_ln, pk_mul, le_nn, lt_nn, eq_nn, le_nl, lt_nl, eq_nl, le_ln, lt_ln, eq_ln, eq_ll, lt_ll, le_ll, eq_nm1, eq_nm2, eq_nm3, eq_nm4, e_cStep, e_rStep]
    rcases ixq_of v2 (n := 61) (by omega) with ⟨e2, -⟩ | ⟨e2, n, hn, rfl⟩
    · simp only [e2, Option.bind_some, ↓reduceIte, if_true, if_false, Nat.reduceEqDiff, Nat.reduceAdd, Nat.reduceMul, Nat.reduceLT, Nat.reduceLeDiff]
      exact ⟨_, _, rfl, rfl, hs⟩
    · have hj0 := je_ne h.w.t hj
      have s1 : (x 10).1 2 0 = shW (o.1 1) := h.2.1.2.2
      have et : p_X2_takesTurn fu (x 5) (nI j) (nI n) = some (if nI n - nI n / wE (o.1 1) j * wE (o.1 1) j = wB (o.1 1) j then 1 else 0) := e_turn fu (PW (o.1 1)) h.w.p _ _ h.dp hj n
      simp (disch := omega) only [e2, Option.bind_some, ↓reduceIte, if_true, if_false, Nat.reduceEqDiff, Nat.reduceAdd, Nat.reduceMul, Nat.reduceLT, Nat.reduceLeDiff, inb_nI, inb_lit, cl_nI, cl_lit, nI_add, add_nl, add_ln, mul_ln, pk_mul, le_nn, lt_nn, eq_nn, le_nl, lt_nl, eq_nl, le_ln, lt_ln, eq_ln, eq_ll, lt_ll, le_ll, eq_nm1, eq_nm2, eq_nm3, eq_nm4, e_bit, and_b1, s1, et, e_rbit, a.2.2.2.2.1, (a.2.2.2.1 j hj).1, (a.2.2.2.1 j hj).2, hj0]
      cases bq (shW (o.1 1)) j
      · by_cases c8 : nI n - nI n / wE (o.1 1) j * wE (o.1 1) j = wB (o.1 1) j
        · simp (disch := omega) only [if_pos c8, inb_nI, inb_lit, cl_nI, cl_lit, nI_add, add_nl, add_ln, mul_ln, pk_mul, le_nn, lt_nn, eq_nn, le_nl, lt_nl, eq_nl, le_ln, lt_ln, eq_ln, eq_ll, lt_ll, le_ll, eq_nm1, eq_nm2, eq_nm3, eq_nm4, Option.bind_some, ↓reduceIte, if_true, if_false, Nat.reduceEqDiff, Nat.reduceAdd, Nat.reduceMul, Nat.reduceLT, Nat.reduceLeDiff, Bool.false_eq_true]
          exact ⟨_, _, rfl, rfl, hs⟩
        · simp (disch := omega) only [if_neg c8, inb_nI, inb_lit, cl_nI, cl_lit, nI_add, add_nl, add_ln, mul_ln, pk_mul, le_nn, lt_nn, eq_nn, le_nl, lt_nl, eq_nl, le_ln, lt_ln, eq_ln, eq_ll, lt_ll, le_ll, eq_nm1, eq_nm2, eq_nm3, eq_nm4, Option.bind_some, ↓reduceIte, if_true, if_false, Nat.reduceEqDiff, Nat.reduceAdd, Nat.reduceMul, Nat.reduceLT, Nat.reduceLeDiff, Bool.false_eq_true]
          exact ⟨_, _, rfl, rfl, hs⟩
      · simp (disch := omega) only [inb_nI, inb_lit, cl_nI, cl_lit, nI_add, add_nl, add_ln, mul_ln, pk_mul, le_nn, lt_nn, eq_nn, le_nl, lt_nl, eq_nl, le_ln, lt_ln, eq_ln, eq_ll, lt_ll, le_ll, eq_nm1, eq_nm2, eq_nm3, eq_nm4, Option.bind_some, ↓reduceIte, if_true, if_false, Nat.reduceEqDiff, Nat.reduceAdd, Nat.reduceMul, Nat.reduceLT, Nat.reduceLeDiff, Bool.true_eq_false]
        exact ⟨_, _, rfl, rfl, hs⟩
