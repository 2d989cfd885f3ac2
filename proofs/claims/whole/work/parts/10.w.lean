/-! ===== rings ===== -/
def RGq (w : Nat → Int32) (r : Nat) : Prop := ∃ k, 1 ≤ k ∧ k ≤ 10 ∧ chn w r k = nI r ∧ ∀ j, 1 ≤ j → j < k → chn w r j ≠ -1
noncomputable def rgF (w : Nat → Int32) (r : Nat) (t : Int32) : Int32 := @ite Int32 (RGq w r) (Classical.propDecidable _) (t ||| b1 r) t
theorem rgF_t {w : Nat → Int32} {r : Nat} (h : RGq w r) (t : Int32) : rgF w r t = t ||| b1 r := by unfold rgF; rw [if_pos h]
theorem rgF_f {w : Nat → Int32} {r : Nat} (h : ¬ RGq w r) (t : Int32) : rgF w r t = t := by unfold rgF; rw [if_neg h]
theorem chn_1 {w : Nat → Int32} {r : Nat} (h : r < 2147483648) : chn w r 1 = wT w r := by rw [chn, chn, cl_nI h]
theorem m1_ne {q : Nat} (h : q < 2147483648) : nI q ≠ -1 := by simp (disch := omega) only [eq_nm1, ne_eq, not_false_eq_true]
theorem e_inRing (fu : Nat) (hf : 2000 ≤ fu) {x : Nat → Ob} {o : Ob} (h : Rel x o) {r : Nat} (hr : r < nR (o.1 1)) : ∃ z, p_X9_isInRing fu x (nI r) = some z ∧ (RGq (o.1 1) r → z = 1) ∧ (¬ RGq (o.1 1) r → z = 0) := by
  have hR := h.w.2.1.1
  unfold p_X9_isInRing
  refine loop_inv (fun m i t => p_X9_isInRing_L4 fu x m (nI r) t (nI i)) 10 (fun i t => t = chn (o.1 1) r i ∧ (t = -1 ∨ ∃ q, q < nR (o.1 1) ∧ t = nI q) ∧ (∀ j, 1 ≤ j → j ≤ i → chn (o.1 1) r j ≠ nI r) ∧ (∀ j, j < i → chn (o.1 1) r j ≠ -1)) (fun z => (RGq (o.1 1) r → z = 1) ∧ (¬ RGq (o.1 1) r → z = 0)) ?_ ?_ fu 0 (nI r) (Nat.zero_le _) (by omega) ⟨rfl, Or.inr ⟨r, hr, rfl⟩, fun j h1 h2 => by omega, fun j hj => by omega⟩
  · rintro m t ⟨-, -, h1, -⟩
    refine ⟨0, ?_, ?_, fun _ => rfl⟩
    · show p_X9_isInRing_L4 fu x (m + 1) (nI r) t (nI 10) = _
      rw [p_X9_isInRing_L4]
      simp (disch := omega) only [inb_nI, inb_lit, cl_nI, cl_lit, nI_add, add_nl, add_ln, mul_ln, pk_mul, le_nn, lt_nn, eq_nn, le_nl, lt_nl, eq_nl, le_ln, lt_ln, eq_ln, eq_ll, lt_ll, le_ll, eq_nm1, eq_nm2, eq_nm3, eq_nm4, Option.bind_some, ↓reduceIte, if_true, if_false, Nat.reduceEqDiff, Nat.reduceAdd, Nat.reduceMul, Nat.reduceLT, Nat.reduceLeDiff]
    · rintro ⟨k, k1, k2, k3, -⟩
      exact absurd k3 (h1 k k1 k2)
  · rintro m i t hi ⟨ht, hs, h1, h2⟩
    show (∃ z, p_X9_isInRing_L4 fu x (m + 1) (nI r) t (nI i) = some z ∧ _) ∨ (∃ s', p_X9_isInRing_L4 fu x (m + 1) (nI r) t (nI i) = p_X9_isInRing_L4 fu x m (nI r) s' (nI (i + 1)) ∧ _)
    rw [p_X9_isInRing_L4]
    simp (disch := omega) only [inb_nI, inb_lit, cl_nI, cl_lit, nI_add, add_nl, add_ln, mul_ln, pk_mul, le_nn, lt_nn, eq_nn, le_nl, lt_nl, eq_nl, le_ln, lt_ln, eq_ln, eq_ll, lt_ll, le_ll, eq_nm1, eq_nm2, eq_nm3, eq_nm4, Option.bind_some, ↓reduceIte, if_true, if_false, Nat.reduceEqDiff, Nat.reduceAdd, Nat.reduceMul, Nat.reduceLT, Nat.reduceLeDiff, if_neg (show ¬ 10 ≤ i by omega)]
    rcases hs with rfl | ⟨q, hq, rfl⟩
    · left
      refine ⟨0, by rw [if_pos rfl], ?_, fun _ => rfl⟩
      rintro ⟨k, k1, k2, k3, k4⟩
      exfalso
      have i0 : i ≠ 0 := by
        rintro rfl
        exact m1_ne (show r < 2147483648 by omega) ht.symm
      by_cases c : k ≤ i
      · exact h1 k k1 c k3
      · exact k4 i (by omega) (by omega) ht.symm
    · rw [if_neg (m1_ne (by omega))]
      simp (disch := omega) only [e_pick, Option.bind_some, ↓reduceIte, if_true, if_false, Nat.reduceEqDiff, Nat.reduceAdd, Nat.reduceMul, Nat.reduceLT, Nat.reduceLeDiff, (h.1.2.2.1 q hq).1]
      have hc : chn (o.1 1) r (i + 1) = wT (o.1 1) q := chn_s ht.symm (by omega)
      by_cases c : wT (o.1 1) q = nI r
      · left
        refine ⟨1, by rw [if_pos c], fun _ => rfl, fun hn => ?_⟩
        exfalso
        refine hn ⟨i + 1, by omega, by omega, by rw [hc, c], fun j j1 j2 => ?_⟩
        by_cases g : j = i
        · subst g; rw [← ht]; exact m1_ne (by omega)
        · exact h2 j (by omega)
      · right
        refine ⟨wT (o.1 1) q, by rw [if_neg c], hc.symm, (h.w.2.2.2.1 q hq).1, fun j j1 j2 => ?_, fun j j2 => ?_⟩
        · by_cases g : j = i + 1
          · subst g; rw [hc]; exact c
          · exact h1 j j1 (by omega)
        · by_cases g : j = i
          · subst g; rw [← ht]; exact m1_ne (by omega)
          · exact h2 j (by omega)
theorem e_ring34 (fu : Nat) (hf : 2000 ≤ fu) {o : Ob} (hw : OKW (o.1 1)) (c : Int32 → Int32 → Int32 → Option Int32) {r : Nat} (hr : r < nR (o.1 1)) (v1 : Int32) : ∃ v, p_X10_rings_L34 fu o c fu v1 (nI r) (wT (o.1 1) r) 1 = c v1 (nI r) v ∧ (RGq (o.1 1) r → v = nI r) ∧ (¬ RGq (o.1 1) r → v ≠ nI r) := by
  have hR := hw.2.1.1
  refine loop_c (fun m i t => p_X10_rings_L34 fu o c m v1 (nI r) t (nI i)) 10 (fun i t => t = chn (o.1 1) r i ∧ 1 ≤ i ∧ (t = -1 ∨ ∃ q, q < nR (o.1 1) ∧ t = nI q) ∧ (∀ j, 1 ≤ j → j < i → chn (o.1 1) r j ≠ nI r ∧ chn (o.1 1) r j ≠ -1)) (fun v => c v1 (nI r) v) (fun v => (RGq (o.1 1) r → v = nI r) ∧ (¬ RGq (o.1 1) r → v ≠ nI r)) ?_ ?_ fu 1 (wT (o.1 1) r) (by omega) (by omega) ⟨(chn_1 (by omega)).symm, Nat.le_refl _, (hw.2.2.2.1 r hr).1, fun j h1 h2 => by omega⟩
  · rintro m t ⟨ht, -, -, h1⟩
    refine ⟨t, ?_, ?_, ?_⟩
    · show p_X10_rings_L34 fu o c (m + 1) v1 (nI r) t (nI 10) = _
      rw [p_X10_rings_L34]
      simp (disch := omega) only [inb_nI, inb_lit, cl_nI, cl_lit, nI_add, add_nl, add_ln, mul_ln, pk_mul, le_nn, lt_nn, eq_nn, le_nl, lt_nl, eq_nl, le_ln, lt_ln, eq_ln, eq_ll, lt_ll, le_ll, eq_nm1, eq_nm2, eq_nm3, eq_nm4, Option.bind_some, ↓reduceIte, if_true, if_false, Nat.reduceEqDiff, Nat.reduceAdd, Nat.reduceMul, Nat.reduceLT, Nat.reduceLeDiff]
    · rintro ⟨k, k1, k2, k3, -⟩
      by_cases g : k = 10
      · subst g; rw [ht, k3]
      · exact absurd k3 (h1 k k1 (by omega)).1
    · intro hn e
      exact hn ⟨10, by omega, Nat.le_refl _, by rw [← ht, e], fun j j1 j2 => (h1 j j1 j2).2⟩
  · rintro m i t hi ⟨ht, i1, hs, h1⟩
    show (∃ v, p_X10_rings_L34 fu o c (m + 1) v1 (nI r) t (nI i) = c v1 (nI r) v ∧ _) ∨ (∃ s', p_X10_rings_L34 fu o c (m + 1) v1 (nI r) t (nI i) = p_X10_rings_L34 fu o c m v1 (nI r) s' (nI (i + 1)) ∧ _)
    rw [p_X10_rings_L34]
    simp (disch := omega) only [inb_nI, inb_lit, cl_nI, cl_lit, nI_add, add_nl, add_ln, mul_ln, pk_mul, le_nn, lt_nn, eq_nn, le_nl, lt_nl, eq_nl, le_ln, lt_ln, eq_ln, eq_ll, lt_ll, le_ll, eq_nm1, eq_nm2, eq_nm3, eq_nm4, Option.bind_some, ↓reduceIte, if_true, if_false, Nat.reduceEqDiff, Nat.reduceAdd, Nat.reduceMul, Nat.reduceLT, Nat.reduceLeDiff, if_neg (show ¬ 10 ≤ i by omega)]
    rcases hs with rfl | ⟨q, hq, rfl⟩
    · left
      refine ⟨-1, by rw [if_pos rfl], ?_, fun _ e => m1_ne (by omega) e.symm⟩
      rintro ⟨k, k1, k2, k3, k4⟩
      exfalso
      by_cases g : k < i
      · exact (h1 k k1 g).1 k3
      · by_cases g2 : k = i
        · subst g2; rw [k3] at ht; exact m1_ne (by omega) ht.symm
        · exact k4 i i1 (by omega) ht.symm
    · rw [if_neg (m1_ne (by omega))]
      by_cases c8 : nI q = nI r
      · left
        refine ⟨nI q, by rw [if_pos c8], fun _ => c8, fun hn => ?_⟩
        exact absurd ⟨i, i1, by omega, by rw [← ht, c8], fun j j1 j2 => (h1 j j1 j2).2⟩ hn
      · right
        rw [if_neg c8]
        simp (disch := omega) only [e_of0, Option.bind_some, ↓reduceIte, if_true, if_false, Nat.reduceEqDiff, Nat.reduceAdd, Nat.reduceMul, Nat.reduceLT, Nat.reduceLeDiff]
        refine ⟨wT (o.1 1) q, rfl, (chn_s ht.symm (by omega)).symm, by first | trivial | omega, (hw.2.2.2.1 q hq).1, fun j j1 j2 => ?_⟩
        by_cases g : j = i
        · subst g; rw [← ht]; exact ⟨c8, m1_ne (by omega)⟩
        · exact h1 j j1 (by omega)
theorem s_rings (fu : Nat) (hf : 2000 ≤ fu) {x : Nat → Ob} {o : Ob} (h : Rel x o) : ∃ r, p_X9_rings fu x = some r ∧ p_X10_rings fu o = some r := by
  have hR := h.w.2.1.1
  have h3 := h.w.1.2.1
  unfold p_X9_rings p_X10_rings
  rw [e_isRivers fu o h.w, Option.bind_some]
  simp only [told0 h]
  by_cases c : nL (o.1 1) = 0
  · simp only [c, Option.bind_some, ↓reduceIte, if_true, if_false, Nat.reduceEqDiff, Nat.reduceAdd, Nat.reduceMul, Nat.reduceLT, Nat.reduceLeDiff]
    exact ⟨_, rfl, rfl⟩
  · simp (disch := omega) only [c, Option.bind_some, ↓reduceIte, if_true, if_false, Nat.reduceEqDiff, Nat.reduceAdd, Nat.reduceMul, Nat.reduceLT, Nat.reduceLeDiff, inb_nI, inb_lit, cl_nI, cl_lit, nI_add, add_nl, add_ln, mul_ln, pk_mul, le_nn, lt_nn, eq_nn, le_nl, lt_nl, eq_nl, le_ln, lt_ln, eq_ln, eq_ll, lt_ll, le_ll, eq_nm1, eq_nm2, eq_nm3, eq_nm4]
    refine ⟨it (rgF (o.1 1)) 0 (nR (o.1 1)), loop_it (fun m i t => p_X9_rings_L17 fu x m t (nI i)) (rgF (o.1 1)) 0 (nR (o.1 1)) _ ?_ ?_ fu 0 (Nat.zero_le _) (by omega), loop_it (fun m i t => p_X10_rings_L14 fu o m t (nI i)) (rgF (o.1 1)) 0 (nR (o.1 1)) _ ?_ ?_ fu 0 (Nat.zero_le _) (by omega)⟩
    · intro m
      show p_X9_rings_L17 fu x (m + 1) _ (nI (nR (o.1 1))) = _
      rw [p_X9_rings_L17]
      simp (disch := omega) only [inb_nI, inb_lit, cl_nI, cl_lit, nI_add, add_nl, add_ln, mul_ln, pk_mul, le_nn, lt_nn, eq_nn, le_nl, lt_nl, eq_nl, le_ln, lt_ln, eq_ln, eq_ll, lt_ll, le_ll, eq_nm1, eq_nm2, eq_nm3, eq_nm4, Option.bind_some, ↓reduceIte, if_true, if_false, Nat.reduceEqDiff, Nat.reduceAdd, Nat.reduceMul, Nat.reduceLT, Nat.reduceLeDiff, h.1.2.1.2.2.2.2.1, Nat.le_refl]
    · intro m i hi
      show p_X9_rings_L17 fu x (m + 1) _ (nI i) = p_X9_rings_L17 fu x m _ (nI (i + 1))
      rw [p_X9_rings_L17]
      obtain ⟨z, ez, z1, z0⟩ := e_inRing fu hf h hi
      simp (disch := omega) only [inb_nI, inb_lit, cl_nI, cl_lit, nI_add, add_nl, add_ln, mul_ln, pk_mul, le_nn, lt_nn, eq_nn, le_nl, lt_nl, eq_nl, le_ln, lt_ln, eq_ln, eq_ll, lt_ll, le_ll, eq_nm1, eq_nm2, eq_nm3, eq_nm4, Option.bind_some, ↓reduceIte, if_true, if_false, Nat.reduceEqDiff, Nat.reduceAdd, Nat.reduceMul, Nat.reduceLT, Nat.reduceLeDiff, h.1.2.1.2.2.2.2.1, if_neg (show ¬ nR (o.1 1) ≤ i by omega), ez, it]
      by_cases c8 : RGq (o.1 1) i
      · rw [z1 c8, rgF_t c8]
        simp (disch := omega) only [inb_nI, inb_lit, cl_nI, cl_lit, nI_add, add_nl, add_ln, mul_ln, pk_mul, le_nn, lt_nn, eq_nn, le_nl, lt_nl, eq_nl, le_ln, lt_ln, eq_ln, eq_ll, lt_ll, le_ll, eq_nm1, eq_nm2, eq_nm3, eq_nm4, Option.bind_some, ↓reduceIte, if_true, if_false, Nat.reduceEqDiff, Nat.reduceAdd, Nat.reduceMul, Nat.reduceLT, Nat.reduceLeDiff, e_bit]
      · rw [z0 c8, rgF_f c8]
        simp (disch := omega) only [inb_nI, inb_lit, cl_nI, cl_lit, nI_add, add_nl, add_ln, mul_ln, pk_mul, le_nn, lt_nn, eq_nn, le_nl, lt_nl, eq_nl, le_ln, lt_ln, eq_ln, eq_ll, lt_ll, le_ll, eq_nm1, eq_nm2, eq_nm3, eq_nm4, Option.bind_some, ↓reduceIte, if_true, if_false, Nat.reduceEqDiff, Nat.reduceAdd, Nat.reduceMul, Nat.reduceLT, Nat.reduceLeDiff]
    · intro m
      show p_X10_rings_L14 fu o (m + 1) _ (nI (nR (o.1 1))) = _
      rw [p_X10_rings_L14]
      simp (disch := omega) only [inb_nI, inb_lit, cl_nI, cl_lit, nI_add, add_nl, add_ln, mul_ln, pk_mul, le_nn, lt_nn, eq_nn, le_nl, lt_nl, eq_nl, le_ln, lt_ln, eq_ln, eq_ll, lt_ll, le_ll, eq_nm1, eq_nm2, eq_nm3, eq_nm4, Option.bind_some, ↓reduceIte, if_true, if_false, Nat.reduceEqDiff, Nat.reduceAdd, Nat.reduceMul, Nat.reduceLT, Nat.reduceLeDiff, h3, Nat.le_refl]
    · intro m i hi
      show p_X10_rings_L14 fu o (m + 1) _ (nI i) = p_X10_rings_L14 fu o m _ (nI (i + 1))
      rw [p_X10_rings_L14]
      simp (disch := omega) only [inb_nI, inb_lit, cl_nI, cl_lit, nI_add, add_nl, add_ln, mul_ln, pk_mul, le_nn, lt_nn, eq_nn, le_nl, lt_nl, eq_nl, le_ln, lt_ln, eq_ln, eq_ll, lt_ll, le_ll, eq_nm1, eq_nm2, eq_nm3, eq_nm4, Option.bind_some, ↓reduceIte, if_true, if_false, Nat.reduceEqDiff, Nat.reduceAdd, Nat.reduceMul, Nat.reduceLT, Nat.reduceLeDiff, h3, if_neg (show ¬ nR (o.1 1) ≤ i by omega), e_of0, it]
      obtain ⟨v, ev, v1, v0⟩ := e_ring34 fu hf h.w (fun v1 v2 v3 => if v3 = v2 then p_X10_rings_L14 fu o m (v1 ||| ((1 : Int32) <<< (v2 &&& 31))) (v2 + 1) else p_X10_rings_L14 fu o m (v1 ||| 0) (v2 + 1)) hi (it (rgF (o.1 1)) 0 i)
      rw [ev]
      by_cases c8 : RGq (o.1 1) i
      · simp only [if_pos (v1 c8), rgF_t c8, add_nl]
        rfl
      · simp only [if_neg (v0 c8), rgF_f c8, add_nl, Int32.or_zero]
