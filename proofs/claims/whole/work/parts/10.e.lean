/-! ===== the class: rivers beside the reference's; water ===== -/
/-- the class' act beside the reference's -/
def actR (kd on by' c : Int32) : Prop := (kd = 1 ∧ ∃ j b, j ≤ 4 ∧ b ≤ 1 ∧ on = nI j ∧ by' = nI b ∧ c = nI (2 * j + b)) ∨ (kd = 2 ∧ ∃ s n, s ≤ 60 ∧ n ≤ 30 ∧ on = nI s ∧ by' = nI n ∧ c = nI (100 * (s + 1) + n))
/-- the class' rivers (an object) beside the reference's world -/
def RW (r : Ob) (w : Nat → Int32) : Prop :=
  OKW w ∧ (r.1 0 0 = (if nL w = 0 then 0 else 1) ∧ r.1 1 0 = w 0 ∧ r.1 2 0 = w 1 ∧ r.1 3 0 = w 2 ∧ r.1 4 0 = nI (nR w) ∧ r.1 8 0 = nI (nJ w) ∧ r.1 13 0 = nI (nN w) ∧ r.1 16 0 = nI (nA w)) ∧
  (∀ k, k < nR w → r.1 5 k = wT w k ∧ r.1 6 k = wK w k ∧ r.1 7 k = wL w k) ∧
  (∀ j, j < nJ w → r.1 9 j = wF w j ∧ r.1 10 j = wG w j ∧ r.1 11 j = wE w j ∧ r.1 12 j = wB w j) ∧
  (∀ k, k < nN w → r.1 14 k = wM w k ∧ r.1 15 k = wS w k) ∧
  (∀ k, k < nA w → actR (r.1 17 k) (r.1 18 k) (r.1 19 k) (wC w k))
theorem e_rainAt (fu : Nat) (o : Ob) {k : Nat} (h : k < 61) : p_X8_rainAt fu o (nI k) = some (o.1 0 k) := by
  unfold p_X8_rainAt
  rw [e_pick fu _ h (by omega), Option.bind_some]
theorem e_levelAt (fu : Nat) (o : Ob) {k : Nat} (h : k < 61) : p_X8_levelAt fu o (nI k) = some (o.1 1 k) := by
  unfold p_X8_levelAt
  rw [e_pick fu _ h (by omega), Option.bind_some]
theorem e_addRain (fu : Nat) (o : Ob) (v : Int32) {k : Nat} (h : k < 61) : p_X8_addRain fu o (nI k) v = some (oA o 0 (upd (o.1 0) k (o.1 0 k + v))) := by
  unfold p_X8_addRain
  rw [e_pick fu _ h (by omega), Option.bind_some, e_put fu _ _ h (by omega), Option.bind_some]
theorem e_fall (fu : Nat) (hf : 2000 ≤ fu) (o : Ob) (l0 : Int32) : ∃ s, p_X8_fall fu o l0 = some s ∧ FR [1] o s ∧ ∀ k, k < 61 → s.1 1 k = lv l0 (o.1 0) k := by
  unfold p_X8_fall
  rw [show (0 : Int32) = nI 0 from rfl, e_rainAt fu o (by omega), Option.bind_some, e_put fu _ _ (by omega) (by omega), Option.bind_some]
  refine loop_inv (fun n i s => p_X8_fall_L19 fu n s (lv l0 (o.1 0) i) (nI (i + 1))) 60 (fun i s => FR [1] o s ∧ ∀ k, k < i + 1 → s.1 1 k = lv l0 (o.1 0) k) (fun s => FR [1] o s ∧ ∀ k, k < 61 → s.1 1 k = lv l0 (o.1 0) k) ?_ ?_ fu 0 _ (Nat.zero_le _) (by omega) ⟨FR.rf.A (by decide) _, fun k hk => ?_⟩
  · rintro n s hs
    refine ⟨s, ?_, hs⟩
    show p_X8_fall_L19 fu (n + 1) s _ (nI 61) = _
    rw [p_X8_fall_L19]
    simp (disch := omega) only [inb_nI, inb_lit, cl_nI, cl_lit, nI_add, add_nl, add_ln, mul_ln, pk_mul, le_nn, lt_nn, eq_nn, le_nl, lt_nl, eq_nl, le_ln, lt_ln, eq_ln, eq_ll, lt_ll, le_ll, eq_nm1, eq_nm2, eq_nm3, eq_nm4, Option.bind_some, ↓reduceIte, if_true, if_false, Nat.reduceEqDiff, Nat.reduceAdd, Nat.reduceMul, Nat.reduceLT, Nat.reduceLeDiff]
  · rintro n i s hi ⟨hF, hk⟩
    right
    have e0 := hF.f1 0 (by decide)
    refine ⟨oA s 1 (upd (s.1 1) (i + 1) (lv l0 (o.1 0) (i + 1))), ?_, hF.A (by decide) _, ?_⟩
    · show p_X8_fall_L19 fu (n + 1) s _ (nI (i + 1)) = p_X8_fall_L19 fu n _ _ (nI (i + 1 + 1))
      rw [p_X8_fall_L19]
      simp (disch := omega) only [inb_nI, inb_lit, cl_nI, cl_lit, nI_add, add_nl, add_ln, mul_ln, pk_mul, le_nn, lt_nn, eq_nn, le_nl, lt_nl, eq_nl, le_ln, lt_ln, eq_ln, eq_ll, lt_ll, le_ll, eq_nm1, eq_nm2, eq_nm3, eq_nm4, Option.bind_some, ↓reduceIte, if_true, if_false, Nat.reduceEqDiff, Nat.reduceAdd, Nat.reduceMul, Nat.reduceLT, Nat.reduceLeDiff, e_rainAt, e_put, e0, if_neg (show ¬ 60 < i + 1 by omega)]
      rfl
    · intro k hk1
      simp only [oA_1, oI_1, oLA_1, oL_1, oA_2, oI_2, oLA_2, oL_2, up_v, upd_v, updL_v, Option.bind_some, ↓reduceIte, if_true, if_false, Nat.reduceEqDiff, Nat.reduceAdd, Nat.reduceMul, Nat.reduceLT, Nat.reduceLeDiff]
      by_cases hki : k = i + 1
      · subst hki; simp only [Option.bind_some, ↓reduceIte, if_true, if_false, Nat.reduceEqDiff, Nat.reduceAdd, Nat.reduceMul, Nat.reduceLT, Nat.reduceLeDiff]
      · simp only [hki, Option.bind_some, ↓reduceIte, if_true, if_false, Nat.reduceEqDiff, Nat.reduceAdd, Nat.reduceMul, Nat.reduceLT, Nat.reduceLeDiff]
        exact hk k (by omega)
  · have : k = 0 := by omega
    subst this
    simp only [oA_1, oI_1, oLA_1, oL_1, oA_2, oI_2, oLA_2, oL_2, up_v, upd_v, updL_v, Option.bind_some, ↓reduceIte, if_true, if_false, Nat.reduceEqDiff, Nat.reduceAdd, Nat.reduceMul, Nat.reduceLT, Nat.reduceLeDiff]
    rfl
/-- water that is settled: rains, levels, what is shut -/
def WT (s : Ob) (w : Nat → Int32) : Prop := E61 (s.1 0) (rnW w) ∧ E61 (s.1 1) (lvW w) ∧ s.1 2 0 = shW w
theorem e_settle (fu : Nat) (hf : 2000 ≤ fu) (o r : Ob) (w : Nat → Int32) (h : RW r w) : ∃ s, p_X8_settle fu o r = some s ∧ WT s w := by
  obtain ⟨hw, ⟨-, h1, -, -, -, -, h13, h16⟩, -, -, hn, ha⟩ := h
  have hN := hw.2.1.2.2.1
  have hA := hw.2.1.2.2.2.1
  unfold p_X8_settle
  obtain ⟨s1, e1, I1⟩ := loop_to (fun n i s => p_X8_settle_L2 fu r (fun oz => p_X8_settle_L25 fu r (fun oz => p_X8_settle_L66 fu r fu (oI oz 2 (0 : Int32)) 0) fu oz 0) n s (nI i)) 61 (fun i s => ∀ k, k < i → s.1 0 k = 0) (fun s => p_X8_settle_L25 fu r (fun oz => p_X8_settle_L66 fu r fu (oI oz 2 (0 : Int32)) 0) fu s 0) (by
    rintro n s hs
    show p_X8_settle_L2 fu r _ (n + 1) s (nI 61) = _
    rw [p_X8_settle_L2]
    simp (disch := omega) only [inb_nI, inb_lit, cl_nI, cl_lit, nI_add, add_nl, add_ln, mul_ln, pk_mul, le_nn, lt_nn, eq_nn, le_nl, lt_nl, eq_nl, le_ln, lt_ln, eq_ln, eq_ll, lt_ll, le_ll, eq_nm1, eq_nm2, eq_nm3, eq_nm4, Option.bind_some, ↓reduceIte, if_true, if_false, Nat.reduceEqDiff, Nat.reduceAdd, Nat.reduceMul, Nat.reduceLT, Nat.reduceLeDiff]) (by
    rintro n i s hi hk
    refine ⟨oA s 0 (upd (s.1 0) i 0), ?_, ?_⟩
    · show p_X8_settle_L2 fu r _ (n + 1) s (nI i) = p_X8_settle_L2 fu r _ n _ (nI (i + 1))
      rw [p_X8_settle_L2]
      simp (disch := omega) only [inb_nI, inb_lit, cl_nI, cl_lit, nI_add, add_nl, add_ln, mul_ln, pk_mul, le_nn, lt_nn, eq_nn, le_nl, lt_nl, eq_nl, le_ln, lt_ln, eq_ln, eq_ll, lt_ll, le_ll, eq_nm1, eq_nm2, eq_nm3, eq_nm4, Option.bind_some, ↓reduceIte, if_true, if_false, Nat.reduceEqDiff, Nat.reduceAdd, Nat.reduceMul, Nat.reduceLT, Nat.reduceLeDiff, e_put, if_neg (show ¬ 60 < i by omega)]
    · intro k hk1
      rw [oA_1, if_pos rfl, upd_v]
      split
      · rfl
      · exact hk k (by omega)) fu 0 o (Nat.zero_le _) (by omega) (fun k hk => by omega)
  obtain ⟨s2, e2, I2⟩ := loop_to (fun n i s => p_X8_settle_L25 fu r (fun oz => p_X8_settle_L66 fu r fu (oI oz 2 (0 : Int32)) 0) n s (nI i)) (nN w) (fun i s => E61 (s.1 0) (rn0 w i)) (fun s => p_X8_settle_L66 fu r fu (oI s 2 (0 : Int32)) 0) (by
    rintro n s hs
    show p_X8_settle_L25 fu r _ (n + 1) s (nI (nN w)) = _
    rw [p_X8_settle_L25]
    simp (disch := omega) only [inb_nI, inb_lit, cl_nI, cl_lit, nI_add, add_nl, add_ln, mul_ln, pk_mul, le_nn, lt_nn, eq_nn, le_nl, lt_nl, eq_nl, le_ln, lt_ln, eq_ln, eq_ll, lt_ll, le_ll, eq_nm1, eq_nm2, eq_nm3, eq_nm4, Option.bind_some, ↓reduceIte, if_true, if_false, Nat.reduceEqDiff, Nat.reduceAdd, Nat.reduceMul, Nat.reduceLT, Nat.reduceLeDiff, h13, Nat.le_refl]) (by
    rintro n i s hi hk
    obtain ⟨-, t, ht, hs⟩ := hw.2.2.2.2.2.1 i hi
    refine ⟨oA s 0 (upd (s.1 0) t (s.1 0 t + wM w i)), ?_, ?_⟩
    · show p_X8_settle_L25 fu r _ (n + 1) s (nI i) = p_X8_settle_L25 fu r _ n _ (nI (i + 1))
      rw [p_X8_settle_L25]
      simp (disch := omega) only [inb_nI, inb_lit, cl_nI, cl_lit, nI_add, add_nl, add_ln, mul_ln, pk_mul, le_nn, lt_nn, eq_nn, le_nl, lt_nl, eq_nl, le_ln, lt_ln, eq_ln, eq_ll, lt_ll, le_ll, eq_nm1, eq_nm2, eq_nm3, eq_nm4, Option.bind_some, ↓reduceIte, if_true, if_false, Nat.reduceEqDiff, Nat.reduceAdd, Nat.reduceMul, Nat.reduceLT, Nat.reduceLeDiff, h13, e_pick, (hn i hi).1, (hn i hi).2, hs, e_addRain, if_neg (show ¬ nN w ≤ i by omega)]
    · rw [oA_1, if_pos rfl, rn0, it, ← rn0, hs, cl_nI (by omega)]
      exact hk.ad (by omega) _) fu 0 s1 (Nat.zero_le _) (by omega) I1
  obtain ⟨s3, e3, I3⟩ := loop_inv (fun n i s => p_X8_settle_L66 fu r n s (nI i)) (nA w) (fun i s => E61 (s.1 0) (raA w i).1 ∧ s.1 2 0 = (raA w i).2) (fun s => WT s w) (by
    rintro n s ⟨hs, h2⟩
    obtain ⟨t, et, tF, tl⟩ := e_fall fu hf s (w 0)
    refine ⟨t, ?_, ?_, ?_, ?_⟩
    · show p_X8_settle_L66 fu r (n + 1) s (nI (nA w)) = _
      rw [p_X8_settle_L66]
      simp (disch := omega) only [inb_nI, inb_lit, cl_nI, cl_lit, nI_add, add_nl, add_ln, mul_ln, pk_mul, le_nn, lt_nn, eq_nn, le_nl, lt_nl, eq_nl, le_ln, lt_ln, eq_ln, eq_ll, lt_ll, le_ll, eq_nm1, eq_nm2, eq_nm3, eq_nm4, Option.bind_some, ↓reduceIte, if_true, if_false, Nat.reduceEqDiff, Nat.reduceAdd, Nat.reduceMul, Nat.reduceLT, Nat.reduceLeDiff, h16, h1, Nat.le_refl, et]
    · rw [tF.f1 0 (by decide)]; exact hs
    · intro k hk; rw [tl k hk]; exact lv_cg hs k hk
    · rw [tF.f1 2 (by decide)]; exact h2) (by
    rintro n i s hi ⟨hs, h2⟩
    right
    have n3 : ¬ nA w ≤ i := by omega
    have ra : raA w (i + 1) = actF (wC w i).toNatClampNeg (raA w i) := by rw [raA, it, ← raA]
    rcases ha i hi with ⟨k1, j, b, hj, hb, h3, h4, hc⟩ | ⟨k1, t, m, ht, hm, h3, h4, hc⟩
    · rw [hc, cl_nI (by omega), actF, if_neg (by omega), show (2 * j + b) / 2 = j by omega, show (2 * j + b) % 2 = b by omega] at ra
      by_cases hb1 : b = 1
      · subst hb1
        rw [if_pos rfl] at ra
        refine ⟨oI s 2 (s.1 2 0 ||| b1 j), ?_, by rw [ra]; exact hs, by rw [ra, oI_1, if_pos rfl, h2]⟩
        show p_X8_settle_L66 fu r (n + 1) s (nI i) = p_X8_settle_L66 fu r n _ (nI (i + 1))
        rw [p_X8_settle_L66]
        simp (disch := omega) only [inb_nI, inb_lit, cl_nI, cl_lit, nI_add, add_nl, add_ln, mul_ln, pk_mul, le_nn, lt_nn, eq_nn, le_nl, lt_nl, eq_nl, le_ln, lt_ln, eq_ln, eq_ll, lt_ll, le_ll, eq_nm1, eq_nm2, eq_nm3, eq_nm4, Option.bind_some, ↓reduceIte, if_true, if_false, Nat.reduceEqDiff, Nat.reduceAdd, Nat.reduceMul, Nat.reduceLT, Nat.reduceLeDiff, h16, e_pick, k1, h3, h4, if_neg n3]
        unfold p_X8_redo
        simp (disch := omega) only [inb_nI, inb_lit, cl_nI, cl_lit, nI_add, add_nl, add_ln, mul_ln, pk_mul, le_nn, lt_nn, eq_nn, le_nl, lt_nl, eq_nl, le_ln, lt_ln, eq_ln, eq_ll, lt_ll, le_ll, eq_nm1, eq_nm2, eq_nm3, eq_nm4, Option.bind_some, ↓reduceIte, if_true, if_false, Nat.reduceEqDiff, Nat.reduceAdd, Nat.reduceMul, Nat.reduceLT, Nat.reduceLeDiff, e_bit]
      · have hb0 : b = 0 := by omega
        subst hb0
        rw [if_neg hb1] at ra
        refine ⟨oI s 2 (s.1 2 0 &&& (b1 j ^^^ (-1))), ?_, by rw [ra]; exact hs, by rw [ra, oI_1, if_pos rfl, h2]⟩
        show p_X8_settle_L66 fu r (n + 1) s (nI i) = p_X8_settle_L66 fu r n _ (nI (i + 1))
        rw [p_X8_settle_L66]
        simp (disch := omega) only [inb_nI, inb_lit, cl_nI, cl_lit, nI_add, add_nl, add_ln, mul_ln, pk_mul, le_nn, lt_nn, eq_nn, le_nl, lt_nl, eq_nl, le_ln, lt_ln, eq_ln, eq_ll, lt_ll, le_ll, eq_nm1, eq_nm2, eq_nm3, eq_nm4, Option.bind_some, ↓reduceIte, if_true, if_false, Nat.reduceEqDiff, Nat.reduceAdd, Nat.reduceMul, Nat.reduceLT, Nat.reduceLeDiff, h16, e_pick, k1, h3, h4, if_neg n3]
        unfold p_X8_redo
        simp (disch := omega) only [inb_nI, inb_lit, cl_nI, cl_lit, nI_add, add_nl, add_ln, mul_ln, pk_mul, le_nn, lt_nn, eq_nn, le_nl, lt_nl, eq_nl, le_ln, lt_ln, eq_ln, eq_ll, lt_ll, le_ll, eq_nm1, eq_nm2, eq_nm3, eq_nm4, Option.bind_some, ↓reduceIte, if_true, if_false, Nat.reduceEqDiff, Nat.reduceAdd, Nat.reduceMul, Nat.reduceLT, Nat.reduceLeDiff, e_bit]
    · rw [hc, cl_nI (by omega), actF, if_pos (by omega), show (100 * (t + 1) + m) / 100 - 1 = t by omega, show (100 * (t + 1) + m) % 100 = m by omega] at ra
      refine ⟨oA s 0 (upd (s.1 0) t (s.1 0 t + nI m)), ?_, by rw [ra, oA_1, if_pos rfl]; exact hs.ad (by omega) _, by rw [ra]; exact h2⟩
      show p_X8_settle_L66 fu r (n + 1) s (nI i) = p_X8_settle_L66 fu r n _ (nI (i + 1))
      rw [p_X8_settle_L66]
      simp (disch := omega) only [inb_nI, inb_lit, cl_nI, cl_lit, nI_add, add_nl, add_ln, mul_ln, pk_mul, le_nn, lt_nn, eq_nn, le_nl, lt_nl, eq_nl, le_ln, lt_ln, eq_ln, eq_ll, lt_ll, le_ll, eq_nm1, eq_nm2, eq_nm3, eq_nm4, Option.bind_some, ↓reduceIte, if_true, if_false, Nat.reduceEqDiff, Nat.reduceAdd, Nat.reduceMul, Nat.reduceLT, Nat.reduceLeDiff, h16, e_pick, k1, h3, h4, if_neg n3]
      unfold p_X8_redo
      simp (disch := omega) only [inb_nI, inb_lit, cl_nI, cl_lit, nI_add, add_nl, add_ln, mul_ln, pk_mul, le_nn, lt_nn, eq_nn, le_nl, lt_nl, eq_nl, le_ln, lt_ln, eq_ln, eq_ll, lt_ll, le_ll, eq_nm1, eq_nm2, eq_nm3, eq_nm4, Option.bind_some, ↓reduceIte, if_true, if_false, Nat.reduceEqDiff, Nat.reduceAdd, Nat.reduceMul, Nat.reduceLT, Nat.reduceLeDiff, e_addRain]) fu 0 (oI s2 2 (0 : Int32)) (Nat.zero_le _) (by omega) ⟨I2, rfl⟩
  exact ⟨s3, by rw [show p_X8_settle_L2 fu r _ fu o 0 = _ from e1]; exact e2.trans e3, I3⟩
