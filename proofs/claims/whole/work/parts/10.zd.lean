/-! ===== slots: row, write, paste ===== -/
theorem e_rowOf (fu : Nat) (x : Nat → Ob) (v : Int32) : (p_X9_rowOf fu x v = some none ∧ ixq v 4 = 0) ∨ ∃ k, k < 4 ∧ v = nI k ∧ p_X9_rowOf fu x v = some (some k) ∧ ixq v 4 = 1 := by
  unfold p_X9_rowOf oLet
  rcases pk_ix v (n := 4) (by omega) with h1 | h1 | ⟨k, hk, rfl⟩
  · left
    rw [if_pos h1]
    exact ⟨rfl, by unfold ixq; rw [if_pos h1]⟩
  · left
    have h1' : (4 : Int32) ≤ v := h1
    refine ⟨?_, by
      unfold ixq
      split
      · rfl
      · first | rfl | rw [if_pos h1]⟩
    split
    · rfl
    · first | rfl | rw [if_pos h1']
  · right
    refine ⟨k, hk, rfl, ?_, ixq_nI hk (by omega)⟩
    simp (disch := omega) only [inb_nI, inb_lit, cl_nI, cl_lit, nI_add, add_nl, add_ln, mul_ln, pk_mul, le_nn, lt_nn, eq_nn, le_nl, lt_nl, eq_nl, le_ln, lt_ln, eq_ln, eq_ll, lt_ll, le_ll, eq_nm1, eq_nm2, eq_nm3, eq_nm4, Option.bind_some, ↓reduceIte, if_true, if_false, Nat.reduceEqDiff, Nat.reduceAdd, Nat.reduceMul, Nat.reduceLT, Nat.reduceLeDiff, if_neg (show ¬ k < 0 by omega), if_neg (show ¬ 4 ≤ k by omega)]
theorem e_isSlot (fu : Nat) (v : Int32) : p_X10_isSlot fu v = some (ixq v 4) := by
  unfold p_X10_isSlot
  rw [e_in0 fu v (n := 3) (by decide), Option.bind_some]
  simp only [ixq_b, if_true]
/-- a slot's row new on both sides -/
theorem Rel.slot {x : Nat → Ob} {o s : Ob} (h : Rel x o) {k : Nat} (hk : k < 4) {r : Ob} (F : FR (38 :: 39 :: 40 :: tF) o s) (ho : ∀ j, j < 4 → j ≠ k → s.1 38 j = o.1 38 j ∧ s.1 39 j = o.1 39 j ∧ ∀ i, i < 60 → s.2 40 (60 * j + i) = o.2 40 (60 * j + i))
    (hr : r.1 0 0 = 1 ∧ ∃ n b, n ≤ 60 ∧ b ≤ 3 ∧ r.1 2 0 = nI n ∧ s.1 38 k = nI n ∧ r.1 1 0 = nI b ∧ s.1 39 k = nI b ∧ ∀ i, i < 60 → r.2 3 i = s.2 40 (60 * k + i)) : Rel (va_up x (14 + k) r) s := by
  have hyj : ∀ j, j ≠ 14 + k → va_up x (14 + k) r j = x j := fun j h1 => by rw [up_v, if_neg h1]
  refine ⟨?_, ?_, ?_, ?_, ?_, ?_⟩
  · rw [hyj 5 (by omega), F.f1 1 (by decide)]; exact h.1
  · rw [hyj 10 (by omega), F.f1 1 (by decide)]; exact h.2.1
  · have := h.2.2.1
    unfold FTe at this ⊢
    rw [hyj 2 (by omega), F.f1 12 (by decide), F.f1 13 (by decide)]; exact this
  · have := h.2.2.2.1
    unfold TPe at this ⊢
    rw [hyj 1 (by omega), F.f1 5 (by decide), F.f1 4 (by decide)]; exact this
  · intro q hq
    have := h.2.2.2.2.1 q hq
    rw [hyj 0 (by omega), hyj (7 + q) (by omega), F.f1 3 (by decide), F.f1 2 (by decide)]
    exact this
  · intro q hq
    by_cases g : q = k
    · subst g
      right
      rw [show va_up x (14 + q) r (14 + q) = r by rw [up_v, if_pos rfl]]
      exact hr
    · rw [hyj (14 + q) (by omega)]
      obtain ⟨o1, o2, o3⟩ := ho q hq g
      rw [o1, o2]
      rcases h.2.2.2.2.2 q hq with z | ⟨z1, n, b, z2, z3, z4, z5, z6, z7, z8⟩
      · exact Or.inl z
      · exact Or.inr ⟨z1, n, b, z2, z3, z4, z5, z6, z7, fun i hi => by rw [o3 i hi]; exact z8 i hi⟩
theorem s_row (fu : Nat) (hf : 2000 ≤ fu) {x : Nat → Ob} {o : Ob} (h : Rel x o) (v1 v2 v3 : Int32) : ∃ r y t, p_X9_row fu x v1 v2 v3 = some (r, y) ∧ p_X10_row fu o v1 v2 v3 = some (r, t) ∧ Rel y t := by
  unfold p_X9_row p_X10_row
  rw [e_isSlot, Option.bind_some, e_in0 fu v2 (n := 3) (by decide), Option.bind_some]
  rcases e_rowOf fu x v1 with ⟨e1, e2⟩ | ⟨k, hk, rfl, e1, e2⟩
  · rw [e1, Option.bind_some]
    simp only [e2, Option.bind_some, ↓reduceIte, if_true, if_false, Nat.reduceEqDiff, Nat.reduceAdd, Nat.reduceMul, Nat.reduceLT, Nat.reduceLeDiff, oCase]
    exact ⟨_, _, _, rfl, rfl, h⟩
  · rw [e1, Option.bind_some]
    simp (disch := omega) only [e2, Option.bind_some, ↓reduceIte, if_true, if_false, Nat.reduceEqDiff, Nat.reduceAdd, Nat.reduceMul, Nat.reduceLT, Nat.reduceLeDiff, inb_nI, inb_lit, cl_nI, cl_lit, nI_add, add_nl, add_ln, mul_ln, pk_mul, le_nn, lt_nn, eq_nn, le_nl, lt_nl, eq_nl, le_ln, lt_ln, eq_ln, eq_ll, lt_ll, le_ll, eq_nm1, eq_nm2, eq_nm3, eq_nm4, oCase, if_pos hk]
    rcases ixq_of v2 (n := 4) (by omega) with ⟨e3, ho⟩ | ⟨e3, b, hb, rfl⟩
    · simp only [e3, Option.bind_some, ↓reduceIte, if_true, if_false, Nat.reduceEqDiff, Nat.reduceAdd, Nat.reduceMul, Nat.reduceLT, Nat.reduceLeDiff]
      refine ⟨-2, x, o, ?_, rfl, h⟩
      rcases ho with z | z
      · rw [if_pos z]
      · have z1 := Int32.le_iff_toInt_le.mp z
        rw [nI_toInt (by omega)] at z1
        have n1 : (3 : Int32) < v2 := by
          rw [Int32.lt_iff_toInt_lt]
          have : (3 : Int32).toInt = 3 := rfl
          omega
        split
        · rfl
        · first | rfl | rw [if_pos n1]
    · simp (disch := omega) only [e3, inb_nI, inb_lit, cl_nI, cl_lit, nI_add, add_nl, add_ln, mul_ln, pk_mul, le_nn, lt_nn, eq_nn, le_nl, lt_nl, eq_nl, le_ln, lt_ln, eq_ln, eq_ll, lt_ll, le_ll, eq_nm1, eq_nm2, eq_nm3, eq_nm4, Option.bind_some, ↓reduceIte, if_true, if_false, Nat.reduceEqDiff, Nat.reduceAdd, Nat.reduceMul, Nat.reduceLT, Nat.reduceLeDiff, if_neg (show ¬ b < 0 by omega), if_neg (show ¬ 3 < b by omega)]
      by_cases g1 : v3 ≤ 60
      · by_cases g2 : (0 : Int32) ≤ v3
        · obtain ⟨n, hn, rfl⟩ : ∃ n : Nat, n ≤ 60 ∧ v3 = nI n := by
            obtain ⟨j, hj, e⟩ := nI_of2 (M := 60) (n := 60) rfl (Int32.not_lt.mpr g2) g1
            exact ⟨j, hj, e⟩
          simp only [g1, g2, Option.bind_some, ↓reduceIte, if_true, if_false, Nat.reduceEqDiff, Nat.reduceAdd, Nat.reduceMul, Nat.reduceLT, Nat.reduceLeDiff]
          obtain ⟨s, es, Fs, hs1, hs2, hs3, hs⟩ := loop_inv (fun m i t => p_X3_lay_L17 fu m t (nI i)) 60 (fun i t => FR [0, 1, 2, 3] (x (14 + k)) t ∧ t.1 0 0 = 1 ∧ t.1 1 0 = nI b ∧ t.1 2 0 = nI n ∧ ∀ j, j < i → t.2 3 j = 0) (fun t => FR [0, 1, 2, 3] (x (14 + k)) t ∧ t.1 0 0 = 1 ∧ t.1 1 0 = nI b ∧ t.1 2 0 = nI n ∧ ∀ j, j < 60 → t.2 3 j = 0) (by
            rintro m t ht
            refine ⟨t, ?_, ht⟩
            show p_X3_lay_L17 fu (m + 1) t (nI 60) = _
            rw [p_X3_lay_L17]
            simp (disch := omega) only [inb_nI, inb_lit, cl_nI, cl_lit, nI_add, add_nl, add_ln, mul_ln, pk_mul, le_nn, lt_nn, eq_nn, le_nl, lt_nl, eq_nl, le_ln, lt_ln, eq_ln, eq_ll, lt_ll, le_ll, eq_nm1, eq_nm2, eq_nm3, eq_nm4, Option.bind_some, ↓reduceIte, if_true, if_false, Nat.reduceEqDiff, Nat.reduceAdd, Nat.reduceMul, Nat.reduceLT, Nat.reduceLeDiff]) (by
            rintro m i t hi ⟨F, t1, t2, t3, t4⟩
            right
            refine ⟨oLA t 3 (vp_updL (t.2 3) i 0), ?_, F.LA (by decide) _, t1, t2, t3, ?_⟩
            · show p_X3_lay_L17 fu (m + 1) t (nI i) = p_X3_lay_L17 fu m _ (nI (i + 1))
              rw [p_X3_lay_L17]
              simp (disch := omega) only [inb_nI, inb_lit, cl_nI, cl_lit, nI_add, add_nl, add_ln, mul_ln, pk_mul, le_nn, lt_nn, eq_nn, le_nl, lt_nl, eq_nl, le_ln, lt_ln, eq_ln, eq_ll, lt_ll, le_ll, eq_nm1, eq_nm2, eq_nm3, eq_nm4, Option.bind_some, ↓reduceIte, if_true, if_false, Nat.reduceEqDiff, Nat.reduceAdd, Nat.reduceMul, Nat.reduceLT, Nat.reduceLeDiff, if_neg (show ¬ 60 ≤ i by omega)]
            · intro j hj
              simp only [oA_1, oI_1, oLA_1, oL_1, oA_2, oI_2, oLA_2, oL_2, up_v, upd_v, updL_v, Option.bind_some, ↓reduceIte, if_true, if_false, Nat.reduceEqDiff, Nat.reduceAdd, Nat.reduceMul, Nat.reduceLT, Nat.reduceLeDiff]
              split
              · rfl
              · exact t4 j (by omega)) fu 0 (oI (oI (oI (x (14 + k)) 0 1) 1 (nI b)) 2 (nI n)) (Nat.zero_le _) (by omega) ⟨((FR.rf.I (by decide) _).I (by decide) _).I (by decide) _, rfl, rfl, rfl, fun j hj => by omega⟩
          obtain ⟨⟨a, z⟩, ez, rfl, Fz, z38, z39, z40, zo⟩ := loop_inv (fun m i t => p_X10_row_L52 fu m t (nI k) (nI i)) 60 (fun i t => FR [38, 39, 40] o t ∧ t.1 38 = upd (o.1 38) k (nI n) ∧ t.1 39 = upd (o.1 39) k (nI b) ∧ (∀ j, j < i → t.2 40 (60 * k + j) = 0) ∧ (∀ j, (j < 60 * k ∨ 60 * k + 60 ≤ j) → t.2 40 j = o.2 40 j)) (fun a => a.1 = 0 ∧ FR [38, 39, 40] o a.2 ∧ a.2.1 38 = upd (o.1 38) k (nI n) ∧ a.2.1 39 = upd (o.1 39) k (nI b) ∧ (∀ j, j < 60 → a.2.2 40 (60 * k + j) = 0) ∧ (∀ j, (j < 60 * k ∨ 60 * k + 60 ≤ j) → a.2.2 40 j = o.2 40 j)) (by
            rintro m t ht
            refine ⟨(0, t), ?_, rfl, ht⟩
            show p_X10_row_L52 fu (m + 1) t (nI k) (nI 60) = _
            rw [p_X10_row_L52]
            simp (disch := omega) only [inb_nI, inb_lit, cl_nI, cl_lit, nI_add, add_nl, add_ln, mul_ln, pk_mul, le_nn, lt_nn, eq_nn, le_nl, lt_nl, eq_nl, le_ln, lt_ln, eq_ln, eq_ll, lt_ll, le_ll, eq_nm1, eq_nm2, eq_nm3, eq_nm4, Option.bind_some, ↓reduceIte, if_true, if_false, Nat.reduceEqDiff, Nat.reduceAdd, Nat.reduceMul, Nat.reduceLT, Nat.reduceLeDiff]) (by
            rintro m i t hi ⟨F, t1, t2, t3, t4⟩
            right
            refine ⟨oLA t 40 (vp_updL (t.2 40) (60 * k + i) 0), ?_, F.LA (by decide) _, t1, t2, ?_, ?_⟩
            · show p_X10_row_L52 fu (m + 1) t (nI k) (nI i) = p_X10_row_L52 fu m _ (nI k) (nI (i + 1))
              rw [p_X10_row_L52]
              simp (disch := omega) only [inb_nI, inb_lit, cl_nI, cl_lit, nI_add, add_nl, add_ln, mul_ln, pk_mul, le_nn, lt_nn, eq_nn, le_nl, lt_nl, eq_nl, le_ln, lt_ln, eq_ln, eq_ll, lt_ll, le_ll, eq_nm1, eq_nm2, eq_nm3, eq_nm4, Option.bind_some, ↓reduceIte, if_true, if_false, Nat.reduceEqDiff, Nat.reduceAdd, Nat.reduceMul, Nat.reduceLT, Nat.reduceLeDiff, if_neg (show ¬ 60 ≤ i by omega)]
            · intro j hj
              simp only [oA_1, oI_1, oLA_1, oL_1, oA_2, oI_2, oLA_2, oL_2, up_v, upd_v, updL_v, Option.bind_some, ↓reduceIte, if_true, if_false, Nat.reduceEqDiff, Nat.reduceAdd, Nat.reduceMul, Nat.reduceLT, Nat.reduceLeDiff]
              split
              · rfl
              · exact t3 j (by omega)
            · intro j hj
              simp only [oA_1, oI_1, oLA_1, oL_1, oA_2, oI_2, oLA_2, oL_2, up_v, upd_v, updL_v, Option.bind_some, ↓reduceIte, if_true, if_false, Nat.reduceEqDiff, Nat.reduceAdd, Nat.reduceMul, Nat.reduceLT, Nat.reduceLeDiff]
              rw [if_neg (by omega)]
              exact t4 j hj) fu 0 (oA (oA o 38 (upd (o.1 38) k (nI n))) 39 (upd (o.1 39) k (nI b))) (Nat.zero_le _) (by omega) ⟨(FR.rf.A (by decide) _).A (by decide) _, rfl, rfl, fun j hj => by omega, fun j _ => rfl⟩
          have es' : p_X3_lay fu (x (14 + k)) (nI b) (nI n) = some s := es
          have ez' : p_X10_row_L52 fu fu (oA (oA o 38 (upd (o.1 38) k (nI n))) 39 (upd (o.1 39) k (nI b))) (nI k) 0 = some (0, z) := ez
          simp (disch := omega) only [es', inb_nI, inb_lit, cl_nI, cl_lit, nI_add, add_nl, add_ln, mul_ln, pk_mul, le_nn, lt_nn, eq_nn, le_nl, lt_nl, eq_nl, le_ln, lt_ln, eq_ln, eq_ll, lt_ll, le_ll, eq_nm1, eq_nm2, eq_nm3, eq_nm4, Option.bind_some, ↓reduceIte, if_true, if_false, Nat.reduceEqDiff, Nat.reduceAdd, Nat.reduceMul, Nat.reduceLT, Nat.reduceLeDiff, oA_1, oI_1, oLA_1, oL_1, oA_2, oI_2, oLA_2, oL_2, up_v, upd_v, updL_v, ez']
          simp only at Fz z38 z39 z40 zo
          refine ⟨0, _, z, rfl, rfl, h.slot hk (Fz.mono (by decide)) (fun j hj hjk => ⟨by rw [z38, upd_v, if_neg hjk], by rw [z39, upd_v, if_neg hjk], fun i hi => zo _ (by omega)⟩) ⟨hs1, n, b, hn, by omega, hs3, by rw [z38, upd_v, if_pos rfl], hs2, by rw [z39, upd_v, if_pos rfl], fun i hi => by rw [hs i hi, z40 i hi]⟩⟩
        · simp only [g1, g2, Option.bind_some, ↓reduceIte, if_true, if_false, Nat.reduceEqDiff, Nat.reduceAdd, Nat.reduceMul, Nat.reduceLT, Nat.reduceLeDiff]
          exact ⟨_, _, _, rfl, rfl, h⟩
      · simp only [g1, Option.bind_some, ↓reduceIte, if_true, if_false, Nat.reduceEqDiff, Nat.reduceAdd, Nat.reduceMul, Nat.reduceLT, Nat.reduceLeDiff]
        exact ⟨_, _, _, rfl, rfl, h⟩
/-! a long cut to a width -/
theorem i64_ext {x y : Int64} (h : ∀ i, i < 64 → x.toBitVec.getLsbD i = y.toBitVec.getLsbD i) : x = y := Int64.toBitVec_inj.mp (BitVec.eq_of_getLsbD_eq (fun i hi => h i hi))
theorem cutB (x : BitVec 64) {w : Nat} (h0 : 0 < w) (h : w ≤ 64) {i : Nat} (hi : i < 64) : ((x <<< (64 - w)).sshiftRight (64 - w)).getLsbD i = if i < w then x.getLsbD i else x.getLsbD (w - 1) := by
  rw [BitVec.getLsbD_sshiftRight, BitVec.msb_eq_getLsbD_last, BitVec.getLsbD_shiftLeft, BitVec.getLsbD_shiftLeft]
  by_cases c : i < w
  · rw [if_pos c, if_pos (by omega), show 64 - w + i - (64 - w) = i by omega]
    simp [show 64 - w + i < 64 by omega, show ¬ 64 ≤ i by omega]
  · rw [if_neg c, if_neg (by omega), show 64 - 1 - (64 - w) = w - 1 by omega]
    simp [show ¬ 64 ≤ i by omega, show ¬ 63 < 64 - w by omega]
theorem cutR (v : Int64) (s : Int64) {w : Nat} (h0 : 0 < w) (h : w ≤ 64) (hs : (s.toBitVec.smod 64).toNat = 64 - w) {i : Nat} (hi : i < 64) : ((v <<< s) >>> s).toBitVec.getLsbD i = if i < w then v.toBitVec.getLsbD i else v.toBitVec.getLsbD (w - 1) := by
  rw [Int64.toBitVec_shiftRight]
  show ((v <<< s).toBitVec.sshiftRight (s.toBitVec.smod 64).toNat).getLsbD i = _
  rw [Int64.toBitVec_shiftLeft]
  show ((v.toBitVec <<< (s.toBitVec.smod 64).toNat).sshiftRight (s.toBitVec.smod 64).toNat).getLsbD i = _
  rw [hs]
  exact cutB _ h0 h hi
theorem e_cut (fu : Nat) (v : Int64) {b : Nat} (hb : b ≤ 3) : ∃ r, p_X9_cut fu v (nI b) = some r ∧ p_X10_cut fu v (nI b) = some r := by
  have hb' : b = 0 ∨ b = 1 ∨ b = 2 ∨ b = 3 := by omega
  unfold p_X9_cut p_X10_cut
  rcases hb' with rfl | rfl | rfl | rfl
  · refine ⟨_, if_pos rfl, congrArg some (i64_ext (fun i hi => ?_))⟩
    rw [cutR v _ (w := 8) (by omega) (by omega) (by decide) hi, Int32.toBitVec_toInt64, Int8.toBitVec_toInt32, Int32.toBitVec_toInt8, Int64.toBitVec_toInt32]
    simp only [BitVec.getLsbD_signExtend, BitVec.msb_signExtend, BitVec.msb_eq_getLsbD_last]
    by_cases c : i < 8
    · simp [c, hi, show i < 32 by omega]
    · by_cases c2 : i < 32
      · simp [c, c2, hi]
      · simp [c, c2, hi]
  · refine ⟨_, by rw [if_neg (by decide), if_pos (show nI 1 = 1 from rfl)], congrArg some (i64_ext (fun i hi => ?_))⟩
    rw [cutR v _ (w := 16) (by omega) (by omega) (by decide) hi, Int32.toBitVec_toInt64, Int16.toBitVec_toInt32, Int32.toBitVec_toInt16, Int64.toBitVec_toInt32]
    simp only [BitVec.getLsbD_signExtend, BitVec.msb_signExtend, BitVec.msb_eq_getLsbD_last]
    by_cases c : i < 16
    · simp [c, hi, show i < 32 by omega]
    · by_cases c2 : i < 32
      · simp [c, c2, hi]
      · simp [c, c2, hi]
  · refine ⟨_, by rw [if_neg (by decide), if_neg (by decide), if_pos (show nI 2 = 2 from rfl)], congrArg some (i64_ext (fun i hi => ?_))⟩
    rw [cutR v _ (w := 32) (by omega) (by omega) (by decide) hi, Int32.toBitVec_toInt64, Int64.toBitVec_toInt32]
    simp only [BitVec.getLsbD_signExtend, BitVec.msb_eq_getLsbD_last]
    by_cases c : i < 32
    · simp [c, hi]
    · simp [c, hi]
  · refine ⟨_, by rw [if_neg (by decide), if_neg (by decide), if_neg (by decide)], congrArg some (i64_ext (fun i hi => ?_))⟩
    rw [cutR v _ (w := 64) (by omega) (by omega) (by decide) hi, if_pos hi]
theorem s_write (fu : Nat) (hf : 2000 ≤ fu) {x : Nat → Ob} {o : Ob} (h : Rel x o) (v1 v2 : Int32) (v3 : Int64) : ∃ r y t, p_X9_write fu x v1 v2 v3 = some (r, y) ∧ p_X10_write fu o v1 v2 v3 = some (r, t) ∧ Rel y t := by
  unfold p_X9_write p_X10_write
  rw [e_isSlot, Option.bind_some]
  rcases e_rowOf fu x v1 with ⟨e1, e2⟩ | ⟨k, hk, rfl, e1, e2⟩
  · rw [e1, Option.bind_some]
    simp only [e2, Option.bind_some, ↓reduceIte, if_true, if_false, Nat.reduceEqDiff, Nat.reduceAdd, Nat.reduceMul, Nat.reduceLT, Nat.reduceLeDiff, oCase]
    exact ⟨_, _, _, rfl, rfl, h⟩
  · rw [e1, Option.bind_some]
    simp (disch := omega) only [e2, Option.bind_some, ↓reduceIte, if_true, if_false, Nat.reduceEqDiff, Nat.reduceAdd, Nat.reduceMul, Nat.reduceLT, Nat.reduceLeDiff, inb_nI, inb_lit, cl_nI, cl_lit, nI_add, add_nl, add_ln, mul_ln, pk_mul, le_nn, lt_nn, eq_nn, le_nl, lt_nl, eq_nl, le_ln, lt_ln, eq_ln, eq_ll, lt_ll, le_ll, eq_nm1, eq_nm2, eq_nm3, eq_nm4, oCase, if_pos hk]
    rcases h.2.2.2.2.2 k hk with ⟨a1, a2⟩ | ⟨a1, n, b, hn, hb, a2, a3, a4, a5, a6⟩
    · simp only [a1, a2, Option.bind_some, ↓reduceIte, if_true, if_false, Nat.reduceEqDiff, Nat.reduceAdd, Nat.reduceMul, Nat.reduceLT, Nat.reduceLeDiff]
      exact ⟨_, _, _, rfl, rfl, h⟩
    · obtain ⟨c, c1, c2⟩ := e_cut fu v3 hb
      simp (disch := omega) only [a1, a2, a3, a4, a5, inb_nI, inb_lit, cl_nI, cl_lit, nI_add, add_nl, add_ln, mul_ln, pk_mul, le_nn, lt_nn, eq_nn, le_nl, lt_nl, eq_nl, le_ln, lt_ln, eq_ln, eq_ll, lt_ll, le_ll, eq_nm1, eq_nm2, eq_nm3, eq_nm4, Option.bind_some, ↓reduceIte, if_true, if_false, Nat.reduceEqDiff, Nat.reduceAdd, Nat.reduceMul, Nat.reduceLT, Nat.reduceLeDiff, e_inp, c1, c2]
      rcases pk_ix v2 (n := n) (by omega) with g | g | ⟨i, hi, rfl⟩
      · simp only [g, ixq, Option.bind_some, ↓reduceIte, if_true, if_false, Nat.reduceEqDiff, Nat.reduceAdd, Nat.reduceMul, Nat.reduceLT, Nat.reduceLeDiff]
        exact ⟨_, _, _, rfl, rfl, h⟩
      · have g' : ¬ v2 < nI n := Int32.not_lt.mpr g
        simp only [g', ixq, g, Option.bind_some, ↓reduceIte, if_true, if_false, Nat.reduceEqDiff, Nat.reduceAdd, Nat.reduceMul, Nat.reduceLT, Nat.reduceLeDiff]
        refine ⟨-7, x, o, ?_, ?_, h⟩
        · split <;> rfl
        · split <;> rfl
      · have est : p_X3_store fu (x (14 + k)) (nI i) c = some (oLA (x (14 + k)) 3 (vp_updL ((x (14 + k)).2 3) i c)) := by
          unfold p_X3_store
          simp (disch := omega) only [inb_nI, inb_lit, cl_nI, cl_lit, nI_add, add_nl, add_ln, mul_ln, pk_mul, le_nn, lt_nn, eq_nn, le_nl, lt_nl, eq_nl, le_ln, lt_ln, eq_ln, eq_ll, lt_ll, le_ll, eq_nm1, eq_nm2, eq_nm3, eq_nm4, Option.bind_some, ↓reduceIte, if_true, if_false, Nat.reduceEqDiff, Nat.reduceAdd, Nat.reduceMul, Nat.reduceLT, Nat.reduceLeDiff, if_neg (show ¬ i < 0 by omega), if_neg (show ¬ 60 ≤ i by omega)]
        simp (disch := omega) only [inb_nI, inb_lit, cl_nI, cl_lit, nI_add, add_nl, add_ln, mul_ln, pk_mul, le_nn, lt_nn, eq_nn, le_nl, lt_nl, eq_nl, le_ln, lt_ln, eq_ln, eq_ll, lt_ll, le_ll, eq_nm1, eq_nm2, eq_nm3, eq_nm4, Option.bind_some, ↓reduceIte, if_true, if_false, Nat.reduceEqDiff, Nat.reduceAdd, Nat.reduceMul, Nat.reduceLT, Nat.reduceLeDiff, ixq_nI hi (by omega), if_neg (show ¬ i < 0 by omega), if_pos hi, est]
        refine ⟨0, _, oLA o 40 (vp_updL (o.2 40) (60 * k + i) c), rfl, rfl, h.slot hk (FR.rf.LA (by decide) _) (fun j hj hjk => ⟨rfl, rfl, fun q hq => ?_⟩) ⟨a1, n, b, hn, hb, a2, a3, a4, a5, fun q hq => ?_⟩⟩
        · rw [oLA_2, if_pos rfl, updL_v, if_neg (by omega)]
        · rw [oLA_2, if_pos rfl, oLA_2, if_pos rfl, updL_v, updL_v]
          by_cases g : q = i
          · rw [if_pos g, if_pos (by omega)]
          · rw [if_neg g, if_neg (by omega)]; exact a6 q hq
