theorem e_J173 (fu : Nat) (P : PP) (h : OKP P) (D : Ob) (g : GP P D) {m : Nat} (hm : m < 61) (v6 v7 : Int32) (h7 : v7 = -1 ∨ ∃ t, t < nR P.1 ∧ v7 = nI t) {c : Ob → Int32 → Int32 → Int32 → Option Ob} :
    p_X10_goStick_J173 fu c D (nI m) v6 v7 = if m = 60 then some (oI (oI (oI D 24 (D.1 24 0 + 1)) 25 (if v6 = -1 then D.1 25 0 else D.1 25 0 + 1)) 26 (if v6 = -1 then D.1 26 0 else D.1 26 0 ||| ((1 : Int32) <<< (v6 &&& 31)))) else c (oA (oI (oI (oI D 24 (D.1 24 0 + 1)) 25 (if v6 = -1 then D.1 25 0 else D.1 25 0 + 1)) 26 (if v6 = -1 then D.1 26 0 else D.1 26 0 ||| ((1 : Int32) <<< (v6 &&& 31)))) 23 (upd (D.1 23) (m + 1) 1)) (ent P v7) 0 (nI (m + 1)) := by
  have hR := h.1.2.1.1
  have key : ∀ (E : Ob) (s1 s2 : Int32), E.1 21 = D.1 21 → E.1 23 = D.1 23 → p_X10_goStick_J224 fu c E (nI m) v7 s1 s2 = if m = 60 then some (oI E 26 (s1 ||| s2)) else c (oA (oI E 26 (s1 ||| s2)) 23 (upd (D.1 23) (m + 1) 1)) (ent P v7) 0 (nI (m + 1)) := by
    intro E s1 s2 h21 h23
    unfold p_X10_goStick_J224
    by_cases c6 : m = 60
    · subst c6
      simp (disch := omega) only [inb_nI, inb_lit, cl_nI, cl_lit, nI_add, add_nl, add_ln, mul_ln, pk_mul, le_nn, lt_nn, eq_nn, le_nl, lt_nl, eq_nl, le_ln, lt_ln, eq_ln, eq_ll, lt_ll, le_ll, eq_nm1, eq_nm2, eq_nm3, eq_nm4, Option.bind_some, ↓reduceIte, if_true, if_false, Nat.reduceEqDiff, Nat.reduceAdd, Nat.reduceMul, Nat.reduceLT, Nat.reduceLeDiff]
    · simp (disch := omega) only [inb_nI, inb_lit, cl_nI, cl_lit, nI_add, add_nl, add_ln, mul_ln, pk_mul, le_nn, lt_nn, eq_nn, le_nl, lt_nl, eq_nl, le_ln, lt_ln, eq_ln, eq_ll, lt_ll, le_ll, eq_nm1, eq_nm2, eq_nm3, eq_nm4, Option.bind_some, ↓reduceIte, if_true, if_false, Nat.reduceEqDiff, Nat.reduceAdd, Nat.reduceMul, Nat.reduceLT, Nat.reduceLeDiff, c6, oA_1, oI_1, oLA_1, oL_1, oA_2, oI_2, oLA_2, oL_2, up_v, upd_v, updL_v, nar1, h21, h23]
      unfold ent
      rcases h7 with rfl | ⟨t, ht, rfl⟩
      · simp only [Option.bind_some, ↓reduceIte, if_true, if_false, Nat.reduceEqDiff, Nat.reduceAdd, Nat.reduceMul, Nat.reduceLT, Nat.reduceLeDiff]
      · simp (disch := omega) only [inb_nI, inb_lit, cl_nI, cl_lit, nI_add, add_nl, add_ln, mul_ln, pk_mul, le_nn, lt_nn, eq_nn, le_nl, lt_nl, eq_nl, le_ln, lt_ln, eq_ln, eq_ll, lt_ll, le_ll, eq_nm1, eq_nm2, eq_nm3, eq_nm4, Option.bind_some, ↓reduceIte, if_true, if_false, Nat.reduceEqDiff, Nat.reduceAdd, Nat.reduceMul, Nat.reduceLT, Nat.reduceLeDiff, e_rbit, g.2.2.2.2]
        cases hb : bq P.2.2.2.2.2 t
        · simp only [Option.bind_some, ↓reduceIte, if_true, if_false, Nat.reduceEqDiff, Nat.reduceAdd, Nat.reduceMul, Nat.reduceLT, Nat.reduceLeDiff, Bool.false_eq_true]
          simp (disch := omega) only [inb_nI, inb_lit, cl_nI, cl_lit, nI_add, add_nl, add_ln, mul_ln, pk_mul, le_nn, lt_nn, eq_nn, le_nl, lt_nl, eq_nl, le_ln, lt_ln, eq_ln, eq_ll, lt_ll, le_ll, eq_nm1, eq_nm2, eq_nm3, eq_nm4, Option.bind_some, ↓reduceIte, if_true, if_false, Nat.reduceEqDiff, Nat.reduceAdd, Nat.reduceMul, Nat.reduceLT, Nat.reduceLeDiff]
        · simp only [Option.bind_some, ↓reduceIte, if_true, if_false, Nat.reduceEqDiff, Nat.reduceAdd, Nat.reduceMul, Nat.reduceLT, Nat.reduceLeDiff]
  unfold p_X10_goStick_J173
  by_cases c6 : v6 = -1
  · rw [if_pos c6]
    unfold p_X10_goStick_J201
    rw [if_pos c6, key _ _ _ (by simp only [oA_1, oI_1, oLA_1, oL_1, oA_2, oI_2, oLA_2, oL_2, up_v, upd_v, updL_v, Option.bind_some, ↓reduceIte, if_true, if_false, Nat.reduceEqDiff, Nat.reduceAdd, Nat.reduceMul, Nat.reduceLT, Nat.reduceLeDiff]) (by simp only [oA_1, oI_1, oLA_1, oL_1, oA_2, oI_2, oLA_2, oL_2, up_v, upd_v, updL_v, Option.bind_some, ↓reduceIte, if_true, if_false, Nat.reduceEqDiff, Nat.reduceAdd, Nat.reduceMul, Nat.reduceLT, Nat.reduceLeDiff])]
    simp only [oA_1, oI_1, oLA_1, oL_1, oA_2, oI_2, oLA_2, oL_2, up_v, upd_v, updL_v, Option.bind_some, ↓reduceIte, if_true, if_false, Nat.reduceEqDiff, Nat.reduceAdd, Nat.reduceMul, Nat.reduceLT, Nat.reduceLeDiff, c6, Int32.add_zero, Int32.or_zero]
  · rw [if_neg c6]
    unfold p_X10_goStick_J201
    rw [if_neg c6, key _ _ _ (by simp only [oA_1, oI_1, oLA_1, oL_1, oA_2, oI_2, oLA_2, oL_2, up_v, upd_v, updL_v, Option.bind_some, ↓reduceIte, if_true, if_false, Nat.reduceEqDiff, Nat.reduceAdd, Nat.reduceMul, Nat.reduceLT, Nat.reduceLeDiff]) (by simp only [oA_1, oI_1, oLA_1, oL_1, oA_2, oI_2, oLA_2, oL_2, up_v, upd_v, updL_v, Option.bind_some, ↓reduceIte, if_true, if_false, Nat.reduceEqDiff, Nat.reduceAdd, Nat.reduceMul, Nat.reduceLT, Nat.reduceLeDiff])]
    simp only [oA_1, oI_1, oLA_1, oL_1, oA_2, oI_2, oLA_2, oL_2, up_v, upd_v, updL_v, Option.bind_some, ↓reduceIte, if_true, if_false, Nat.reduceEqDiff, Nat.reduceAdd, Nat.reduceMul, Nat.reduceLT, Nat.reduceLeDiff, c6]
theorem e_go88 (fu : Nat) (hf : 2000 ≤ fu) (P : PP) (h : OKP P) {r s : Nat} (hr : r < nR P.1) (hs : s < 61) (o : Ob) (g : GP P o) (t0 : Ob) (hI : GI P r s o 0 (t0, st0 P r, 0)) :
    ∃ t, p_X10_goStick_L88 fu fu t0 (st0 P r) 0 (nI s) = some t ∧ FR [22, 23, 24, 25, 26] o t ∧ GSt P r s t := by
  refine loop_inv (fun n k t => p_X10_goStick_L88 fu n t.1 t.2.1 t.2.2 (nI (s + k))) (61 - s) (GI P r s o) (fun t => FR [22, 23, 24, 25, 26] o t ∧ GSt P r s t) ?_ ?_ fu 0 (t0, st0 P r, 0) (Nat.zero_le _) (by omega) hI
  · rintro n t ht
    refine ⟨t.1, ?_, ht.end hs⟩
    show p_X10_goStick_L88 fu (n + 1) t.1 t.2.1 t.2.2 (nI (s + (61 - s))) = _
    rw [p_X10_goStick_L88, show s + (61 - s) = 61 by omega]
    simp (disch := omega) only [inb_nI, inb_lit, cl_nI, cl_lit, nI_add, add_nl, add_ln, mul_ln, pk_mul, le_nn, lt_nn, eq_nn, le_nl, lt_nl, eq_nl, le_ln, lt_ln, eq_ln, eq_ll, lt_ll, le_ll, eq_nm1, eq_nm2, eq_nm3, eq_nm4, Option.bind_some, ↓reduceIte, if_true, if_false, Nat.reduceEqDiff, Nat.reduceAdd, Nat.reduceMul, Nat.reduceLT, Nat.reduceLeDiff]
  · rintro n k ⟨t, v3, v4⟩ hk hI
    have hI0 := hI
    obtain ⟨F, h0, -, -, h23, h24, h25, h26⟩ := hI
    have gt : GP P t := g.kp F (by decide) (by decide) (by decide) (by decide) (by decide) (by decide)
    have e3 : v3 = (pth P r s k).1 := congrArg Prod.fst h0
    have e4 : v4 = (pth P r s k).2 := congrArg Prod.snd h0
    have hp := pth_ok P h hr s k
    have hR10 := h.1.2.1.1
    have hps : pth P r s (k + 1) = stp P (s + k) (pth P r s k) := rfl
    show (∃ r', p_X10_goStick_L88 fu (n + 1) t v3 v4 (nI (s + k)) = some r' ∧ _) ∨ (∃ s' : Ob × Int32 × Int32, p_X10_goStick_L88 fu (n + 1) t v3 v4 (nI (s + k)) = p_X10_goStick_L88 fu n s'.1 s'.2.1 s'.2.2 (nI (s + (k + 1))) ∧ _)
    rw [p_X10_goStick_L88]
    simp (disch := omega) only [inb_nI, inb_lit, cl_nI, cl_lit, nI_add, add_nl, add_ln, mul_ln, pk_mul, le_nn, lt_nn, eq_nn, le_nl, lt_nl, eq_nl, le_ln, lt_ln, eq_ln, eq_ll, lt_ll, le_ll, eq_nm1, eq_nm2, eq_nm3, eq_nm4, Option.bind_some, ↓reduceIte, if_true, if_false, Nat.reduceEqDiff, Nat.reduceAdd, Nat.reduceMul, Nat.reduceLT, Nat.reduceLeDiff, if_neg (show ¬ 60 < s + k by omega)]
    rcases spo_neg h hp.1 with ⟨hneg, -⟩ | ⟨q, hq, hq10, eq⟩
    · right
      refine ⟨(_, v3, v4), ?_, hI0.stay (by omega) ?_ ?_⟩
      · rw [if_pos (by rw [e3]; exact hneg)]
        rfl
      · simp [lvs, hneg]
      · rw [hps, stp, if_pos hneg, e3, e4]
    · have hq0 : ¬ (pth P r s k).1 < 0 := by rw [eq]; simp (disch := omega) only [inb_nI, inb_lit, cl_nI, cl_lit, nI_add, add_nl, add_ln, mul_ln, pk_mul, le_nn, lt_nn, eq_nn, le_nl, lt_nl, eq_nl, le_ln, lt_ln, eq_ln, eq_ll, lt_ll, le_ll, eq_nm1, eq_nm2, eq_nm3, eq_nm4, Nat.not_lt_zero, not_false_eq_true]
      have g1 : (oA t 22 (upd (t.1 22) (s + k) v3)).1 1 = P.1 := by simp only [oA_1, oI_1, oLA_1, oL_1, oA_2, oI_2, oLA_2, oL_2, up_v, upd_v, updL_v, Option.bind_some, ↓reduceIte, if_true, if_false, Nat.reduceEqDiff, Nat.reduceAdd, Nat.reduceMul, Nat.reduceLT, Nat.reduceLeDiff]; exact gt.1
      have g17 : (oA t 22 (upd (t.1 22) (s + k) v3)).1 17 (s + k) = stq P.1 (P.2.2.2.1 (s + k)) (nR P.1) := by simp only [oA_1, oI_1, oLA_1, oL_1, oA_2, oI_2, oLA_2, oL_2, up_v, upd_v, updL_v, Option.bind_some, ↓reduceIte, if_true, if_false, Nat.reduceEqDiff, Nat.reduceAdd, Nat.reduceMul, Nat.reduceLT, Nat.reduceLeDiff]; exact gt.2.2.1 (s + k) (by omega)
      have hst : bq (stq P.1 (P.2.2.2.1 (s + k)) (nR P.1)) q = stds P (s + k) (nI q) := by
        rw [bq_stq P.1 _ q (by omega) _ (by omega), stds, cl_nI (by omega)]
        simp [hq]
      have e3' : v3 = nI q := e3.trans eq
      subst e3'
      rw [if_neg (by rw [e3]; exact hq0), g17, e_rbit fu _ (by omega), Option.bind_some, hst]
      by_cases c1 : stds P (s + k) (nI q) = true
      · right
        refine ⟨(_, nI q, v4), ?_, hI0.stay (by omega) ?_ ?_⟩
        · rw [if_pos c1, if_pos rfl]
          rfl
        · rw [lvs, eq, c1]; simp
        · rw [hps, stp, if_neg hq0, eq, if_pos c1, ← eq, e4]
      · rw [if_neg c1, if_neg (by decide), e_of1 fu _ hq10, Option.bind_some, g1]
        by_cases c2 : v4 + 1 < wK P.1 q
        · right
          refine ⟨(_, nI q, v4 + 1), ?_, hI0.stay (by omega) ?_ ?_⟩
          · rw [if_neg (Int32.not_le.mpr c2)]
            rfl
          · rw [lvs, eq, cl_nI (by omega), ← e4]; simp [c2]
          · rw [hps, stp, if_neg hq0, eq, if_neg c1, cl_nI (by omega), ← e4, if_pos c2]
        · have hl : lvs P (s + k) (pth P r s k) = true := by
            rw [lvs, eq, cl_nI (by omega), ← e4]
            simp (disch := omega) only [inb_nI, inb_lit, cl_nI, cl_lit, nI_add, add_nl, add_ln, mul_ln, pk_mul, le_nn, lt_nn, eq_nn, le_nl, lt_nl, eq_nl, le_ln, lt_ln, eq_ln, eq_ll, lt_ll, le_ll, eq_nm1, eq_nm2, eq_nm3, eq_nm4]
            simp [c1, c2]
          have hpk : pth P r s (k + 1) = (ent P (dst P (nI q) (s + k)), 0) := by
            rw [hps, stp, if_neg hq0, eq, if_neg c1, cl_nI (by omega), ← e4, if_neg c2]
          have gt' : GP P (oA t 22 (upd (t.1 22) (s + k) (nI q))) := gt.kp (FR.rf.A (fs := [22]) (by decide) _) (by decide) (by decide) (by decide) (by decide) (by decide) (by decide)
          have key : (if fJ P (nI q) (s + k) = -1 then (p_X10_of fu (oA t 22 (upd (t.1 22) (s + k) (nI q))) (nI q) 0).bind fun r_160 => p_X10_goStick_J173 fu (fun oz v3 v4 v5 => p_X10_goStick_L88 fu n oz v3 v4 v5) (oA t 22 (upd (t.1 22) (s + k) (nI q))) (nI (s + k)) (fJ P (nI q) (s + k)) r_160 else (p_X10_ofJoin fu (oA t 22 (upd (t.1 22) (s + k) (nI q))) (fJ P (nI q) (s + k)) 1).bind fun r_170 => p_X10_goStick_J173 fu (fun oz v3 v4 v5 => p_X10_goStick_L88 fu n oz v3 v4 v5) (oA t 22 (upd (t.1 22) (s + k) (nI q))) (nI (s + k)) (fJ P (nI q) (s + k)) r_170) = p_X10_goStick_J173 fu (fun oz v3 v4 v5 => p_X10_goStick_L88 fu n oz v3 v4 v5) (oA t 22 (upd (t.1 22) (s + k) (nI q))) (nI (s + k)) (fJ P (nI q) (s + k)) (dst P (nI q) (s + k)) := by
            unfold dst
            rcases fJ_or P h (nI q) (s + k) with e | ⟨j, hj, hj5, e⟩
            · rw [e, if_pos rfl, if_pos rfl, e_of0 fu _ hq10, Option.bind_some, g1, cl_nI (by omega)]
            · rw [e, if_neg (by simp (disch := omega) only [eq_nm1, not_false_eq_true]), if_neg (by simp (disch := omega) only [eq_nm1, not_false_eq_true]), e_oj1 fu _ hj5, Option.bind_some, g1, cl_nI (by omega)]
          rw [if_pos (Int32.not_lt.mp c2), e_joinFrom fu hf P h _ gt' (nI q) (s + k), Option.bind_some, key, e_J173 fu P h _ gt' (by omega) _ _ (dst_ok P h hq (s + k))]
          have d24 : (oA t 22 (upd (t.1 22) (s + k) (nI q))).1 24 0 = aDep P r s k := by simp only [oA_1, oI_1, oLA_1, oL_1, oA_2, oI_2, oLA_2, oL_2, up_v, upd_v, updL_v, Option.bind_some, ↓reduceIte, if_true, if_false, Nat.reduceEqDiff, Nat.reduceAdd, Nat.reduceMul, Nat.reduceLT, Nat.reduceLeDiff]; exact h24
          have d25 : (oA t 22 (upd (t.1 22) (s + k) (nI q))).1 25 0 = aJm P r s k := by simp only [oA_1, oI_1, oLA_1, oL_1, oA_2, oI_2, oLA_2, oL_2, up_v, upd_v, updL_v, Option.bind_some, ↓reduceIte, if_true, if_false, Nat.reduceEqDiff, Nat.reduceAdd, Nat.reduceMul, Nat.reduceLT, Nat.reduceLeDiff]; exact h25
          have d26 : (oA t 22 (upd (t.1 22) (s + k) (nI q))).1 26 0 = aJs P r s k := by simp only [oA_1, oI_1, oLA_1, oL_1, oA_2, oI_2, oLA_2, oL_2, up_v, upd_v, updL_v, Option.bind_some, ↓reduceIte, if_true, if_false, Nat.reduceEqDiff, Nat.reduceAdd, Nat.reduceMul, Nat.reduceLT, Nat.reduceLeDiff]; exact h26
          have d23 : (oA t 22 (upd (t.1 22) (s + k) (nI q))).1 23 = t.1 23 := by simp only [oA_1, oI_1, oLA_1, oL_1, oA_2, oI_2, oLA_2, oL_2, up_v, upd_v, updL_v, Option.bind_some, ↓reduceIte, if_true, if_false, Nat.reduceEqDiff, Nat.reduceAdd, Nat.reduceMul, Nat.reduceLT, Nat.reduceLeDiff]
          have js : (if fJ P (nI q) (s + k) = -1 then aJs P r s k else aJs P r s k ||| ((1 : Int32) <<< (fJ P (nI q) (s + k) &&& 31))) = if fJ P (pth P r s k).1 (s + k) = -1 then aJs P r s k else aJs P r s k ||| b1 (fJ P (pth P r s k).1 (s + k)).toNatClampNeg := by
            rw [eq]
            rcases fJ_or P h (nI q) (s + k) with e | ⟨j, hj, hj5, e⟩
            · rw [e, if_pos rfl, if_pos rfl]
            · rw [e, if_neg (by simp (disch := omega) only [eq_nm1, not_false_eq_true]), if_neg (by simp (disch := omega) only [eq_nm1, not_false_eq_true]), cl_nI (by omega)]
              rfl
          have jm : (if fJ P (nI q) (s + k) = -1 then aJm P r s k else aJm P r s k + 1) = if fJ P (pth P r s k).1 (s + k) = -1 then aJm P r s k else aJm P r s k + 1 := by rw [eq]
          rw [d24, d25, d26, d23]
          by_cases c6 : s + k = 60
          · left
            rw [if_pos c6]
            exact ⟨_, rfl, hI0.last c6 hl jm js⟩
          · right
            rw [if_neg c6]
            exact ⟨(_, ent P (dst P (nI q) (s + k)), 0), rfl, hI0.go (by omega) hl hpk jm js⟩
theorem e_goStick (fu : Nat) (hf : 2000 ≤ fu) (P : PP) (h : OKP P) {r s : Nat} (hr : r < nR P.1) (hs : s < 61) (o : Ob) (g : GP P o) :
    ∃ t, p_X10_goStick fu o (nI r) (nI s) = some t ∧ FR [22, 23, 24, 25, 26] o t ∧ GSt P r s t := by
  have hR := h.1.2.1.1
  unfold p_X10_goStick
  rw [g.2.2.2.2, e_rbit fu _ (show r < 32 by omega), Option.bind_some]
  have key : ∃ t, p_X10_goStick_J18 fu o (nI s) (st0 P r) = some t ∧ FR [22, 23, 24, 25, 26] o t ∧ GSt P r s t := by
    unfold p_X10_goStick_J18
    obtain ⟨s1, e1, F1, i1⟩ := loop_to (fun n i t => p_X10_goStick_L40 fu (fun oz v2 v3 v4 => p_X10_goStick_L64 fu (fun oz v2 v3 v4 => p_X10_goStick_L88 fu fu oz v3 v4 v2) fu oz v2 v3 v4 0) n t (nI s) (st0 P r) 0 (nI i)) 61 (fun i t => FR [22, 23, 24, 25, 26] o t ∧ (∀ k, k < i → t.1 23 k = 0) ∧ t.1 24 0 = 0 ∧ t.1 25 0 = 0 ∧ t.1 26 0 = 0) (fun t => p_X10_goStick_L64 fu (fun oz v2 v3 v4 => p_X10_goStick_L88 fu fu oz v3 v4 v2) fu t (nI s) (st0 P r) 0 0) (by
      rintro n t -
      show p_X10_goStick_L40 fu _ (n + 1) t (nI s) (st0 P r) 0 (nI 61) = _
      rw [p_X10_goStick_L40]
      simp (disch := omega) only [inb_nI, inb_lit, cl_nI, cl_lit, nI_add, add_nl, add_ln, mul_ln, pk_mul, le_nn, lt_nn, eq_nn, le_nl, lt_nl, eq_nl, le_ln, lt_ln, eq_ln, eq_ll, lt_ll, le_ll, eq_nm1, eq_nm2, eq_nm3, eq_nm4, Option.bind_some, ↓reduceIte, if_true, if_false, Nat.reduceEqDiff, Nat.reduceAdd, Nat.reduceMul, Nat.reduceLT, Nat.reduceLeDiff]) (by
      rintro n i t hi ⟨F, h1, h2⟩
      refine ⟨oA t 23 (upd (t.1 23) i 0), ?_, F.A (by decide) _, ?_, ?_⟩
      · show p_X10_goStick_L40 fu _ (n + 1) t (nI s) (st0 P r) 0 (nI i) = p_X10_goStick_L40 fu _ n _ (nI s) (st0 P r) 0 (nI (i + 1))
        rw [p_X10_goStick_L40]
        simp (disch := omega) only [inb_nI, inb_lit, cl_nI, cl_lit, nI_add, add_nl, add_ln, mul_ln, pk_mul, le_nn, lt_nn, eq_nn, le_nl, lt_nl, eq_nl, le_ln, lt_ln, eq_ln, eq_ll, lt_ll, le_ll, eq_nm1, eq_nm2, eq_nm3, eq_nm4, Option.bind_some, ↓reduceIte, if_true, if_false, Nat.reduceEqDiff, Nat.reduceAdd, Nat.reduceMul, Nat.reduceLT, Nat.reduceLeDiff, nar0, if_neg (show ¬ 60 < i by omega)]
      · intro k hk
        simp only [oA_1, oI_1, oLA_1, oL_1, oA_2, oI_2, oLA_2, oL_2, up_v, upd_v, updL_v, Option.bind_some, ↓reduceIte, if_true, if_false, Nat.reduceEqDiff, Nat.reduceAdd, Nat.reduceMul, Nat.reduceLT, Nat.reduceLeDiff]
        split
        · rfl
        · exact h1 k (by omega)
      · simp only [oA_1, oI_1, oLA_1, oL_1, oA_2, oI_2, oLA_2, oL_2, up_v, upd_v, updL_v, Option.bind_some, ↓reduceIte, if_true, if_false, Nat.reduceEqDiff, Nat.reduceAdd, Nat.reduceMul, Nat.reduceLT, Nat.reduceLeDiff]; exact h2) fu 0 (oI (oI (oI o 24 (0 : Int32)) 25 (0 : Int32)) 26 (0 : Int32)) (Nat.zero_le _) (by omega) ⟨((FR.rf.I (by decide) _).I (by decide) _).I (by decide) _, fun k hk => by omega, rfl, rfl, rfl⟩
    obtain ⟨s2, e2, F2, i2⟩ := loop_to (fun n i t => p_X10_goStick_L64 fu (fun oz v2 v3 v4 => p_X10_goStick_L88 fu fu oz v3 v4 v2) n t (nI s) (st0 P r) 0 (nI i)) s (fun i t => FR [22] s1 t ∧ (∀ k, k < i → t.1 22 k = -4)) (fun t => p_X10_goStick_L88 fu fu t (st0 P r) 0 (nI s)) (by
      rintro n t -
      show p_X10_goStick_L64 fu _ (n + 1) t (nI s) (st0 P r) 0 (nI s) = _
      rw [p_X10_goStick_L64]
      simp (disch := omega) only [inb_nI, inb_lit, cl_nI, cl_lit, nI_add, add_nl, add_ln, mul_ln, pk_mul, le_nn, lt_nn, eq_nn, le_nl, lt_nl, eq_nl, le_ln, lt_ln, eq_ln, eq_ll, lt_ll, le_ll, eq_nm1, eq_nm2, eq_nm3, eq_nm4, Option.bind_some, ↓reduceIte, if_true, if_false, Nat.reduceEqDiff, Nat.reduceAdd, Nat.reduceMul, Nat.reduceLT, Nat.reduceLeDiff, Nat.le_refl]) (by
      rintro n i t hi ⟨F, h1⟩
      refine ⟨oA t 22 (upd (t.1 22) i (-4)), ?_, F.A (by decide) _, ?_⟩
      · show p_X10_goStick_L64 fu _ (n + 1) t (nI s) (st0 P r) 0 (nI i) = p_X10_goStick_L64 fu _ n _ (nI s) (st0 P r) 0 (nI (i + 1))
        rw [p_X10_goStick_L64]
        simp (disch := omega) only [inb_nI, inb_lit, cl_nI, cl_lit, nI_add, add_nl, add_ln, mul_ln, pk_mul, le_nn, lt_nn, eq_nn, le_nl, lt_nl, eq_nl, le_ln, lt_ln, eq_ln, eq_ll, lt_ll, le_ll, eq_nm1, eq_nm2, eq_nm3, eq_nm4, Option.bind_some, ↓reduceIte, if_true, if_false, Nat.reduceEqDiff, Nat.reduceAdd, Nat.reduceMul, Nat.reduceLT, Nat.reduceLeDiff, if_neg (show ¬ s ≤ i by omega)]
      · intro k hk
        simp only [oA_1, oI_1, oLA_1, oL_1, oA_2, oI_2, oLA_2, oL_2, up_v, upd_v, updL_v, Option.bind_some, ↓reduceIte, if_true, if_false, Nat.reduceEqDiff, Nat.reduceAdd, Nat.reduceMul, Nat.reduceLT, Nat.reduceLeDiff]
        split
        · rfl
        · exact h1 k (by omega)) fu 0 s1 (Nat.zero_le _) (by omega) ⟨FR.rf, fun k hk => by omega⟩
    have F12 : FR [22, 23, 24, 25, 26] o s2 := F1.tr (F2.mono (by decide))
    obtain ⟨t, e3, F3, G⟩ := e_go88 fu hf P h hr hs o g s2 ⟨F12, rfl, i2, fun q hq => by omega, fun q hq => by
      show s2.1 23 (s + q) = _
      rw [F2.f1 23 (by decide), i1.1 (s + q) (by omega)]
      by_cases c : q = 0
      · subst c; simp [arr]
      · simp [c], by
      show s2.1 24 0 = _
      rw [F2.f1 24 (by decide)]; exact i1.2.1, by
      show s2.1 25 0 = _
      rw [F2.f1 25 (by decide)]; exact i1.2.2.1, by
      show s2.1 26 0 = _
      rw [F2.f1 26 (by decide)]; exact i1.2.2.2⟩
    exact ⟨t, by rw [show p_X10_goStick_L40 fu _ fu _ (nI s) (st0 P r) 0 0 = _ from e1]; exact e2.trans e3, F3, G⟩
  by_cases c : bq P.2.2.2.2.2 r = true
  · rw [if_pos c, if_pos rfl]
    have e : st0 P r = -3 := if_pos c
    rw [e] at key
    exact key
  · rw [if_neg c, if_neg (by decide)]
    have e : st0 P r = nI r := if_neg c
    rw [e] at key
    exact key
