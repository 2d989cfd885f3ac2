theorem e_addAct (fu : Nat) (o : Ob) {a : Nat} (ha : a < 30) (e : o.1 16 0 = nI a) (v1 v2 v3 : Int32) : ∃ s, p_X2_addAct fu o v1 v2 v3 = some s ∧ FR [16, 17, 18, 19] o s ∧ s.1 16 0 = nI (a + 1) ∧ (∀ k, s.1 17 k = if k = a then v1 else o.1 17 k) ∧ (∀ k, s.1 18 k = if k = a then v2 else o.1 18 k) ∧ (∀ k, s.1 19 k = if k = a then v3 else o.1 19 k) := by
  unfold p_X2_addAct
  simp (disch := omega) only [e, e_put, Option.bind_some, oA_1, oI_1, oLA_1, oL_1, oA_2, oI_2, oLA_2, oL_2, up_v, upd_v, updL_v, Option.bind_some, ↓reduceIte, if_true, if_false, Nat.reduceEqDiff, Nat.reduceAdd, Nat.reduceMul, Nat.reduceLT, Nat.reduceLeDiff, inb_nI, inb_lit, cl_nI, cl_lit, nI_add, add_nl, add_ln, mul_ln, pk_mul, le_nn, lt_nn, eq_nn, le_nl, lt_nl, eq_nl, le_ln, lt_ln, eq_ln, eq_ll, lt_ll, le_ll, eq_nm1, eq_nm2, eq_nm3, eq_nm4]
  exact ⟨_, rfl, ((((FR.rf.A (by decide) _).A (by decide) _).A (by decide) _).I (by decide) _), rfl, fun k => rfl, fun k => rfl, fun k => rfl⟩
/-- the reference's world with one act more -/
def wAct (w : Nat → Int32) (a : Nat) (c : Int32) : Nat → Int32 := upd (upd w (68 + a) c) 6 (nI (a + 1))
theorem wAct_s (w : Nat → Int32) (a : Nat) (c : Int32) : SW6 w (wAct w a c) := fun k h1 h2 => by unfold wAct; rw [upd_v, if_neg h2, upd_v, if_neg (by omega)]
theorem wAct_6 (w : Nat → Int32) (a : Nat) (c : Int32) : wAct w a c 6 = nI (a + 1) := by unfold wAct; rw [upd_v, if_pos rfl]
theorem wAct_c (w : Nat → Int32) (a : Nat) (c : Int32) (k : Nat) : wC (wAct w a c) k = if k = a then c else wC w k := by
  unfold wC wAct
  rw [upd_v, if_neg (by omega), upd_v]
  by_cases h : k = a
  · rw [if_pos (by omega), if_pos h]
  · rw [if_neg (by omega), if_neg h]
theorem e_keepAct (fu : Nat) (o : Ob) {a : Nat} (ha : a ≤ 30) (e : o.1 1 6 = nI a) (c : Int32) : p_X10_keepAct fu o c = some (if a = 30 then (-5, o) else (0, oA (oA o 1 (upd (o.1 1) (68 + a) c)) 1 (wAct (o.1 1) a c))) := by
  unfold p_X10_keepAct
  by_cases h : a = 30
  · subst h
    simp (disch := omega) only [inb_nI, inb_lit, cl_nI, cl_lit, nI_add, add_nl, add_ln, mul_ln, pk_mul, le_nn, lt_nn, eq_nn, le_nl, lt_nl, eq_nl, le_ln, lt_ln, eq_ln, eq_ll, lt_ll, le_ll, eq_nm1, eq_nm2, eq_nm3, eq_nm4, Option.bind_some, ↓reduceIte, if_true, if_false, Nat.reduceEqDiff, Nat.reduceAdd, Nat.reduceMul, Nat.reduceLT, Nat.reduceLeDiff, e]
  · simp (disch := omega) only [inb_nI, inb_lit, cl_nI, cl_lit, nI_add, add_nl, add_ln, mul_ln, pk_mul, le_nn, lt_nn, eq_nn, le_nl, lt_nl, eq_nl, le_ln, lt_ln, eq_ln, eq_ll, lt_ll, le_ll, eq_nm1, eq_nm2, eq_nm3, eq_nm4, Option.bind_some, ↓reduceIte, if_true, if_false, Nat.reduceEqDiff, Nat.reduceAdd, Nat.reduceMul, Nat.reduceLT, Nat.reduceLeDiff, e, h, oA_1, oI_1, oLA_1, oL_1, oA_2, oI_2, oLA_2, oL_2, up_v, upd_v, updL_v, if_neg (show ¬ 6 = 68 + a by omega)]
    rfl
/-- one act more on both sides -/
theorem RW.act1 {w : Nat → Int32} {r s : Ob} (h : RW r w) (hA : nA w < 30) (hn : nL w ≠ 0) (F : FR [16, 17, 18, 19] r s) (e16 : s.1 16 0 = nI (nA w + 1)) {v1 v2 v3 c : Int32} (h17 : ∀ k, s.1 17 k = if k = nA w then v1 else r.1 17 k) (h18 : ∀ k, s.1 18 k = if k = nA w then v2 else r.1 18 k) (h19 : ∀ k, s.1 19 k = if k = nA w then v3 else r.1 19 k)
    (hc : actOK w c) (hr : actR v1 v2 v3 c) : RW s (wAct w (nA w) c) := by
  refine h.acts (wAct_s w _ c) F (a := nA w + 1) (by omega) (wAct_6 w _ c) e16 (fun z => absurd z hn) (fun k hk => ?_) (fun k hk => ?_)
  · rw [wAct_c]
    split
    · exact hc
    · exact h.1.2.2.2.2.2.2 k (by omega)
  · rw [wAct_c, h17, h18, h19]
    by_cases g : k = nA w
    · simp only [g, if_true]; exact hr
    · simp only [g, if_false]; exact h.2.2.2.2.2 k (by omega)
theorem join_told {w : Nat → Int32} (h : OKW w) {j : Nat} (hj : j < nJ w) : nL w ≠ 0 := fun z => by
  have := (h.2.2.1.1 z).2.1
  omega
theorem reach_told {w : Nat → Int32} (h : OKW w) {j : Nat} (hj : j < nR w) : nL w ≠ 0 := fun z => by
  have := (h.2.2.1.1 z).1
  omega
theorem s_close (fu : Nat) (hf : 2000 ≤ fu) {x : Nat → Ob} {o : Ob} (h : Rel x o) (v1 v2 : Int32) : ∃ r y t, p_X9_close fu x v1 v2 = some (r, y) ∧ p_X10_close fu o v1 v2 = some (r, t) ∧ Rel y t := by
  have hJ := h.w.2.1.2.1
  have hA := h.w.2.1.2.2.2.1
  have h6 := h.w.1.2.2.2.2.1
  have r16 := h.1.2.1.2.2.2.2.2.2.2
  obtain ⟨s, es, a⟩ := e_asItIs fu hf o h.w
  unfold p_X9_close p_X10_close
  rw [e_cJoin fu h, e_isJoin fu o _ h.w, Option.bind_some, Option.bind_some]
  rcases ixq_of v1 (n := nJ (o.1 1)) (by omega) with ⟨e1, -⟩ | ⟨e1, j, hj, rfl⟩
  · simp only [e1, Option.bind_some, ↓reduceIte, if_true, if_false, Nat.reduceEqDiff, Nat.reduceAdd, Nat.reduceMul, Nat.reduceLT, Nat.reduceLeDiff]
    exact ⟨_, _, _, rfl, rfl, h⟩
  · simp (disch := omega) only [e1, inb_nI, inb_lit, cl_nI, cl_lit, nI_add, add_nl, add_ln, mul_ln, pk_mul, le_nn, lt_nn, eq_nn, le_nl, lt_nl, eq_nl, le_ln, lt_ln, eq_ln, eq_ll, lt_ll, le_ll, eq_nm1, eq_nm2, eq_nm3, eq_nm4, Option.bind_some, ↓reduceIte, if_true, if_false, Nat.reduceEqDiff, Nat.reduceAdd, Nat.reduceMul, Nat.reduceLT, Nat.reduceLeDiff, e_in0 fu v2 (n := 1) (by decide)]
    rcases ixq_of v2 (n := 2) (by omega) with ⟨e2, ho⟩ | ⟨e2, b, hb, rfl⟩
    · simp only [e2, Option.bind_some, ↓reduceIte, if_true, if_false, Nat.reduceEqDiff, Nat.reduceAdd, Nat.reduceMul, Nat.reduceLT, Nat.reduceLeDiff]
      refine ⟨-2, x, o, ?_, rfl, h⟩
      rcases ho with z | z
      · rw [if_pos z]
      · have z1 := Int32.le_iff_toInt_le.mp z
        rw [nI_toInt (by omega)] at z1
        have n1 : ¬ v2 ≤ 1 := by
          rw [Int32.le_iff_toInt_le]
          have : (1 : Int32).toInt = 1 := rfl
          omega
        split
        · rfl
        · first | rfl | rw [if_neg n1]
    · have s6 : s.1 1 6 = nI (nA (o.1 1)) := by rw [a.w]; exact h6
      have s2 : (x 10).1 2 0 = shW (o.1 1) := h.2.1.2.2
      simp (disch := omega) only [e2, inb_nI, inb_lit, cl_nI, cl_lit, nI_add, add_nl, add_ln, mul_ln, pk_mul, le_nn, lt_nn, eq_nn, le_nl, lt_nl, eq_nl, le_ln, lt_ln, eq_ln, eq_ll, lt_ll, le_ll, eq_nm1, eq_nm2, eq_nm3, eq_nm4, Option.bind_some, ↓reduceIte, if_true, if_false, Nat.reduceEqDiff, Nat.reduceAdd, Nat.reduceMul, Nat.reduceLT, Nat.reduceLeDiff, if_neg (show ¬ b < 0 by omega), if_pos (show b ≤ 1 by omega), r16, es, e_rbit, a.2.2.2.2.1, e_keepAct fu s hA s6, e_bit, and_b1, s2]
      by_cases c : nA (o.1 1) = 30
      · simp only [if_pos c, if_neg (show ¬ nA (o.1 1) < 30 by omega)]
        exact ⟨-5, _, _, rfl, by rw [if_neg (by decide)], h.kp KQ.rf a.tf⟩
      · have hc : actOK (o.1 1) (nI (2 * j + b)) := Or.inl ⟨j, b, hj, by omega, rfl⟩
        obtain ⟨u, eu, Fu, u16, u17, u18, u19⟩ := e_addAct fu (x 5) (a := nA (o.1 1)) (by omega) r16 1 (nI j) (nI b)
        have hr : RW u (wAct (o.1 1) (nA (o.1 1)) (nI (2 * j + b))) := h.1.act1 (by omega) (join_told h.w hj) Fu u16 u17 u18 u19 hc (Or.inl ⟨rfl, j, b, by omega, by omega, rfl, rfl, rfl⟩)
        obtain ⟨t, et, ht⟩ := e_settle fu hf (x 10) _ _ hr
        have ew : (oA (oA s 1 (upd (s.1 1) (68 + nA (o.1 1)) (nI (2 * j + b)))) 1 (wAct (s.1 1) (nA (o.1 1)) (nI (2 * j + b)))).1 1 = wAct (o.1 1) (nA (o.1 1)) (nI (2 * j + b)) := by rw [oA_1, if_pos rfl, a.w]
        have hn := h.new (s := oA (oA s 1 (upd (s.1 1) (68 + nA (o.1 1)) (nI (2 * j + b)))) 1 (wAct (s.1 1) (nA (o.1 1)) (nI (2 * j + b)))) (r := u) (t := t) (by rw [ew]; exact hr) (by rw [ew]; exact ht) (((a.tf.mono (by decide)).A (by decide) _).A (by decide) _)
        have key : ∀ v, p_X9_close_J55 fu x (nI j) (nI b) v = some (v, va_up (va_up x 5 u) 10 t) := by
          intro v
          unfold p_X9_close_J55
          have u5 : va_up x 5 u 5 = u := rfl
          have u10 : va_up x 5 u 10 = x 10 := rfl
          rw [eu, Option.bind_some, u5, u10, et, Option.bind_some]
        simp only [if_neg c, if_pos (show nA (o.1 1) < 30 by omega), key]
        cases bq (shW (o.1 1)) j
        · simp only [Option.bind_some, ↓reduceIte, if_true, if_false, Nat.reduceEqDiff, Nat.reduceAdd, Nat.reduceMul, Nat.reduceLT, Nat.reduceLeDiff, Bool.false_eq_true]
          exact ⟨_, _, _, rfl, by rw [if_pos (by decide)], hn⟩
        · simp only [Option.bind_some, ↓reduceIte, if_true, if_false, Nat.reduceEqDiff, Nat.reduceAdd, Nat.reduceMul, Nat.reduceLT, Nat.reduceLeDiff, Bool.true_eq_false]
          exact ⟨_, _, _, rfl, by rw [if_pos (by decide)], hn⟩
theorem s_pours (fu : Nat) (hf : 2000 ≤ fu) {x : Nat → Ob} {o : Ob} (h : Rel x o) (v1 v2 : Int32) : ∃ r y t, p_X9_pours fu x v1 v2 = some (r, y) ∧ p_X10_pours fu o v1 v2 = some (r, t) ∧ Rel y t := by
  have hA := h.w.2.1.2.2.2.1
  have h6 := h.w.1.2.2.2.2.1
  have r16 := h.1.2.1.2.2.2.2.2.2.2
  unfold p_X9_pours p_X10_pours
  rw [e_hasStep fu h, e_isRivers fu o h.w, Option.bind_some, Option.bind_some]
  by_cases c : nL (o.1 1) = 0
  · simp only [c, Option.bind_some, ↓reduceIte, if_true, if_false, Nat.reduceEqDiff, Nat.reduceAdd, Nat.reduceMul, Nat.reduceLT, Nat.reduceLeDiff]
    exact ⟨_, _, _, rfl, rfl, h⟩
  · simp (disch := omega) only [c, Option.bind_some, ↓reduceIte, if_true, if_false, Nat.reduceEqDiff, Nat.reduceAdd, Nat.reduceMul, Nat.reduceLT, Nat.reduceLeDiff, inb_nI, inb_lit, cl_nI, cl_lit, nI_add, add_nl, add_ln, mul_ln, pk_mul, le_nn, lt_nn, eq_nn, le_nl, lt_nl, eq_nl, le_ln, lt_ln, eq_ln, eq_ll, lt_ll, le_ll, eq_nm1, eq_nm2, eq_nm3, eq_nm4, e_rStep]
    rcases ixq_of v1 (n := 61) (by omega) with ⟨e1, -⟩ | ⟨e1, q, hq, rfl⟩
    · simp only [e1, Option.bind_some, ↓reduceIte, if_true, if_false, Nat.reduceEqDiff, Nat.reduceAdd, Nat.reduceMul, Nat.reduceLT, Nat.reduceLeDiff]
      exact ⟨_, _, _, rfl, rfl, h⟩
    · have e130 : p_X10_in fu v2.toInt64 (1 : Int64) (30 : Int64) = some (if v2 < 1 then 0 else if (30 : Int32) < v2 then 0 else 1) := e_in fu v2 1 30
      simp (disch := omega) only [e1, Option.bind_some, ↓reduceIte, if_true, if_false, Nat.reduceEqDiff, Nat.reduceAdd, Nat.reduceMul, Nat.reduceLT, Nat.reduceLeDiff, inb_nI, inb_lit, cl_nI, cl_lit, nI_add, add_nl, add_ln, mul_ln, pk_mul, le_nn, lt_nn, eq_nn, le_nl, lt_nl, eq_nl, le_ln, lt_ln, eq_ln, eq_ll, lt_ll, le_ll, eq_nm1, eq_nm2, eq_nm3, eq_nm4, e130, r16]
      by_cases g1 : v2 < 1
      · simp only [g1, Option.bind_some, ↓reduceIte, if_true, if_false, Nat.reduceEqDiff, Nat.reduceAdd, Nat.reduceMul, Nat.reduceLT, Nat.reduceLeDiff]
        exact ⟨_, _, _, rfl, rfl, h⟩
      · by_cases g2 : (30 : Int32) < v2
        · simp only [g1, g2, if_neg (Int32.not_le.mpr g2), Option.bind_some, ↓reduceIte, if_true, if_false, Nat.reduceEqDiff, Nat.reduceAdd, Nat.reduceMul, Nat.reduceLT, Nat.reduceLeDiff]
          exact ⟨_, _, _, rfl, rfl, h⟩
        · obtain ⟨n, hn1, hn2, rfl⟩ : ∃ n : Nat, 1 ≤ n ∧ n ≤ 30 ∧ v2 = nI n := by
            rcases pk_ix v2 (n := 31) (by omega) with z | z | ⟨n, hn, rfl⟩
            · exfalso
              apply g1
              have z1 := Int32.lt_iff_toInt_lt.mp z
              rw [Int32.lt_iff_toInt_lt]
              have e0 : (0 : Int32).toInt = 0 := rfl
              have e1 : (1 : Int32).toInt = 1 := rfl
              omega
            · exfalso
              apply g2
              have z1 := Int32.le_iff_toInt_le.mp z
              rw [nI_toInt (by omega)] at z1
              rw [Int32.lt_iff_toInt_lt]
              have e0 : (30 : Int32).toInt = 30 := rfl
              omega
            · rw [lt_nl (by omega) (by decide)] at g1
              exact ⟨n, by omega, by omega, rfl⟩
          simp only [g1, g2, if_pos (Int32.not_lt.mp g2), Option.bind_some, ↓reduceIte, if_true, if_false, Nat.reduceEqDiff, Nat.reduceAdd, Nat.reduceMul, Nat.reduceLT, Nat.reduceLeDiff]
          simp (disch := omega) only [inb_nI, inb_lit, cl_nI, cl_lit, nI_add, add_nl, add_ln, mul_ln, pk_mul, le_nn, lt_nn, eq_nn, le_nl, lt_nl, eq_nl, le_ln, lt_ln, eq_ln, eq_ll, lt_ll, le_ll, eq_nm1, eq_nm2, eq_nm3, eq_nm4, Option.bind_some, ↓reduceIte, if_true, if_false, Nat.reduceEqDiff, Nat.reduceAdd, Nat.reduceMul, Nat.reduceLT, Nat.reduceLeDiff, e_keepAct fu o hA h6]
          by_cases c3 : nA (o.1 1) = 30
          · simp only [if_pos c3, if_neg (show ¬ nA (o.1 1) < 30 by omega)]
            exact ⟨-5, _, _, rfl, by rw [if_neg (by decide)], h⟩
          · have hc : actOK (o.1 1) (nI (100 * (q + 1) + n)) := Or.inr ⟨q, n, by omega, hn1, hn2, rfl⟩
            obtain ⟨u, eu, Fu, u16, u17, u18, u19⟩ := e_addAct fu (x 5) (a := nA (o.1 1)) (by omega) r16 2 (nI q) (nI n)
            have hr : RW u (wAct (o.1 1) (nA (o.1 1)) (nI (100 * (q + 1) + n))) := h.1.act1 (by omega) c Fu u16 u17 u18 u19 hc (Or.inr ⟨rfl, q, n, by omega, by omega, rfl, rfl, rfl⟩)
            obtain ⟨t, et, ht⟩ := e_settle fu hf (x 10) _ _ hr
            obtain ⟨s', hs'⟩ : ∃ s', s' = oA (oA o 1 (upd (o.1 1) (68 + nA (o.1 1)) (nI (100 * (q + 1) + n)))) 1 (wAct (o.1 1) (nA (o.1 1)) (nI (100 * (q + 1) + n))) := ⟨_, rfl⟩
            have ew : s'.1 1 = wAct (o.1 1) (nA (o.1 1)) (nI (100 * (q + 1) + n)) := by rw [hs', oA_1, if_pos rfl]
            obtain ⟨s, es, a⟩ := e_asItIs fu hf s' (by rw [ew]; exact hr.1)
            have FF : FR (1 :: tF) o s' := by
              rw [hs']
              exact (FR.rf.A (by decide) _).A (by decide) _
            have hn := h.new (s := s) (r := u) (t := t) (by rw [a.w, ew]; exact hr) (by rw [a.w, ew]; exact ht) (FF.tr (a.tf.mono (by decide)))
            have u5 : va_up x 5 u 5 = u := rfl
            have u10 : va_up x 5 u 10 = x 10 := rfl
            have t10 : va_up (va_up x 5 u) 10 t 10 = t := rfl
            have l1 : t.1 1 q = lvW (wAct (o.1 1) (nA (o.1 1)) (nI (100 * (q + 1) + n))) q := ht.2.1 q hq
            have l2 := (a.2.2.1 q hq).1
            rw [ew] at l2
            simp (disch := omega) only [if_neg c3, if_pos (show nA (o.1 1) < 30 by omega), eu, Option.bind_some, u5, u10, et, t10, e_levelAt, l1, ← hs', es, inb_nI, inb_lit, cl_nI, cl_lit, nI_add, add_nl, add_ln, mul_ln, pk_mul, le_nn, lt_nn, eq_nn, le_nl, lt_nl, eq_nl, le_ln, lt_ln, eq_ln, eq_ll, lt_ll, le_ll, eq_nm1, eq_nm2, eq_nm3, eq_nm4, l2, Option.bind_some, ↓reduceIte, if_true, if_false, Nat.reduceEqDiff, Nat.reduceAdd, Nat.reduceMul, Nat.reduceLT, Nat.reduceLeDiff]
            exact ⟨_, _, _, rfl, rfl, hn⟩
/-! low changed -/
theorem s_deepen (fu : Nat) (hf : 2000 ≤ fu) {x : Nat → Ob} {o : Ob} (h : Rel x o) (v1 v2 : Int32) : ∃ r y t, p_X9_deepen fu x v1 v2 = some (r, y) ∧ p_X10_deepen fu o v1 v2 = some (r, t) ∧ Rel y t := by
  have hR := h.w.2.1.1
  have hJ := h.w.2.1.2.1
  have hN := h.w.2.1.2.2.1
  have hA := h.w.2.1.2.2.2.1
  have h6 := h.w.1.2.2.2.2.1
  have r16 := h.1.2.1.2.2.2.2.2.2.2
  unfold p_X9_deepen p_X10_deepen
  rw [e_cReach fu h, e_isReach fu o _ h.w, Option.bind_some, Option.bind_some]
  rcases ixq_of v1 (n := nR (o.1 1)) (by omega) with ⟨e1, -⟩ | ⟨e1, q, hq, rfl⟩
  · simp only [e1, Option.bind_some, ↓reduceIte, if_true, if_false, Nat.reduceEqDiff, Nat.reduceAdd, Nat.reduceMul, Nat.reduceLT, Nat.reduceLeDiff]
    exact ⟨_, _, _, rfl, rfl, h⟩
  · simp (disch := omega) only [e1, inb_nI, inb_lit, cl_nI, cl_lit, nI_add, add_nl, add_ln, mul_ln, pk_mul, le_nn, lt_nn, eq_nn, le_nl, lt_nl, eq_nl, le_ln, lt_ln, eq_ln, eq_ll, lt_ll, le_ll, eq_nm1, eq_nm2, eq_nm3, eq_nm4, Option.bind_some, ↓reduceIte, if_true, if_false, Nat.reduceEqDiff, Nat.reduceAdd, Nat.reduceMul, Nat.reduceLT, Nat.reduceLeDiff, e_in0 fu v2 (n := 20) (by decide)]
    rcases ixq_of v2 (n := 21) (by omega) with ⟨e2, ho⟩ | ⟨e2, b, hb, rfl⟩
    · simp only [e2, Option.bind_some, ↓reduceIte, if_true, if_false, Nat.reduceEqDiff, Nat.reduceAdd, Nat.reduceMul, Nat.reduceLT, Nat.reduceLeDiff]
      refine ⟨-2, x, o, ?_, rfl, h⟩
      rcases ho with z | z
      · rw [if_pos z]
      · have z1 := Int32.le_iff_toInt_le.mp z
        rw [nI_toInt (by omega)] at z1
        have n1 : ¬ v2 ≤ 20 := by
          rw [Int32.le_iff_toInt_le]
          have : (20 : Int32).toInt = 20 := rfl
          omega
        split
        · rfl
        · first | rfl | rw [if_neg n1]
    · simp (disch := omega) only [e2, inb_nI, inb_lit, cl_nI, cl_lit, nI_add, add_nl, add_ln, mul_ln, pk_mul, le_nn, lt_nn, eq_nn, le_nl, lt_nl, eq_nl, le_ln, lt_ln, eq_ln, eq_ll, lt_ll, le_ll, eq_nm1, eq_nm2, eq_nm3, eq_nm4, Option.bind_some, ↓reduceIte, if_true, if_false, Nat.reduceEqDiff, Nat.reduceAdd, Nat.reduceMul, Nat.reduceLT, Nat.reduceLeDiff, if_neg (show ¬ b < 0 by omega), if_pos (show b ≤ 20 by omega), r16, h6, e_pick, e_put, e_of2, (h.1.2.2.1 q hq).2.2]
      by_cases c : nA (o.1 1) ≤ 0
      · simp only [if_pos c]
        refine ⟨_, _, _, rfl, rfl, ?_⟩
        have hw' : ∀ k, (k < 8 ∨ 38 ≤ k) → upd (o.1 1) (8 + 3 * q + 2) (nI b) k = o.1 1 k := fun k hk => by rw [upd_v, if_neg (by omega)]
        obtain ⟨u, hu⟩ : ∃ u, u = upd (o.1 1) (8 + 3 * q + 2) (nI b) := ⟨_, rfl⟩
        rw [← hu] at hw' ⊢
        have n1 : nR u = nR (o.1 1) := by unfold nR; rw [hw' 3 (by omega)]
        have n2 : nJ u = nJ (o.1 1) := by unfold nJ; rw [hw' 4 (by omega)]
        have n3 : nN u = nN (o.1 1) := by unfold nN; rw [hw' 5 (by omega)]
        have n4 : nA u = nA (o.1 1) := by unfold nA; rw [hw' 6 (by omega)]
        have n5 : nL u = nL (o.1 1) := by unfold nL; rw [hw' 7 (by omega)]
        have eT : ∀ k, wT u k = wT (o.1 1) k := fun k => by unfold wT; rw [hu, upd_v, if_neg (by omega)]
        have eK : ∀ k, wK u k = wK (o.1 1) k := fun k => by unfold wK; rw [hu, upd_v, if_neg (by omega)]
        have eL : ∀ k, wL u k = if k = q then nI b else wL (o.1 1) k := fun k => by
          unfold wL
          rw [hu, upd_v]
          by_cases g : k = q
          · rw [if_pos (by omega), if_pos g]
          · rw [if_neg (by omega), if_neg g]
        have eF : ∀ k, wF u k = wF (o.1 1) k := fun k => by unfold wF; rw [hw' _ (by omega)]
        have eG : ∀ k, wG u k = wG (o.1 1) k := fun k => by unfold wG; rw [hw' _ (by omega)]
        have eE : ∀ k, wE u k = wE (o.1 1) k := fun k => by unfold wE; rw [hw' _ (by omega)]
        have eB : ∀ k, wB u k = wB (o.1 1) k := fun k => by unfold wB; rw [hw' _ (by omega)]
        have eM : ∀ k, wM u k = wM (o.1 1) k := fun k => by unfold wM; rw [hw' _ (by omega)]
        have eS : ∀ k, wS u k = wS (o.1 1) k := fun k => by unfold wS; rw [hw' _ (by omega)]
        have eC : ∀ k, wC u k = wC (o.1 1) k := fun k => by unfold wC; rw [hw' _ (by omega)]
        have hw := h.w
        have hOK : OKW u := by
          refine ⟨⟨?_, ?_, ?_, ?_, ?_, ?_⟩, ?_, ?_, ?_, ?_, ?_, ?_⟩
          · rw [hw' 0 (by omega), hw' 1 (by omega), hw' 2 (by omega)]; exact hw.1.1
          · rw [hw' 3 (by omega), n1]; exact hw.1.2.1
          · rw [hw' 4 (by omega), n2]; exact hw.1.2.2.1
          · rw [hw' 5 (by omega), n3]; exact hw.1.2.2.2.1
          · rw [hw' 6 (by omega), n4]; exact hw.1.2.2.2.2.1
          · rw [hw' 7 (by omega), n5]; exact hw.1.2.2.2.2.2
          · rw [n1, n2, n3, n4, n5]; exact hw.2.1
          · rw [n1, n2, n3, n4, n5]; exact hw.2.2.1
          · intro k hk
            rw [n1] at hk
            rw [eT, eK, eL, n1]
            refine ⟨(hw.2.2.2.1 k hk).1, (hw.2.2.2.1 k hk).2.1, ?_⟩
            split
            · exact ⟨b, by omega, rfl⟩
            · exact (hw.2.2.2.1 k hk).2.2
          · intro k hk
            rw [n2] at hk
            rw [eF, eG, eE, eB, n1]
            exact hw.2.2.2.2.1 k hk
          · intro k hk
            rw [n3] at hk
            rw [eM, eS]
            exact hw.2.2.2.2.2.1 k hk
          · intro k hk
            rw [n4] at hk
            rw [eC]
            have := hw.2.2.2.2.2.2 k hk
            unfold actOK at this ⊢
            rw [n2]
            exact this
        have erw : RW (oA (x 5) 7 (upd ((x 5).1 7) q (nI b))) u := by
          refine ⟨hOK, ?_, ?_, ?_, ?_, ?_⟩
          · rw [n1, n2, n3, n4, n5, hw' 0 (by omega), hw' 1 (by omega), hw' 2 (by omega)]
            exact h.1.2.1
          · intro k hk
            rw [n1] at hk
            rw [eT, eK, eL]
            refine ⟨(h.1.2.2.1 k hk).1, (h.1.2.2.1 k hk).2.1, ?_⟩
            show upd ((x 5).1 7) q (nI b) k = _
            rw [upd_v]
            split
            · rfl
            · exact (h.1.2.2.1 k hk).2.2
          · intro k hk
            rw [n2] at hk
            rw [eF, eG, eE, eB]
            exact h.1.2.2.2.1 k hk
          · intro k hk
            rw [n3] at hk
            rw [eM, eS]
            exact h.1.2.2.2.2.1 k hk
          · intro k hk
            rw [n4] at hk
            rw [eC]
            exact h.1.2.2.2.2.2 k hk
        have ern : ∀ k, rn0 u k = rn0 (o.1 1) k := fun k => it_cg k (fun j _ t => by rw [eS, eM])
        have era : ∀ k, raA u k = raA (o.1 1) k := fun k => by
          unfold raA
          rw [ern, n3]
          exact it_cg k (fun j _ t => by rw [eC])
        have ewt : WT (x 10) u := by
          unfold WT lvW rnW shW
          rw [n4, era, hw' 0 (by omega)]
          exact h.2.1
        have hx : x 10 = va_up (va_up x 5 (oA (x 5) 7 (upd ((x 5).1 7) q (nI b)))) 10 (x 10) 10 := rfl
        have hy : va_up x 5 (oA (x 5) 7 (upd ((x 5).1 7) q (nI b))) = va_up (va_up x 5 (oA (x 5) 7 (upd ((x 5).1 7) q (nI b)))) 10 (x 10) := by
          funext k
          rw [up_v, up_v, up_v]
          by_cases g : k = 10
          · rw [if_pos g, if_neg (by omega), g]
          · rw [if_neg g]
        rw [hy]
        exact h.new (s := oA o 1 u) erw ewt (FR.rf.A (by decide) _)
      · simp only [if_neg c]
        exact ⟨_, _, _, rfl, rfl, h⟩
