/-! ===== mean, chance, risk ===== -/
theorem s_mean (fu : Nat) (hf : 2000 ≤ fu) {x : Nat → Ob} {o : Ob} (h : Rel x o) (v1 v2 : Int32) : ∃ r y t, p_X9_mean fu x v1 v2 = some (r, y) ∧ p_X10_mean fu o v1 v2 = some (r, t) ∧ Rel y t := by
  obtain ⟨s, e, a⟩ := e_asksRivers fu hf o h.w
  have hs := h.kp KQ.rf a.tf
  unfold p_X9_mean p_X10_mean
  rw [e_hasCh fu h, Option.bind_some, e, Option.bind_some]
  by_cases c : nL (o.1 1) = 0
  · simp only [c, Option.bind_some, ↓reduceIte, if_true, if_false, Nat.reduceEqDiff, Nat.reduceAdd, Nat.reduceMul, Nat.reduceLT, Nat.reduceLeDiff]
    exact ⟨_, _, _, rfl, rfl, hs⟩
  · simp (disch := omega) only [c, Option.bind_some, ↓reduceIte, if_true, if_false, Nat.reduceEqDiff, Nat.reduceAdd, Nat.reduceMul, Nat.reduceLT, Nat.reduceLeDiff, inb_nI, inb_lit, cl_nI, cl_lit, nI_add, add_nl, add_ln, mul_ln, pk_mul, le_nn, lt_nn, eq_nn, le_nl, lt_nl, eq_nl, le_ln, lt_ln, eq_ln, eq_ll, lt_ll, le_ll, eq_nm1, eq_nm2, eq_nm3, eq_nm4, e_in0 fu v1 (n := 14) (by decide), e_in0 fu v2 (n := 1) (by decide)]
    rcases ixq_of v1 (n := 15) (by omega) with ⟨e1, -⟩ | ⟨e1, n, hn, rfl⟩
    · simp only [e1, Option.bind_some, ↓reduceIte, if_true, if_false, Nat.reduceEqDiff, Nat.reduceAdd, Nat.reduceMul, Nat.reduceLT, Nat.reduceLeDiff]
      exact ⟨_, _, _, rfl, rfl, hs⟩
    · rw [ifb v2 (n := 1) (by omega) 1 rfl]
      rcases ixq_of v2 (n := 2) (by omega) with ⟨e2, -⟩ | ⟨e2, b, hb, rfl⟩
      · simp (disch := omega) only [e1, e2, inb_nI, inb_lit, cl_nI, cl_lit, nI_add, add_nl, add_ln, mul_ln, pk_mul, le_nn, lt_nn, eq_nn, le_nl, lt_nl, eq_nl, le_ln, lt_ln, eq_ln, eq_ll, lt_ll, le_ll, eq_nm1, eq_nm2, eq_nm3, eq_nm4, Option.bind_some, ↓reduceIte, if_true, if_false, Nat.reduceEqDiff, Nat.reduceAdd, Nat.reduceMul, Nat.reduceLT, Nat.reduceLeDiff]
        exact ⟨_, _, _, rfl, rfl, hs⟩
      · obtain ⟨l, od, sw, g, hB, hX, hM⟩ := ch_env h a
        obtain ⟨y, ey, ky, wy⟩ := e_wTo fu hf x hX hB (n := n) (by omega)
        obtain ⟨s0, es0, hs0⟩ := e_startW fu hf s hM hB
        obtain ⟨w1, w2, w3, w4, w5, w6⟩ := ch_w hB (n := n) (by omega)
        obtain ⟨t1, t2, t3⟩ := e_told fu hf w6 w2 w3 (nI b)
        have hT := hB.t (n := n) (by omega)
        have eS := e_wSum fu hf (y 19) wy (by omega)
        have wP : (y 19).2 3 0 = lN (10 ^ n) := wy.2.2
        obtain ⟨t, et, ht⟩ := e_ref39 fu hf (fun oz v2 => p_X10_mean_L60 fu (fun oz v2 v3 => (p_X10_weightFrom fu oz (0 : Int32) (1300 : Int32)).bind fun r_93 => if v2 = 0 then p_X10_mean_J108 fu oz v3 r_93 v3 else p_X10_mean_J108 fu oz v3 r_93 r_93) fu oz v2 0 0) s s0 hM hB hs0 (n := n) (by omega) (nI b)
        have eW : p_X10_weightFrom fu t (0 : Int32) (1300 : Int32) = some (lN (10 ^ n)) := by
          have := e_wFrom fu hf t ht.2 (a := 0) (b := 1300) (by omega) (Nat.le_refl _)
          rw [w1] at this
          exact this
        rw [e1, e2, if_neg (show ¬ (1 : Int32) = 0 by decide), if_neg (show ¬ (1 : Int32) = 0 by decide), if_neg (show ¬ (1 : Int32) = 0 by decide), if_neg (show ¬ (1 : Int32) = 0 by decide), ey, Option.bind_some, eS, Option.bind_some, wP, t1, Option.bind_some, es0, Option.bind_some, et]
        refine ⟨(if nI b = 0 then lN (sm (fun k => k * wq l od sw g n k) (Tq l sw g n + 1)) else lN (10 ^ n)) / lN (Nat.gcd (sm (fun k => k * wq l od sw g n k) (Tq l sw g n + 1)) (10 ^ n)), y, t, rfl, ?_, h.kp ky (a.tf.tr (ht.1.mono (by decide)))⟩
        show p_X10_mean_L60 fu (fun oz v2 v3 => (p_X10_weightFrom fu oz (0 : Int32) (1300 : Int32)).bind fun r_93 => if v2 = 0 then p_X10_mean_J108 fu oz v3 r_93 v3 else p_X10_mean_J108 fu oz v3 r_93 r_93) fu t (nI b) 0 0 = _
        rw [e_ref60 fu hf _ t ht.2 (nI b), w5]
        show (p_X10_weightFrom fu t (0 : Int32) (1300 : Int32)).bind _ = _
        rw [eW, Option.bind_some]
        by_cases g0 : nI b = 0
        · rw [if_pos g0, if_pos g0]
          unfold p_X10_mean_J108
          rw [t2, Option.bind_some, if_neg t3]
        · rw [if_neg g0, if_neg g0]
          unfold p_X10_mean_J108
          rw [t2, Option.bind_some, if_neg t3]
theorem s_chance (fu : Nat) (hf : 2000 ≤ fu) {x : Nat → Ob} {o : Ob} (h : Rel x o) (v1 v2 v3 : Int32) : ∃ r y t, p_X9_chance fu x v1 v2 v3 = some (r, y) ∧ p_X10_chance fu o v1 v2 v3 = some (r, t) ∧ Rel y t := by
  obtain ⟨s, e, a⟩ := e_asksRivers fu hf o h.w
  have hs := h.kp KQ.rf a.tf
  unfold p_X9_chance p_X10_chance
  rw [e_hasCh fu h, Option.bind_some, e, Option.bind_some]
  by_cases c : nL (o.1 1) = 0
  · simp only [c, Option.bind_some, ↓reduceIte, if_true, if_false, Nat.reduceEqDiff, Nat.reduceAdd, Nat.reduceMul, Nat.reduceLT, Nat.reduceLeDiff]
    exact ⟨_, _, _, rfl, rfl, hs⟩
  · simp (disch := omega) only [c, Option.bind_some, ↓reduceIte, if_true, if_false, Nat.reduceEqDiff, Nat.reduceAdd, Nat.reduceMul, Nat.reduceLT, Nat.reduceLeDiff, inb_nI, inb_lit, cl_nI, cl_lit, nI_add, add_nl, add_ln, mul_ln, pk_mul, le_nn, lt_nn, eq_nn, le_nl, lt_nl, eq_nl, le_ln, lt_ln, eq_ln, eq_ll, lt_ll, le_ll, eq_nm1, eq_nm2, eq_nm3, eq_nm4, e_in0 fu v1 (n := 14) (by decide), e_in0 fu v2 (n := 99) (by decide), e_in0 fu v3 (n := 1) (by decide)]
    rcases ixq_of v1 (n := 15) (by omega) with ⟨e1, -⟩ | ⟨e1, n, hn, rfl⟩
    · simp only [e1, Option.bind_some, ↓reduceIte, if_true, if_false, Nat.reduceEqDiff, Nat.reduceAdd, Nat.reduceMul, Nat.reduceLT, Nat.reduceLeDiff]
      exact ⟨_, _, _, rfl, rfl, hs⟩
    · rw [ifb2 v2 (n := 99) (by omega) 99 rfl, ifb v3 (n := 1) (by omega) 1 rfl]
      rcases ixq_of v2 (n := 100) (by omega) with ⟨e2, -⟩ | ⟨e2, q, hq, rfl⟩
      · simp (disch := omega) only [e1, e2, inb_nI, inb_lit, cl_nI, cl_lit, nI_add, add_nl, add_ln, mul_ln, pk_mul, le_nn, lt_nn, eq_nn, le_nl, lt_nl, eq_nl, le_ln, lt_ln, eq_ln, eq_ll, lt_ll, le_ll, eq_nm1, eq_nm2, eq_nm3, eq_nm4, Option.bind_some, ↓reduceIte, if_true, if_false, Nat.reduceEqDiff, Nat.reduceAdd, Nat.reduceMul, Nat.reduceLT, Nat.reduceLeDiff]
        exact ⟨_, _, _, rfl, rfl, hs⟩
      · rcases ixq_of v3 (n := 2) (by omega) with ⟨e3, -⟩ | ⟨e3, b, hb, rfl⟩
        · simp (disch := omega) only [e1, e2, e3, inb_nI, inb_lit, cl_nI, cl_lit, nI_add, add_nl, add_ln, mul_ln, pk_mul, le_nn, lt_nn, eq_nn, le_nl, lt_nl, eq_nl, le_ln, lt_ln, eq_ln, eq_ll, lt_ll, le_ll, eq_nm1, eq_nm2, eq_nm3, eq_nm4, Option.bind_some, ↓reduceIte, if_true, if_false, Nat.reduceEqDiff, Nat.reduceAdd, Nat.reduceMul, Nat.reduceLT, Nat.reduceLeDiff]
          exact ⟨_, _, _, rfl, rfl, hs⟩
        · obtain ⟨l, od, sw, g, hB, hX, hM⟩ := ch_env h a
          obtain ⟨y, ey, ky, wy⟩ := e_wTo fu hf x hX hB (n := n) (by omega)
          obtain ⟨s0, es0, hs0⟩ := e_startW fu hf s hM hB
          obtain ⟨w1, w2, w3, w4, w5, w6⟩ := ch_w hB (n := n) (by omega)
          have w4q := w4 q
          obtain ⟨A, hA⟩ : ∃ A, A = 10 ^ n - sm (wq l od sw g n) q := ⟨_, rfl⟩
          obtain ⟨t1, t2, t3⟩ := e_told fu hf (show A < 2 ^ 63 by omega) w2 w3 (nI b)
          have hT := hB.t (n := n) (by omega)
          have eS := e_wBelow fu hf (y 19) wy (by omega) (wq_z l od sw g n) (n := q) (by omega)
          have wP : (y 19).2 3 0 = lN (10 ^ n) := wy.2.2
          have eA : lN (10 ^ n) - lN (sm (wq l od sw g n) q) = lN A := by rw [lN_sub w4q, hA]
          obtain ⟨t, et, ht⟩ := e_ref52 fu hf (fun oz v2 v3 => (p_X10_weightFrom fu oz v2 (1300 : Int32)).bind fun r_75 => (p_X10_weightFrom fu oz (0 : Int32) (1300 : Int32)).bind fun r_85 => if v3 = 0 then p_X10_chance_J101 fu oz r_75 r_85 r_75 else p_X10_chance_J101 fu oz r_75 r_85 r_85) s s0 hM hB hs0 (n := n) (by omega) (nI q) (nI b)
          have eW : p_X10_weightFrom fu t (0 : Int32) (1300 : Int32) = some (lN (10 ^ n)) := by
            have := e_wFrom fu hf t ht.2 (a := 0) (b := 1300) (by omega) (Nat.le_refl _)
            rw [w1] at this
            exact this
          have eV : p_X10_weightFrom fu t (nI q) (1300 : Int32) = some (lN A) := by
            have := e_wFrom fu hf t ht.2 (a := q) (b := 1300) (by omega) (Nat.le_refl _)
            rw [w1, ← hA] at this
            exact this
          rw [e1, e2, e3, if_neg (show ¬ (1 : Int32) = 0 by decide), if_neg (show ¬ (1 : Int32) = 0 by decide), if_neg (show ¬ (1 : Int32) = 0 by decide), if_neg (show ¬ (1 : Int32) = 0 by decide), if_neg (show ¬ (1 : Int32) = 0 by decide), if_neg (show ¬ (1 : Int32) = 0 by decide), ey, Option.bind_some, eS, Option.bind_some, wP, eA, t1, Option.bind_some, es0, Option.bind_some, et]
          refine ⟨(if nI b = 0 then lN A else lN (10 ^ n)) / lN (Nat.gcd A (10 ^ n)), y, t, rfl, ?_, h.kp ky (a.tf.tr (ht.1.mono (by decide)))⟩
          show (p_X10_weightFrom fu t (nI q) (1300 : Int32)).bind _ = _
          rw [eV, Option.bind_some, eW, Option.bind_some]
          by_cases g0 : nI b = 0
          · rw [if_pos g0, if_pos g0]
            unfold p_X10_chance_J101
            rw [t2, Option.bind_some, if_neg t3]
          · rw [if_neg g0, if_neg g0]
            unfold p_X10_chance_J101
            rw [t2, Option.bind_some, if_neg t3]
/-- at step i it is likely enough -/
def rkP (l od sw : Nat) (g : Nat → Nat) (lo q i : Nat) : Bool := !decide (lg_cmp (100 * lN (sm (wq l od sw g i) lo)) ((nI q).toInt64 * lN (10 ^ i)) < 0)
theorem s_risk (fu : Nat) (hf : 2000 ≤ fu) {x : Nat → Ob} {o : Ob} (h : Rel x o) (v1 v2 : Int32) : ∃ r y t, p_X9_risk fu x v1 v2 = some (r, y) ∧ p_X10_risk fu o v1 v2 = some (r, t) ∧ Rel y t := by
  have hR := h.w.2.1.1
  obtain ⟨s, e, a⟩ := e_asksReach fu hf o h.w v1
  have hs := h.kp KQ.rf a.tf
  unfold p_X9_risk p_X10_risk
  rw [e_cReach fu h, Option.bind_some, e, Option.bind_some]
  rcases ixq_of v1 (n := nR (o.1 1)) (by omega) with ⟨e1, -⟩ | ⟨e1, r, hr, rfl⟩
  · simp only [e1, Option.bind_some, ↓reduceIte, if_true, if_false, Nat.reduceEqDiff, Nat.reduceAdd, Nat.reduceMul, Nat.reduceLT, Nat.reduceLeDiff]
    exact ⟨_, _, _, rfl, rfl, hs⟩
  · simp (disch := omega) only [e1, Option.bind_some, ↓reduceIte, if_true, if_false, Nat.reduceEqDiff, Nat.reduceAdd, Nat.reduceMul, Nat.reduceLT, Nat.reduceLeDiff, inb_nI, inb_lit, cl_nI, cl_lit, nI_add, add_nl, add_ln, mul_ln, pk_mul, le_nn, lt_nn, eq_nn, le_nl, lt_nl, eq_nl, le_ln, lt_ln, eq_ln, eq_ll, lt_ll, le_ll, eq_nm1, eq_nm2, eq_nm3, eq_nm4, e_in0 fu v2 (n := 100) (by decide)]
    rw [ifb v2 (n := 100) (by omega) 100 rfl]
    rcases ixq_of v2 (n := 101) (by omega) with ⟨e2, -⟩ | ⟨e2, q, hq, rfl⟩
    · simp only [e2, Option.bind_some, ↓reduceIte, if_true, if_false, Nat.reduceEqDiff, Nat.reduceAdd, Nat.reduceMul, Nat.reduceLT, Nat.reduceLeDiff]
      exact ⟨_, _, _, rfl, rfl, hs⟩
    · obtain ⟨l, od, sw, g, hB, hX, hM⟩ := ch_env h a
      obtain ⟨s0, es0, hs0⟩ := e_startW fu hf s hM hB
      obtain ⟨lo, hlo, elo⟩ := (h.w.2.2.2.1 r hr).2.2
      have l7 : (x 5).1 7 r = nI lo := by rw [(h.1.2.2.1 r hr).2.2, elo]
      rw [e2, if_neg (show ¬ (1 : Int32) = 0 by decide), if_neg (show ¬ (1 : Int32) = 0 by decide), e_pick fu _ (show r < 10 by omega) (by omega), Option.bind_some, l7, es0, Option.bind_some]
      obtain ⟨p, hp⟩ : ∃ p : Nat → Bool, p = rkP l od sw g lo q := ⟨_, rfl⟩
      obtain ⟨⟨a1, y⟩, ey, ha1, ky⟩ := loop_inv (fun m i (z : Nat → Ob) => p_X9_risk_L36 fu m z (nI q) (nI lo) (nI i)) 15 (fun i z => (KQ x z ∧ ∀ k, i = k + 1 → CWn (z 19) l od sw g k) ∧ ∀ j, j < i → p j = false) (fun a => a.1 = ffr p 0 15 ∧ KQ x a.2) (by
        rintro m z ⟨⟨k, -⟩, hn⟩
        refine ⟨(-1, z), ?_, (ffr_no 15 0 (fun j _ h2 => hn j (by omega))).symm, k⟩
        show p_X9_risk_L36 fu (m + 1) z (nI q) (nI lo) (nI 15) = _
        rw [p_X9_risk_L36, if_pos (show (14 : Int32) < nI 15 by decide)]) (by
        rintro m i z hi ⟨⟨k, hz⟩, hn⟩
        obtain ⟨d, ed, dw⟩ := e_wNext fu hf z (hX.kp k) hB (i := i) (by omega) hz
        have hT := hB.t (n := i) (by omega)
        have eS := e_wBelow fu hf d dw (by omega) (wq_z l od sw g i) (n := lo) (by omega)
        have wP : d.2 3 0 = lN (10 ^ i) := dw.2.2
        show (∃ a, p_X9_risk_L36 fu (m + 1) z (nI q) (nI lo) (nI i) = some a ∧ _) ∨ (∃ s', p_X9_risk_L36 fu (m + 1) z (nI q) (nI lo) (nI i) = p_X9_risk_L36 fu m s' (nI q) (nI lo) (nI (i + 1)) ∧ _)
        rw [p_X9_risk_L36, if_neg (show ¬ (14 : Int32) < nI i by rw [lt_ln (by decide) (by omega)]; omega), ed, Option.bind_some, up19, eS, Option.bind_some, wP]
        by_cases g0 : lg_cmp (100 * lN (sm (wq l od sw g i) lo)) ((nI q).toInt64 * lN (10 ^ i)) < 0
        · right
          refine ⟨va_up z 19 d, by rw [if_pos g0, add_nl], ⟨k.up (by decide) d, fun k' hk' => ?_⟩, fun j hj => ?_⟩
          · rw [show k' = i by omega]; exact dw
          · by_cases ej : j = i
            · rw [ej, hp, rkP, decide_eq_true g0]; rfl
            · exact hn j (by omega)
        · left
          refine ⟨(nI i, va_up z 19 d), by rw [if_neg g0], ?_, k.up (by decide) d⟩
          rw [ffr_at (p := p) (Nat.zero_le i) (by omega) (by rw [hp, rkP, decide_eq_false g0]; rfl) (fun j _ g2 => hn j g2)]) fu 0 x (Nat.zero_le _) (by omega) ⟨⟨KQ.rf, fun k hk => by omega⟩, fun j hj => by omega⟩
      obtain ⟨⟨b1, t⟩, et, hb1, Ft⟩ := loop_inv (fun m i (z : Ob) => p_X10_risk_L29 fu m z (nI r) (nI q) (nI i)) 15 (fun i z => (FR [35, 36] s z ∧ (i = 0 → RM s z (wq l od sw g 0)) ∧ ∀ k, i = k + 1 → RM s z (wq l od sw g k)) ∧ ∀ j, j < i → p j = false) (fun a => a.1 = ffr p 0 15 ∧ FR [35, 36] s a.2) (by
        rintro m z ⟨⟨F, -⟩, hn⟩
        refine ⟨(-1, z), ?_, (ffr_no 15 0 (fun j _ h2 => hn j (by omega))).symm, F⟩
        show p_X10_risk_L29 fu (m + 1) z (nI r) (nI q) (nI 15) = _
        rw [p_X10_risk_L29, if_pos (show (14 : Int32) < nI 15 by decide)]) (by
        rintro m i z hi ⟨⟨F, hz0, hz⟩, hn⟩
        obtain ⟨w1, w2, w3, w4, w5, w6⟩ := ch_w hB (n := i) (by omega)
        have key : ∀ z2, RM s z2 (wq l od sw g i) → (∃ a, p_X10_risk_J44 fu (fun oz v1 v2 v3 => p_X10_risk_L29 fu m oz v1 v2 v3) z2 (nI r) (nI q) (nI i) = some a ∧ (a.1 = ffr p 0 15 ∧ FR [35, 36] s a.2)) ∨ (∃ s', p_X10_risk_J44 fu (fun oz v1 v2 v3 => p_X10_risk_L29 fu m oz v1 v2 v3) z2 (nI r) (nI q) (nI i) = p_X10_risk_L29 fu m s' (nI r) (nI q) (nI (i + 1)) ∧ ((FR [35, 36] s s' ∧ (i + 1 = 0 → RM s s' (wq l od sw g 0)) ∧ ∀ k, i + 1 = k + 1 → RM s s' (wq l od sw g k)) ∧ ∀ j, j < i + 1 → p j = false)) := by
          intro z2 hz2
          have e1' : z2.1 1 = o.1 1 := (hz2.1.f1 1 (by decide)).trans a.w
          have eL : p_X10_of fu z2 (nI r) 2 = some (nI lo) := by rw [e_of2 fu z2 (by omega), e1', elo]
          have eW : p_X10_weightFrom fu z2 (0 : Int32) (1300 : Int32) = some (lN (10 ^ i)) := by
            have := e_wFrom fu hf z2 hz2.2 (a := 0) (b := 1300) (by omega) (Nat.le_refl _)
            rw [w1] at this
            exact this
          have eV : p_X10_weightFrom fu z2 (0 : Int32) (nI lo) = some (lN (sm (wq l od sw g i) lo)) := e_wFrom fu hf z2 hz2.2 (a := 0) (b := lo) (by omega) (by omega)
          unfold p_X10_risk_J44
          rw [eL, Option.bind_some, eV, Option.bind_some, eW, Option.bind_some]
          by_cases g0 : lg_cmp (100 * lN (sm (wq l od sw g i) lo)) ((nI q).toInt64 * lN (10 ^ i)) < 0
          · right
            refine ⟨z2, by rw [if_pos g0, add_nl], ⟨hz2.1, fun z => by omega, fun k' hk' => ?_⟩, fun j hj => ?_⟩
            · rw [show k' = i by omega]; exact hz2
            · by_cases ej : j = i
              · rw [ej, hp, rkP, decide_eq_true g0]; rfl
              · exact hn j (by omega)
          · left
            refine ⟨(nI i, z2), by rw [if_neg g0], ?_, hz2.1⟩
            rw [ffr_at (p := p) (Nat.zero_le i) (by omega) (by rw [hp, rkP, decide_eq_false g0]; rfl) (fun j _ g2 => hn j g2)]
        show (∃ a, p_X10_risk_L29 fu (m + 1) z (nI r) (nI q) (nI i) = some a ∧ _) ∨ (∃ s', p_X10_risk_L29 fu (m + 1) z (nI r) (nI q) (nI i) = p_X10_risk_L29 fu m s' (nI r) (nI q) (nI (i + 1)) ∧ _)
        rw [p_X10_risk_L29, if_neg (show ¬ (14 : Int32) < nI i by rw [lt_ln (by decide) (by omega)]; omega)]
        by_cases h0 : i = 0
        · subst h0
          rw [if_pos (show nI 0 ≤ 0 by decide)]
          exact key z (hz0 rfl)
        · obtain ⟨k, rfl⟩ : ∃ k, i = k + 1 := ⟨i - 1, by omega⟩
          obtain ⟨z2, ez2, hz2⟩ := e_stepW fu hf s z hM hB (n := k) (by omega) (hz k rfl)
          rw [if_neg (show ¬ nI (k + 1) ≤ 0 by rw [le_nl (by omega) (by decide)]; omega), ez2, Option.bind_some]
          exact key z2 hz2) fu 0 s0 (Nat.zero_le _) (by omega) ⟨⟨hs0.1, fun _ => hs0, fun k hk => by omega⟩, fun j hj => by omega⟩
      have ha1 : a1 = ffr p 0 15 := ha1
      have hb1 : b1 = ffr p 0 15 := hb1
      subst ha1 hb1
      exact ⟨ffr p 0 15, y, t, ey, et, h.kp ky (a.tf.tr (Ft.mono (by decide)))⟩
