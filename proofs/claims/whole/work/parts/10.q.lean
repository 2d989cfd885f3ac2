/-! ===== several sticks: from, ends, together, meet, alike, busy ===== -/
theorem e_dr (fu : Nat) (hf : 2000 ≤ fu) {x z : Nat → Ob} {o : Ob} (h : Rel x o) (k : KQ x z) (a : Ob) {r s : Nat} (hr : r < nR (o.1 1)) (hs : s < 61) : ∃ y, p_X5_drift fu a (z 5) (z 10) (nI r) (nI s) = some y ∧ DSt (PW (o.1 1)) r s y :=
  e_drift fu hf (PW (o.1 1)) h.w.p hr hs a (z 5) (z 10) (h.kp k FR.rf).dp
theorem e_go (fu : Nat) (hf : 2000 ≤ fu) {w : Nat → Int32} (hw : OKW w) {t : Ob} (G : GP (PW w) t) {r s : Nat} (hr : r < nR w) (hs : s < 61) : ∃ u, p_X10_goStick fu t (nI r) (nI s) = some u ∧ FR [22, 23, 24, 25, 26] t u ∧ GP (PW w) u ∧ GSt (PW w) r s u := by
  obtain ⟨u, e, F, g⟩ := e_goStick fu hf (PW w) hw.p hr hs t G
  exact ⟨u, e, F, G.kp F (by decide) (by decide) (by decide) (by decide) (by decide) (by decide), g⟩
theorem kq5 {x z : Nat → Ob} {o : Ob} (h : Rel x o) (k : KQ x z) : (z 5).1 4 0 = nI (nR (o.1 1)) := by
  rw [k.1 5 (by decide)]
  exact h.1.2.1.2.2.2.2.1
theorem DSt.at {P : PP} {r s : Nat} {y : Ob} (d : DSt P r s y) {n : Nat} (h1 : s ≤ n) (h2 : n < 61) : y.1 0 n = (pth P r s (n - s)).1 := by
  rw [d.1 n h2, wc, if_neg (by omega)]
def frF (P : PP) (n : Nat) (v : Int32) (r : Nat) (t : Int32) : Int32 := if (pth P r 0 n).1 = v then t ||| b1 r else t
def enF (P : PP) (n : Nat) (r : Nat) (t : Int32) : Int32 := if coF P r n (-1) = -1 then t else t ||| b1 r
def toF (P : PP) (n : Nat) (v : Int32) (r : Nat) (t : Int32) : Int32 := if (pth P r n (60 - n)).1 = v then t ||| b1 r else t
theorem s_from (fu : Nat) (hf : 2000 ≤ fu) {x : Nat → Ob} {o : Ob} (h : Rel x o) (v1 v2 : Int32) : ∃ r y t, p_X9_from fu x v1 v2 = some (r, y) ∧ p_X10_from fu o v1 v2 = some (r, t) ∧ Rel y t := by
  have hR := h.w.2.1.1
  have h3 := h.w.1.2.1
  obtain ⟨s, e, a⟩ := e_asksReach fu hf o h.w v1
  unfold p_X9_from p_X10_from
  rw [e_cReach fu h, Option.bind_some, e, Option.bind_some]
  rcases ixq_of v1 (n := nR (o.1 1)) (by omega) with ⟨e1, -⟩ | ⟨e1, q, hq, rfl⟩
  · simp only [e1, Option.bind_some, ↓reduceIte, if_true, if_false, Nat.reduceEqDiff, Nat.reduceAdd, Nat.reduceMul, Nat.reduceLT, Nat.reduceLeDiff]
    exact ⟨_, _, _, rfl, rfl, h.kp KQ.rf a.tf⟩
  · simp (disch := omega) only [e1, inb_nI, inb_lit, cl_nI, cl_lit, nI_add, add_nl, add_ln, mul_ln, pk_mul, le_nn, lt_nn, eq_nn, le_nl, lt_nl, eq_nl, le_ln, lt_ln, eq_ln, eq_ll, lt_ll, le_ll, eq_nm1, eq_nm2, eq_nm3, eq_nm4, Option.bind_some, ↓reduceIte, if_true, if_false, Nat.reduceEqDiff, Nat.reduceAdd, Nat.reduceMul, Nat.reduceLT, Nat.reduceLeDiff, e_cStep, e_rStep]
    rcases ixq_of v2 (n := 61) (by omega) with ⟨e2, -⟩ | ⟨e2, n, hn, rfl⟩
    · simp only [e2, Option.bind_some, ↓reduceIte, if_true, if_false, Nat.reduceEqDiff, Nat.reduceAdd, Nat.reduceMul, Nat.reduceLT, Nat.reduceLeDiff]
      exact ⟨_, _, _, rfl, rfl, h.kp KQ.rf a.tf⟩
    · simp (disch := omega) only [e2, inb_nI, inb_lit, cl_nI, cl_lit, nI_add, add_nl, add_ln, mul_ln, pk_mul, le_nn, lt_nn, eq_nn, le_nl, lt_nl, eq_nl, le_ln, lt_ln, eq_ln, eq_ll, lt_ll, le_ll, eq_nm1, eq_nm2, eq_nm3, eq_nm4, Option.bind_some, ↓reduceIte, if_true, if_false, Nat.reduceEqDiff, Nat.reduceAdd, Nat.reduceMul, Nat.reduceLT, Nat.reduceLeDiff]
      obtain ⟨z1, c1, c2, c3⟩ := loop_inv (fun m i (t : (Nat → Ob) × Int32) => p_X9_from_L23 fu m t.1 (nI q) (nI n) t.2 (nI i)) (nR (o.1 1)) (fun i t => KQ x t.1 ∧ t.2 = it (frF (PW (o.1 1)) n (nI q)) 0 i) (fun z => z.1 = it (frF (PW (o.1 1)) n (nI q)) 0 (nR (o.1 1)) ∧ KQ x z.2) (by
        rintro m ⟨z, t⟩ ⟨k, rfl⟩
        have k : KQ x z := k
        refine ⟨(it (frF (PW (o.1 1)) n (nI q)) 0 (nR (o.1 1)), z), ?_, rfl, k⟩
        show p_X9_from_L23 fu (m + 1) z (nI q) (nI n) _ (nI (nR (o.1 1))) = _
        rw [p_X9_from_L23]
        simp (disch := omega) only [inb_nI, inb_lit, cl_nI, cl_lit, nI_add, add_nl, add_ln, mul_ln, pk_mul, le_nn, lt_nn, eq_nn, le_nl, lt_nl, eq_nl, le_ln, lt_ln, eq_ln, eq_ll, lt_ll, le_ll, eq_nm1, eq_nm2, eq_nm3, eq_nm4, Option.bind_some, ↓reduceIte, if_true, if_false, Nat.reduceEqDiff, Nat.reduceAdd, Nat.reduceMul, Nat.reduceLT, Nat.reduceLeDiff, kq5 h k, Nat.le_refl]) (by
        rintro m i ⟨z, t⟩ hi ⟨k, rfl⟩
        have k : KQ x z := k
        right
        obtain ⟨y, ey, d⟩ := e_dr fu hf h k (z 12) hi (show 0 < 61 by omega)
        refine ⟨(va_up z 12 y, it (frF (PW (o.1 1)) n (nI q)) 0 (i + 1)), ?_, k.up (by decide) y, rfl⟩
        show p_X9_from_L23 fu (m + 1) z (nI q) (nI n) _ (nI i) = p_X9_from_L23 fu m _ (nI q) (nI n) _ (nI (i + 1))
        rw [p_X9_from_L23]
        have ey' : p_X5_drift fu (z 12) (z 5) (z 10) (nI i) 0 = some y := ey
        simp (disch := omega) only [inb_nI, inb_lit, cl_nI, cl_lit, nI_add, add_nl, add_ln, mul_ln, pk_mul, le_nn, lt_nn, eq_nn, le_nl, lt_nl, eq_nl, le_ln, lt_ln, eq_ln, eq_ll, lt_ll, le_ll, eq_nm1, eq_nm2, eq_nm3, eq_nm4, Option.bind_some, ↓reduceIte, if_true, if_false, Nat.reduceEqDiff, Nat.reduceAdd, Nat.reduceMul, Nat.reduceLT, Nat.reduceLeDiff, kq5 h k, if_neg (show ¬ nR (o.1 1) ≤ i by omega), ey', up12, e_spotAt, d.at (Nat.zero_le n) hn, Nat.sub_zero, e_bit, it, frF]
        split <;> rfl) fu 0 (x, 0) (Nat.zero_le _) (by omega) ⟨KQ.rf, rfl⟩
      obtain ⟨z2, d1, d2, d3⟩ := loop_inv (fun m i (t : Ob × Int32) => p_X10_from_L24 fu m t.1 (nI q) (nI n) t.2 (nI i)) (nR (o.1 1)) (fun i t => (FR tF o t.1 ∧ GP (PW (o.1 1)) t.1) ∧ t.2 = it (frF (PW (o.1 1)) n (nI q)) 0 i) (fun z => z.1 = it (frF (PW (o.1 1)) n (nI q)) 0 (nR (o.1 1)) ∧ FR tF o z.2) (by
        rintro m ⟨z, t⟩ ⟨⟨F, G⟩, rfl⟩
        have F : FR tF o z := F
        refine ⟨(it (frF (PW (o.1 1)) n (nI q)) 0 (nR (o.1 1)), z), ?_, rfl, F⟩
        show p_X10_from_L24 fu (m + 1) z (nI q) (nI n) _ (nI (nR (o.1 1))) = _
        rw [p_X10_from_L24]
        have g1 : z.1 1 = o.1 1 := G.1
        simp (disch := omega) only [inb_nI, inb_lit, cl_nI, cl_lit, nI_add, add_nl, add_ln, mul_ln, pk_mul, le_nn, lt_nn, eq_nn, le_nl, lt_nl, eq_nl, le_ln, lt_ln, eq_ln, eq_ll, lt_ll, le_ll, eq_nm1, eq_nm2, eq_nm3, eq_nm4, Option.bind_some, ↓reduceIte, if_true, if_false, Nat.reduceEqDiff, Nat.reduceAdd, Nat.reduceMul, Nat.reduceLT, Nat.reduceLeDiff, g1, h3, Nat.le_refl]) (by
        rintro m i ⟨z, t⟩ hi ⟨⟨F, G⟩, rfl⟩
        have F : FR tF o z := F
        have G : GP (PW (o.1 1)) z := G
        right
        obtain ⟨u, eu, Fu, Gu, gu⟩ := e_go fu hf h.w G hi (show 0 < 61 by omega)
        refine ⟨(u, it (frF (PW (o.1 1)) n (nI q)) 0 (i + 1)), ?_, ⟨F.tr (Fu.mono (by decide)), Gu⟩, rfl⟩
        show p_X10_from_L24 fu (m + 1) z (nI q) (nI n) _ (nI i) = p_X10_from_L24 fu m _ (nI q) (nI n) _ (nI (i + 1))
        rw [p_X10_from_L24]
        have eu' : p_X10_goStick fu z (nI i) 0 = some u := eu
        have g1 : z.1 1 = o.1 1 := G.1
        simp (disch := omega) only [inb_nI, inb_lit, cl_nI, cl_lit, nI_add, add_nl, add_ln, mul_ln, pk_mul, le_nn, lt_nn, eq_nn, le_nl, lt_nl, eq_nl, le_ln, lt_ln, eq_ln, eq_ll, lt_ll, le_ll, eq_nm1, eq_nm2, eq_nm3, eq_nm4, Option.bind_some, ↓reduceIte, if_true, if_false, Nat.reduceEqDiff, Nat.reduceAdd, Nat.reduceMul, Nat.reduceLT, Nat.reduceLeDiff, g1, h3, if_neg (show ¬ nR (o.1 1) ≤ i by omega), eu', gu.at2 (Nat.zero_le n) hn, Nat.sub_zero, it, frF]
        split
        · rfl
        · rw [Int32.or_zero]) fu 0 (s, 0) (Nat.zero_le _) (by omega) ⟨⟨a.tf, a.gp⟩, rfl⟩
      obtain ⟨p1, p2⟩ := z1
      obtain ⟨q1, q2⟩ := z2
      simp only at c2 c3 d2 d3
      subst c2 d2
      exact ⟨_, p2, q2, c1, d1, h.kp c3 d3⟩
theorem s_ends (fu : Nat) (hf : 2000 ≤ fu) {x : Nat → Ob} {o : Ob} (h : Rel x o) (v1 : Int32) : ∃ r y t, p_X9_ends fu x v1 = some (r, y) ∧ p_X10_ends fu o v1 = some (r, t) ∧ Rel y t := by
  have hR := h.w.2.1.1
  have h3 := h.w.1.2.1
  obtain ⟨s, e, a⟩ := e_asksRivers fu hf o h.w
  unfold p_X9_ends p_X10_ends
  rw [e_hasStep fu h, Option.bind_some, e, Option.bind_some]
  by_cases c : nL (o.1 1) = 0
  · simp only [c, Option.bind_some, ↓reduceIte, if_true, if_false, Nat.reduceEqDiff, Nat.reduceAdd, Nat.reduceMul, Nat.reduceLT, Nat.reduceLeDiff]
    exact ⟨_, _, _, rfl, rfl, h.kp KQ.rf a.tf⟩
  · simp only [c, Option.bind_some, ↓reduceIte, if_true, if_false, Nat.reduceEqDiff, Nat.reduceAdd, Nat.reduceMul, Nat.reduceLT, Nat.reduceLeDiff, e_rStep]
    rcases ixq_of v1 (n := 61) (by omega) with ⟨e2, -⟩ | ⟨e2, n, hn, rfl⟩
    · simp only [e2, Option.bind_some, ↓reduceIte, if_true, if_false, Nat.reduceEqDiff, Nat.reduceAdd, Nat.reduceMul, Nat.reduceLT, Nat.reduceLeDiff]
      exact ⟨_, _, _, rfl, rfl, h.kp KQ.rf a.tf⟩
    · simp (disch := omega) only [e2, inb_nI, inb_lit, cl_nI, cl_lit, nI_add, add_nl, add_ln, mul_ln, pk_mul, le_nn, lt_nn, eq_nn, le_nl, lt_nl, eq_nl, le_ln, lt_ln, eq_ln, eq_ll, lt_ll, le_ll, eq_nm1, eq_nm2, eq_nm3, eq_nm4, Option.bind_some, ↓reduceIte, if_true, if_false, Nat.reduceEqDiff, Nat.reduceAdd, Nat.reduceMul, Nat.reduceLT, Nat.reduceLeDiff]
      obtain ⟨z1, c1, c2, c3⟩ := loop_inv (fun m i (t : (Nat → Ob) × Int32) => p_X9_ends_L15 fu m t.1 (nI n) t.2 (nI i)) (nR (o.1 1)) (fun i t => KQ x t.1 ∧ t.2 = it (enF (PW (o.1 1)) n) 0 i) (fun z => z.1 = it (enF (PW (o.1 1)) n) 0 (nR (o.1 1)) ∧ KQ x z.2) (by
        rintro m ⟨z, t⟩ ⟨k, rfl⟩
        have k : KQ x z := k
        refine ⟨(it (enF (PW (o.1 1)) n) 0 (nR (o.1 1)), z), ?_, rfl, k⟩
        show p_X9_ends_L15 fu (m + 1) z (nI n) _ (nI (nR (o.1 1))) = _
        rw [p_X9_ends_L15]
        simp (disch := omega) only [inb_nI, inb_lit, cl_nI, cl_lit, nI_add, add_nl, add_ln, mul_ln, pk_mul, le_nn, lt_nn, eq_nn, le_nl, lt_nl, eq_nl, le_ln, lt_ln, eq_ln, eq_ll, lt_ll, le_ll, eq_nm1, eq_nm2, eq_nm3, eq_nm4, Option.bind_some, ↓reduceIte, if_true, if_false, Nat.reduceEqDiff, Nat.reduceAdd, Nat.reduceMul, Nat.reduceLT, Nat.reduceLeDiff, kq5 h k, Nat.le_refl]) (by
        rintro m i ⟨z, t⟩ hi ⟨k, rfl⟩
        have k : KQ x z := k
        right
        obtain ⟨y, ey, d⟩ := e_dr fu hf h k (z 12) hi hn
        refine ⟨(va_up z 12 y, it (enF (PW (o.1 1)) n) 0 (i + 1)), ?_, k.up (by decide) y, rfl⟩
        show p_X9_ends_L15 fu (m + 1) z (nI n) _ (nI i) = p_X9_ends_L15 fu m _ (nI n) _ (nI (i + 1))
        rw [p_X9_ends_L15]
        have d4 : y.1 4 0 = coF (PW (o.1 1)) i n (-1) := d.2.2.2.2.1
        simp (disch := omega) only [inb_nI, inb_lit, cl_nI, cl_lit, nI_add, add_nl, add_ln, mul_ln, pk_mul, le_nn, lt_nn, eq_nn, le_nl, lt_nl, eq_nl, le_ln, lt_ln, eq_ln, eq_ll, lt_ll, le_ll, eq_nm1, eq_nm2, eq_nm3, eq_nm4, Option.bind_some, ↓reduceIte, if_true, if_false, Nat.reduceEqDiff, Nat.reduceAdd, Nat.reduceMul, Nat.reduceLT, Nat.reduceLeDiff, kq5 h k, if_neg (show ¬ nR (o.1 1) ≤ i by omega), ey, up12, d4, e_bit, it, enF]
        split <;> rfl) fu 0 (x, 0) (Nat.zero_le _) (by omega) ⟨KQ.rf, rfl⟩
      obtain ⟨z2, d1, d2, d3⟩ := loop_inv (fun m i (t : Ob × Int32) => p_X10_ends_L22 fu m t.1 (nI n) t.2 (nI i)) (nR (o.1 1)) (fun i t => (FR tF o t.1 ∧ GP (PW (o.1 1)) t.1) ∧ t.2 = it (enF (PW (o.1 1)) n) 0 i) (fun z => z.1 = it (enF (PW (o.1 1)) n) 0 (nR (o.1 1)) ∧ FR tF o z.2) (by
        rintro m ⟨z, t⟩ ⟨⟨F, G⟩, rfl⟩
        have F : FR tF o z := F
        refine ⟨(it (enF (PW (o.1 1)) n) 0 (nR (o.1 1)), z), ?_, rfl, F⟩
        show p_X10_ends_L22 fu (m + 1) z (nI n) _ (nI (nR (o.1 1))) = _
        rw [p_X10_ends_L22]
        have g1 : z.1 1 = o.1 1 := G.1
        simp (disch := omega) only [inb_nI, inb_lit, cl_nI, cl_lit, nI_add, add_nl, add_ln, mul_ln, pk_mul, le_nn, lt_nn, eq_nn, le_nl, lt_nl, eq_nl, le_ln, lt_ln, eq_ln, eq_ll, lt_ll, le_ll, eq_nm1, eq_nm2, eq_nm3, eq_nm4, Option.bind_some, ↓reduceIte, if_true, if_false, Nat.reduceEqDiff, Nat.reduceAdd, Nat.reduceMul, Nat.reduceLT, Nat.reduceLeDiff, g1, h3, Nat.le_refl]) (by
        rintro m i ⟨z, t⟩ hi ⟨⟨F, G⟩, rfl⟩
        have F : FR tF o z := F
        have G : GP (PW (o.1 1)) z := G
        right
        obtain ⟨u, eu, Fu, Gu, gu⟩ := e_go fu hf h.w G hi hn
        refine ⟨(u, it (enF (PW (o.1 1)) n) 0 (i + 1)), ?_, ⟨F.tr (Fu.mono (by decide)), Gu⟩, rfl⟩
        show p_X10_ends_L22 fu (m + 1) z (nI n) _ (nI i) = p_X10_ends_L22 fu m _ (nI n) _ (nI (i + 1))
        rw [p_X10_ends_L22]
        have g1 : z.1 1 = o.1 1 := G.1
        simp (disch := omega) only [inb_nI, inb_lit, cl_nI, cl_lit, nI_add, add_nl, add_ln, mul_ln, pk_mul, le_nn, lt_nn, eq_nn, le_nl, lt_nl, eq_nl, le_ln, lt_ln, eq_ln, eq_ll, lt_ll, le_ll, eq_nm1, eq_nm2, eq_nm3, eq_nm4, Option.bind_some, ↓reduceIte, if_true, if_false, Nat.reduceEqDiff, Nat.reduceAdd, Nat.reduceMul, Nat.reduceLT, Nat.reduceLeDiff, g1, h3, if_neg (show ¬ nR (o.1 1) ≤ i by omega), eu, e_comesOf fu hf _ hn gu, it, enF]
        split
        · rw [Int32.or_zero]
        · rfl) fu 0 (s, 0) (Nat.zero_le _) (by omega) ⟨⟨a.tf, a.gp⟩, rfl⟩
      obtain ⟨p1, p2⟩ := z1
      obtain ⟨q1, q2⟩ := z2
      simp only at c2 c3 d2 d3
      subst c2 d2
      exact ⟨_, p2, q2, c1, d1, h.kp c3 d3⟩
theorem s_together (fu : Nat) (hf : 2000 ≤ fu) {x : Nat → Ob} {o : Ob} (h : Rel x o) (v1 v2 : Int32) : ∃ r y t, p_X9_together fu x v1 v2 = some (r, y) ∧ p_X10_together fu o v1 v2 = some (r, t) ∧ Rel y t := by
  have hR := h.w.2.1.1
  have h3 := h.w.1.2.1
  unfold p_X9_together p_X10_together
  rcases e_putIn fu hf h v1 v2 with ⟨e1, t, e2, F⟩ | ⟨r, n, y, t, hr, hn, rfl, rfl, e1, d, e2, F, G, g⟩
  · simp only [e1, e2, Option.bind_some, ↓reduceIte, if_true, if_false, Nat.reduceEqDiff, Nat.reduceAdd, Nat.reduceMul, Nat.reduceLT, Nat.reduceLeDiff]
    exact ⟨_, _, _, rfl, rfl, h.kp KQ.rf F⟩
  · simp (disch := omega) only [e1, e2, Option.bind_some, ↓reduceIte, if_true, if_false, Nat.reduceEqDiff, Nat.reduceAdd, Nat.reduceMul, Nat.reduceLT, Nat.reduceLeDiff, inb_nI, inb_lit, cl_nI, cl_lit, nI_add, add_nl, add_ln, mul_ln, pk_mul, le_nn, lt_nn, eq_nn, le_nl, lt_nl, eq_nl, le_ln, lt_ln, eq_ln, eq_ll, lt_ll, le_ll, eq_nm1, eq_nm2, eq_nm3, eq_nm4, g.at2 (show n ≤ 60 by omega) (show 60 < 61 by omega)]
    obtain ⟨z1, c1, c2, c3⟩ := loop_inv (fun m i (t : (Nat → Ob) × Int32) => p_X9_together_L17 fu m t.1 (nI n) t.2 (nI i)) (nR (o.1 1)) (fun i t => (KQ x t.1 ∧ t.1 12 = y) ∧ t.2 = it (toF (PW (o.1 1)) n ((pth (PW (o.1 1)) r n (60 - n)).1)) 0 i) (fun z => z.1 = it (toF (PW (o.1 1)) n ((pth (PW (o.1 1)) r n (60 - n)).1)) 0 (nR (o.1 1)) ∧ KQ x z.2) (by
      rintro m ⟨z, t⟩ ⟨⟨k, -⟩, rfl⟩
      have k : KQ x z := k
      refine ⟨(it (toF (PW (o.1 1)) n ((pth (PW (o.1 1)) r n (60 - n)).1)) 0 (nR (o.1 1)), z), ?_, rfl, k⟩
      show p_X9_together_L17 fu (m + 1) z (nI n) _ (nI (nR (o.1 1))) = _
      rw [p_X9_together_L17]
      simp (disch := omega) only [inb_nI, inb_lit, cl_nI, cl_lit, nI_add, add_nl, add_ln, mul_ln, pk_mul, le_nn, lt_nn, eq_nn, le_nl, lt_nl, eq_nl, le_ln, lt_ln, eq_ln, eq_ll, lt_ll, le_ll, eq_nm1, eq_nm2, eq_nm3, eq_nm4, Option.bind_some, ↓reduceIte, if_true, if_false, Nat.reduceEqDiff, Nat.reduceAdd, Nat.reduceMul, Nat.reduceLT, Nat.reduceLeDiff, kq5 h k, Nat.le_refl]) (by
      rintro m i ⟨z, t⟩ hi ⟨⟨k, k12⟩, rfl⟩
      have k : KQ x z := k
      right
      have k12 : z 12 = y := k12
      obtain ⟨b, eb, db⟩ := e_dr fu hf h k (z 13) hi hn
      refine ⟨(va_up z 13 b, it (toF (PW (o.1 1)) n ((pth (PW (o.1 1)) r n (60 - n)).1)) 0 (i + 1)), ?_, ⟨k.up (by decide) b, k12⟩, rfl⟩
      show p_X9_together_L17 fu (m + 1) z (nI n) _ (nI i) = p_X9_together_L17 fu m _ (nI n) _ (nI (i + 1))
      rw [p_X9_together_L17]
      have u13 : va_up z 13 b 13 = b := rfl
      have u12 : va_up z 13 b 12 = y := k12
      have s60 : ∀ b' : Ob, p_X5_spotAt fu b' (60 : Int32) = some (b'.1 0 60) := fun b' => e_spotAt fu b' (n := 60) (by omega)
      simp (disch := omega) only [inb_nI, inb_lit, cl_nI, cl_lit, nI_add, add_nl, add_ln, mul_ln, pk_mul, le_nn, lt_nn, eq_nn, le_nl, lt_nl, eq_nl, le_ln, lt_ln, eq_ln, eq_ll, lt_ll, le_ll, eq_nm1, eq_nm2, eq_nm3, eq_nm4, Option.bind_some, ↓reduceIte, if_true, if_false, Nat.reduceEqDiff, Nat.reduceAdd, Nat.reduceMul, Nat.reduceLT, Nat.reduceLeDiff, kq5 h k, if_neg (show ¬ nR (o.1 1) ≤ i by omega), eb, u12, u13, s60, db.at (show n ≤ 60 by omega) (show 60 < 61 by omega), d.at (show n ≤ 60 by omega) (show 60 < 61 by omega), e_bit, it, toF]
      split <;> rfl) fu 0 (va_up x 12 y, 0) (Nat.zero_le _) (by omega) ⟨⟨KQ.s12 y, rfl⟩, rfl⟩
    obtain ⟨z2, d1, d2, d3⟩ := loop_inv (fun m i (u : Ob × Int32) => p_X10_together_L26 fu m u.1 (nI n) ((pth (PW (o.1 1)) r n (60 - n)).1) u.2 (nI i)) (nR (o.1 1)) (fun i t => (FR tF o t.1 ∧ GP (PW (o.1 1)) t.1) ∧ t.2 = it (toF (PW (o.1 1)) n ((pth (PW (o.1 1)) r n (60 - n)).1)) 0 i) (fun z => z.1 = it (toF (PW (o.1 1)) n ((pth (PW (o.1 1)) r n (60 - n)).1)) 0 (nR (o.1 1)) ∧ FR tF o z.2) (by
      rintro m ⟨z, t⟩ ⟨⟨F, G⟩, rfl⟩
      have F : FR tF o z := F
      refine ⟨(it (toF (PW (o.1 1)) n ((pth (PW (o.1 1)) r n (60 - n)).1)) 0 (nR (o.1 1)), z), ?_, rfl, F⟩
      show p_X10_together_L26 fu (m + 1) z (nI n) _ _ (nI (nR (o.1 1))) = _
      rw [p_X10_together_L26]
      have g1 : z.1 1 = o.1 1 := G.1
      simp (disch := omega) only [inb_nI, inb_lit, cl_nI, cl_lit, nI_add, add_nl, add_ln, mul_ln, pk_mul, le_nn, lt_nn, eq_nn, le_nl, lt_nl, eq_nl, le_ln, lt_ln, eq_ln, eq_ll, lt_ll, le_ll, eq_nm1, eq_nm2, eq_nm3, eq_nm4, Option.bind_some, ↓reduceIte, if_true, if_false, Nat.reduceEqDiff, Nat.reduceAdd, Nat.reduceMul, Nat.reduceLT, Nat.reduceLeDiff, g1, h3, Nat.le_refl]) (by
      rintro m i ⟨z, t⟩ hi ⟨⟨F, G⟩, rfl⟩
      have F : FR tF o z := F
      have G : GP (PW (o.1 1)) z := G
      right
      obtain ⟨u, eu, Fu, Gu, gu⟩ := e_go fu hf h.w G hi hn
      refine ⟨(u, it (toF (PW (o.1 1)) n ((pth (PW (o.1 1)) r n (60 - n)).1)) 0 (i + 1)), ?_, ⟨F.tr (Fu.mono (by decide)), Gu⟩, rfl⟩
      show p_X10_together_L26 fu (m + 1) z (nI n) _ _ (nI i) = p_X10_together_L26 fu m _ (nI n) _ _ (nI (i + 1))
      rw [p_X10_together_L26]
      have g1 : z.1 1 = o.1 1 := G.1
      simp (disch := omega) only [inb_nI, inb_lit, cl_nI, cl_lit, nI_add, add_nl, add_ln, mul_ln, pk_mul, le_nn, lt_nn, eq_nn, le_nl, lt_nl, eq_nl, le_ln, lt_ln, eq_ln, eq_ll, lt_ll, le_ll, eq_nm1, eq_nm2, eq_nm3, eq_nm4, Option.bind_some, ↓reduceIte, if_true, if_false, Nat.reduceEqDiff, Nat.reduceAdd, Nat.reduceMul, Nat.reduceLT, Nat.reduceLeDiff, g1, h3, if_neg (show ¬ nR (o.1 1) ≤ i by omega), eu, gu.at2 (show n ≤ 60 by omega) (show 60 < 61 by omega), it, toF]
      split
      · rfl
      · rw [Int32.or_zero]) fu 0 (t, 0) (Nat.zero_le _) (by omega) ⟨⟨F, G⟩, rfl⟩
    obtain ⟨p1, p2⟩ := z1
    obtain ⟨q1, q2⟩ := z2
    simp only at c2 c3 d2 d3
    subst c2 d2
    exact ⟨_, p2, q2, c1, d1, h.kp c3 d3⟩
