/-! busy -/
def bcF (P : PP) (n r : Nat) (f : Nat → Int32) : Nat → Int32 := if (pth P r 0 n).1 < 0 then f else upd f (pth P r 0 n).1.toNatClampNeg (f (pth P r 0 n).1.toNatClampNeg + 1)
def bcn (P : PP) (n k : Nat) : Nat → Int32 := it (bcF P n) (fun _ => 0) k
def bst (c : Nat → Int32) (k : Nat) : Int32 × Int32 := it (fun j p => if c j ≤ p.2 then p else (nI j, c j)) (-1, 0) k
theorem bcn_out (P : PP) (h : OKP P) (n : Nat) : ∀ k, k ≤ nR P.1 → ∀ j, nR P.1 ≤ j → bcn P n k j = 0 := by
  intro k
  have hR := h.1.2.1.1
  induction k with
  | zero => intro _ j _; rfl
  | succ k ih =>
    intro hk j hj
    show bcF P n k (bcn P n k) j = 0
    unfold bcF
    rcases spo_neg h (pth_ok P h (show k < nR P.1 by omega) 0 n).1 with ⟨hneg, -⟩ | ⟨q, hq, hq10, eq⟩
    · rw [if_pos hneg]; exact ih (by omega) j hj
    · rw [if_neg (by rw [eq]; exact nn0 (by omega)), eq, cl_nI (by omega), upd_v, if_neg (by omega)]
      exact ih (by omega) j hj
theorem bst_nn (c : Nat → Int32) : ∀ k, (0 : Int32) ≤ (bst c k).2 := by
  intro k
  induction k with
  | zero => exact Int32.le_refl _
  | succ k ih =>
    show (0 : Int32) ≤ (if c k ≤ (bst c k).2 then bst c k else (nI k, c k)).2
    split
    · exact ih
    · rename_i z
      exact Int32.le_of_lt (Int32.lt_of_le_of_lt ih (Int32.not_le.mp z))
theorem bst_more (c : Nat → Int32) {m : Nat} (h : ∀ j, m ≤ j → c j = 0) : ∀ d, bst c (m + d) = bst c m := by
  intro d
  induction d with
  | zero => rfl
  | succ d ih =>
    show (if c (m + d) ≤ (bst c (m + d)).2 then bst c (m + d) else (nI (m + d), c (m + d))) = _
    rw [h (m + d) (by omega), if_pos (bst_nn c _), ih]
theorem bst_at (c : Nat → Int32) : ∀ k, k ≤ 10 → ((bst c k).1 = -1 ∧ (bst c k).2 = 0) ∨ ∃ j, j < k ∧ (bst c k).1 = nI j ∧ (bst c k).2 = c j := by
  intro k
  induction k with
  | zero => intro _; exact Or.inl ⟨rfl, rfl⟩
  | succ k ih =>
    intro hk
    have e : bst c (k + 1) = if c k ≤ (bst c k).2 then bst c k else (nI k, c k) := rfl
    rw [e]
    split
    · rcases ih (by omega) with z | ⟨j, hj, z⟩
      · exact Or.inl z
      · exact Or.inr ⟨j, by omega, z⟩
    · exact Or.inr ⟨k, by omega, rfl, rfl⟩
theorem s_busy (fu : Nat) (hf : 2000 ≤ fu) {x : Nat → Ob} {o : Ob} (h : Rel x o) (v1 : Int32) : ∃ r y t, p_X9_busy fu x v1 = some (r, y) ∧ p_X10_busy fu o v1 = some (r, t) ∧ Rel y t := by
  have hR := h.w.2.1.1
  have h3 := h.w.1.2.1
  obtain ⟨s, e, a⟩ := e_asksRivers fu hf o h.w
  unfold p_X9_busy p_X10_busy
  rw [e_hasStep fu h, Option.bind_some, e, Option.bind_some]
  by_cases c : nL (o.1 1) = 0
  · simp only [c, Option.bind_some, ↓reduceIte, if_true, if_false, Nat.reduceEqDiff, Nat.reduceAdd, Nat.reduceMul, Nat.reduceLT, Nat.reduceLeDiff]
    exact ⟨_, _, _, rfl, rfl, h.kp KQ.rf a.tf⟩
  · simp only [c, Option.bind_some, ↓reduceIte, if_true, if_false, Nat.reduceEqDiff, Nat.reduceAdd, Nat.reduceMul, Nat.reduceLT, Nat.reduceLeDiff, e_rStep]
    rcases ixq_of v1 (n := 61) (by omega) with ⟨e2, -⟩ | ⟨e2, n, hn, rfl⟩
    · simp only [e2, Option.bind_some, ↓reduceIte, if_true, if_false, Nat.reduceEqDiff, Nat.reduceAdd, Nat.reduceMul, Nat.reduceLT, Nat.reduceLeDiff]
      exact ⟨_, _, _, rfl, rfl, h.kp KQ.rf a.tf⟩
    · simp (disch := omega) only [e2, inb_nI, inb_lit, cl_nI, cl_lit, nI_add, add_nl, add_ln, mul_ln, pk_mul, le_nn, lt_nn, eq_nn, le_nl, lt_nl, eq_nl, le_ln, lt_ln, eq_ln, eq_ll, lt_ll, le_ll, eq_nm1, eq_nm2, eq_nm3, eq_nm4, Option.bind_some, ↓reduceIte, if_true, if_false, Nat.reduceEqDiff, Nat.reduceAdd, Nat.reduceMul, Nat.reduceLT, Nat.reduceLeDiff]
      obtain ⟨z1, c1, k1, c2⟩ := loop_to (fun m i z => p_X9_busy_L13 fu (fun xz v1 => p_X9_busy_L41 fu (fun xz => p_X9_busy_L109 fu fu xz (-1) 0 0) fu xz v1 0) m z (nI n) (nI i)) (nR (o.1 1)) (fun i z => KQ x z ∧ ∀ j, j < i → (z 0).1 13 j = 0) (fun z => p_X9_busy_L41 fu (fun xz => p_X9_busy_L109 fu fu xz (-1) 0 0) fu z (nI n) 0) (by
        rintro m z ⟨k, -⟩
        show p_X9_busy_L13 fu _ (m + 1) z (nI n) (nI (nR (o.1 1))) = _
        rw [p_X9_busy_L13]
        simp (disch := omega) only [inb_nI, inb_lit, cl_nI, cl_lit, nI_add, add_nl, add_ln, mul_ln, pk_mul, le_nn, lt_nn, eq_nn, le_nl, lt_nl, eq_nl, le_ln, lt_ln, eq_ln, eq_ll, lt_ll, le_ll, eq_nm1, eq_nm2, eq_nm3, eq_nm4, Option.bind_some, ↓reduceIte, if_true, if_false, Nat.reduceEqDiff, Nat.reduceAdd, Nat.reduceMul, Nat.reduceLT, Nat.reduceLeDiff, kq5 h k, Nat.le_refl]) (by
        rintro m i z hi ⟨k, hz⟩
        refine ⟨va_up z 0 (oA (z 0) 13 (upd ((z 0).1 13) i 0)), ?_, k.up0 _, ?_⟩
        · show p_X9_busy_L13 fu _ (m + 1) z (nI n) (nI i) = p_X9_busy_L13 fu _ m _ (nI n) (nI (i + 1))
          rw [p_X9_busy_L13]
          simp (disch := omega) only [inb_nI, inb_lit, cl_nI, cl_lit, nI_add, add_nl, add_ln, mul_ln, pk_mul, le_nn, lt_nn, eq_nn, le_nl, lt_nl, eq_nl, le_ln, lt_ln, eq_ln, eq_ll, lt_ll, le_ll, eq_nm1, eq_nm2, eq_nm3, eq_nm4, Option.bind_some, ↓reduceIte, if_true, if_false, Nat.reduceEqDiff, Nat.reduceAdd, Nat.reduceMul, Nat.reduceLT, Nat.reduceLeDiff, kq5 h k, e_put, if_neg (show ¬ nR (o.1 1) ≤ i by omega)]
        · intro j hj
          simp only [oA_1, oI_1, oLA_1, oL_1, oA_2, oI_2, oLA_2, oL_2, up_v, upd_v, updL_v, Option.bind_some, ↓reduceIte, if_true, if_false, Nat.reduceEqDiff, Nat.reduceAdd, Nat.reduceMul, Nat.reduceLT, Nat.reduceLeDiff]
          split
          · rfl
          · exact hz j (by omega)) fu 0 x (Nat.zero_le _) (by omega) ⟨KQ.rf, fun j hj => by omega⟩
      obtain ⟨z2, d1, k2, d2⟩ := loop_to (fun m i z => p_X9_busy_L41 fu (fun xz => p_X9_busy_L109 fu fu xz (-1) 0 0) m z (nI n) (nI i)) (nR (o.1 1)) (fun i z => KQ x z ∧ ∀ j, j < nR (o.1 1) → (z 0).1 13 j = bcn (PW (o.1 1)) n i j) (fun z => p_X9_busy_L109 fu fu z (-1) 0 0) (by
        rintro m z ⟨k, -⟩
        show p_X9_busy_L41 fu _ (m + 1) z (nI n) (nI (nR (o.1 1))) = _
        rw [p_X9_busy_L41]
        simp (disch := omega) only [inb_nI, inb_lit, cl_nI, cl_lit, nI_add, add_nl, add_ln, mul_ln, pk_mul, le_nn, lt_nn, eq_nn, le_nl, lt_nl, eq_nl, le_ln, lt_ln, eq_ln, eq_ll, lt_ll, le_ll, eq_nm1, eq_nm2, eq_nm3, eq_nm4, Option.bind_some, ↓reduceIte, if_true, if_false, Nat.reduceEqDiff, Nat.reduceAdd, Nat.reduceMul, Nat.reduceLT, Nat.reduceLeDiff, kq5 h k, Nat.le_refl]) (by
        rintro m i z hi ⟨k, hz⟩
        obtain ⟨y, ey, d⟩ := e_dr fu hf h k (z 12) hi (show 0 < 61 by omega)
        have ey' : p_X5_drift fu (z 12) (z 5) (z 10) (nI i) 0 = some y := ey
        have u0 : va_up z 12 y 0 = z 0 := rfl
        have hp := pth_ok (PW (o.1 1)) h.w.p hi 0 n
        have hb : bcn (PW (o.1 1)) n (i + 1) = bcF (PW (o.1 1)) n i (bcn (PW (o.1 1)) n i) := rfl
        rcases spo_neg h.w.p hp.1 with ⟨hneg, -⟩ | ⟨q, hq, hq10, eq⟩
        · refine ⟨va_up (va_up z 12 y) 0 (oA (z 0) 13 ((z 0).1 13)), ?_, ?_, ?_⟩
          · show p_X9_busy_L41 fu _ (m + 1) z (nI n) (nI i) = p_X9_busy_L41 fu _ m _ (nI n) (nI (i + 1))
            rw [p_X9_busy_L41]
            simp (disch := first | omega | exact hneg) only [inb_nI, inb_lit, cl_nI, cl_lit, nI_add, add_nl, add_ln, mul_ln, pk_mul, le_nn, lt_nn, eq_nn, le_nl, lt_nl, eq_nl, le_ln, lt_ln, eq_ln, eq_ll, lt_ll, le_ll, eq_nm1, eq_nm2, eq_nm3, eq_nm4, Option.bind_some, ↓reduceIte, if_true, if_false, Nat.reduceEqDiff, Nat.reduceAdd, Nat.reduceMul, Nat.reduceLT, Nat.reduceLeDiff, kq5 h k, if_neg (show ¬ nR (o.1 1) ≤ i by omega), ey', up12, e_spotAt, d.at (Nat.zero_le n) hn, Nat.sub_zero, u0, e_pickneg, e_putneg]
          · exact (k.up (by decide) y).up0 _
          · intro j hj
            rw [hb, bcF, if_pos hneg]
            exact hz j hj
        · have hqR : q < nR (o.1 1) := hq
          refine ⟨va_up (va_up z 12 y) 0 (oA (z 0) 13 (upd ((z 0).1 13) q ((z 0).1 13 q + 1))), ?_, ?_, ?_⟩
          · show p_X9_busy_L41 fu _ (m + 1) z (nI n) (nI i) = p_X9_busy_L41 fu _ m _ (nI n) (nI (i + 1))
            rw [p_X9_busy_L41]
            simp (disch := omega) only [inb_nI, inb_lit, cl_nI, cl_lit, nI_add, add_nl, add_ln, mul_ln, pk_mul, le_nn, lt_nn, eq_nn, le_nl, lt_nl, eq_nl, le_ln, lt_ln, eq_ln, eq_ll, lt_ll, le_ll, eq_nm1, eq_nm2, eq_nm3, eq_nm4, Option.bind_some, ↓reduceIte, if_true, if_false, Nat.reduceEqDiff, Nat.reduceAdd, Nat.reduceMul, Nat.reduceLT, Nat.reduceLeDiff, kq5 h k, if_neg (show ¬ nR (o.1 1) ≤ i by omega), ey', up12, e_spotAt, d.at (Nat.zero_le n) hn, Nat.sub_zero, u0, eq, e_pick, e_put]
          · exact (k.up (by decide) y).up0 _
          · intro j hj
            rw [hb, bcF, if_neg (by rw [eq]; exact nn0 (by omega)), eq, cl_nI (by omega), upd_v]
            simp only [oA_1, oI_1, oLA_1, oL_1, oA_2, oI_2, oLA_2, oL_2, up_v, upd_v, updL_v, Option.bind_some, ↓reduceIte, if_true, if_false, Nat.reduceEqDiff, Nat.reduceAdd, Nat.reduceMul, Nat.reduceLT, Nat.reduceLeDiff]
            rw [hz q hqR]
            split
            · rfl
            · exact hz j hj) fu 0 z1 (Nat.zero_le _) (by omega) ⟨k1, fun j hj => c2 j hj⟩
      obtain ⟨z3, f1, f2, k3⟩ := loop_inv (fun m i (t : (Nat → Ob) × Int32 × Int32) => p_X9_busy_L109 fu m t.1 t.2.1 t.2.2 (nI i)) (nR (o.1 1)) (fun i t => (KQ x t.1 ∧ ∀ j, j < nR (o.1 1) → (t.1 0).1 13 j = (bcn (PW (o.1 1)) n (nR (o.1 1))) j) ∧ t.2 = bst (bcn (PW (o.1 1)) n (nR (o.1 1))) i) (fun z => z.1 = (bst (bcn (PW (o.1 1)) n (nR (o.1 1))) (nR (o.1 1))).1 ∧ KQ x z.2) (by
        rintro m ⟨z, t⟩ ⟨⟨k, dz⟩, rfl⟩
        have k : KQ x z := k
        refine ⟨((bst (bcn (PW (o.1 1)) n (nR (o.1 1))) (nR (o.1 1))).1, z), ?_, rfl, k⟩
        show p_X9_busy_L109 fu (m + 1) z _ _ (nI (nR (o.1 1))) = _
        rw [p_X9_busy_L109]
        simp (disch := omega) only [inb_nI, inb_lit, cl_nI, cl_lit, nI_add, add_nl, add_ln, mul_ln, pk_mul, le_nn, lt_nn, eq_nn, le_nl, lt_nl, eq_nl, le_ln, lt_ln, eq_ln, eq_ll, lt_ll, le_ll, eq_nm1, eq_nm2, eq_nm3, eq_nm4, Option.bind_some, ↓reduceIte, if_true, if_false, Nat.reduceEqDiff, Nat.reduceAdd, Nat.reduceMul, Nat.reduceLT, Nat.reduceLeDiff, kq5 h k, Nat.le_refl]) (by
        rintro m i ⟨z, t⟩ hi ⟨⟨k, dz⟩, rfl⟩
        have k : KQ x z := k
        have dz : ∀ j, j < nR (o.1 1) → (z 0).1 13 j = (bcn (PW (o.1 1)) n (nR (o.1 1))) j := dz
        right
        refine ⟨(z, bst (bcn (PW (o.1 1)) n (nR (o.1 1))) (i + 1)), ?_, ⟨k, dz⟩, rfl⟩
        show p_X9_busy_L109 fu (m + 1) z _ _ (nI i) = p_X9_busy_L109 fu m z _ _ (nI (i + 1))
        rw [p_X9_busy_L109]
        have e : bst (bcn (PW (o.1 1)) n (nR (o.1 1))) (i + 1) = if (bcn (PW (o.1 1)) n (nR (o.1 1))) i ≤ (bst (bcn (PW (o.1 1)) n (nR (o.1 1))) i).2 then bst (bcn (PW (o.1 1)) n (nR (o.1 1))) i else (nI i, (bcn (PW (o.1 1)) n (nR (o.1 1))) i) := rfl
        simp (disch := omega) only [inb_nI, inb_lit, cl_nI, cl_lit, nI_add, add_nl, add_ln, mul_ln, pk_mul, le_nn, lt_nn, eq_nn, le_nl, lt_nl, eq_nl, le_ln, lt_ln, eq_ln, eq_ll, lt_ll, le_ll, eq_nm1, eq_nm2, eq_nm3, eq_nm4, Option.bind_some, ↓reduceIte, if_true, if_false, Nat.reduceEqDiff, Nat.reduceAdd, Nat.reduceMul, Nat.reduceLT, Nat.reduceLeDiff, kq5 h k, if_neg (show ¬ nR (o.1 1) ≤ i by omega), e_pick, dz i hi, e]
        by_cases c8 : (bcn (PW (o.1 1)) n (nR (o.1 1))) i ≤ (bst (bcn (PW (o.1 1)) n (nR (o.1 1))) i).2
        · simp only [if_pos c8]
        · simp only [if_neg c8]) fu 0 (z2, -1, 0) (Nat.zero_le _) (by omega) ⟨⟨k2, d2⟩, rfl⟩
      obtain ⟨t1, g1, F1, g2⟩ := loop_to (fun m i z => p_X10_busy_L20 fu (fun oz v1 => p_X10_busy_L41 fu (fun oz => p_X10_busy_L91 fu fu oz (-1) 0) fu oz v1 0) m z (nI n) (nI i)) 10 (fun i z => FR [28] s z ∧ ∀ j, j < i → z.1 28 j = 0) (fun z => p_X10_busy_L41 fu (fun oz => p_X10_busy_L91 fu fu oz (-1) 0) fu z (nI n) 0) (by
        rintro m z -
        show p_X10_busy_L20 fu _ (m + 1) z (nI n) (nI 10) = _
        rw [p_X10_busy_L20]
        simp (disch := omega) only [inb_nI, inb_lit, cl_nI, cl_lit, nI_add, add_nl, add_ln, mul_ln, pk_mul, le_nn, lt_nn, eq_nn, le_nl, lt_nl, eq_nl, le_ln, lt_ln, eq_ln, eq_ll, lt_ll, le_ll, eq_nm1, eq_nm2, eq_nm3, eq_nm4, Option.bind_some, ↓reduceIte, if_true, if_false, Nat.reduceEqDiff, Nat.reduceAdd, Nat.reduceMul, Nat.reduceLT, Nat.reduceLeDiff]) (by
        rintro m i z hi ⟨F, hz⟩
        refine ⟨oA z 28 (upd (z.1 28) i 0), ?_, F.A (by decide) _, ?_⟩
        · show p_X10_busy_L20 fu _ (m + 1) z (nI n) (nI i) = p_X10_busy_L20 fu _ m _ (nI n) (nI (i + 1))
          rw [p_X10_busy_L20]
          simp (disch := omega) only [inb_nI, inb_lit, cl_nI, cl_lit, nI_add, add_nl, add_ln, mul_ln, pk_mul, le_nn, lt_nn, eq_nn, le_nl, lt_nl, eq_nl, le_ln, lt_ln, eq_ln, eq_ll, lt_ll, le_ll, eq_nm1, eq_nm2, eq_nm3, eq_nm4, Option.bind_some, ↓reduceIte, if_true, if_false, Nat.reduceEqDiff, Nat.reduceAdd, Nat.reduceMul, Nat.reduceLT, Nat.reduceLeDiff, if_neg (show ¬ 10 ≤ i by omega)]
        · intro j hj
          simp only [oA_1, oI_1, oLA_1, oL_1, oA_2, oI_2, oLA_2, oL_2, up_v, upd_v, updL_v, Option.bind_some, ↓reduceIte, if_true, if_false, Nat.reduceEqDiff, Nat.reduceAdd, Nat.reduceMul, Nat.reduceLT, Nat.reduceLeDiff]
          split
          · rfl
          · exact hz j (by omega)) fu 0 s (Nat.zero_le _) (by omega) ⟨FR.rf, fun j hj => by omega⟩
      have G1 : GP (PW (o.1 1)) t1 := a.gp.kp F1 (by decide) (by decide) (by decide) (by decide) (by decide) (by decide)
      obtain ⟨t2, q1, ⟨F2, G2⟩, q2⟩ := loop_to (fun m i z => p_X10_busy_L41 fu (fun oz => p_X10_busy_L91 fu fu oz (-1) 0) m z (nI n) (nI i)) (nR (o.1 1)) (fun i z => (FR tF o z ∧ GP (PW (o.1 1)) z) ∧ ∀ j, j < 10 → z.1 28 j = bcn (PW (o.1 1)) n i j) (fun z => p_X10_busy_L91 fu fu z (-1) 0) (by
        rintro m z ⟨⟨F, G⟩, -⟩
        show p_X10_busy_L41 fu _ (m + 1) z (nI n) (nI (nR (o.1 1))) = _
        rw [p_X10_busy_L41]
        have g1 : z.1 1 = o.1 1 := G.1
        simp (disch := omega) only [inb_nI, inb_lit, cl_nI, cl_lit, nI_add, add_nl, add_ln, mul_ln, pk_mul, le_nn, lt_nn, eq_nn, le_nl, lt_nl, eq_nl, le_ln, lt_ln, eq_ln, eq_ll, lt_ll, le_ll, eq_nm1, eq_nm2, eq_nm3, eq_nm4, Option.bind_some, ↓reduceIte, if_true, if_false, Nat.reduceEqDiff, Nat.reduceAdd, Nat.reduceMul, Nat.reduceLT, Nat.reduceLeDiff, g1, h3, Nat.le_refl]) (by
        rintro m i z hi ⟨⟨F, G⟩, hz⟩
        obtain ⟨u, eu, Fu, Gu, gu⟩ := e_go fu hf h.w G hi (show 0 < 61 by omega)
        have eu' : p_X10_goStick fu z (nI i) 0 = some u := eu
        have g1 : z.1 1 = o.1 1 := G.1
        have hu : ∀ j, j < 10 → u.1 28 j = bcn (PW (o.1 1)) n i j := fun j hj => by rw [Fu.f1 28 (by decide)]; exact hz j hj
        have hb : bcn (PW (o.1 1)) n (i + 1) = bcF (PW (o.1 1)) n i (bcn (PW (o.1 1)) n i) := rfl
        have hp := pth_ok (PW (o.1 1)) h.w.p hi 0 n
        have FF : FR tF o u := F.tr (Fu.mono (by decide))
        rcases spo_neg h.w.p hp.1 with ⟨hneg, -⟩ | ⟨q, hq, hq10, eq⟩
        · refine ⟨u, ?_, ⟨FF, Gu⟩, fun j hj => by rw [hb, bcF, if_pos hneg]; exact hu j hj⟩
          show p_X10_busy_L41 fu _ (m + 1) z (nI n) (nI i) = p_X10_busy_L41 fu _ m _ (nI n) (nI (i + 1))
          rw [p_X10_busy_L41]
          simp (disch := omega) only [inb_nI, inb_lit, cl_nI, cl_lit, nI_add, add_nl, add_ln, mul_ln, pk_mul, le_nn, lt_nn, eq_nn, le_nl, lt_nl, eq_nl, le_ln, lt_ln, eq_ln, eq_ll, lt_ll, le_ll, eq_nm1, eq_nm2, eq_nm3, eq_nm4, Option.bind_some, ↓reduceIte, if_true, if_false, Nat.reduceEqDiff, Nat.reduceAdd, Nat.reduceMul, Nat.reduceLT, Nat.reduceLeDiff, g1, h3, if_neg (show ¬ nR (o.1 1) ≤ i by omega), eu', gu.at2 (Nat.zero_le n) hn, Nat.sub_zero, if_pos hneg]
        · refine ⟨oA u 28 (upd (u.1 28) q (u.1 28 q + 1)), ?_, ⟨FF.A (by decide) _, Gu.kp (FR.rf.A (fs := [28]) (by decide) _) (by decide) (by decide) (by decide) (by decide) (by decide) (by decide)⟩, ?_⟩
          · show p_X10_busy_L41 fu _ (m + 1) z (nI n) (nI i) = p_X10_busy_L41 fu _ m _ (nI n) (nI (i + 1))
            rw [p_X10_busy_L41]
            simp (disch := omega) only [inb_nI, inb_lit, cl_nI, cl_lit, nI_add, add_nl, add_ln, mul_ln, pk_mul, le_nn, lt_nn, eq_nn, le_nl, lt_nl, eq_nl, le_ln, lt_ln, eq_ln, eq_ll, lt_ll, le_ll, eq_nm1, eq_nm2, eq_nm3, eq_nm4, Option.bind_some, ↓reduceIte, if_true, if_false, Nat.reduceEqDiff, Nat.reduceAdd, Nat.reduceMul, Nat.reduceLT, Nat.reduceLeDiff, g1, h3, if_neg (show ¬ nR (o.1 1) ≤ i by omega), eu', gu.at2 (Nat.zero_le n) hn, Nat.sub_zero, eq, if_neg (show ¬ q < 0 by omega)]
          · intro j hj
            rw [hb, bcF, if_neg (by rw [eq]; exact nn0 (by omega)), eq, cl_nI (by omega), upd_v]
            simp only [oA_1, oI_1, oLA_1, oL_1, oA_2, oI_2, oLA_2, oL_2, up_v, upd_v, updL_v, Option.bind_some, ↓reduceIte, if_true, if_false, Nat.reduceEqDiff, Nat.reduceAdd, Nat.reduceMul, Nat.reduceLT, Nat.reduceLeDiff]
            rw [hu q hq10]
            split
            · rfl
            · exact hu j hj) fu 0 t1 (Nat.zero_le _) (by omega) ⟨⟨a.tf.tr (F1.mono (by decide)), G1⟩, fun j hj => g2 j hj⟩
      have e10 : bst (bcn (PW (o.1 1)) n (nR (o.1 1))) 10 = bst (bcn (PW (o.1 1)) n (nR (o.1 1))) (nR (o.1 1)) := by
        have := bst_more (bcn (PW (o.1 1)) n (nR (o.1 1))) (m := nR (o.1 1)) (fun j hj => bcn_out (PW (o.1 1)) h.w.p n (nR (o.1 1)) (Nat.le_refl _) j hj) (10 - nR (o.1 1))
        rw [show nR (o.1 1) + (10 - nR (o.1 1)) = 10 by omega] at this
        exact this
      obtain ⟨t3, r1, r2, r3⟩ := loop_inv (fun m i (t : Ob × Int32) => p_X10_busy_L91 fu m t.1 t.2 (nI i)) 10 (fun i t => (FR tF o t.1 ∧ ∀ j, j < 10 → t.1.1 28 j = (bcn (PW (o.1 1)) n (nR (o.1 1))) j) ∧ t.2 = (bst (bcn (PW (o.1 1)) n (nR (o.1 1))) i).1) (fun z => z.1 = (bst (bcn (PW (o.1 1)) n (nR (o.1 1))) (nR (o.1 1))).1 ∧ FR tF o z.2) (by
        rintro m ⟨z, t⟩ ⟨⟨F, -⟩, ht⟩
        have F : FR tF o z := F
        have ht : t = (bst (bcn (PW (o.1 1)) n (nR (o.1 1))) 10).1 := ht
        rw [e10] at ht
        refine ⟨(t, z), ?_, ht, F⟩
        show p_X10_busy_L91 fu (m + 1) z t (nI 10) = _
        rw [p_X10_busy_L91]
        simp (disch := omega) only [inb_nI, inb_lit, cl_nI, cl_lit, nI_add, add_nl, add_ln, mul_ln, pk_mul, le_nn, lt_nn, eq_nn, le_nl, lt_nl, eq_nl, le_ln, lt_ln, eq_ln, eq_ll, lt_ll, le_ll, eq_nm1, eq_nm2, eq_nm3, eq_nm4, Option.bind_some, ↓reduceIte, if_true, if_false, Nat.reduceEqDiff, Nat.reduceAdd, Nat.reduceMul, Nat.reduceLT, Nat.reduceLeDiff]) (by
        rintro m i ⟨z, t⟩ hi ⟨⟨F, dz⟩, ht⟩
        have F : FR tF o z := F
        have ht : t = (bst (bcn (PW (o.1 1)) n (nR (o.1 1))) i).1 := ht
        have dz : ∀ j, j < 10 → z.1 28 j = (bcn (PW (o.1 1)) n (nR (o.1 1))) j := dz
        right
        refine ⟨(z, (bst (bcn (PW (o.1 1)) n (nR (o.1 1))) (i + 1)).1), ?_, ⟨F, dz⟩, rfl⟩
        show p_X10_busy_L91 fu (m + 1) z t (nI i) = p_X10_busy_L91 fu m z _ (nI (i + 1))
        rw [p_X10_busy_L91]
        have e : bst (bcn (PW (o.1 1)) n (nR (o.1 1))) (i + 1) = if (bcn (PW (o.1 1)) n (nR (o.1 1))) i ≤ (bst (bcn (PW (o.1 1)) n (nR (o.1 1))) i).2 then bst (bcn (PW (o.1 1)) n (nR (o.1 1))) i else (nI i, (bcn (PW (o.1 1)) n (nR (o.1 1))) i) := rfl
        unfold p_X10_busy_J118
        rw [e]
        rcases bst_at (bcn (PW (o.1 1)) n (nR (o.1 1))) i (by omega) with ⟨b1, b2⟩ | ⟨j, hj, b1, b2⟩
        · rw [ht, b1, b2]
          simp (disch := omega) only [inb_nI, inb_lit, cl_nI, cl_lit, nI_add, add_nl, add_ln, mul_ln, pk_mul, le_nn, lt_nn, eq_nn, le_nl, lt_nl, eq_nl, le_ln, lt_ln, eq_ln, eq_ll, lt_ll, le_ll, eq_nm1, eq_nm2, eq_nm3, eq_nm4, Option.bind_some, ↓reduceIte, if_true, if_false, Nat.reduceEqDiff, Nat.reduceAdd, Nat.reduceMul, Nat.reduceLT, Nat.reduceLeDiff, if_neg (show ¬ 10 ≤ i by omega), dz i hi]
          by_cases c8 : (bcn (PW (o.1 1)) n (nR (o.1 1))) i ≤ 0
          · simp only [if_pos c8, b1]
          · simp only [if_neg c8]
        · rw [ht, b1, b2]
          simp (disch := omega) only [inb_nI, inb_lit, cl_nI, cl_lit, nI_add, add_nl, add_ln, mul_ln, pk_mul, le_nn, lt_nn, eq_nn, le_nl, lt_nl, eq_nl, le_ln, lt_ln, eq_ln, eq_ll, lt_ll, le_ll, eq_nm1, eq_nm2, eq_nm3, eq_nm4, Option.bind_some, ↓reduceIte, if_true, if_false, Nat.reduceEqDiff, Nat.reduceAdd, Nat.reduceMul, Nat.reduceLT, Nat.reduceLeDiff, if_neg (show ¬ 10 ≤ i by omega), dz i hi, dz j (by omega)]
          by_cases c8 : (bcn (PW (o.1 1)) n (nR (o.1 1))) i ≤ (bcn (PW (o.1 1)) n (nR (o.1 1))) j
          · simp only [if_pos c8, b1]
          · simp only [if_neg c8]) fu 0 (t2, -1) (Nat.zero_le _) (by omega) ⟨⟨F2, q2⟩, rfl⟩
      obtain ⟨p1, p2⟩ := z3
      obtain ⟨u1, u2⟩ := t3
      simp only at f2 k3 r2 r3
      subst f2 r2
      exact ⟨_, p2, u2, c1.trans (d1.trans f1), g1.trans (q1.trans r1), h.kp k3 r3⟩
