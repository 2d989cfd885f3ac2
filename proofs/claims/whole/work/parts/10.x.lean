/-! ===== shut, pour ===== -/
theorem e_copy (fu : Nat) (hf : 2000 ≤ fu) (n : Nat) (hn : n ≤ 1000) (f g : Nat → Int32) : ∃ u, p_X9_copy fu n f n g = some u ∧ ∀ k, k < n → u k = f k := by
  unfold p_X9_copy
  refine loop_inv (fun m i u => p_X9_copy_L2 fu n f n m u (nI i)) n (fun i u => ∀ k, k < i → u k = f k) (fun u => ∀ k, k < n → u k = f k) ?_ ?_ fu 0 g (Nat.zero_le _) (by omega) (fun k hk => by omega)
  · intro m u hu
    refine ⟨u, ?_, hu⟩
    show p_X9_copy_L2 fu n f n (m + 1) u (nI n) = _
    rw [p_X9_copy_L2]
    simp (disch := omega) only [inb_nI, inb_lit, cl_nI, cl_lit, nI_add, add_nl, add_ln, mul_ln, pk_mul, le_nn, lt_nn, eq_nn, le_nl, lt_nl, eq_nl, le_ln, lt_ln, eq_ln, eq_ll, lt_ll, le_ll, eq_nm1, eq_nm2, eq_nm3, eq_nm4, Option.bind_some, ↓reduceIte, if_true, if_false, Nat.reduceEqDiff, Nat.reduceAdd, Nat.reduceMul, Nat.reduceLT, Nat.reduceLeDiff, Nat.le_refl]
  · intro m i u hi hu
    right
    refine ⟨upd u i (f i), ?_, fun k hk => ?_⟩
    · show p_X9_copy_L2 fu n f n (m + 1) u (nI i) = p_X9_copy_L2 fu n f n m _ (nI (i + 1))
      rw [p_X9_copy_L2]
      simp (disch := omega) only [inb_nI, inb_lit, cl_nI, cl_lit, nI_add, add_nl, add_ln, mul_ln, pk_mul, le_nn, lt_nn, eq_nn, le_nl, lt_nl, eq_nl, le_ln, lt_ln, eq_ln, eq_ll, lt_ll, le_ll, eq_nm1, eq_nm2, eq_nm3, eq_nm4, Option.bind_some, ↓reduceIte, if_true, if_false, Nat.reduceEqDiff, Nat.reduceAdd, Nat.reduceMul, Nat.reduceLT, Nat.reduceLeDiff, if_neg (show ¬ n ≤ i by omega)]
    · rw [upd_v]
      split
      · rename_i e; rw [e]
      · exact hu k (by omega)
theorem e_become8 (fu : Nat) (hf : 2000 ≤ fu) (o r : Ob) : ∃ s, p_X8_become fu o r = some s ∧ E61 (s.1 0) (r.1 0) ∧ E61 (s.1 1) (r.1 1) ∧ s.1 2 0 = r.1 2 0 := by
  unfold p_X8_become
  obtain ⟨a, ea, ha⟩ := e_copy fu hf 61 (by omega) (r.1 0) (o.1 0)
  obtain ⟨b, eb, hb⟩ := e_copy fu hf 61 (by omega) (r.1 1) ((oA o 0 a).1 1)
  rw [ea, Option.bind_some, eb, Option.bind_some]
  exact ⟨_, rfl, ha, hb, rfl⟩
/-- with levels and shut joins of one's own -/
def PS (w : Nat → Int32) (lev : Nat → Int32) (sh : Int32) : PP := (w, wE w, wB w, lev, sh, 0)
theorem OKW.ps {w : Nat → Int32} (h : OKW w) (lev : Nat → Int32) (sh : Int32) : OKP (PS w lev sh) := ⟨h, h.t⟩
theorem e_seaOf (fu : Nat) (hf : 2000 ≤ fu) (P : PP) (h : OKP P) {t : Ob} (G : GP P t) {r s : Nat} (hr : r < nR P.1) (hs : s < 61) : ∃ u, p_X10_seaOf fu t (nI r) (nI s) = some ((if coF P r s (-1) = -1 then 1000000000 else coF P r s (-1)), u) ∧ FR [22, 23, 24, 25, 26] t u := by
  obtain ⟨u, e, F, g⟩ := e_goStick fu hf P h hr hs t G
  refine ⟨u, ?_, F⟩
  unfold p_X10_seaOf
  rw [e, Option.bind_some, e_comesOf fu hf P hs g, Option.bind_some]
  by_cases c : coF P r s (-1) = -1
  · rw [if_pos c, if_pos c]
  · rw [if_neg c, if_neg c]
def shP (w : Nat → Int32) (j : Nat) : PP := PS w (lvW w) (shW w ||| b1 j)
/-- the best join to shut, and when it is in the sea then -/
def shF (w : Nat → Int32) (r s j : Nat) (t : Int32 × Int32) : Int32 × Int32 :=
  if coF (shP w j) r s (-1) = -1 then t else if t.2 = -1 then (nI j, coF (shP w j) r s (-1)) else if coF (shP w j) r s (-1) < t.2 then (nI j, coF (shP w j) r s (-1)) else t
def sea61 (v : Int32) : Prop := v = -1 ∨ ∃ j, j < 61 ∧ v = nI j
theorem coF_sea (P : PP) (r s : Nat) (hs : s < 61) (v : Int32) : sea61 (coF P r s v) := (coF_or P r s v hs).imp id (fun ⟨j, _, h, e⟩ => ⟨j, h, e⟩)
theorem shF_sea (w : Nat → Int32) (r s : Nat) (hs : s < 61) {a : Int32} (ha : sea61 a) : ∀ k, sea61 (it (shF w r s) (-1, a) k).2 := by
  intro k
  induction k with
  | zero => exact ha
  | succ k ih =>
    rw [it]
    unfold shF
    split
    · exact ih
    · split
      · exact coF_sea _ r s hs _
      · split
        · exact coF_sea _ r s hs _
        · exact ih
def enc (E v : Int32) : Int32 := if v = -1 then E else v
theorem enc_le {E : Nat} (h1 : 61 ≤ E) (h2 : E < 2147483648) {v c : Int32} (hv : sea61 v) {j : Nat} (hj : j < 61) (hc : c = nI j) : (enc (nI E) v ≤ c) = (¬ (v = -1 ∨ c < v)) := by
  unfold enc
  rcases hv with rfl | ⟨i, hi, rfl⟩
  · rw [if_pos rfl, hc, le_nn (by omega) (by omega)]
    apply propext
    exact ⟨fun h => by omega, fun h => absurd (Or.inl rfl) h⟩
  · rw [if_neg (m1_ne (by omega)), hc]
    apply propext
    constructor
    · intro h
      rintro (e | e)
      · exact m1_ne (by omega) e
      · exact absurd h (Int32.not_le.mpr e)
    · intro h
      exact Int32.not_lt.mp (fun e => h (Or.inr e))
theorem s_shut (fu : Nat) (hf : 2000 ≤ fu) {x : Nat → Ob} {o : Ob} (h : Rel x o) (v1 v2 : Int32) : ∃ r y t, p_X9_shut fu x v1 v2 = some (r, y) ∧ p_X10_shut fu o v1 v2 = some (r, t) ∧ Rel y t := by
  have hR := h.w.2.1.1
  have hJ := h.w.2.1.2.1
  have h4 := h.w.1.2.2.1
  unfold p_X9_shut p_X10_shut p_X9_putIn
  obtain ⟨s1, e, a⟩ := e_asksReach fu hf o h.w v1
  rw [e_cReach fu h, Option.bind_some, e, Option.bind_some]
  rcases ixq_of v1 (n := nR (o.1 1)) (by omega) with ⟨e1, -⟩ | ⟨e1, r, hr, rfl⟩
  · simp only [e1, Option.bind_some, ↓reduceIte, if_true, if_false, Nat.reduceEqDiff, Nat.reduceAdd, Nat.reduceMul, Nat.reduceLT, Nat.reduceLeDiff]
    exact ⟨_, _, _, rfl, rfl, h.kp KQ.rf a.tf⟩
  · simp (disch := omega) only [e1, Option.bind_some, ↓reduceIte, if_true, if_false, Nat.reduceEqDiff, Nat.reduceAdd, Nat.reduceMul, Nat.reduceLT, Nat.reduceLeDiff, inb_nI, inb_lit, cl_nI, cl_lit, nI_add, add_nl, add_ln, mul_ln, pk_mul, le_nn, lt_nn, eq_nn, le_nl, lt_nl, eq_nl, le_ln, lt_ln, eq_ln, eq_ll, lt_ll, le_ll, eq_nm1, eq_nm2, eq_nm3, eq_nm4, e_cStep, e_rStep]
    rcases ixq_of v2 (n := 61) (by omega) with ⟨e2, -⟩ | ⟨e2, s, hs, rfl⟩
    · simp only [e2, Option.bind_some, ↓reduceIte, if_true, if_false, Nat.reduceEqDiff, Nat.reduceAdd, Nat.reduceMul, Nat.reduceLT, Nat.reduceLeDiff]
      exact ⟨_, _, _, rfl, rfl, h.kp KQ.rf a.tf⟩
    · obtain ⟨y, ey, dy⟩ := e_dr fu hf h KQ.rf (x 12) hr hs
      obtain ⟨u1, eu1, Fu1⟩ := e_seaOf fu hf (PW (o.1 1)) h.w.p a.gp hr hs
      have y4 : y.1 4 0 = coF (PW (o.1 1)) r s (-1) := dy.2.2.2.2.1
      obtain ⟨C, hC⟩ : ∃ C, C = coF (PW (o.1 1)) r s (-1) := ⟨_, rfl⟩
      have hCs : sea61 C := by rw [hC]; exact coF_sea _ r s hs _
      obtain ⟨b, eb, b0, b1', b2⟩ := e_become8 fu hf (x 11) (x 10)
      simp (disch := omega) only [e2, Option.bind_some, ↓reduceIte, if_true, if_false, Nat.reduceEqDiff, Nat.reduceAdd, Nat.reduceMul, Nat.reduceLT, Nat.reduceLeDiff, inb_nI, inb_lit, cl_nI, cl_lit, nI_add, add_nl, add_ln, mul_ln, pk_mul, le_nn, lt_nn, eq_nn, le_nl, lt_nl, eq_nl, le_ln, lt_ln, eq_ln, eq_ll, lt_ll, le_ll, eq_nm1, eq_nm2, eq_nm3, eq_nm4, ey, up12, y4, eu1, ← hC]
      have key : ∃ z, p_X9_shut_J36 fu (va_up x 12 y) (nI r) (nI s) (enc 1000 C) = some ((it (shF (o.1 1) r s) (-1, C) (nJ (o.1 1))).1, z) ∧ KQ x z := by
        unfold p_X9_shut_J36
        have eb' : p_X8_become fu (va_up x 12 y 11) (va_up x 12 y 10) = some b := eb
        rw [eb', Option.bind_some]
        obtain ⟨⟨p1, p2⟩, c1, c2, c3⟩ := loop_inv (fun m i (t : (Nat → Ob) × Int32 × Int32) => p_X9_shut_L54 fu m t.1 (nI r) (nI s) t.2.1 t.2.2 (nI i)) (nJ (o.1 1)) (fun i t => (KQ x t.1 ∧ E61 ((t.1 11).1 1) (lvW (o.1 1))) ∧ t.2 = (enc 1000 (it (shF (o.1 1) r s) (-1, C) i).2, (it (shF (o.1 1) r s) (-1, C) i).1)) (fun a => a.1 = (it (shF (o.1 1) r s) (-1, C) (nJ (o.1 1))).1 ∧ KQ x a.2) (by
          rintro m ⟨z, t⟩ ⟨⟨k, -⟩, rfl⟩
          have k : KQ x z := k
          refine ⟨((it (shF (o.1 1) r s) (-1, C) (nJ (o.1 1))).1, z), ?_, rfl, k⟩
          show p_X9_shut_L54 fu (m + 1) z (nI r) (nI s) _ _ (nI (nJ (o.1 1))) = _
          rw [p_X9_shut_L54]
          have z8 : (z 5).1 8 0 = nI (nJ (o.1 1)) := by rw [k.1 5 (by decide)]; exact h.1.2.1.2.2.2.2.2.1
          simp (disch := omega) only [inb_nI, inb_lit, cl_nI, cl_lit, nI_add, add_nl, add_ln, mul_ln, pk_mul, le_nn, lt_nn, eq_nn, le_nl, lt_nl, eq_nl, le_ln, lt_ln, eq_ln, eq_ll, lt_ll, le_ll, eq_nm1, eq_nm2, eq_nm3, eq_nm4, Option.bind_some, ↓reduceIte, if_true, if_false, Nat.reduceEqDiff, Nat.reduceAdd, Nat.reduceMul, Nat.reduceLT, Nat.reduceLeDiff, z8, Nat.le_refl]) (by
          rintro m i ⟨z, t⟩ hi ⟨⟨k, zl⟩, rfl⟩
          have k : KQ x z := k
          have zl : E61 ((z 11).1 1) (lvW (o.1 1)) := zl
          right
          have hz := h.kp k FR.rf
          have z8 : (z 5).1 8 0 = nI (nJ (o.1 1)) := hz.1.2.1.2.2.2.2.2.1
          have z2 : (z 10).1 2 0 = shW (o.1 1) := hz.2.1.2.2
          have dp : DP (shP (o.1 1) i) (z 5) (oI (z 11) 2 (shW (o.1 1) ||| b1 i)) := ⟨z8, hz.1.2.2.1, hz.1.2.2.2.1, fun k hk => zl k hk, rfl, rfl⟩
          obtain ⟨y2, ey2, dy2⟩ := e_drift fu hf (shP (o.1 1) i) (h.w.ps _ _) hr hs (z 12) (z 5) (oI (z 11) 2 (shW (o.1 1) ||| b1 i)) dp
          have y24 : y2.1 4 0 = coF (shP (o.1 1) i) r s (-1) := dy2.2.2.2.2.1
          refine ⟨(va_up (va_up z 11 (oI (z 11) 2 (shW (o.1 1) ||| b1 i))) 12 y2, (enc 1000 (it (shF (o.1 1) r s) (-1, C) (i + 1)).2, (it (shF (o.1 1) r s) (-1, C) (i + 1)).1)), ?_, ⟨(k.up (by decide) _).up (by decide) _, zl⟩, rfl⟩
          show p_X9_shut_L54 fu (m + 1) z (nI r) (nI s) _ _ (nI i) = p_X9_shut_L54 fu m (va_up (va_up z 11 (oI (z 11) 2 (shW (o.1 1) ||| b1 i))) 12 y2) (nI r) (nI s) _ _ (nI (i + 1))
          rw [p_X9_shut_L54]
          have u5 : va_up z 11 (oI (z 11) 2 (shW (o.1 1) ||| b1 i)) 5 = z 5 := rfl
          have u12 : va_up z 11 (oI (z 11) 2 (shW (o.1 1) ||| b1 i)) 12 = z 12 := rfl
          have u11 : va_up z 11 (oI (z 11) 2 (shW (o.1 1) ||| b1 i)) 11 = oI (z 11) 2 (shW (o.1 1) ||| b1 i) := rfl
          have ih := shF_sea (o.1 1) r s hs hCs i
          simp (disch := omega) only [inb_nI, inb_lit, cl_nI, cl_lit, nI_add, add_nl, add_ln, mul_ln, pk_mul, le_nn, lt_nn, eq_nn, le_nl, lt_nl, eq_nl, le_ln, lt_ln, eq_ln, eq_ll, lt_ll, le_ll, eq_nm1, eq_nm2, eq_nm3, eq_nm4, Option.bind_some, ↓reduceIte, if_true, if_false, Nat.reduceEqDiff, Nat.reduceAdd, Nat.reduceMul, Nat.reduceLT, Nat.reduceLeDiff, z8, z2, e_bit, if_neg (show ¬ nJ (o.1 1) ≤ i by omega), u5, u11, u12, ey2, up12, y24, it]
          generalize it (shF (o.1 1) r s) (-1, C) i = T at ih ⊢
          unfold shF
          rcases coF_or (shP (o.1 1) i) r s (-1) hs with e | ⟨j, hj1, hj2, e⟩
          · simp only [if_pos e]
          · have n1 : ¬ coF (shP (o.1 1) i) r s (-1) = -1 := by rw [e]; exact m1_ne (by omega)
            have n2 := enc_le (E := 1000) (by omega) (by omega) ih hj2 e
            have n2 : (enc 1000 T.2 ≤ coF (shP (o.1 1) i) r s (-1)) = _ := n2
            simp only [if_neg n1, n2]
            by_cases c1 : T.2 = -1
            · simp only [c1, true_or, not_true, if_false, if_true]
              simp only [enc, if_neg n1]
            · by_cases c2 : coF (shP (o.1 1) i) r s (-1) < T.2
              · simp only [c1, c2, or_true, not_true, if_false, if_true]
                simp only [enc, if_neg n1]
              · simp only [c1, c2, or_self, not_false_eq_true, if_true, if_false]) fu 0 (va_up (va_up x 12 y) 11 b, (enc 1000 C, -1)) (Nat.zero_le _) (by omega) ⟨⟨(KQ.s12 y).up (by decide) b, fun k hk => (b1' k hk).trans (h.2.1.2.1 k hk)⟩, rfl⟩
        simp only at c2 c3
        subst c2
        exact ⟨p2, c1, c3⟩
      obtain ⟨z, ez, kz⟩ := key
      have g20 : u1.1 20 0 = shW (o.1 1) := by rw [Fu1.f1 20 (by decide)]; exact a.2.2.2.2.1
      obtain ⟨⟨q1, q2⟩, d1, d2, d3⟩ := loop_inv (fun m i (t : Ob × Int32 × Int32) => p_X10_shut_L38 fu m t.1 (nI r) (nI s) t.2.1 t.2.2 (shW (o.1 1)) (nI i)) (nJ (o.1 1)) (fun i t => (FR tF o t.1 ∧ (∀ sh, GP (PS (o.1 1) (lvW (o.1 1)) sh) (oI t.1 20 sh))) ∧ t.2 = ((it (shF (o.1 1) r s) (-1, C) i).1, enc 1000000000 (it (shF (o.1 1) r s) (-1, C) i).2)) (fun a => a.1 = (it (shF (o.1 1) r s) (-1, C) (nJ (o.1 1))).1 ∧ FR tF o a.2) (by
        rintro m ⟨z, t⟩ ⟨⟨F, -⟩, rfl⟩
        have F : FR tF o z := F
        refine ⟨((it (shF (o.1 1) r s) (-1, C) (nJ (o.1 1))).1, z), ?_, rfl, F⟩
        show p_X10_shut_L38 fu (m + 1) z (nI r) (nI s) _ _ _ (nI (nJ (o.1 1))) = _
        rw [p_X10_shut_L38]
        have z1 : z.1 1 = o.1 1 := F.f1 1 (by decide)
        simp (disch := omega) only [inb_nI, inb_lit, cl_nI, cl_lit, nI_add, add_nl, add_ln, mul_ln, pk_mul, le_nn, lt_nn, eq_nn, le_nl, lt_nl, eq_nl, le_ln, lt_ln, eq_ln, eq_ll, lt_ll, le_ll, eq_nm1, eq_nm2, eq_nm3, eq_nm4, Option.bind_some, ↓reduceIte, if_true, if_false, Nat.reduceEqDiff, Nat.reduceAdd, Nat.reduceMul, Nat.reduceLT, Nat.reduceLeDiff, z1, h4, Nat.le_refl]) (by
        rintro m i ⟨z, t⟩ hi ⟨⟨F, G⟩, rfl⟩
        have F : FR tF o z := F
        have G : ∀ sh, GP (PS (o.1 1) (lvW (o.1 1)) sh) (oI z 20 sh) := G
        right
        have z1 : z.1 1 = o.1 1 := F.f1 1 (by decide)
        obtain ⟨u, eu, Fu⟩ := e_seaOf fu hf (shP (o.1 1) i) (h.w.ps _ _) (G (shW (o.1 1) ||| b1 i)) hr hs
        have eu' : p_X10_seaOf fu (oI z 20 (shW (o.1 1) ||| ((1 : Int32) <<< (nI i &&& 31)))) (nI r) (nI s) = _ := eu
        refine ⟨(u, ((it (shF (o.1 1) r s) (-1, C) (i + 1)).1, enc 1000000000 (it (shF (o.1 1) r s) (-1, C) (i + 1)).2)), ?_, ⟨(F.I (by decide) _).tr (Fu.mono (by decide)), fun sh => ?_⟩, rfl⟩
        · show p_X10_shut_L38 fu (m + 1) z (nI r) (nI s) _ _ _ (nI i) = p_X10_shut_L38 fu m u (nI r) (nI s) _ _ _ (nI (i + 1))
          rw [p_X10_shut_L38]
          have ih := shF_sea (o.1 1) r s hs hCs i
          simp (disch := omega) only [inb_nI, inb_lit, cl_nI, cl_lit, nI_add, add_nl, add_ln, mul_ln, pk_mul, le_nn, lt_nn, eq_nn, le_nl, lt_nl, eq_nl, le_ln, lt_ln, eq_ln, eq_ll, lt_ll, le_ll, eq_nm1, eq_nm2, eq_nm3, eq_nm4, Option.bind_some, ↓reduceIte, if_true, if_false, Nat.reduceEqDiff, Nat.reduceAdd, Nat.reduceMul, Nat.reduceLT, Nat.reduceLeDiff, z1, h4, if_neg (show ¬ nJ (o.1 1) ≤ i by omega), eu', it]
          generalize it (shF (o.1 1) r s) (-1, C) i = T at ih ⊢
          unfold shF
          rcases coF_or (shP (o.1 1) i) r s (-1) hs with e | ⟨j, hj1, hj2, e⟩
          · simp only [if_pos e]
            rw [if_neg]
            unfold enc
            rcases ih with c | ⟨i', hi', c⟩
            · rw [c, if_pos rfl]; exact Int32.lt_irrefl
            · rw [c, if_neg (m1_ne (by omega))]
              simp (disch := omega) only [inb_nI, inb_lit, cl_nI, cl_lit, nI_add, add_nl, add_ln, mul_ln, pk_mul, le_nn, lt_nn, eq_nn, le_nl, lt_nl, eq_nl, le_ln, lt_ln, eq_ln, eq_ll, lt_ll, le_ll, eq_nm1, eq_nm2, eq_nm3, eq_nm4]
              omega
          · have n1 : ¬ coF (shP (o.1 1) i) r s (-1) = -1 := by rw [e]; exact m1_ne (by omega)
            have n2 := enc_le (E := 1000000000) (by omega) (by omega) ih hj2 e
            have n2 : (enc 1000000000 T.2 ≤ coF (shP (o.1 1) i) r s (-1)) = _ := n2
            have n3 : (coF (shP (o.1 1) i) r s (-1) < enc 1000000000 T.2) = (T.2 = -1 ∨ coF (shP (o.1 1) i) r s (-1) < T.2) := by
              apply propext
              rw [← Int32.not_le, n2, Classical.not_not]
            simp only [if_neg n1, n3]
            by_cases c1 : T.2 = -1
            · simp only [c1, true_or, if_true]
              simp only [enc, if_neg n1]
            · by_cases c2 : coF (shP (o.1 1) i) r s (-1) < T.2
              · simp only [c1, c2, or_true, if_false, if_true]
                simp only [enc, if_neg n1]
              · simp only [c1, c2, or_self, if_false]
        · have := G sh
          refine ⟨?_, ?_, ?_, rfl, ?_⟩
          · show u.1 1 = _
            rw [Fu.f1 1 (by decide)]; exact this.1
          · intro j hj
            show u.1 18 j = _ ∧ u.1 19 j = _
            rw [Fu.f1 18 (by decide), Fu.f1 19 (by decide)]; exact this.2.1 j hj
          · intro k hk
            show u.1 17 k = _
            rw [Fu.f1 17 (by decide)]; exact this.2.2.1 k hk
          · show u.1 21 0 = _
            rw [Fu.f1 21 (by decide)]; exact this.2.2.2.2) fu 0 (u1, (-1, enc 1000000000 C)) (Nat.zero_le _) (by omega) ⟨⟨a.tf.tr (Fu1.mono (by decide)), fun sh => by
          have ga := a.gp
          refine ⟨?_, ?_, ?_, rfl, ?_⟩
          · show u1.1 1 = _
            rw [Fu1.f1 1 (by decide)]; exact ga.1
          · intro j hj
            show u1.1 18 j = _ ∧ u1.1 19 j = _
            rw [Fu1.f1 18 (by decide), Fu1.f1 19 (by decide)]; exact ga.2.1 j hj
          · intro k hk
            show u1.1 17 k = _
            rw [Fu1.f1 17 (by decide)]; exact ga.2.2.1 k hk
          · show u1.1 21 0 = _
            rw [Fu1.f1 21 (by decide)]; exact ga.2.2.2.2⟩, rfl⟩
      simp only at d2 d3
      subst d2
      refine ⟨(it (shF (o.1 1) r s) (-1, C) (nJ (o.1 1))).1, z, q2, ?_, ?_, h.kp kz d3⟩
      · rw [← ez]
        unfold enc
        split <;> rfl
      · rw [g20]
        exact d1
