/-- levels with n more rain at a step -/
def rnP (w : Nat → Int32) (a n : Nat) : Nat → Int32 := upd (rnW w) a (rnW w a + nI n)
def poP (w : Nat → Int32) (a n : Nat) : PP := PS w (lv (w 0) (rnP w a n)) (shW w)
theorem rnP_0 (w : Nat → Int32) (a : Nat) : rnP w a 0 = rnW w := by
  funext k
  unfold rnP
  rw [upd_v]
  split
  · rename_i e; rw [e, show nI 0 = 0 from rfl, Int32.add_zero]
  · rfl
theorem s_pour (fu : Nat) (hf : 2000 ≤ fu) {x : Nat → Ob} {o : Ob} (h : Rel x o) (v1 v2 v3 : Int32) : ∃ r y t, p_X9_pour fu x v1 v2 v3 = some (r, y) ∧ p_X10_pour fu o v1 v2 v3 = some (r, t) ∧ Rel y t := by
  have hR := h.w.2.1.1
  have hJ := h.w.2.1.2.1
  unfold p_X9_pour p_X10_pour
  obtain ⟨s1, e, a⟩ := e_asksReach fu hf o h.w v1
  rw [e_cReach fu h, Option.bind_some, e, Option.bind_some]
  rcases ixq_of v1 (n := nR (o.1 1)) (by omega) with ⟨e1, -⟩ | ⟨e1, r, hr, rfl⟩
  · simp only [e1, Option.bind_some, ↓reduceIte, if_true, if_false, Nat.reduceEqDiff, Nat.reduceAdd, Nat.reduceMul, Nat.reduceLT, Nat.reduceLeDiff]
    exact ⟨_, _, _, rfl, rfl, h.kp KQ.rf a.tf⟩
  · simp (disch := omega) only [e1, Option.bind_some, ↓reduceIte, if_true, if_false, Nat.reduceEqDiff, Nat.reduceAdd, Nat.reduceMul, Nat.reduceLT, Nat.reduceLeDiff, inb_nI, inb_lit, cl_nI, cl_lit, nI_add, add_nl, add_ln, mul_ln, pk_mul, le_nn, lt_nn, eq_nn, le_nl, lt_nl, eq_nl, le_ln, lt_ln, eq_ln, eq_ll, lt_ll, le_ll, eq_nm1, eq_nm2, eq_nm3, eq_nm4, e_cStep, e_rStep]
    rcases ixq_of v2 (n := 61) (by omega) with ⟨e2, -⟩ | ⟨e2, s, hs, rfl⟩
    · simp only [e2, Option.bind_some, ↓reduceIte, if_true, if_false, Nat.reduceEqDiff, Nat.reduceAdd, Nat.reduceMul, Nat.reduceLT, Nat.reduceLeDiff]
      exact ⟨_, _, _, rfl, rfl, h.kp KQ.rf a.tf⟩
    · simp (disch := omega) only [e2, Option.bind_some, ↓reduceIte, if_true, if_false, Nat.reduceEqDiff, Nat.reduceAdd, Nat.reduceMul, Nat.reduceLT, Nat.reduceLeDiff, inb_nI, inb_lit, cl_nI, cl_lit, nI_add, add_nl, add_ln, mul_ln, pk_mul, le_nn, lt_nn, eq_nn, le_nl, lt_nl, eq_nl, le_ln, lt_ln, eq_ln, eq_ll, lt_ll, le_ll, eq_nm1, eq_nm2, eq_nm3, eq_nm4]
      rcases ixq_of v3 (n := 61) (by omega) with ⟨e3, -⟩ | ⟨e3, q, hq, rfl⟩
      · simp only [e3, Option.bind_some, ↓reduceIte, if_true, if_false, Nat.reduceEqDiff, Nat.reduceAdd, Nat.reduceMul, Nat.reduceLT, Nat.reduceLeDiff]
        exact ⟨_, _, _, rfl, rfl, h.kp KQ.rf a.tf⟩
      · obtain ⟨b, eb, b0, b1', b2⟩ := e_become8 fu hf (x 11) (x 10)
        have s15 : s1.1 15 q = rnW (o.1 1) q := a.2.1 q hq
        simp (disch := omega) only [e3, Option.bind_some, ↓reduceIte, if_true, if_false, Nat.reduceEqDiff, Nat.reduceAdd, Nat.reduceMul, Nat.reduceLT, Nat.reduceLeDiff, inb_nI, inb_lit, cl_nI, cl_lit, nI_add, add_nl, add_ln, mul_ln, pk_mul, le_nn, lt_nn, eq_nn, le_nl, lt_nl, eq_nl, le_ln, lt_ln, eq_ln, eq_ll, lt_ll, le_ll, eq_nm1, eq_nm2, eq_nm3, eq_nm4, eb, s15]
        obtain ⟨p, hp⟩ : ∃ p : Nat → Bool, p = fun n => !decide (coF (poP (o.1 1) q n) r s (-1) = -1) := ⟨_, rfl⟩
        obtain ⟨⟨p1, p2⟩, c1, c2, c3⟩ := loop_inv (fun m i (z : Nat → Ob) => p_X9_pour_L39 fu m z (nI r) (nI s) (nI q) (nI i)) 61 (fun i z => (KQ x z ∧ E61 ((z 11).1 0) (rnP (o.1 1) q i) ∧ E61 ((z 11).1 1) (lv (o.1 1 0) (rnP (o.1 1) q i)) ∧ (z 11).1 2 0 = shW (o.1 1)) ∧ ∀ j, j < i → p j = false) (fun a => a.1 = ffr p 0 61 ∧ KQ x a.2) (by
          rintro m z ⟨⟨k, -, -, -⟩, hn⟩
          refine ⟨(-1, z), ?_, (ffr_no 61 0 (fun j _ h2 => hn j (by omega))).symm, k⟩
          show p_X9_pour_L39 fu (m + 1) z (nI r) (nI s) (nI q) (nI 61) = _
          rw [p_X9_pour_L39]
          simp (disch := omega) only [inb_nI, inb_lit, cl_nI, cl_lit, nI_add, add_nl, add_ln, mul_ln, pk_mul, le_nn, lt_nn, eq_nn, le_nl, lt_nl, eq_nl, le_ln, lt_ln, eq_ln, eq_ll, lt_ll, le_ll, eq_nm1, eq_nm2, eq_nm3, eq_nm4, Option.bind_some, ↓reduceIte, if_true, if_false, Nat.reduceEqDiff, Nat.reduceAdd, Nat.reduceMul, Nat.reduceLT, Nat.reduceLeDiff]) (by
          rintro m i z hi ⟨⟨k, zr, zl, zs⟩, hn⟩
          have hz := h.kp k FR.rf
          have dp : DP (poP (o.1 1) q i) (z 5) (z 11) := ⟨hz.1.2.1.2.2.2.2.2.1, hz.1.2.2.1, hz.1.2.2.2.1, fun k hk => zl k hk, zs, rfl⟩
          obtain ⟨y2, ey2, dy2⟩ := e_drift fu hf (poP (o.1 1) q i) (h.w.ps _ _) hr hs (z 12) (z 5) (z 11) dp
          have y24 : y2.1 4 0 = coF (poP (o.1 1) q i) r s (-1) := dy2.2.2.2.2.1
          show (∃ a, p_X9_pour_L39 fu (m + 1) z (nI r) (nI s) (nI q) (nI i) = some a ∧ _) ∨ (∃ s', p_X9_pour_L39 fu (m + 1) z (nI r) (nI s) (nI q) (nI i) = p_X9_pour_L39 fu m s' (nI r) (nI s) (nI q) (nI (i + 1)) ∧ _)
          rw [p_X9_pour_L39]
          have u11 : va_up z 12 y2 11 = z 11 := rfl
          have u5 : va_up (va_up z 12 y2) 11 (oA (z 11) 0 (upd ((z 11).1 0) q ((z 11).1 0 q + 1))) 5 = z 5 := rfl
          have uu : va_up (va_up z 12 y2) 11 (oA (z 11) 0 (upd ((z 11).1 0) q ((z 11).1 0 q + 1))) 11 = oA (z 11) 0 (upd ((z 11).1 0) q ((z 11).1 0 q + 1)) := rfl
          obtain ⟨fo, ef, Ff, lf⟩ := e_fall fu hf (oA (z 11) 0 (upd ((z 11).1 0) q ((z 11).1 0 q + 1))) (o.1 1 0)
          have z51 : (z 5).1 1 0 = o.1 1 0 := hz.1.2.1.2.1
          simp (disch := omega) only [inb_nI, inb_lit, cl_nI, cl_lit, nI_add, add_nl, add_ln, mul_ln, pk_mul, le_nn, lt_nn, eq_nn, le_nl, lt_nl, eq_nl, le_ln, lt_ln, eq_ln, eq_ll, lt_ll, le_ll, eq_nm1, eq_nm2, eq_nm3, eq_nm4, Option.bind_some, ↓reduceIte, if_true, if_false, Nat.reduceEqDiff, Nat.reduceAdd, Nat.reduceMul, Nat.reduceLT, Nat.reduceLeDiff, if_neg (show ¬ 60 < i by omega), ey2, up12, y24, u11, e_addRain, uu, u5, z51, ef]
          by_cases c : coF (poP (o.1 1) q i) r s (-1) = -1
          · right
            have er : E61 (upd ((z 11).1 0) q ((z 11).1 0 q + 1)) (rnP (o.1 1) q (i + 1)) := by
              intro k' hk'
              have h1 := zr k' hk'
              have h2 := zr q hq
              unfold rnP at h1 h2 ⊢
              rw [upd_v, upd_v] at *
              rw [if_pos rfl] at h2
              by_cases g : k' = q
              · rw [if_pos g, if_pos g, h2, Int32.add_assoc, add_nl]
              · rw [if_neg g] at h1 ⊢
                rw [if_neg g]; exact h1
            refine ⟨va_up (va_up (va_up z 12 y2) 11 (oA (z 11) 0 (upd ((z 11).1 0) q ((z 11).1 0 q + 1)))) 11 fo, by rw [if_pos c], ⟨((k.up (by decide) _).up (by decide) _).up (by decide) _, ?_, ?_, ?_⟩, fun j hj => ?_⟩
            · show E61 (fo.1 0) _
              rw [Ff.f1 0 (by decide)]
              exact er
            · show E61 (fo.1 1) _
              intro k' hk'
              rw [lf k' hk']
              exact lv_cg er k' hk'
            · show fo.1 2 0 = _
              rw [Ff.f1 2 (by decide)]
              exact zs
            · by_cases g : j = i
              · subst g; rw [hp]; simp [c]
              · exact hn j (by omega)
          · left
            refine ⟨(nI i, va_up z 12 y2), by rw [if_neg c], ?_, k.up (by decide) y2⟩
            rw [ffr_at (p := p) (Nat.zero_le i) (by omega) (by rw [hp]; simp [c]) (fun j _ g2 => hn j g2)]) fu 0 (va_up x 11 b) (Nat.zero_le _) (by omega) ⟨⟨KQ.rf.up (by decide) b, by
            rw [rnP_0]
            exact fun k hk => (b0 k hk).trans (h.2.1.1 k hk), by
            rw [rnP_0]
            exact fun k hk => (b1' k hk).trans (h.2.1.2.1 k hk), b2.trans h.2.1.2.2⟩, fun j hj => by omega⟩
        obtain ⟨⟨q1, q2⟩, d1, d2, d3⟩ := loop_inv (fun m i (z : Ob) => p_X10_pour_L38 fu m z (nI r) (nI s) (nI q) (rnW (o.1 1) q) (nI i)) 61 (fun i z => (FR tF o z ∧ (∀ k, k < 61 → k ≠ q → z.1 15 k = rnW (o.1 1) k) ∧ (∀ j, j < nJ (o.1 1) → z.1 18 j = wE (o.1 1) j ∧ z.1 19 j = wB (o.1 1) j) ∧ z.1 20 0 = shW (o.1 1) ∧ z.1 21 0 = 0) ∧ ∀ j, j < i → p j = false) (fun a => a.1 = ffr p 0 61 ∧ FR tF o a.2) (by
          rintro m z ⟨⟨F, -⟩, hn⟩
          refine ⟨(-1, z), ?_, (ffr_no 61 0 (fun j _ h2 => hn j (by omega))).symm, F⟩
          show p_X10_pour_L38 fu (m + 1) z (nI r) (nI s) (nI q) _ (nI 61) = _
          rw [p_X10_pour_L38]
          simp (disch := omega) only [inb_nI, inb_lit, cl_nI, cl_lit, nI_add, add_nl, add_ln, mul_ln, pk_mul, le_nn, lt_nn, eq_nn, le_nl, lt_nl, eq_nl, le_ln, lt_ln, eq_ln, eq_ll, lt_ll, le_ll, eq_nm1, eq_nm2, eq_nm3, eq_nm4, Option.bind_some, ↓reduceIte, if_true, if_false, Nat.reduceEqDiff, Nat.reduceAdd, Nat.reduceMul, Nat.reduceLT, Nat.reduceLeDiff]) (by
          rintro m i z hi ⟨⟨F, zr, zj, z20, z21⟩, hn⟩
          have z1 : z.1 1 = o.1 1 := F.f1 1 (by decide)
          obtain ⟨l, el, Fl, ll⟩ := e_lay fu hf (oA z 15 (upd (z.1 15) q (rnW (o.1 1) q + nI i))) (by rw [oA_1, if_neg (by decide), z1]; exact h.w)
          have l15 : E61 (upd (z.1 15) q (rnW (o.1 1) q + nI i)) (rnP (o.1 1) q i) := by
            intro k hk
            unfold rnP
            rw [upd_v, upd_v]
            split
            · rfl
            · rename_i g; exact zr k hk g
          have Gl : GP (poP (o.1 1) q i) l := by
            refine ⟨?_, ?_, ?_, ?_, ?_⟩
            · rw [Fl.f1 1 (by decide), oA_1, if_neg (by decide)]; exact z1
            · intro j hj
              rw [Fl.f1 18 (by decide), Fl.f1 19 (by decide), oA_1, if_neg (by decide), oA_1, if_neg (by decide)]
              exact zj j hj
            · intro k hk
              have := (ll k hk).2
              rw [oA_1, if_neg (by decide), oA_1, if_pos rfl, z1, lv_cg l15 k hk] at this
              exact this
            · rw [Fl.f1 20 (by decide), oA_1, if_neg (by decide)]; exact z20
            · rw [Fl.f1 21 (by decide), oA_1, if_neg (by decide)]; exact z21
          obtain ⟨u, eu, Fu⟩ := e_seaOf fu hf (poP (o.1 1) q i) (h.w.ps _ _) Gl hr hs
          have FF : FR tF o u := ((F.A (by decide) _).tr (Fl.mono (by decide))).tr (Fu.mono (by decide))
          show (∃ a, p_X10_pour_L38 fu (m + 1) z (nI r) (nI s) (nI q) _ (nI i) = some a ∧ _) ∨ (∃ s', p_X10_pour_L38 fu (m + 1) z (nI r) (nI s) (nI q) _ (nI i) = p_X10_pour_L38 fu m s' (nI r) (nI s) (nI q) _ (nI (i + 1)) ∧ _)
          rw [p_X10_pour_L38]
          simp (disch := omega) only [inb_nI, inb_lit, cl_nI, cl_lit, nI_add, add_nl, add_ln, mul_ln, pk_mul, le_nn, lt_nn, eq_nn, le_nl, lt_nl, eq_nl, le_ln, lt_ln, eq_ln, eq_ll, lt_ll, le_ll, eq_nm1, eq_nm2, eq_nm3, eq_nm4, Option.bind_some, ↓reduceIte, if_true, if_false, Nat.reduceEqDiff, Nat.reduceAdd, Nat.reduceMul, Nat.reduceLT, Nat.reduceLeDiff, if_neg (show ¬ 60 < i by omega), el, eu]
          by_cases c : coF (poP (o.1 1) q i) r s (-1) = -1
          · right
            refine ⟨u, by rw [if_pos c, if_pos (Int32.le_refl _)], ⟨FF, ?_, ?_, ?_, ?_⟩, fun j hj => ?_⟩
            · intro k hk g
              rw [Fu.f1 15 (by decide), Fl.f1 15 (by decide), oA_1, if_pos rfl, upd_v, if_neg g]
              exact zr k hk g
            · intro j hj
              rw [Fu.f1 18 (by decide), Fu.f1 19 (by decide)]
              exact Gl.2.1 j hj
            · rw [Fu.f1 20 (by decide)]; exact Gl.2.2.2.1
            · rw [Fu.f1 21 (by decide)]; exact Gl.2.2.2.2
            · by_cases g : j = i
              · subst g; rw [hp]; simp [c]
              · exact hn j (by omega)
          · left
            refine ⟨(nI i, u), ?_, ?_, FF⟩
            · rw [if_neg c]
              rcases coF_or (poP (o.1 1) q i) r s (-1) hs with e | ⟨j, hj1, hj2, e⟩
              · exact absurd e c
              · rw [e]
                simp (disch := omega) only [inb_nI, inb_lit, cl_nI, cl_lit, nI_add, add_nl, add_ln, mul_ln, pk_mul, le_nn, lt_nn, eq_nn, le_nl, lt_nl, eq_nl, le_ln, lt_ln, eq_ln, eq_ll, lt_ll, le_ll, eq_nm1, eq_nm2, eq_nm3, eq_nm4, if_neg (show ¬ 1000000000 ≤ j by omega)]
            · rw [ffr_at (p := p) (Nat.zero_le i) (by omega) (by rw [hp]; simp [c]) (fun j _ g2 => hn j g2)]) fu 0 s1 (Nat.zero_le _) (by omega) ⟨⟨a.tf, fun k hk _ => a.2.1 k hk, a.2.2.2.1, a.2.2.2.2.1, a.2.2.2.2.2⟩, fun j hj => by omega⟩
        simp only at c2 c3 d2 d3
        subst c2 d2
        exact ⟨_, p2, q2, c1, d1, h.kp c3 d3⟩
