/-! ===== days drawn: drawn, luck ===== -/
/-- the next number, and its draw -/
def dwX (v : Int64) : Int64 := ((1103515245 * v) + 12345) - ((1103515245 * v) + 12345) / 2147483648 * 2147483648
def dwD (v : Int64) : Int64 := (dwX v / 65536) - (dwX v / 65536) / 10 * 10
def dwF (w : Nat → Int32) (i : Nat) (t : Int64 × (Nat → Int32) × Int32) : Int64 × (Nat → Int32) × Int32 :=
  if lg_cmp (dwD t.1) (w 1).toInt64 < 0 then (dwX t.1, upd t.2.1 (i + 1) (t.2.1 (i + 1) + w 2), t.2.2 + 1) else (dwX t.1, t.2.1, t.2.2)
def dwS (w : Nat → Int32) (v : Int64) (k : Nat) : Int64 × (Nat → Int32) × Int32 := it (dwF w) (v, rnW w, 0) k
theorem dwS_s (w : Nat → Int32) (v : Int64) (k : Nat) : dwS w v (k + 1) = dwF w k (dwS w v k) := by
  unfold dwS
  rw [it]
def dwP (w : Nat → Int32) (v : Int64) : PP := PS w (lv (w 0) (dwS w v 60).2.1) (shW w)
theorem e_drawDay (fu : Nat) (hf : 2000 ≤ fu) {x z0 : Nat → Ob} {o : Ob} (h : Rel x o) (k0 : KQ x z0) (v : Int64) : ∃ y, p_X9_drawDay fu z0 v = some ((dwS (o.1 1) v 60).2.2, y) ∧ KQ x y ∧ E61 ((y 11).1 1) (lv (o.1 1 0) (dwS (o.1 1) v 60).2.1) ∧ (y 11).1 2 0 = shW (o.1 1) := by
  have hz := h.kp k0 FR.rf
  unfold p_X9_drawDay
  obtain ⟨b, eb, b0, b1', b2⟩ := e_become8 fu hf (z0 11) (z0 10)
  rw [eb, Option.bind_some]
  obtain ⟨⟨a, y⟩, ey, ha, k, hl, hs⟩ := loop_inv (fun m i (t : (Nat → Ob) × Int64 × Int32) => p_X9_drawDay_L19 fu (fun xz v5 => (p_X8_fall fu (xz 11) ((xz 5).1 1 0)).bind fun r_97 => some (v5, (va_up xz 11 r_97))) m t.1 t.2.1 t.2.2 (nI (i + 1))) 60 (fun i t => (KQ x t.1 ∧ E61 ((t.1 11).1 0) (dwS (o.1 1) v i).2.1 ∧ (t.1 11).1 2 0 = shW (o.1 1)) ∧ t.2.1 = (dwS (o.1 1) v i).1 ∧ t.2.2 = (dwS (o.1 1) v i).2.2) (fun a => a.1 = (dwS (o.1 1) v 60).2.2 ∧ KQ x a.2 ∧ E61 ((a.2 11).1 1) (lv (o.1 1 0) (dwS (o.1 1) v 60).2.1) ∧ (a.2 11).1 2 0 = shW (o.1 1)) (by
    rintro m ⟨z, t1, t2⟩ ⟨⟨k, zr, zs⟩, h1, h2⟩
    have k : KQ x z := k
    have zr : E61 ((z 11).1 0) (dwS (o.1 1) v 60).2.1 := zr
    have zs : (z 11).1 2 0 = shW (o.1 1) := zs
    have h2 : t2 = (dwS (o.1 1) v 60).2.2 := h2
    obtain ⟨f, ef, Ff, lf⟩ := e_fall fu hf (z 11) (o.1 1 0)
    have z51 : (z 5).1 1 0 = o.1 1 0 := by rw [k.1 5 (by decide)]; exact h.1.2.1.2.1
    refine ⟨(t2, va_up z 11 f), ?_, h2, k.up (by decide) f, ?_, ?_⟩
    · show p_X9_drawDay_L19 fu _ (m + 1) z t1 t2 (nI (60 + 1)) = _
      rw [p_X9_drawDay_L19]
      simp (disch := omega) only [inb_nI, inb_lit, cl_nI, cl_lit, nI_add, add_nl, add_ln, mul_ln, pk_mul, le_nn, lt_nn, eq_nn, le_nl, lt_nl, eq_nl, le_ln, lt_ln, eq_ln, eq_ll, lt_ll, le_ll, eq_nm1, eq_nm2, eq_nm3, eq_nm4, Option.bind_some, ↓reduceIte, if_true, if_false, Nat.reduceEqDiff, Nat.reduceAdd, Nat.reduceMul, Nat.reduceLT, Nat.reduceLeDiff, z51, ef]
    · show E61 (f.1 1) _
      intro q hq
      rw [lf q hq]
      exact lv_cg zr q hq
    · show f.1 2 0 = _
      rw [Ff.f1 2 (by decide)]
      exact zs) (by
    rintro m i ⟨z, t1, t2⟩ hi ⟨⟨k, zr, zs⟩, h1, h2⟩
    have k : KQ x z := k
    have zr : E61 ((z 11).1 0) (dwS (o.1 1) v i).2.1 := zr
    have zs : (z 11).1 2 0 = shW (o.1 1) := zs
    have h1 : t1 = (dwS (o.1 1) v i).1 := h1
    have h2 : t2 = (dwS (o.1 1) v i).2.2 := h2
    right
    have z52 : (z 5).1 2 0 = o.1 1 1 := by rw [k.1 5 (by decide)]; exact h.1.2.1.2.2.1
    have z53 : (z 5).1 3 0 = o.1 1 2 := by rw [k.1 5 (by decide)]; exact h.1.2.1.2.2.2.1
    have es := dwS_s (o.1 1) v i
    unfold dwF at es
    show ∃ s' : (Nat → Ob) × Int64 × Int32, p_X9_drawDay_L19 fu _ (m + 1) z t1 t2 (nI (i + 1)) = p_X9_drawDay_L19 fu _ m s'.1 s'.2.1 s'.2.2 (nI (i + 1 + 1)) ∧ _
    rw [p_X9_drawDay_L19]
    have eD : ((((1103515245 * t1) + 12345) - ((1103515245 * t1) + 12345) / 2147483648 * 2147483648) / 65536) - ((((1103515245 * t1) + 12345) - ((1103515245 * t1) + 12345) / 2147483648 * 2147483648) / 65536) / 10 * 10 = dwD t1 := rfl
    have eX : ((1103515245 * t1) + 12345) - ((1103515245 * t1) + 12345) / 2147483648 * 2147483648 = dwX t1 := rfl
    rw [eD, eX]
    simp (disch := omega) only [inb_nI, inb_lit, cl_nI, cl_lit, nI_add, add_nl, add_ln, mul_ln, pk_mul, le_nn, lt_nn, eq_nn, le_nl, lt_nl, eq_nl, le_ln, lt_ln, eq_ln, eq_ll, lt_ll, le_ll, eq_nm1, eq_nm2, eq_nm3, eq_nm4, Option.bind_some, ↓reduceIte, if_true, if_false, Nat.reduceEqDiff, Nat.reduceAdd, Nat.reduceMul, Nat.reduceLT, Nat.reduceLeDiff, if_neg (show ¬ 60 < i + 1 by omega), if_neg (show ¬ (2147483648 : Int64) = 0 by decide), if_neg (show ¬ (65536 : Int64) = 0 by decide), if_neg (show ¬ (10 : Int64) = 0 by decide), z52, z53, e_addRain]
    rw [← h1] at es
    by_cases c : lg_cmp (dwD t1) (o.1 1 1).toInt64 < 0
    · rw [if_neg (Int32.not_le.mpr c)]
      rw [if_pos c] at es
      refine ⟨(va_up z 11 (oA (z 11) 0 (upd ((z 11).1 0) (i + 1) ((z 11).1 0 (i + 1) + o.1 1 2))), dwX t1, t2 + 1), rfl, ⟨k.up (by decide) _, ?_, zs⟩, ?_, ?_⟩
      · rw [es]
        exact zr.ad (by omega) _
      · rw [es]
      · rw [es, h2]
    · rw [if_pos (Int32.not_lt.mp c)]
      rw [if_neg c] at es
      refine ⟨(z, dwX t1, t2), rfl, ⟨k, ?_, zs⟩, ?_, ?_⟩
      · rw [es]; exact zr
      · rw [es]
      · rw [es]; exact h2) fu 0 (va_up z0 11 b, v, 0) (Nat.zero_le _) (by omega) ⟨⟨k0.up (by decide) b, fun q hq => (b0 q hq).trans (hz.2.1.1 q hq), b2.trans hz.2.1.2.2⟩, rfl, rfl⟩
  have ha : a = _ := ha
  subst ha
  exact ⟨y, ey, k, hl, hs⟩
theorem e_goDrawn (fu : Nat) (hf : 2000 ≤ fu) {o t0 : Ob} (hw : OKW (o.1 1)) (F0 : FR tF o t0) (v : Int64) : ∃ t, p_X10_goDrawn fu t0 v = some t ∧ FR tF o t ∧ t.1 37 0 = (dwS (o.1 1) v 60).2.2 ∧ (∀ k, k < 61 → t.1 16 k = lv (o.1 1 0) (dwS (o.1 1) v 60).2.1 k) ∧ GP (dwP (o.1 1) v) t := by
  have w0 : t0.1 1 = o.1 1 := F0.f1 1 (by decide)
  obtain ⟨s, es, a⟩ := e_asItIs fu hf t0 (by rw [w0]; exact hw)
  have aw : s.1 1 = o.1 1 := a.w.trans w0
  have a15 : E61 (s.1 15) (rnW (o.1 1)) := by have := a.2.1; rw [w0] at this; exact this
  have a1819 : ∀ j, j < nJ (o.1 1) → s.1 18 j = wE (o.1 1) j ∧ s.1 19 j = wB (o.1 1) j := by have := a.2.2.2.1; rw [w0] at this; exact this
  have a20 : s.1 20 0 = shW (o.1 1) := by have := a.2.2.2.2.1; rw [w0] at this; exact this
  have a21 := a.2.2.2.2.2
  unfold p_X10_goDrawn
  rw [es, Option.bind_some]
  obtain ⟨t, et, F, h37, h16, G⟩ := loop_inv (fun m i (t : Ob × Int64) => p_X10_goDrawn_L14 fu m t.1 t.2 (nI (i + 1))) 60 (fun i t => (FR tF o t.1 ∧ (∀ j, j < nJ (o.1 1) → t.1.1 18 j = wE (o.1 1) j ∧ t.1.1 19 j = wB (o.1 1) j) ∧ t.1.1 20 0 = shW (o.1 1) ∧ t.1.1 21 0 = 0) ∧ E61 (t.1.1 15) (dwS (o.1 1) v i).2.1 ∧ t.2 = (dwS (o.1 1) v i).1 ∧ t.1.1 37 0 = (dwS (o.1 1) v i).2.2) (fun t => FR tF o t ∧ t.1 37 0 = (dwS (o.1 1) v 60).2.2 ∧ (∀ k, k < 61 → t.1 16 k = lv (o.1 1 0) (dwS (o.1 1) v 60).2.1 k) ∧ GP (dwP (o.1 1) v) t) (by
    rintro m ⟨z, t1⟩ ⟨⟨F, zj, z20, z21⟩, zr, h1, h37⟩
    have F : FR tF o z := F
    have zr : E61 (z.1 15) (dwS (o.1 1) v 60).2.1 := zr
    have z1 : z.1 1 = o.1 1 := F.f1 1 (by decide)
    obtain ⟨l, el, Fl, ll⟩ := e_lay fu hf z (by rw [z1]; exact hw)
    have l1 : ∀ k, k < 61 → l.1 16 k = lv (o.1 1 0) (dwS (o.1 1) v 60).2.1 k := fun k hk => by
      have := (ll k hk).1
      rw [z1, lv_cg zr k hk] at this
      exact this
    refine ⟨l, ?_, F.tr (Fl.mono (by decide)), ?_, l1, ?_, ?_, ?_, ?_, ?_⟩
    · show p_X10_goDrawn_L14 fu (m + 1) z t1 (nI (60 + 1)) = _
      rw [p_X10_goDrawn_L14]
      simp (disch := omega) only [inb_nI, inb_lit, cl_nI, cl_lit, nI_add, add_nl, add_ln, mul_ln, pk_mul, le_nn, lt_nn, eq_nn, le_nl, lt_nl, eq_nl, le_ln, lt_ln, eq_ln, eq_ll, lt_ll, le_ll, eq_nm1, eq_nm2, eq_nm3, eq_nm4, Option.bind_some, ↓reduceIte, if_true, if_false, Nat.reduceEqDiff, Nat.reduceAdd, Nat.reduceMul, Nat.reduceLT, Nat.reduceLeDiff, el]
    · rw [Fl.f1 37 (by decide)]; exact h37
    · rw [Fl.f1 1 (by decide)]; exact z1
    · intro j hj
      rw [Fl.f1 18 (by decide), Fl.f1 19 (by decide)]; exact zj j hj
    · intro k hk
      have := (ll k hk).2
      rw [z1, lv_cg zr k hk] at this
      exact this
    · rw [Fl.f1 20 (by decide)]; exact z20
    · rw [Fl.f1 21 (by decide)]; exact z21) (by
    rintro m i ⟨z, t1⟩ hi ⟨⟨F, zj, z20, z21⟩, zr, h1, h37⟩
    have F : FR tF o z := F
    have zr : E61 (z.1 15) (dwS (o.1 1) v i).2.1 := zr
    have h1 : t1 = (dwS (o.1 1) v i).1 := h1
    have h37 : z.1 37 0 = (dwS (o.1 1) v i).2.2 := h37
    have z1 : z.1 1 = o.1 1 := F.f1 1 (by decide)
    right
    have es := dwS_s (o.1 1) v i
    unfold dwF at es
    rw [← h1] at es
    show ∃ s' : Ob × Int64, p_X10_goDrawn_L14 fu (m + 1) z t1 (nI (i + 1)) = p_X10_goDrawn_L14 fu m s'.1 s'.2 (nI (i + 1 + 1)) ∧ _
    rw [p_X10_goDrawn_L14]
    have eD : ((((1103515245 * t1) + 12345) - ((1103515245 * t1) + 12345) / 2147483648 * 2147483648) / 65536) - ((((1103515245 * t1) + 12345) - ((1103515245 * t1) + 12345) / 2147483648 * 2147483648) / 65536) / 10 * 10 = dwD t1 := rfl
    have eX : ((1103515245 * t1) + 12345) - ((1103515245 * t1) + 12345) / 2147483648 * 2147483648 = dwX t1 := rfl
    rw [eD, eX]
    simp (disch := omega) only [inb_nI, inb_lit, cl_nI, cl_lit, nI_add, add_nl, add_ln, mul_ln, pk_mul, le_nn, lt_nn, eq_nn, le_nl, lt_nl, eq_nl, le_ln, lt_ln, eq_ln, eq_ll, lt_ll, le_ll, eq_nm1, eq_nm2, eq_nm3, eq_nm4, Option.bind_some, ↓reduceIte, if_true, if_false, Nat.reduceEqDiff, Nat.reduceAdd, Nat.reduceMul, Nat.reduceLT, Nat.reduceLeDiff, oA_1, oI_1, oLA_1, oL_1, oA_2, oI_2, oLA_2, oL_2, up_v, upd_v, updL_v, if_neg (show ¬ 60 < i + 1 by omega), if_neg (show ¬ (2147483648 : Int64) = 0 by decide), if_neg (show ¬ (65536 : Int64) = 0 by decide), if_neg (show ¬ (10 : Int64) = 0 by decide), z1]
    by_cases c : lg_cmp (dwD t1) (o.1 1 1).toInt64 < 0
    · rw [if_pos c]
      rw [if_pos c] at es
      refine ⟨(oI (oA z 15 (upd (z.1 15) (i + 1) (z.1 15 (i + 1) + o.1 1 2))) 37 (z.1 37 0 + 1), dwX t1), rfl, ⟨(F.A (by decide) _).I (by decide) _, zj, z20, z21⟩, ?_, ?_, ?_⟩
      · rw [es]
        exact zr.ad (by omega) _
      · rw [es]
      · rw [es, ← h37]
        rfl
    · rw [if_neg c]
      rw [if_neg c] at es
      refine ⟨(z, dwX t1), rfl, ⟨F, zj, z20, z21⟩, ?_, ?_, ?_⟩
      · rw [es]; exact zr
      · rw [es]
      · rw [es]; exact h37) fu 0 (oI s 37 0, v) (Nat.zero_le _) (by omega) ⟨⟨(F0.tr a.tf).I (by decide) _, a1819, a20, a21⟩, a15, rfl, rfl⟩
  exact ⟨t, et, F, h37, h16, G⟩
theorem e_seed (fu : Nat) (v : Int32) : p_X9_isSeed fu v = some (if v < 0 then 0 else if (2000000000 : Int32) < v then 0 else 1) ∧ p_X10_isSeed fu v = some (if v < 0 then 0 else if (2000000000 : Int32) < v then 0 else 1) := by
  have e : p_X10_in fu v.toInt64 (0 : Int64) (2000000000 : Int64) = some (if v < 0 then 0 else if (2000000000 : Int32) < v then 0 else 1) := e_in fu v 0 2000000000
  unfold p_X9_isSeed p_X10_isSeed
  rw [e, Option.bind_some]
  refine ⟨?_, ?_⟩
  · split
    · rfl
    · split <;> rfl
  · split
    · rfl
    · split <;> rfl
theorem s_drawnK (fu : Nat) {x y : Nat → Ob} {o t : Ob} (h : Rel x o) (k : KQ x y) (F : FR tF o t) {b : Nat} (hb : b < 2) {v : Int64} {n60 q60 : Int32} (ey : p_X9_drawDay fu x v = some (n60, y)) (et : p_X10_goDrawn fu o v = some t) (t37 : t.1 37 0 = n60) (y60 : (y 11).1 1 60 = q60) (t60 : t.1 16 60 = q60) :
    ∃ r z s, (if nI b < 0 then some ((-2 : Int32), x) else if nI b ≤ (1 : Int32) then (p_X9_drawDay fu x v).bind fun r_32 => if nI b = 0 then (p_X8_levelAt fu (r_32.2 11) (60 : Int32)).bind fun r_46 => some (r_46, r_32.2) else some (r_32.1, r_32.2) else some (((-2) : Int32), x)) = some (r, z) ∧
    (if (1 : Int32) = 0 then some (((-2) : Int32), o) else (p_X10_goDrawn fu o v).bind fun r_30 => if nI b = 0 then if inb (60 : Int32) 61 = true then some (((r_30.1 16) (60 : Int32).toNatClampNeg), r_30) else none else some ((r_30.1 37 0), r_30)) = some (r, s) ∧ Rel z s := by
  have l60 : p_X8_levelAt fu (y 11) (60 : Int32) = some ((y 11).1 1 60) := e_levelAt fu _ (k := 60) (by omega)
  rw [ey, et, if_neg (show ¬ nI b < 0 by rw [lt_nl (by omega) (by decide)]; omega), if_pos (show nI b ≤ (1 : Int32) by rw [le_nl (by omega) (by decide)]; omega), if_neg (show ¬ (1 : Int32) = 0 by decide), Option.bind_some, Option.bind_some]
  by_cases g : nI b = 0
  · rw [if_pos g, if_pos g]
    refine ⟨q60, y, t, ?_, ?_, h.kp k F⟩
    · show (p_X8_levelAt fu (y 11) (60 : Int32)).bind _ = _
      rw [l60, y60]; rfl
    · rw [if_pos (by decide), ← t60]; rfl
  · rw [if_neg g, if_neg g]
    exact ⟨n60, y, t, rfl, by rw [t37], h.kp k F⟩
theorem s_drawn (fu : Nat) (hf : 2000 ≤ fu) {x : Nat → Ob} {o : Ob} (h : Rel x o) (v1 v2 : Int32) : ∃ r y t, p_X9_drawn fu x v1 v2 = some (r, y) ∧ p_X10_drawn fu o v1 v2 = some (r, t) ∧ Rel y t := by
  unfold p_X9_drawn p_X10_drawn
  rw [e_isRivers fu o h.w, Option.bind_some]
  simp only [told0 h]
  by_cases c : nL (o.1 1) = 0
  · simp only [c, Option.bind_some, ↓reduceIte, if_true, if_false, Nat.reduceEqDiff, Nat.reduceAdd, Nat.reduceMul, Nat.reduceLT, Nat.reduceLeDiff]
    exact ⟨_, _, _, rfl, rfl, h⟩
  · simp (disch := omega) only [c, Option.bind_some, ↓reduceIte, if_true, if_false, Nat.reduceEqDiff, Nat.reduceAdd, Nat.reduceMul, Nat.reduceLT, Nat.reduceLeDiff, inb_nI, inb_lit, cl_nI, cl_lit, nI_add, add_nl, add_ln, mul_ln, pk_mul, le_nn, lt_nn, eq_nn, le_nl, lt_nl, eq_nl, le_ln, lt_ln, eq_ln, eq_ll, lt_ll, le_ll, eq_nm1, eq_nm2, eq_nm3, eq_nm4, (e_seed fu v1).1, (e_seed fu v1).2, e_in0 fu v2 (n := 1) (by decide)]
    by_cases g : (if v1 < 0 then (0 : Int32) else if (2000000000 : Int32) < v1 then 0 else 1) = 0
    · simp only [if_pos g]
      exact ⟨_, _, _, rfl, rfl, h⟩
    · simp only [if_neg g]
      rcases ixq_of v2 (n := 2) (by omega) with ⟨e2, ho⟩ | ⟨e2, b, hb, rfl⟩
      · simp only [e2, Option.bind_some, ↓reduceIte, if_true, if_false, Nat.reduceEqDiff, Nat.reduceAdd, Nat.reduceMul, Nat.reduceLT, Nat.reduceLeDiff]
        refine ⟨-2, x, o, ?_, rfl, h⟩
        rcases ho with z | z
        · rw [if_pos z]
        · have z1 := Int32.le_iff_toInt_le.mp z
          rw [nI_toInt (by omega)] at z1
          have n1 : ¬ v2 ≤ 1 := by
            rw [Int32.le_iff_toInt_le]
            have : (1 : Int32).toInt = 1 := rfl
            omega
          by_cases hq : v2 < 0
          · rw [if_pos hq]
          · rw [if_neg hq, if_neg n1]
      · obtain ⟨y, ey, k, yl, ys⟩ := e_drawDay fu hf h KQ.rf v1.toInt64
        obtain ⟨t, et, F, t37, t16, G⟩ := e_goDrawn fu hf h.w FR.rf v1.toInt64
        rw [e2]
        exact s_drawnK fu h k F hb ey et t37 (yl 60 (by omega)) (t16 60 (by omega))
def luF (w : Nat → Int32) (v : Int32) (r i : Nat) (t : Int32) : Int32 := if coF (dwP w (v.toInt64 + (nI i).toInt64)) r 0 (-1) = -1 then t else t + 1
theorem s_luck (fu : Nat) (hf : 2000 ≤ fu) {x : Nat → Ob} {o : Ob} (h : Rel x o) (v1 v2 v3 : Int32) : ∃ r y t, p_X9_luck fu x v1 v2 v3 = some (r, y) ∧ p_X10_luck fu o v1 v2 v3 = some (r, t) ∧ Rel y t := by
  have hR := h.w.2.1.1
  unfold p_X9_luck p_X10_luck
  have e120 : p_X10_in fu v2.toInt64 (1 : Int64) (20 : Int64) = some (if v2 < 1 then 0 else if (20 : Int32) < v2 then 0 else 1) := e_in fu v2 1 20
  rw [(e_seed fu v1).1, (e_seed fu v1).2, e120, Option.bind_some, Option.bind_some, e_cReach fu h, e_isReach fu o _ h.w]
  by_cases g : (if v1 < 0 then (0 : Int32) else if (2000000000 : Int32) < v1 then 0 else 1) = 0
  · simp only [if_pos g]
    exact ⟨_, _, _, rfl, rfl, h⟩
  · simp only [if_neg g, Option.bind_some]
    by_cases g1 : v2 < 1
    · rw [if_pos g1, if_pos g1, if_pos rfl]
      exact ⟨_, _, _, rfl, rfl, h⟩
    · rw [if_neg g1, if_neg g1]
      by_cases g2 : (20 : Int32) < v2
      · rw [if_pos g2, if_pos g2, if_pos rfl]
        exact ⟨_, _, _, rfl, rfl, h⟩
      · obtain ⟨n, hn, rfl⟩ : ∃ n : Nat, n ≤ 20 ∧ v2 = nI n := by
          rcases pk_ix v2 (n := 21) (by omega) with z | z | ⟨n, hn, rfl⟩
          · exfalso
            apply g1
            have z1 := Int32.lt_iff_toInt_lt.mp z
            rw [Int32.lt_iff_toInt_lt]
            have e0 : (0 : Int32).toInt = 0 := rfl
            have e1 : (1 : Int32).toInt = 1 := rfl
            omega
          · exfalso
            apply g2
            have z1 := Int32.le_iff_toInt_le.mp z
            rw [nI_toInt (by omega)] at z1
            rw [Int32.lt_iff_toInt_lt]
            have e0 : (20 : Int32).toInt = 20 := rfl
            omega
          · exact ⟨n, by omega, rfl⟩
        rw [if_neg g2, if_neg g2, if_neg (show ¬ (1 : Int32) = 0 by decide)]
        rcases ixq_of v3 (n := nR (o.1 1)) (by omega) with ⟨e1, -⟩ | ⟨e1, r, hr, rfl⟩
        · simp only [e1, Option.bind_some, ↓reduceIte, if_true, if_false, Nat.reduceEqDiff, Nat.reduceAdd, Nat.reduceMul, Nat.reduceLT, Nat.reduceLeDiff]
          exact ⟨_, _, _, rfl, rfl, h⟩
        · simp (disch := omega) only [e1, inb_nI, inb_lit, cl_nI, cl_lit, nI_add, add_nl, add_ln, mul_ln, pk_mul, le_nn, lt_nn, eq_nn, le_nl, lt_nl, eq_nl, le_ln, lt_ln, eq_ln, eq_ll, lt_ll, le_ll, eq_nm1, eq_nm2, eq_nm3, eq_nm4, Option.bind_some, ↓reduceIte, if_true, if_false, Nat.reduceEqDiff, Nat.reduceAdd, Nat.reduceMul, Nat.reduceLT, Nat.reduceLeDiff]
          obtain ⟨⟨a, y⟩, ey, ha, k⟩ := loop_inv (fun m i (t : (Nat → Ob) × Int32) => p_X9_luck_L35 fu m t.1 v1 (nI n) (nI r) t.2 (nI i)) n (fun i t => KQ x t.1 ∧ t.2 = it (luF (o.1 1) v1 r) 0 i) (fun a => a.1 = it (luF (o.1 1) v1 r) 0 n ∧ KQ x a.2) (by
            rintro m ⟨z, t⟩ ⟨k, rfl⟩
            have k : KQ x z := k
            refine ⟨(it (luF (o.1 1) v1 r) 0 n, z), ?_, rfl, k⟩
            show p_X9_luck_L35 fu (m + 1) z v1 (nI n) (nI r) _ (nI n) = _
            rw [p_X9_luck_L35]
            simp (disch := omega) only [inb_nI, inb_lit, cl_nI, cl_lit, nI_add, add_nl, add_ln, mul_ln, pk_mul, le_nn, lt_nn, eq_nn, le_nl, lt_nl, eq_nl, le_ln, lt_ln, eq_ln, eq_ll, lt_ll, le_ll, eq_nm1, eq_nm2, eq_nm3, eq_nm4, Option.bind_some, ↓reduceIte, if_true, if_false, Nat.reduceEqDiff, Nat.reduceAdd, Nat.reduceMul, Nat.reduceLT, Nat.reduceLeDiff, Nat.le_refl]) (by
            rintro m i ⟨z, t⟩ hi ⟨k, rfl⟩
            have k : KQ x z := k
            right
            obtain ⟨y1, ey1, k1, yl, ys⟩ := e_drawDay fu hf h k (v1.toInt64 + (nI i).toInt64)
            have hz := h.kp k1 FR.rf
            have dp : DP (dwP (o.1 1) (v1.toInt64 + (nI i).toInt64)) (y1 5) (y1 11) := ⟨hz.1.2.1.2.2.2.2.2.1, hz.1.2.2.1, hz.1.2.2.2.1, fun q hq => yl q hq, ys, rfl⟩
            obtain ⟨y2, ey2, dy2⟩ := e_drift fu hf (dwP (o.1 1) (v1.toInt64 + (nI i).toInt64)) (h.w.ps _ _) hr (show 0 < 61 by omega) (y1 12) (y1 5) (y1 11) dp
            have ey2' : p_X5_drift fu (y1 12) (y1 5) (y1 11) (nI r) 0 = some y2 := ey2
            have y24 : y2.1 4 0 = coF (dwP (o.1 1) (v1.toInt64 + (nI i).toInt64)) r 0 (-1) := dy2.2.2.2.2.1
            refine ⟨(va_up y1 12 y2, it (luF (o.1 1) v1 r) 0 (i + 1)), ?_, k1.up (by decide) y2, rfl⟩
            show p_X9_luck_L35 fu (m + 1) z v1 (nI n) (nI r) _ (nI i) = p_X9_luck_L35 fu m (va_up y1 12 y2) v1 (nI n) (nI r) _ (nI (i + 1))
            rw [p_X9_luck_L35]
            simp (disch := omega) only [inb_nI, inb_lit, cl_nI, cl_lit, nI_add, add_nl, add_ln, mul_ln, pk_mul, le_nn, lt_nn, eq_nn, le_nl, lt_nl, eq_nl, le_ln, lt_ln, eq_ln, eq_ll, lt_ll, le_ll, eq_nm1, eq_nm2, eq_nm3, eq_nm4, Option.bind_some, ↓reduceIte, if_true, if_false, Nat.reduceEqDiff, Nat.reduceAdd, Nat.reduceMul, Nat.reduceLT, Nat.reduceLeDiff, if_neg (show ¬ n ≤ i by omega), ey1, ey2', up12, y24, it, luF]
            by_cases c1 : coF (dwP (o.1 1) (v1.toInt64 + (nI i).toInt64)) r 0 (-1) = -1
            · simp only [if_pos c1]
            · simp only [if_neg c1]) fu 0 (x, 0) (Nat.zero_le _) (by omega) ⟨KQ.rf, rfl⟩
          obtain ⟨⟨b, z⟩, ez, hb, F⟩ := loop_inv (fun m i (t : Ob × Int32) => p_X10_luck_L37 fu m t.1 v1 (nI n) (nI r) t.2 (nI i)) n (fun i t => FR tF o t.1 ∧ t.2 = it (luF (o.1 1) v1 r) 0 i) (fun a => a.1 = it (luF (o.1 1) v1 r) 0 n ∧ FR tF o a.2) (by
            rintro m ⟨z, t⟩ ⟨F, rfl⟩
            have F : FR tF o z := F
            refine ⟨(it (luF (o.1 1) v1 r) 0 n, z), ?_, rfl, F⟩
            show p_X10_luck_L37 fu (m + 1) z v1 (nI n) (nI r) _ (nI n) = _
            rw [p_X10_luck_L37]
            simp (disch := omega) only [inb_nI, inb_lit, cl_nI, cl_lit, nI_add, add_nl, add_ln, mul_ln, pk_mul, le_nn, lt_nn, eq_nn, le_nl, lt_nl, eq_nl, le_ln, lt_ln, eq_ln, eq_ll, lt_ll, le_ll, eq_nm1, eq_nm2, eq_nm3, eq_nm4, Option.bind_some, ↓reduceIte, if_true, if_false, Nat.reduceEqDiff, Nat.reduceAdd, Nat.reduceMul, Nat.reduceLT, Nat.reduceLeDiff, Nat.le_refl]) (by
            rintro m i ⟨z, t⟩ hi ⟨F, rfl⟩
            have F : FR tF o z := F
            right
            obtain ⟨s, es, Fs, -, -, G⟩ := e_goDrawn fu hf h.w F (v1.toInt64 + (nI i).toInt64)
            obtain ⟨u, eu, Fu⟩ := e_seaOf fu hf (dwP (o.1 1) (v1.toInt64 + (nI i).toInt64)) (h.w.ps _ _) G hr (show 0 < 61 by omega)
            have eu' : p_X10_seaOf fu s (nI r) 0 = _ := eu
            refine ⟨(u, it (luF (o.1 1) v1 r) 0 (i + 1)), ?_, Fs.tr (Fu.mono (by decide)), rfl⟩
            show p_X10_luck_L37 fu (m + 1) z v1 (nI n) (nI r) _ (nI i) = p_X10_luck_L37 fu m u v1 (nI n) (nI r) _ (nI (i + 1))
            rw [p_X10_luck_L37]
            simp (disch := omega) only [inb_nI, inb_lit, cl_nI, cl_lit, nI_add, add_nl, add_ln, mul_ln, pk_mul, le_nn, lt_nn, eq_nn, le_nl, lt_nl, eq_nl, le_ln, lt_ln, eq_ln, eq_ll, lt_ll, le_ll, eq_nm1, eq_nm2, eq_nm3, eq_nm4, Option.bind_some, ↓reduceIte, if_true, if_false, Nat.reduceEqDiff, Nat.reduceAdd, Nat.reduceMul, Nat.reduceLT, Nat.reduceLeDiff, if_neg (show ¬ n ≤ i by omega), es, eu', it, luF, Int32.add_zero]
            rcases coF_or (dwP (o.1 1) (v1.toInt64 + (nI i).toInt64)) r 0 (-1) (by omega) with c1 | ⟨j, -, hj, c1⟩
            · simp only [if_pos c1, if_pos (Int32.le_refl (1000000000 : Int32))]
            · have c2 : ¬ coF (dwP (o.1 1) (v1.toInt64 + (nI i).toInt64)) r 0 (-1) = -1 := by rw [c1]; exact m1_ne (by omega)
              simp only [if_neg c2]
              rw [c1, if_neg (by rw [le_ln (by decide) (by omega)]; omega)]) fu 0 (o, 0) (Nat.zero_le _) (by omega) ⟨FR.rf, rfl⟩
          have ha : a = _ := ha
          have hb : b = _ := hb
          subst ha hb
          exact ⟨_, y, z, ey, ez, h.kp k F⟩
