theorem RI.step {P : PP} {z B : Ob} {t : PT} {r s : Nat} {q : Nat → Nat → Bool} (h : RI P z t) (hq : q r s = true) (b0 : B.1 32 0 = z.1 32 0 + 1) (b1 : ∀ i, B.1 30 i = if i = t.1 then 100 * nI r + nI s else z.1 30 i)
    (b2 : ∀ q, q < 61 → B.1 31 (61 * t.1 + q) = wh P r s q) (b3 : ∀ p, p < 61 * t.1 → B.1 31 p = z.1 31 p) : RI P B (srI q r s t) := by
  obtain ⟨h0, h1, h2⟩ := h
  rw [srI, if_pos hq]
  refine ⟨?_, fun i hi => ?_, fun i p hi hp => ?_⟩
  · rw [b0, h0]; exact nI_add t.1 1
  · have hi : i < t.1 + 1 := hi
    rw [b1]
    show _ = 100 * nI (if i = t.1 then (r, s) else t.2 i).1 + nI (if i = t.1 then (r, s) else t.2 i).2
    by_cases g : i = t.1
    · rw [if_pos g, if_pos g]
    · rw [if_neg g, if_neg g]; exact h1 i (by omega)
  · have hi : i < t.1 + 1 := hi
    show _ = wh P (if i = t.1 then (r, s) else t.2 i).1 (if i = t.1 then (r, s) else t.2 i).2 p
    by_cases g : i = t.1
    · rw [if_pos g, g]; exact b2 p hp
    · rw [if_neg g, b3 _ (by have : 61 * (i + 1) ≤ 61 * t.1 := Nat.mul_le_mul_left 61 (by omega)
                             omega)]
      exact h2 i p (by omega) hp
theorem RI.kp {P : PP} {z B : Ob} {t : PT} {fs : List Nat} (h : RI P z t) (F : FR fs z B) (h1 : 30 ∉ fs) (h2 : 31 ∉ fs) (h3 : 32 ∉ fs) : RI P B t := by
  unfold RI
  rw [F.f1 30 h1, F.f1 31 h2, F.f1 32 h3]
  exact h
theorem e_l75 (fu : Nat) (hf : 2000 ≤ fu) (c : Ob → Int32 → Int32 → Int32 → Int32 → Option (Int32 × Ob)) (v1 v2 v3 v4 : Int32) {A : Ob} {cn : Nat} (hc : cn < 610) (e32 : A.1 32 0 = nI cn) {W : Nat → Int32} (hW : ∀ q, q < 61 → vp_nar .byte ((A.1 22 q).toInt8.toInt32) = W q) :
    ∃ B, p_X10_layPairs_L75 fu c fu A v1 v2 v3 v4 0 = c B v1 v2 v3 v4 ∧ FR [31] A B ∧ (∀ q, q < 61 → B.1 31 (61 * cn + q) = W q) ∧ ∀ p, p < 61 * cn → B.1 31 p = A.1 31 p := by
  obtain ⟨B, e, F, q1, q2⟩ := loop_to (fun p i z => p_X10_layPairs_L75 fu c p z v1 v2 v3 v4 (nI i)) 61 (fun i z => FR [31] A z ∧ (∀ q, q < i → z.1 31 (61 * cn + q) = W q) ∧ ∀ p, p < 61 * cn → z.1 31 p = A.1 31 p) (fun z => c z v1 v2 v3 v4) (by
    rintro p z -
    show p_X10_layPairs_L75 fu c (p + 1) z v1 v2 v3 v4 (nI 61) = _
    rw [p_X10_layPairs_L75, if_pos (show (60 : Int32) < nI 61 by decide)]) (by
    rintro p i z hi ⟨F, h1, h2⟩
    refine ⟨oA z 31 (upd (z.1 31) (61 * cn + i) (W i)), ?_, F.A (by decide) _, fun q hq => ?_, fun q hq => ?_⟩
    · show p_X10_layPairs_L75 fu c (p + 1) z v1 v2 v3 v4 (nI i) = p_X10_layPairs_L75 fu c p _ v1 v2 v3 v4 (nI (i + 1))
      rw [p_X10_layPairs_L75]
      have e22 : z.1 22 = A.1 22 := F.f1 22 (by decide)
      have z32 : z.1 32 0 = nI cn := by rw [F.f1 32 (by decide)]; exact e32
      have i1 : inb (nI i) 61 = true := by simp (disch := omega) only [inb_nI]
      have i3 : (nI i).toNatClampNeg = i := by simp (disch := omega) only [cl_nI]
      have j0 : 61 * nI cn + nI i = nI (61 * cn + i) := by simp (disch := omega) only [mul_ln, nI_add]
      have j1 : inb (nI (61 * cn + i)) 37210 = true := by simp (disch := omega) only [inb_nI]
      have j3 : (nI (61 * cn + i)).toNatClampNeg = 61 * cn + i := by simp (disch := omega) only [cl_nI]
      rw [if_neg (show ¬ (60 : Int32) < nI i by rw [lt_ln (by decide) (by omega)]; omega), z32, j0, i1, j1, i3, j3, if_pos rfl, if_pos rfl, e22, hW i hi, show nI i + 1 = nI (i + 1) from nI_add i 1]
    · simp only [oA_1, oI_1, oLA_1, oL_1, oA_2, oI_2, oLA_2, oL_2, up_v, upd_v, updL_v, Option.bind_some, ↓reduceIte, if_true, if_false, Nat.reduceEqDiff, Nat.reduceAdd, Nat.reduceMul, Nat.reduceLT, Nat.reduceLeDiff]
      by_cases g : q = i
      · rw [g, if_pos rfl]
      · rw [if_neg (by omega)]; exact h1 q (by omega)
    · simp only [oA_1, oI_1, oLA_1, oL_1, oA_2, oI_2, oLA_2, oL_2, up_v, upd_v, updL_v, Option.bind_some, ↓reduceIte, if_true, if_false, Nat.reduceEqDiff, Nat.reduceAdd, Nat.reduceMul, Nat.reduceLT, Nat.reduceLeDiff]
      rw [if_neg (by omega)]; exact h2 q hq) fu 0 A (Nat.zero_le _) (by omega) ⟨FR.rf, fun q hq => absurd hq (Nat.not_lt_zero _), fun p _ => rfl⟩
  exact ⟨B, e, F, q1, q2⟩
theorem e_layPairs (fu : Nat) (hf : 2000 ≤ fu) {o s0 : Ob} (hw : OKW (o.1 1)) {k m : Nat} (hk : k < 4) (hm : 2 * m ≤ 60) (T2 : o.1 38 k = nI (2 * m)) (T4 : tel (fun q => o.2 40 (60 * k + q)) (nR (o.1 1)) 0 m) (F0 : FR tF o s0) (G0 : GP (PW (o.1 1)) s0) :
    ∃ s, p_X10_layPairs_L14 fu fu (oI s0 32 0) (nI k) 0 0 = some (0, s) ∧ FR tF o s ∧ RI (PW (o.1 1)) s (srA (fun r s => snF (fun q => o.2 40 (60 * k + q)) (wh (PW (o.1 1)) r s) 0 m) (nR (o.1 1))) := by
  have hR := hw.2.1.1
  have h3 := hw.1.2.1
  obtain ⟨N, eN⟩ : ∃ N : Nat → Int64, N = fun q => o.2 40 (60 * k + q) := ⟨_, rfl⟩
  rw [← eN] at T4 ⊢
  obtain ⟨sn, esn⟩ : ∃ sn : Nat → Nat → Bool, sn = fun r s => snF N (wh (PW (o.1 1)) r s) 0 m := ⟨_, rfl⟩
  rw [← esn]
  obtain ⟨⟨a, y⟩, ey, ha, Fy, Ry⟩ := loop_inv (fun n i z => p_X10_layPairs_L14 fu n z (nI k) 0 (nI i)) (nR (o.1 1)) (fun i z => FR tF o z ∧ GP (PW (o.1 1)) z ∧ RI (PW (o.1 1)) z (it (srO sn) (0, fun _ => (0, 0)) i) ∧ pOk (nR (o.1 1)) (61 * i) (it (srO sn) (0, fun _ => (0, 0)) i)) (fun y => y.1 = 0 ∧ FR tF o y.2 ∧ RI (PW (o.1 1)) y.2 (srA sn (nR (o.1 1)))) (by
    rintro n z ⟨h1, h2, h4, -⟩
    refine ⟨(0, z), ?_, rfl, h1, h4⟩
    show p_X10_layPairs_L14 fu (n + 1) z (nI k) 0 (nI (nR (o.1 1))) = _
    have g1 : z.1 1 = o.1 1 := h2.1
    rw [p_X10_layPairs_L14]
    simp (disch := omega) only [inb_nI, inb_lit, cl_nI, cl_lit, nI_add, add_nl, add_ln, mul_ln, pk_mul, le_nn, lt_nn, eq_nn, le_nl, lt_nl, eq_nl, le_ln, lt_ln, eq_ln, eq_ll, lt_ll, le_ll, eq_nm1, eq_nm2, eq_nm3, eq_nm4, Option.bind_some, ↓reduceIte, if_true, if_false, Nat.reduceEqDiff, Nat.reduceAdd, Nat.reduceMul, Nat.reduceLT, Nat.reduceLeDiff, g1, h3, Nat.le_refl]) (by
    rintro n r z hr ⟨h1, h2, h4, h5⟩
    right
    show ∃ s', p_X10_layPairs_L14 fu (n + 1) z (nI k) 0 (nI r) = p_X10_layPairs_L14 fu n s' (nI k) 0 (nI (r + 1)) ∧ _
    have g1 : z.1 1 = o.1 1 := h2.1
    rw [p_X10_layPairs_L14]
    simp (disch := omega) only [inb_nI, inb_lit, cl_nI, cl_lit, nI_add, add_nl, add_ln, mul_ln, pk_mul, le_nn, lt_nn, eq_nn, le_nl, lt_nl, eq_nl, le_ln, lt_ln, eq_ln, eq_ll, lt_ll, le_ll, eq_nm1, eq_nm2, eq_nm3, eq_nm4, Option.bind_some, ↓reduceIte, if_true, if_false, Nat.reduceEqDiff, Nat.reduceAdd, Nat.reduceMul, Nat.reduceLT, Nat.reduceLeDiff, g1, h3, show ¬ nR (o.1 1) ≤ r by omega]
    obtain ⟨t, et⟩ : ∃ t, t = it (srO sn) (0, fun _ => (0, 0)) r := ⟨_, rfl⟩
    rw [← et] at h4 h5
    obtain ⟨s', e1, g2, g3, g4⟩ := loop_to (fun p s z => p_X10_layPairs_L31 fu (fun oz v1 v2 v3 => p_X10_layPairs_L14 fu n oz v1 v2 (v3 + 1)) p z (nI k) 0 (nI r) (nI s)) 61 (fun s z => FR tF o z ∧ GP (PW (o.1 1)) z ∧ RI (PW (o.1 1)) z (it (srI sn r) t s)) (fun z => p_X10_layPairs_L14 fu n z (nI k) 0 (nI (r + 1))) (by
      rintro p z -
      show p_X10_layPairs_L31 fu _ (p + 1) z (nI k) 0 (nI r) (nI 61) = _
      rw [p_X10_layPairs_L31, if_pos (show (60 : Int32) < nI 61 by decide), show nI r + 1 = nI (r + 1) from nI_add r 1]) (by
      rintro p s z hs ⟨h1, h2, h4⟩
      obtain ⟨u, eu, Fu, Gu, gu⟩ := e_go fu hf hw h2 hr hs
      have FU : FR tF o u := h1.tr (Fu.mono (by decide))
      have u38 : u.1 38 k = nI (2 * m) := by rw [FU.f1 38 (by decide)]; exact T2
      have u40 : ∀ i, i < 60 → u.2 40 (60 * k + i) = N i := fun i _ => by rw [FU.f2 40 (by decide), eN]
      have ws : p_X10_isSeen fu u (nI k) = _ := e_isSeen fu (PW (o.1 1)) gu hm hR hk u38 u40 m 0 fu (by omega) (by omega) T4
      have Ru : RI (PW (o.1 1)) u (it (srI sn r) t s) := h4.kp Fu (by decide) (by decide) (by decide)
      have esn' : snF N (wh (PW (o.1 1)) r s) 0 m = sn r s := by rw [esn]
      have es1 : nI s + 1 = nI (s + 1) := nI_add s 1
      show ∃ s', p_X10_layPairs_L31 fu _ (p + 1) z (nI k) 0 (nI r) (nI s) = p_X10_layPairs_L31 fu _ p s' (nI k) 0 (nI r) (nI (s + 1)) ∧ _
      rw [p_X10_layPairs_L31, if_neg (show ¬ (60 : Int32) < nI s by rw [lt_ln (by decide) (by omega)]; omega), eu, Option.bind_some, ws, Option.bind_some, esn', it]
      by_cases g : sn r s = true
      · rw [if_pos g, if_neg (show ¬ (1 : Int32) = 0 by decide)]
        obtain ⟨cn, ecn⟩ : ∃ cn, cn = (it (srI sn r) t s).1 := ⟨_, rfl⟩
        have hc : cn < 610 := by
          have := (srI_it (q := sn) h5 hr s (by omega)).1
          omega
        have u32 : u.1 32 0 = nI cn := by rw [ecn]; exact Ru.1
        have i1 : inb (nI cn) 610 = true := by simp (disch := omega) only [inb_nI]
        have i3 : (nI cn).toNatClampNeg = cn := by simp (disch := omega) only [cl_nI]
        rw [u32, i1, i3, if_pos rfl]
        obtain ⟨A, eA⟩ : ∃ A, A = oA u 30 (upd (u.1 30) cn (100 * nI r + nI s)) := ⟨_, rfl⟩
        rw [← eA]
        have A32 : A.1 32 0 = nI cn := by rw [eA]; exact u32
        have FA : FR [30] u A := by rw [eA]; exact FR.rf.A (by decide) _
        obtain ⟨B, eB, FB, b1, b2⟩ := e_l75 fu hf (fun oz v1 v2 v3 v4 => p_X10_layPairs_L31 fu (fun oz v1 v2 v3 => p_X10_layPairs_L14 fu n oz v1 v2 (v3 + 1)) p (oI oz 32 ((oz.1 32 0) + 1)) v1 v2 v3 (v4 + 1)) (nI k) 0 (nI r) (nI s) hc A32 (W := fun q => wh (PW (o.1 1)) r s q) (fun q hq => by
          rw [FA.f1 22 (by decide), gu.1 q hq]
          exact wh_nar hw.p rfl hr s q)
        rw [eB]
        have FAB : FR [30, 31] u B := (FA.mono (by decide)).tr (FB.mono (by decide))
        refine ⟨oI B 32 (B.1 32 0 + 1), by rw [es1], (FU.tr (FAB.mono (by decide))).I (by decide) _, ?_, ?_⟩
        · exact (Gu.kp FAB (by decide) (by decide) (by decide) (by decide) (by decide) (by decide)).kp (FR.rf.I (fs := [32]) (by decide) _) (by decide) (by decide) (by decide) (by decide) (by decide) (by decide)
        · refine Ru.step g ?_ (fun i => ?_) (fun q hq => ?_) (fun q hq => ?_)
          · show B.1 32 0 + 1 = _
            rw [FAB.f1 32 (by decide)]
          · show B.1 30 i = _
            rw [FB.f1 30 (by decide), eA, ← ecn]
            rfl
          · show B.1 31 _ = _
            rw [← ecn]
            exact b1 q hq
          · show B.1 31 _ = _
            rw [← ecn] at hq
            rw [b2 q hq, FA.f1 31 (by decide)]
      · rw [if_neg g, if_pos rfl, es1, srI, if_neg g]
        exact ⟨u, rfl, FU, Gu, Ru⟩) fu 0 z (Nat.zero_le _) (by omega) ⟨h1, h2, h4⟩
    refine ⟨s', e1, g2, g3, ?_⟩
    rw [it, ← et]
    refine ⟨g4, ?_⟩
    have := srI_it (q := sn) h5 hr 61 (Nat.le_refl _)
    exact ⟨by have := this.1; show (it (srI sn r) t 61).1 ≤ _; omega, this.2⟩) fu 0 (oI s0 32 0) (Nat.zero_le _) (by omega) ⟨F0.I (by decide) _, G0.kp (FR.rf.I (fs := [32]) (by decide) _) (by decide) (by decide) (by decide) (by decide) (by decide) (by decide), ⟨rfl, fun i hi => absurd hi (Nat.not_lt_zero _), fun i q hi => absurd hi (Nat.not_lt_zero _)⟩, ⟨Nat.le_refl 0, fun i hi => absurd hi (Nat.not_lt_zero _)⟩⟩
  have ha : a = 0 := ha
  subst ha
  exact ⟨y, ey, Fy, Ry⟩
