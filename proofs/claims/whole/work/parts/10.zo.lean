theorem v4_up (j : Nat) : nI j + (-4) + 1 = nI (j + 1) + (-4) := by
  have e : nI j + 1 = nI (j + 1) := nI_add j 1
  rw [← e, Int32.add_assoc, Int32.add_assoc, Int32.add_comm (-4) 1]
theorem v4_le : ∀ j : Fin 14, ¬ (10 : Int32) ≤ nI j.1 + (-4) := by decide +kernel
theorem e_l37 (fu : Nat) (hf : 2000 ≤ fu) (c : Ob → Int32 → Int32 → Int32 → Int32 → Int32 → Option (Int32 × Ob)) {P : PP} {A : Ob} {t : PT} (ri : RI P A t) (ht : t.1 ≤ 610) {q : Nat} (hq : q < 61) (v1 v3 u : Int32) :
    p_X10_askOf_L37 fu c fu A v1 (nI q) v3 u 0 0 = c A v1 (nI q) v3 u (cW P t q u) := by
  have e := loop_it (fun n i (x : Int32) => p_X10_askOf_L37 fu c n A v1 (nI q) v3 u x (nI i)) (fun i n => if wh P (t.2 i).1 (t.2 i).2 q = u then n + 1 else n) 0 t.1 (c A v1 (nI q) v3 u (cW P t q u)) (by
    intro n
    show p_X10_askOf_L37 fu c (n + 1) A v1 (nI q) v3 u _ (nI t.1) = _
    rw [p_X10_askOf_L37, ri.1, if_pos (by rw [le_nn (by omega) (by omega)]; omega)]
    rfl) (by
    intro n i hi
    show p_X10_askOf_L37 fu c (n + 1) A v1 (nI q) v3 u _ (nI i) = p_X10_askOf_L37 fu c n A v1 (nI q) v3 u _ (nI (i + 1))
    have j0 : 61 * nI i + nI q = nI (61 * i + q) := by simp (disch := omega) only [mul_ln, nI_add]
    have j1 : inb (nI (61 * i + q)) 37210 = true := by simp (disch := omega) only [inb_nI]
    have j3 : (nI (61 * i + q)).toNatClampNeg = 61 * i + q := by simp (disch := omega) only [cl_nI]
    rw [p_X10_askOf_L37, ri.1, if_neg (by rw [le_nn (by omega) (by omega)]; omega), j0, j1, j3, if_pos rfl, ri.2.2 i q hi hq, show nI i + 1 = nI (i + 1) from nI_add i 1, it]
    by_cases g : wh P (t.2 i).1 (t.2 i).2 q = u
    · rw [if_pos g, if_pos g]
    · rw [if_neg g, if_neg g, Int32.add_zero]) fu 0 (Nat.zero_le _) (by omega)
  exact e
theorem e_l24 (fu : Nat) (hf : 2000 ≤ fu) (c : Ob → Int32 → Int32 → Int32 → Option (Int32 × Ob)) {P : PP} {A : Ob} {t : PT} (ri : RI P A t) (ht : t.1 ≤ 610) {q : Nat} (hq : q < 61) (v1 : Int32) :
    p_X10_askOf_L24 fu c fu A v1 (nI q) 0 (-4) = c A v1 (nI q) (it (mF P t q) 0 14) := by
  have e := loop_it (fun n j (x : Int32) => p_X10_askOf_L24 fu c n A v1 (nI q) x (nI j + (-4))) (mF P t q) 0 14 (c A v1 (nI q) (it (mF P t q) 0 14)) (by
    intro n
    show p_X10_askOf_L24 fu c (n + 1) A v1 (nI q) _ (nI 14 + (-4)) = _
    rw [p_X10_askOf_L24, if_pos (by decide)]) (by
    intro n j hj
    show p_X10_askOf_L24 fu c (n + 1) A v1 (nI q) _ (nI j + (-4)) = p_X10_askOf_L24 fu c n A v1 (nI q) _ (nI (j + 1) + (-4))
    rw [p_X10_askOf_L24, if_neg (v4_le ⟨j, hj⟩), e_l37 fu hf _ ri ht hq, v4_up, it]
    rfl) fu 0 (Nat.zero_le _) (by omega)
  have n4 : nI 0 + (-4) = -4 := by decide
  simp only [n4] at e
  exact e
theorem e_askOf (fu : Nat) (hf : 2000 ≤ fu) {P : PP} (h : OKP P) (h0 : P.2.2.2.2.2 = 0) {o s : Ob} {t : PT} (F0 : FR tF o s) (ri : RI P s t) (pk : pOk (nR P.1) 610 t) :
    ∃ z, p_X10_askOf fu s = some ((it (bS P t) (-1, nI t.1) 61).1, z) ∧ FR tF o z ∧ z.1 33 0 = (it (bS P t) (-1, nI t.1) 61).2 := by
  unfold p_X10_askOf
  rw [ri.1]
  obtain ⟨⟨a, z⟩, e, ha, F, g⟩ := loop_inv (fun n i (z : Ob × Int32) => p_X10_askOf_L12 fu n z.1 z.2 (nI i)) 61 (fun i z => FR tF o z.1 ∧ RI P z.1 t ∧ z.2 = (it (bS P t) (-1, nI t.1) i).1 ∧ z.1.1 33 0 = (it (bS P t) (-1, nI t.1) i).2) (fun y => y.1 = (it (bS P t) (-1, nI t.1) 61).1 ∧ FR tF o y.2 ∧ y.2.1 33 0 = (it (bS P t) (-1, nI t.1) 61).2) (by
    rintro n ⟨z, a⟩ ⟨h1, h2, h3, h4⟩
    refine ⟨(a, z), ?_, h3, h1, h4⟩
    show p_X10_askOf_L12 fu (n + 1) z a (nI 61) = _
    rw [p_X10_askOf_L12, if_pos (by decide)]) (by
    rintro n i ⟨z, a⟩ hi ⟨h1, h2, h3, h4⟩
    have h1 : FR tF o z := h1
    have h2 : RI P z t := h2
    have h3 : a = (it (bS P t) (-1, nI t.1) i).1 := h3
    have h4 : z.1 33 0 = (it (bS P t) (-1, nI t.1) i).2 := h4
    right
    show ∃ s' : Ob × Int32, p_X10_askOf_L12 fu (n + 1) z a (nI i) = p_X10_askOf_L12 fu n s'.1 s'.2 (nI (i + 1)) ∧ _
    rw [p_X10_askOf_L12, if_neg (by rw [lt_ln (by decide) (by omega)]; omega), e_l24 fu hf _ h2 pk.1 hi, mM_eq h h0 pk i, h4, it]
    have e1 : nI i + 1 = nI (i + 1) := nI_add i 1
    rw [e1]
    obtain ⟨u, eu⟩ : ∃ u, u = it (bS P t) (-1, nI t.1) i := ⟨_, rfl⟩
    rw [← eu] at h3 h4 ⊢
    by_cases g : mM P t i < u.2
    · rw [if_pos g]
      refine ⟨(oI z 33 (mM P t i), nI i), rfl, h1.I (by decide) _, h2.kp (FR.rf.I (fs := [33]) (by decide) _) (by decide) (by decide) (by decide), ?_, ?_⟩
      · unfold bS; rw [if_pos g]
      · unfold bS; rw [if_pos g]; rfl
    · rw [if_neg g]
      refine ⟨(z, a), rfl, h1, h2, ?_, ?_⟩
      · unfold bS; rw [if_neg g]; exact h3
      · unfold bS; rw [if_neg g]; exact h4) fu 0 (oI s 33 (nI t.1), -1) (Nat.zero_le _) (by omega) ⟨F0.I (by decide) _, ri.kp (FR.rf.I (fs := [33]) (by decide) _) (by decide) (by decide) (by decide), rfl, rfl⟩
  have e' : p_X10_askOf_L12 fu fu (oI s 33 (nI t.1)) (-1) 0 = some (a, z) := e
  have ha : a = (it (bS P t) (-1, nI t.1) 61).1 := ha
  rw [ha] at e'
  exact ⟨z, e', F, g⟩
theorem e_askB (fu : Nat) (hf : 2000 ≤ fu) {P : PP} (h : OKP P) (h0 : P.2.2.2.2.2 = 0) {o s G : Ob} {t : PT} (F0 : FR tF o s) (c : CI P G t) (ri : RI P s t) (pk : pOk (nR P.1) 610 t) :
    ∃ (W : Int32 × Int32) (z : Ob), p_X4_bestStep fu G = some W.1 ∧ p_X4_leastLeft fu G = some W.2 ∧ p_X10_askOf fu s = some (W.1, z) ∧ FR tF o z ∧ z.1 33 0 = W.2 := by
  obtain ⟨z, e, F, g⟩ := e_askOf fu hf h h0 F0 ri pk
  exact ⟨_, z, e_best fu hf c, e_leastL fu hf c, e, F, g⟩
theorem s_ask (fu : Nat) (hf : 2000 ≤ fu) {x : Nat → Ob} {o : Ob} (h : Rel x o) (v : Int32) : ∃ r y t, p_X9_ask fu x v = some (r, y) ∧ p_X10_ask fu o v = some (r, t) ∧ Rel y t := by
  unfold p_X9_ask p_X10_ask
  rcases e_seenB fu hf h v with ⟨r, hr, g1, s, g2, F⟩ | ⟨y, s, t, g1, g2, g3, K, F, c, ri, pk⟩
  · rw [g1, g2, Option.bind_some, Option.bind_some, if_neg (n_0 hr), if_neg (n_le hr)]
    exact ⟨_, _, _, rfl, rfl, h.kp KQ.rf F⟩
  · obtain ⟨W, z, eb, -, ez, Fz, -⟩ := e_askB fu hf h.w.p rfl F c ri pk
    rw [g1, g2, g3, Option.bind_some, Option.bind_some, Option.bind_some, if_pos rfl, if_pos (show (0 : Int32) ≤ 0 by decide), eb, Option.bind_some, ez, Option.bind_some]
    exact ⟨_, _, _, rfl, rfl, h.kp K Fz⟩
theorem s_doubts (fu : Nat) (hf : 2000 ≤ fu) {x : Nat → Ob} {o : Ob} (h : Rel x o) (v : Int32) : ∃ r y t, p_X9_doubts fu x v = some (r, y) ∧ p_X10_doubts fu o v = some (r, t) ∧ Rel y t := by
  unfold p_X9_doubts p_X10_doubts
  rcases e_seenB fu hf h v with ⟨r, hr, g1, s, g2, F⟩ | ⟨y, s, t, g1, g2, g3, K, F, c, ri, pk⟩
  · rw [g1, g2, Option.bind_some, Option.bind_some, if_neg (n_0 hr), if_neg (n_le hr)]
    exact ⟨_, _, _, rfl, rfl, h.kp KQ.rf F⟩
  · obtain ⟨W, z, -, eb, ez, Fz, z33⟩ := e_askB fu hf h.w.p rfl F c ri pk
    rw [g1, g2, g3, Option.bind_some, Option.bind_some, Option.bind_some, if_pos rfl, if_pos (show (0 : Int32) ≤ 0 by decide), eb, Option.bind_some, ez, Option.bind_some, z33]
    exact ⟨_, _, _, rfl, rfl, h.kp K Fz⟩
