/-! ===== the class: how likely a level is ===== -/
theorem e_wclear (fu : Nat) (hf : 2000 ≤ fu) (f : Nat → Int64) {t : Nat} (ht : t < 1240) : ∃ f', p_X0_clear fu 1240 f (nI t) = some f' ∧ ∀ k, k ≤ t → f' k = 0 := by
  unfold p_X0_clear
  refine loop_inv (fun n i s => p_X0_clear_L2 fu 1240 n s (nI t) (nI i)) (t + 1) (fun i (s : Nat → Int64) => ∀ k, k < i → s k = 0) (fun s => ∀ k, k ≤ t → s k = 0) ?_ ?_ fu 0 f (Nat.zero_le _) (by omega) (fun k hk => by omega)
  · rintro n s hs
    refine ⟨s, ?_, fun k hk => hs k (by omega)⟩
    show p_X0_clear_L2 fu 1240 (n + 1) s (nI t) (nI (t + 1)) = _
    rw [p_X0_clear_L2]
    simp (disch := omega) only [inb_nI, inb_lit, cl_nI, cl_lit, nI_add, add_nl, add_ln, mul_ln, pk_mul, le_nn, lt_nn, eq_nn, le_nl, lt_nl, eq_nl, le_ln, lt_ln, eq_ln, eq_ll, lt_ll, le_ll, eq_nm1, eq_nm2, eq_nm3, eq_nm4]
    rw [if_pos (by omega)]
  · rintro n i s hi hs
    right
    refine ⟨vp_updL s i 0, ?_, fun k hk => ?_⟩
    · show p_X0_clear_L2 fu 1240 (n + 1) s (nI t) (nI i) = p_X0_clear_L2 fu 1240 n _ (nI t) (nI (i + 1))
      rw [p_X0_clear_L2]
      simp (disch := omega) only [inb_nI, inb_lit, cl_nI, cl_lit, nI_add, add_nl, add_ln, mul_ln, pk_mul, le_nn, lt_nn, eq_nn, le_nl, lt_nl, eq_nl, le_ln, lt_ln, eq_ln, eq_ll, lt_ll, le_ll, eq_nm1, eq_nm2, eq_nm3, eq_nm4, if_true]
      rw [if_neg (by omega), if_neg (by omega)]
    · rw [updL_v]
      split
      · rfl
      · exact hs k (by omega)
theorem e_addW (fu : Nat) (f : Nat → Int64) (v : Int64) {j : Nat} (h : j < 1240) : p_X0_addWeight fu 1240 f (nI j) v = some (vp_updL f j (f j + v)) := by
  unfold p_X0_addWeight
  simp (disch := omega) only [inb_nI, inb_lit, cl_nI, cl_lit, nI_add, add_nl, add_ln, mul_ln, pk_mul, le_nn, lt_nn, eq_nn, le_nl, lt_nl, eq_nl, le_ln, lt_ln, eq_ln, eq_ll, lt_ll, le_ll, eq_nm1, eq_nm2, eq_nm3, eq_nm4, if_true]
  rw [if_neg (by omega), if_neg (by omega)]
/-- weights of levels 0 .. T, out of P -/
def CWv (c : Ob) (T : Nat) (w : Nat → Nat) (P : Nat) : Prop := c.1 2 0 = nI T ∧ (∀ k, k ≤ T → c.2 0 k = lN (w k)) ∧ c.2 3 0 = lN P
theorem e_begin (fu : Nat) (hf : 2000 ≤ fu) (c : Ob) {T : Nat} (hT : T < 1240) : ∃ d, p_X0_begin fu c (nI T) = some d ∧ d.1 4 0 = c.1 4 0 ∧ CWv d T (fun k => if T = k then 1 else 0) 1 := by
  obtain ⟨f, ef, hf0⟩ := e_wclear fu hf (c.2 0) hT
  unfold p_X0_begin
  rw [ef, Option.bind_some, show (oLA c 0 f).2 0 = f from rfl, e_addW fu f 1 hT, Option.bind_some]
  refine ⟨_, rfl, rfl, rfl, fun k hk => ?_, rfl⟩
  show (vp_updL f T (f T + 1)) k = lN (if T = k then 1 else 0)
  rw [updL_v]
  by_cases e : k = T
  · rw [if_pos e, if_pos e.symm, hf0 T (Nat.le_refl _)]; decide
  · rw [if_neg e, if_neg (fun z => e z.symm), hf0 k hk]; decide
theorem e_advance (fu : Nat) (hf : 2000 ≤ fu) (c : Ob) {T P r od sw : Nat} {w : Nat → Nat} (h : CWv c T w P) (hT : T < 1240) (hr : r < 2000) (hod : od ≤ 10) (hsw : sw < 2000) (hT' : (T - 1) + r + sw < 1240) :
    ∃ d, p_X0_advance fu c (nI r) (nI od) (nI sw) = some d ∧ ((d.1 4 0 = 0) ↔ ¬ (c.1 4 0 = 0)) ∧ CWv d ((T - 1) + r + sw) (acc w r od sw (T + 1)) (P * 10) := by
  obtain ⟨h2, h0, h3⟩ := h
  obtain ⟨f, ef, hf0⟩ := e_wclear fu hf (c.2 1) hT'
  unfold p_X0_advance
  have em : ((if (0 : Int32) < ((c.1 2 0) - 1) then ((c.1 2 0) - 1) else (0 : Int32)) + nI r) + nI sw = nI ((T - 1) + r + sw) := by
    rw [h2, mx_n (by omega), nI_add, nI_add]
  rw [em, ef, Option.bind_some]
  have h10 : (10 : Int32) - nI od = nI (10 - od) := pk_sub (a := 10) hod
  have l10 : (nI (10 - od)).toInt64 = lN (10 - od) := nI_l (by omega)
  have lod : (nI od).toInt64 = lN od := nI_l (by omega)
  refine loop_inv (fun n i s => p_X0_advance_L28 fu (fun oz v4 => some (oSw (oL (oI oz 2 v4) 3 (((oI oz 2 v4).2 3 0) * 10)))) n s (nI r) (nI od) (nI sw) (nI ((T - 1) + r + sw)) (nI i)) (T + 1) (fun i (s : Ob) => (s.1 = c.1 ∧ s.2 0 = c.2 0 ∧ s.2 3 = c.2 3) ∧ ∀ j, j ≤ (T - 1) + r + sw → s.2 1 j = lN (acc w r od sw i j)) (fun d => ((d.1 4 0 = 0) ↔ ¬ (c.1 4 0 = 0)) ∧ CWv d ((T - 1) + r + sw) (acc w r od sw (T + 1)) (P * 10)) ?_ ?_ fu 0 (oLA c 1 f) (Nat.zero_le _) (by omega) ⟨⟨rfl, rfl, rfl⟩, fun j hj => hf0 j hj⟩
  · rintro n s ⟨⟨s1, s0, s3⟩, sj⟩
    refine ⟨oSw (oL (oI s 2 (nI ((T - 1) + r + sw))) 3 (((oI s 2 (nI ((T - 1) + r + sw))).2 3 0) * 10)), ?_, ?_, rfl, fun k hk => ?_, ?_⟩
    · show p_X0_advance_L28 fu _ (n + 1) s _ _ _ _ (nI (T + 1)) = _
      rw [p_X0_advance_L28, s1, h2, if_pos (show nI T < nI (T + 1) by rw [lt_nn (by omega) (by omega)]; omega)]
    · show ((if s.1 4 0 = 0 then (1 : Int32) else 0) = 0) ↔ _
      rw [s1]
      by_cases g : c.1 4 0 = 0
      · rw [if_pos g]
        exact ⟨fun z => absurd z (by decide), fun z => absurd g z⟩
      · rw [if_neg g]
        exact ⟨fun _ => g, fun _ => rfl⟩
    · show s.2 1 k = _
      exact sj k hk
    · show s.2 3 0 * 10 = lN (P * 10)
      rw [s3, h3, ← lN_mul]; rfl
  · rintro n i s hi ⟨⟨s1, s0, s3⟩, sj⟩
    right
    refine ⟨oLA (oLA s 1 (vp_updL (s.2 1) ((i - 1) + r) (s.2 1 ((i - 1) + r) + lN (w i * (10 - od))))) 1 (vp_updL (vp_updL (s.2 1) ((i - 1) + r) (s.2 1 ((i - 1) + r) + lN (w i * (10 - od)))) ((i - 1) + r + sw) (vp_updL (s.2 1) ((i - 1) + r) (s.2 1 ((i - 1) + r) + lN (w i * (10 - od))) ((i - 1) + r + sw) + lN (w i * od))), ?_, ⟨s1, s0, s3⟩, fun j hj => ?_⟩
    · show p_X0_advance_L28 fu _ (n + 1) s _ _ _ _ (nI i) = p_X0_advance_L28 fu _ n _ _ _ _ _ (nI (i + 1))
      rw [p_X0_advance_L28, s1, h2, if_neg (show ¬ nI T < nI i by rw [lt_nn (by omega) (by omega)]; omega), if_neg (show ¬ (1240 : Int32) ≤ nI i by rw [le_ln (by decide) (by omega)]; omega), mx_n (by omega), nI_add, nI_add]
      have ib : (inb (nI i) 1240 = true) := by rw [inb_nI (by omega) (by omega)]; trivial
      rw [if_pos ib, cl_nI (by omega), s0, h0 i (by omega), h10, l10, lN_mul, e_addW fu _ _ (by omega), Option.bind_some, if_pos ib]
      rw [show (oLA s 1 (vp_updL (s.2 1) ((i - 1) + r) (s.2 1 ((i - 1) + r) + lN (w i * (10 - od))))).2 1 = vp_updL (s.2 1) ((i - 1) + r) (s.2 1 ((i - 1) + r) + lN (w i * (10 - od))) from rfl, show (oLA s 1 (vp_updL (s.2 1) ((i - 1) + r) (s.2 1 ((i - 1) + r) + lN (w i * (10 - od))))).2 0 = s.2 0 from rfl, s0, h0 i (by omega), lod, lN_mul, e_addW fu _ _ (by omega), Option.bind_some, add_nl]
    · show vp_updL (vp_updL (s.2 1) ((i - 1) + r) (s.2 1 ((i - 1) + r) + lN (w i * (10 - od)))) ((i - 1) + r + sw) (vp_updL (s.2 1) ((i - 1) + r) (s.2 1 ((i - 1) + r) + lN (w i * (10 - od))) ((i - 1) + r + sw) + lN (w i * od)) j = _
      rw [up2_n (s.2 1) (acc w r od sw i) _ _ _ _ j (sj j hj), acc]
/-- what the class needs to know of rains -/
def CX (z : Nat → Ob) (l od sw : Nat) (g : Nat → Nat) : Prop := (z 10).1 1 0 = nI (l + g 0) ∧ (∀ k, k < 61 → (z 10).1 0 k = nI (g k)) ∧ (z 5).1 2 0 = nI od ∧ (z 5).1 3 0 = nI sw
/-- the numbers told are in bounds -/
def CB (l od sw : Nat) (g : Nat → Nat) : Prop := l ≤ 60 ∧ od ≤ 10 ∧ sw ≤ 9 ∧ sm g 61 ≤ 1050
theorem CB.r {l od sw : Nat} {g : Nat → Nat} (h : CB l od sw g) {k : Nat} (hk : k < 61) : g k ≤ 1050 := by
  have h1 := sm_mono g (a := k + 1) 61 (by omega)
  rw [sm] at h1
  have := h.2.2.2
  omega
theorem CB.t {l od sw : Nat} {g : Nat → Nat} (h : CB l od sw g) {n : Nat} (hn : n ≤ 14) : Tq l sw g n ≤ 1236 := Tq_b h.1 h.2.2.1 h.2.2.2 hn
/-- weights of step n -/
def CWn (c : Ob) (l od sw : Nat) (g : Nat → Nat) (n : Nat) : Prop := CWv c (Tq l sw g n) (wq l od sw g n) (10 ^ n)
theorem e_wNext (fu : Nat) (hf : 2000 ≤ fu) (z : Nat → Ob) {l od sw : Nat} {g : Nat → Nat} (hX : CX z l od sw g) (hB : CB l od sw g) {i : Nat} (hi : i ≤ 14) (hw : ∀ q, i = q + 1 → CWn (z 19) l od sw g q) : ∃ d, p_X9_weighNext fu z (nI i) = some (va_up z 19 d) ∧ CWn d l od sw g i := by
  obtain ⟨x1, x2, x3, x4⟩ := hX
  have ht := hB.t hi
  unfold p_X9_weighNext
  by_cases h0 : i = 0
  · subst h0
    rw [if_pos (show nI 0 = 0 from rfl)]
    have e0 : p_X8_levelAt fu (z 10) (0 : Int32) = some (nI (l + g 0)) := by
      rw [← x1]
      exact e_levelAt fu (z 10) (k := 0) (by omega)
    rw [e0, Option.bind_some]
    rw [Tq] at ht
    obtain ⟨d, ed, d4, dw⟩ := e_begin fu hf (z 19) (T := l + g 0) (by omega)
    rw [ed, Option.bind_some, if_pos (by rw [d4])]
    exact ⟨d, rfl, dw⟩
  · obtain ⟨q, rfl⟩ : ∃ q, i = q + 1 := ⟨i - 1, by omega⟩
    have hw := hw q rfl
    have hr := hB.r (k := q + 1) (by omega)
    have hq := hB.t (n := q) (by omega)
    have hsw := hB.2.2.1
    rw [Tq] at ht
    rw [if_neg (show ¬ nI (q + 1) = 0 by rw [eq_nl (by omega) (by decide)]; omega), e_rainAt fu _ (by omega), Option.bind_some, x2 _ (by omega), x3, x4]
    obtain ⟨d, ed, d4, dw⟩ := e_advance fu hf (z 19) (r := g (q + 1)) (od := od) (sw := sw) hw (by omega) (by omega) hB.2.1 (by omega) (by omega)
    rw [ed, Option.bind_some, if_pos d4]
    exact ⟨d, rfl, dw⟩
theorem up19 {x : Nat → Ob} (v : Ob) : va_up x 19 v 19 = v := rfl
theorem CX.kp {x y : Nat → Ob} {l od sw : Nat} {g : Nat → Nat} (h : CX x l od sw g) (k : KQ x y) : CX y l od sw g := by
  unfold CX at *
  rw [k.1 10 (by decide), k.1 5 (by decide)]
  exact h
theorem e_wTo (fu : Nat) (hf : 2000 ≤ fu) (x : Nat → Ob) {l od sw : Nat} {g : Nat → Nat} (hX : CX x l od sw g) (hB : CB l od sw g) {n : Nat} (hn : n ≤ 14) : ∃ y, p_X9_weighTo fu x (nI n) = some y ∧ KQ x y ∧ CWn (y 19) l od sw g n := by
  unfold p_X9_weighTo
  refine loop_inv (fun m i z => p_X9_weighTo_L2 fu m z (nI n) (nI i)) (n + 1) (fun i (z : Nat → Ob) => KQ x z ∧ ∀ q, i = q + 1 → CWn (z 19) l od sw g q) (fun y => KQ x y ∧ CWn (y 19) l od sw g n) ?_ ?_ fu 0 x (Nat.zero_le _) (by omega) ⟨KQ.rf, fun q hq => by omega⟩
  · rintro m z ⟨k, hz⟩
    refine ⟨z, ?_, k, hz n rfl⟩
    show p_X9_weighTo_L2 fu (m + 1) z (nI n) (nI (n + 1)) = _
    rw [p_X9_weighTo_L2, if_pos (show nI n < nI (n + 1) by rw [lt_nn (by omega) (by omega)]; omega)]
  · rintro m i z hi ⟨k, hz⟩
    right
    obtain ⟨d, ed, dw⟩ := e_wNext fu hf z (hX.kp k) hB (i := i) (by omega) hz
    refine ⟨va_up z 19 d, ?_, k.up (by decide) d, fun q hq => ?_⟩
    · show p_X9_weighTo_L2 fu (m + 1) z (nI n) (nI i) = p_X9_weighTo_L2 fu m _ (nI n) (nI (i + 1))
      rw [p_X9_weighTo_L2, if_neg (show ¬ nI n < nI i by rw [lt_nn (by omega) (by omega)]; omega), ed, Option.bind_some, add_nl]
    · rw [show q = i by omega]
      exact dw
theorem e_wBelow (fu : Nat) (hf : 2000 ≤ fu) (c : Ob) {T P : Nat} {w : Nat → Nat} (h : CWv c T w P) (hT : T < 1240) (hz : ∀ k, T < k → w k = 0) {n : Nat} (hn : n < 1000) : p_X0_weightBelow fu c (nI n) = some (lN (sm w n)) := by
  obtain ⟨h2, h0, h3⟩ := h
  obtain ⟨b, hb⟩ : ∃ b, b = if n ≤ T + 1 then n else T + 1 := ⟨_, rfl⟩
  have hbn : b ≤ n ∧ b ≤ T + 1 := by rw [hb]; split <;> omega
  unfold p_X0_weightBelow
  obtain ⟨r, er, rfl⟩ := loop_inv (fun m i s => p_X0_weightBelow_L5 fu c m (nI n) s (nI i)) b (fun i (s : Int64) => s = lN (sm w i)) (fun r => r = lN (sm w n)) (by
    rintro m s rfl
    refine ⟨lN (sm w b), ?_, ?_⟩
    · show p_X0_weightBelow_L5 fu c (m + 1) (nI n) _ (nI b) = _
      rw [p_X0_weightBelow_L5]
      by_cases g : n ≤ T + 1
      · rw [if_pos (show nI n ≤ nI b by rw [le_nn (by omega) (by omega), hb, if_pos g]; exact Nat.le_refl _)]
      · have e : b = T + 1 := by rw [hb, if_neg g]
        rw [if_neg (show ¬ nI n ≤ nI b by rw [le_nn (by omega) (by omega)]; omega), h2, if_pos (show nI T < nI b by rw [lt_nn (by omega) (by omega)]; omega)]
    · by_cases g : n ≤ T + 1
      · rw [hb, if_pos g]
      · rw [hb, if_neg g, sm_flat w (a := T + 1) n (by omega) (fun k h1 _ => hz k (by omega))]) (by
    rintro m i s hi rfl
    right
    refine ⟨lN (sm w (i + 1)), ?_, rfl⟩
    show p_X0_weightBelow_L5 fu c (m + 1) (nI n) _ (nI i) = p_X0_weightBelow_L5 fu c m (nI n) _ (nI (i + 1))
    have ib : (inb (nI i) 1240 = true) := by rw [inb_nI (by omega) (by omega)]; trivial
    rw [p_X0_weightBelow_L5, if_neg (show ¬ nI n ≤ nI i by rw [le_nn (by omega) (by omega)]; omega), h2, if_neg (show ¬ nI T < nI i by rw [lt_nn (by omega) (by omega)]; omega), if_neg (show ¬ (1240 : Int32) ≤ nI i by rw [le_ln (by decide) (by omega)]; omega), if_pos ib, cl_nI (by omega), h0 i (by omega), lN_add, add_nl, sm]) fu 0 0 (Nat.zero_le _) (by omega) rfl
  exact er
theorem e_wSum (fu : Nat) (hf : 2000 ≤ fu) (c : Ob) {T P : Nat} {w : Nat → Nat} (h : CWv c T w P) (hT : T < 1240) : p_X0_weightedSum fu c = some (lN (sm (fun k => k * w k) (T + 1))) := by
  obtain ⟨h2, h0, h3⟩ := h
  unfold p_X0_weightedSum
  obtain ⟨r, er, rfl⟩ := loop_inv (fun m i s => p_X0_weightedSum_L4 fu c m s (nI i)) (T + 1) (fun i (s : Int64) => s = lN (sm (fun k => k * w k) i)) (fun r => r = lN (sm (fun k => k * w k) (T + 1))) (by
    rintro m s rfl
    refine ⟨_, ?_, rfl⟩
    show p_X0_weightedSum_L4 fu c (m + 1) _ (nI (T + 1)) = _
    rw [p_X0_weightedSum_L4, h2, if_pos (show nI T < nI (T + 1) by rw [lt_nn (by omega) (by omega)]; omega)]) (by
    rintro m i s hi rfl
    right
    refine ⟨lN (sm (fun k => k * w k) (i + 1)), ?_, rfl⟩
    show p_X0_weightedSum_L4 fu c (m + 1) _ (nI i) = p_X0_weightedSum_L4 fu c m _ (nI (i + 1))
    have ib : (inb (nI i) 1240 = true) := by rw [inb_nI (by omega) (by omega)]; trivial
    have li : (nI i).toInt64 = lN i := nI_l (by omega)
    rw [p_X0_weightedSum_L4, h2, if_neg (show ¬ nI T < nI i by rw [lt_nn (by omega) (by omega)]; omega), if_neg (show ¬ (1240 : Int32) ≤ nI i by rw [le_ln (by decide) (by omega)]; omega), if_pos ib, cl_nI (by omega), h0 i (by omega), li, lN_mul, lN_add, add_nl, sm]) fu 0 0 (Nat.zero_le _) (by omega) rfl
  exact er
