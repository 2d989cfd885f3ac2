/-! the pairs, one after another -/
abbrev PT : Type := Nat × (Nat → Nat × Nat)
def srI (q : Nat → Nat → Bool) (r s : Nat) (t : PT) : PT := if q r s = true then (t.1 + 1, fun i => if i = t.1 then (r, s) else t.2 i) else t
def srO (q : Nat → Nat → Bool) (r : Nat) (t : PT) : PT := it (srI q r) t 61
def srA (q : Nat → Nat → Bool) (R : Nat) : PT := it (srO q) (0, fun _ => (0, 0)) R
def pOk (R b : Nat) (t : PT) : Prop := t.1 ≤ b ∧ ∀ i, i < t.1 → (t.2 i).1 < R ∧ (t.2 i).2 < 61
theorem srI_ok {q : Nat → Nat → Bool} {r s R b : Nat} {t : PT} (h : pOk R b t) (hr : r < R) (hs : s < 61) : pOk R (b + 1) (srI q r s t) := by
  unfold srI
  split
  · refine ⟨Nat.succ_le_succ h.1, fun i hi => ?_⟩
    have hi : i < t.1 + 1 := hi
    show (if i = t.1 then (r, s) else t.2 i).1 < R ∧ (if i = t.1 then (r, s) else t.2 i).2 < 61
    by_cases g : i = t.1
    · rw [if_pos g]; exact ⟨hr, hs⟩
    · rw [if_neg g]; exact h.2 i (by omega)
  · exact ⟨by have := h.1; omega, h.2⟩
theorem srI_it {q : Nat → Nat → Bool} {r R b : Nat} {t : PT} (h : pOk R b t) (hr : r < R) : ∀ s, s ≤ 61 → pOk R (b + s) (it (srI q r) t s) := by
  intro s
  induction s with
  | zero => intro _; exact h
  | succ s ih => intro hs; exact srI_ok (ih (by omega)) hr (by omega)
theorem srI_stop {q : Nat → Nat → Bool} {r E : Nat} {t : PT} (h : ∀ s, E < s → s < 61 → q r s = false) : ∀ d, E + 1 + d ≤ 61 → it (srI q r) t (E + 1 + d) = it (srI q r) t (E + 1) := by
  intro d
  induction d with
  | zero => intro _; rfl
  | succ d ih =>
    intro hd
    show srI q r (E + 1 + d) (it (srI q r) t (E + 1 + d)) = _
    rw [ih (by omega), srI, h _ (by omega) (by omega), if_neg (by decide)]
theorem srO_E {q : Nat → Nat → Bool} {r E : Nat} {t : PT} (hE : E ≤ 60) (h : ∀ s, E < s → s < 61 → q r s = false) : srO q r t = it (srI q r) t (E + 1) := by
  have := srI_stop (q := q) (r := r) (t := t) h (60 - E) (by omega)
  rw [show E + 1 + (60 - E) = 61 by omega] at this
  exact this
/-- what the class has of them -/
def CI (P : PP) (F : Ob) (t : PT) : Prop := F.1 0 0 = nI t.1 ∧ F.1 1 0 = it (fun i u => u ||| b1 (t.2 i).1) 0 t.1 ∧ F.1 2 0 = (if t.1 = 0 then -1 else 100 * nI (t.2 0).1 + nI (t.2 0).2) ∧
  ∀ q v, q < 61 → v < 12 → F.1 3 (12 * q + v) = it (fun i u => if wc P (t.2 i).1 (t.2 i).2 q = nI v + (-2) then u + 1 else u) 0 t.1
/-- what the reference has of them -/
def RI (P : PP) (o : Ob) (t : PT) : Prop := o.1 32 0 = nI t.1 ∧ (∀ i, i < t.1 → o.1 30 i = 100 * nI (t.2 i).1 + nI (t.2 i).2) ∧ ∀ i q, i < t.1 → q < 61 → o.1 31 (61 * i + q) = wh P (t.2 i).1 (t.2 i).2 q
theorem CI.step {P : PP} {F G : Ob} {t : PT} {r s : Nat} {q : Nat → Nat → Bool} (h : CI P F t) (hq : q r s = true) (hc : t.1 < 1000) (g0 : G.1 0 0 = F.1 0 0 + 1) (g1 : G.1 1 0 = F.1 1 0 ||| b1 r) (g2 : G.1 2 0 = if F.1 0 0 = 0 then 100 * nI r + nI s else F.1 2 0)
    (g3 : ∀ q v, q < 61 → v < 12 → G.1 3 (12 * q + v) = if wc P r s q = nI v + (-2) then F.1 3 (12 * q + v) + 1 else F.1 3 (12 * q + v)) : CI P G (srI q r s t) := by
  obtain ⟨h0, h1, h2, h3⟩ := h
  rw [srI, if_pos hq]
  have e0 : (F.1 0 0 = 0) = (t.1 = 0) := by
    rw [h0]
    simp (disch := omega) only [eq_nl]
  refine ⟨?_, ?_, ?_, fun q v hq hv => ?_⟩
  · rw [g0, h0]; exact nI_add t.1 1
  · rw [g1, h1]
    show _ = (it (fun i u => u ||| b1 (if i = t.1 then (r, s) else t.2 i).1) 0 t.1) ||| b1 (if t.1 = t.1 then (r, s) else t.2 t.1).1
    rw [if_pos rfl, it_cg (f := fun i u => u ||| b1 (if i = t.1 then (r, s) else t.2 i).1) (g := fun i u => u ||| b1 (t.2 i).1) t.1 (fun j hj u => by show u ||| b1 (if j = t.1 then (r, s) else t.2 j).1 = _; rw [if_neg (by omega)])]
  · rw [g2, h2]
    show _ = if t.1 + 1 = 0 then -1 else 100 * nI (if 0 = t.1 then (r, s) else t.2 0).1 + nI (if 0 = t.1 then (r, s) else t.2 0).2
    rw [if_neg (show ¬ t.1 + 1 = 0 by omega)]
    simp only [e0]
    by_cases c : t.1 = 0
    · rw [if_pos c, if_pos c.symm]
    · rw [if_neg c, if_neg c, if_neg (fun z => c z.symm)]
  · rw [g3 q v hq hv, h3 q v hq hv]
    show _ = (fun i u => if wc P (if i = t.1 then (r, s) else t.2 i).1 (if i = t.1 then (r, s) else t.2 i).2 q = nI v + (-2) then u + 1 else u) t.1 (it (fun i u => if wc P (if i = t.1 then (r, s) else t.2 i).1 (if i = t.1 then (r, s) else t.2 i).2 q = nI v + (-2) then u + 1 else u) 0 t.1)
    rw [it_cg (f := fun i u => if wc P (if i = t.1 then (r, s) else t.2 i).1 (if i = t.1 then (r, s) else t.2 i).2 q = nI v + (-2) then u + 1 else u) (g := fun i u => if wc P (t.2 i).1 (t.2 i).2 q = nI v + (-2) then u + 1 else u) t.1 (fun j hj u => by
      show (if wc P (if j = t.1 then (r, s) else t.2 j).1 (if j = t.1 then (r, s) else t.2 j).2 q = nI v + (-2) then u + 1 else u) = _
      rw [if_neg (show ¬ j = t.1 by omega)])]
    show _ = if wc P (if t.1 = t.1 then (r, s) else t.2 t.1).1 (if t.1 = t.1 then (r, s) else t.2 t.1).2 q = nI v + (-2) then _ else _
    rw [if_pos rfl]
theorem e_search (fu : Nat) (hf : 2000 ≤ fu) {x : Nat → Ob} {o : Ob} (h : Rel x o) {k m : Nat} (T : RT x o k m) (eA : ∀ y, p_X9_rowOf fu y (nI k) = some (some k)) :
    ∃ y, p_X9_search fu x (nI k) = some y ∧ KQ x y ∧ CI (PW (o.1 1)) (y 18) (srA (fun r s => snF (fun q => o.2 40 (60 * k + q)) (wh (PW (o.1 1)) r s) 0 m) (nR (o.1 1))) := by
  obtain ⟨hk, hm, T1, T2, T3, T4⟩ := T
  have hR := h.w.2.1.1
  obtain ⟨N, eN⟩ : ∃ N : Nat → Int64, N = fun q => o.2 40 (60 * k + q) := ⟨_, rfl⟩
  rw [← eN] at T4 ⊢
  have T3 : ∀ i, i < 60 → (x (14 + k)).2 3 i = N i := fun i hi => by rw [T3 i hi, eN]
  obtain ⟨sn, esn⟩ : ∃ sn : Nat → Nat → Bool, sn = fun r s => snF N (wh (PW (o.1 1)) r s) 0 m := ⟨_, rfl⟩
  rw [← esn]
  unfold p_X9_search
  obtain ⟨c, ec, c0, c1, c2, c3⟩ := e_clear fu hf (x 18)
  have k1 : KQ x (va_up x 18 c) := KQ.rf.up (by decide) c
  have v14 : (va_up x 18 c) (14 + k) = x (14 + k) := by rw [up_v, if_neg (by omega)]
  rw [ec, Option.bind_some, eA, Option.bind_some]
  show ∃ y, (if k < 4 then _ else none) = some y ∧ _
  obtain ⟨E, hE, eE, gE⟩ := e_earliest fu hm T1 T3 m 0 fu 60 (by omega) (by omega) T4 (by omega)
  have eE' : p_X3_earliestStep fu (x (14 + k)) = some (nI E) := eE
  rw [if_pos hk, v14, eE', Option.bind_some]
  have late : ∀ r s, E < s → s < 61 → sn r s = false := by
    intro r s h1 h2
    rcases gE with rfl | ⟨q, q1, q2, q3⟩
    · omega
    · rw [esn]; exact sn_late (n := 0) T4 hR (by omega) q3 hE h1
  obtain ⟨y, ey, ky, cy⟩ := loop_inv (fun n i z => p_X9_search_L30 fu n z k (nI E) (nI i)) (nR (o.1 1)) (fun i z => KQ x z ∧ CI (PW (o.1 1)) (z 18) (it (srO sn) (0, fun _ => (0, 0)) i) ∧ pOk (nR (o.1 1)) (61 * i) (it (srO sn) (0, fun _ => (0, 0)) i)) (fun y => KQ x y ∧ CI (PW (o.1 1)) (y 18) (srA sn (nR (o.1 1)))) (by
    rintro n z ⟨h1, h2, -⟩
    refine ⟨z, ?_, h1, h2⟩
    show p_X9_search_L30 fu (n + 1) z k (nI E) (nI (nR (o.1 1))) = _
    rw [p_X9_search_L30, kq5 h h1]
    simp (disch := omega) only [inb_nI, inb_lit, cl_nI, cl_lit, nI_add, add_nl, add_ln, mul_ln, pk_mul, le_nn, lt_nn, eq_nn, le_nl, lt_nl, eq_nl, le_ln, lt_ln, eq_ln, eq_ll, lt_ll, le_ll, eq_nm1, eq_nm2, eq_nm3, eq_nm4, Option.bind_some, ↓reduceIte, if_true, if_false, Nat.reduceEqDiff, Nat.reduceAdd, Nat.reduceMul, Nat.reduceLT, Nat.reduceLeDiff, Nat.le_refl]) (by
    rintro n r z hr ⟨h1, h2, h3⟩
    right
    show ∃ s', p_X9_search_L30 fu (n + 1) z k (nI E) (nI r) = p_X9_search_L30 fu n s' k (nI E) (nI (r + 1)) ∧ _
    rw [p_X9_search_L30, kq5 h h1]
    simp (disch := omega) only [inb_nI, inb_lit, cl_nI, cl_lit, nI_add, add_nl, add_ln, mul_ln, pk_mul, le_nn, lt_nn, eq_nn, le_nl, lt_nl, eq_nl, le_ln, lt_ln, eq_ln, eq_ll, lt_ll, le_ll, eq_nm1, eq_nm2, eq_nm3, eq_nm4, Option.bind_some, ↓reduceIte, if_true, if_false, Nat.reduceEqDiff, Nat.reduceAdd, Nat.reduceMul, Nat.reduceLT, Nat.reduceLeDiff, show ¬ nR (o.1 1) ≤ r by omega]
    obtain ⟨t, et⟩ : ∃ t, t = it (srO sn) (0, fun _ => (0, 0)) r := ⟨_, rfl⟩
    rw [← et] at h2 h3
    obtain ⟨s', g1, g2, g3⟩ := loop_to (fun p s z => p_X9_search_L45 fu (fun xz j_9 v3 v4 => p_X9_search_L30 fu n xz j_9 v3 (v4 + 1)) p z k (nI E) (nI r) (nI s)) (E + 1) (fun s z => KQ x z ∧ CI (PW (o.1 1)) (z 18) (it (srI sn r) t s)) (fun z => p_X9_search_L30 fu n z k (nI E) (nI (r + 1))) (by
      rintro p z -
      show p_X9_search_L45 fu _ (p + 1) z k (nI E) (nI r) (nI (E + 1)) = _
      rw [p_X9_search_L45]
      simp (disch := omega) only [inb_nI, inb_lit, cl_nI, cl_lit, nI_add, add_nl, add_ln, mul_ln, pk_mul, le_nn, lt_nn, eq_nn, le_nl, lt_nl, eq_nl, le_ln, lt_ln, eq_ln, eq_ll, lt_ll, le_ll, eq_nm1, eq_nm2, eq_nm3, eq_nm4, Option.bind_some, ↓reduceIte, if_true, if_false, Nat.reduceEqDiff, Nat.reduceAdd, Nat.reduceMul, Nat.reduceLT, Nat.reduceLeDiff, Nat.lt_succ_self]) (by
      rintro p s z hs ⟨h1, h2⟩
      have h1 : KQ x z := h1
      obtain ⟨y, ey, dy⟩ := e_dr fu hf h h1 (z 12) hr (show s < 61 by omega)
      have z14 : z (14 + k) = x (14 + k) := h1.1 (14 + k) (by simp; omega)
      have ws : p_X5_wasSeen fu y (x (14 + k)) = _ := e_wasSeen fu (PW (o.1 1)) dy hm hR T1 T3 m 0 fu (by omega) (by omega) T4
      have es1 : nI s + 1 = nI (s + 1) := nI_add s 1
      show ∃ s', p_X9_search_L45 fu _ (p + 1) z k (nI E) (nI r) (nI s) = p_X9_search_L45 fu _ p s' k (nI E) (nI r) (nI (s + 1)) ∧ _
      rw [p_X9_search_L45]
      simp (disch := omega) only [lt_nn, show ¬ E < s by omega, if_false, ey, Option.bind_some, e_bit, e_add]
      have v12 : va_up z 12 y 12 = y := rfl
      have v14 : va_up z 12 y (14 + k) = x (14 + k) := by rw [up_v, if_neg (by omega), z14]
      have v18 : va_up z 12 y 18 = z 18 := rfl
      rw [v12, v14, v18, ws, Option.bind_some]
      have kk : KQ x (va_up z 12 y) := h1.up (by decide) y
      rw [it]
      have esn' : snF N (wh (PW (o.1 1)) r s) 0 m = sn r s := by rw [esn]
      rw [esn']
      by_cases g : sn r s = true
      · rw [if_pos g, if_neg (show ¬ (1 : Int32) = 0 by decide)]
        obtain ⟨A, eA⟩ : ∃ A, A = addO (z 18) (100 * nI r + nI s) := ⟨_, rfl⟩
        rw [← eA]
        obtain ⟨G, eG, FG, gG⟩ := e_note fu hf h.w.p rfl hr dy (oI A 1 (A.1 1 0 ||| b1 r))
        have w1 : va_up (va_up z 12 y) 18 A 18 = A := rfl
        have w2 : ∀ B, va_up (va_up (va_up z 12 y) 18 A) 18 B 18 = B := fun _ => rfl
        have w3 : ∀ B, va_up (va_up (va_up z 12 y) 18 A) 18 B 12 = y := fun _ => rfl
        rw [w1, w2, w3, eG, Option.bind_some, es1]
        refine ⟨_, rfl, ((kk.up (by decide) _).up (by decide) _).up (by decide) G, ?_⟩
        show CI (PW (o.1 1)) G _
        have hc := (srI_it (q := sn) h3 hr s (by omega)).1
        refine h2.step g (by omega) ?_ ?_ ?_ (fun q v hq hv => ?_)
        · rw [FG.f1 0 (by decide)]
          show A.1 0 0 = _
          rw [eA, addO_0]
        · rw [FG.f1 1 (by decide)]
          show A.1 1 0 ||| b1 r = _
          have : A.1 1 0 = (z 18).1 1 0 := by rw [eA]; unfold addO; split <;> rfl
          rw [this]
        · rw [FG.f1 2 (by decide)]
          show A.1 2 0 = _
          rw [eA, addO_2]
        · have a3 : A.1 3 = (z 18).1 3 := by rw [eA]; unfold addO; split <;> rfl
          have := gG q v hq hv
          have a3' : (oI A 1 (A.1 1 0 ||| b1 r)).1 3 = (z 18).1 3 := a3
          rw [a3'] at this
          exact this
      · rw [if_neg g, if_pos rfl, es1, srI, if_neg g]
        exact ⟨_, rfl, kk, h2⟩) fu 0 z (Nat.zero_le _) (by omega) ⟨h1, h2⟩
    refine ⟨s', g1, g2, ?_⟩
    rw [it, ← et, srO_E hE (late r)]
    refine ⟨g3, ?_⟩
    rw [← srO_E hE (late r)]
    have := srI_it (q := sn) h3 hr 61 (Nat.le_refl _)
    exact ⟨by have := this.1; show (it (srI sn r) t 61).1 ≤ _; omega, this.2⟩) fu 0 (va_up x 18 c) (Nat.zero_le _) (by omega) ⟨k1, ⟨c0, c1, c2, fun q v hq hv => c3 _ (by omega)⟩, ⟨Nat.le_refl 0, fun i hi => absurd hi (Nat.not_lt_zero _)⟩⟩
  exact ⟨y, ey, ky, cy⟩
