/-! ===== one stick: where, sea, comes, way, leaves, waits, jumps, finds, used, again ===== -/
theorem ffr_skip {p : Nat → Bool} : ∀ (k i d : Nat), (∀ j, i ≤ j → j < i + d → p j = false) → ffr p i (d + k) = ffr p (i + d) k
  | k, i, 0, _ => by rw [Nat.zero_add, Nat.add_zero]
  | k, i, d + 1, h => by
    rw [show d + 1 + k = (d + k) + 1 by omega, ffr, h i (Nat.le_refl _) (by omega), if_neg (by decide), ffr_skip k (i + 1) d (fun j h1 h2 => h j (by omega) (by omega)), show i + 1 + d = i + (d + 1) by omega]
theorem ffr_no {p : Nat → Bool} : ∀ (k i : Nat), (∀ j, i ≤ j → j < i + k → p j = false) → ffr p i k = -1
  | 0, _, _ => rfl
  | k + 1, i, h => by rw [ffr, h i (Nat.le_refl _) (by omega), if_neg (by decide), ffr_no k (i + 1) (fun j h1 h2 => h j (by omega) (by omega))]
theorem ffr_at {p : Nat → Bool} {k i j : Nat} (h1 : i ≤ j) (h2 : j < i + k) (h3 : p j = true) (h4 : ∀ q, i ≤ q → q < j → p q = false) : ffr p i k = nI j := by
  rw [show k = (j - i) + (k - (j - i) - 1 + 1) by omega, ffr_skip _ i (j - i) (fun q g1 g2 => h4 q g1 (by omega)), show i + (j - i) = j by omega, ffr, if_pos h3]
/-- the first step at which it is at v -/
def coF (P : PP) (r s : Nat) (v : Int32) : Int32 := ffr (fun n => decide ((pth P r s (n - s)).1 = v)) s (61 - s)
theorem e_putIn (fu : Nat) (hf : 2000 ≤ fu) {x : Nat → Ob} {o : Ob} (h : Rel x o) (v1 v2 : Int32) :
    (p_X9_putIn fu x v1 v2 = some (0, x) ∧ ∃ t, p_X10_putsIn fu o v1 v2 = some (0, t) ∧ FR tF o t) ∨
    (∃ r s y t, r < nR (o.1 1) ∧ s < 61 ∧ v1 = nI r ∧ v2 = nI s ∧ p_X9_putIn fu x v1 v2 = some (1, va_up x 12 y) ∧ DSt (PW (o.1 1)) r s y ∧ p_X10_putsIn fu o v1 v2 = some (1, t) ∧ FR tF o t ∧ GP (PW (o.1 1)) t ∧ GSt (PW (o.1 1)) r s t) := by
  have hR := h.w.2.1.1
  unfold p_X9_putIn p_X10_putsIn
  obtain ⟨s1, e, a⟩ := e_asksReach fu hf o h.w v1
  rw [e_cReach fu h, Option.bind_some, e, Option.bind_some]
  rcases ixq_of v1 (n := nR (o.1 1)) (by omega) with ⟨e1, -⟩ | ⟨e1, r, hr, rfl⟩
  · simp only [e1, Option.bind_some, ↓reduceIte, if_true, if_false, Nat.reduceEqDiff, Nat.reduceAdd, Nat.reduceMul, Nat.reduceLT, Nat.reduceLeDiff]
    exact Or.inl ⟨trivial, s1, rfl, a.tf⟩
  · simp (disch := omega) only [e1, Option.bind_some, ↓reduceIte, if_true, if_false, Nat.reduceEqDiff, Nat.reduceAdd, Nat.reduceMul, Nat.reduceLT, Nat.reduceLeDiff, inb_nI, inb_lit, cl_nI, cl_lit, nI_add, add_nl, add_ln, mul_ln, pk_mul, le_nn, lt_nn, eq_nn, le_nl, lt_nl, eq_nl, le_ln, lt_ln, eq_ln, eq_ll, lt_ll, le_ll, eq_nm1, eq_nm2, eq_nm3, eq_nm4, e_cStep, e_rStep]
    rcases ixq_of v2 (n := 61) (by omega) with ⟨e2, -⟩ | ⟨e2, s, hs, rfl⟩
    · simp only [e2, Option.bind_some, ↓reduceIte, if_true, if_false, Nat.reduceEqDiff, Nat.reduceAdd, Nat.reduceMul, Nat.reduceLT, Nat.reduceLeDiff]
      exact Or.inl ⟨trivial, s1, rfl, a.tf⟩
    · simp (disch := omega) only [e2, Option.bind_some, ↓reduceIte, if_true, if_false, Nat.reduceEqDiff, Nat.reduceAdd, Nat.reduceMul, Nat.reduceLT, Nat.reduceLeDiff, inb_nI, inb_lit, cl_nI, cl_lit, nI_add, add_nl, add_ln, mul_ln, pk_mul, le_nn, lt_nn, eq_nn, le_nl, lt_nl, eq_nl, le_ln, lt_ln, eq_ln, eq_ll, lt_ll, le_ll, eq_nm1, eq_nm2, eq_nm3, eq_nm4]
      obtain ⟨y, ey, dy⟩ := e_drift fu hf (PW (o.1 1)) h.w.p hr hs (x 12) (x 5) (x 10) h.dp
      obtain ⟨t, et, ft, gt⟩ := e_goStick fu hf (PW (o.1 1)) h.w.p hr hs s1 a.gp
      rw [ey, et, Option.bind_some, Option.bind_some]
      exact Or.inr ⟨r, s, y, t, hr, hs, rfl, rfl, rfl, dy, rfl, a.tf.tr (ft.mono (by decide)), a.gp.kp ft (by decide) (by decide) (by decide) (by decide) (by decide) (by decide), gt⟩
theorem loop_ffa {R : Type} (L : Nat → Nat → Option R) (p : Nat → Bool) (a b : Nat) (g : Int32 → R)
    (hend : ∀ n, L (n + 1) b = some (g (-1))) (hstep : ∀ n i, a ≤ i → i < b → L (n + 1) i = if p i = true then some (g (nI i)) else L n (i + 1)) :
    ∀ n i, a ≤ i → i ≤ b → b - i < n → L n i = some (g (ffr p i (b - i))) := by
  intro n
  induction n with
  | zero => intro i _ _ h; omega
  | succ n ih =>
    intro i ha hi hn
    by_cases hb : i = b
    · subst hb
      rw [hend n, Nat.sub_self]
      rfl
    · rw [hstep n i ha (by omega)]
      have e : b - i = (b - (i + 1)) + 1 := by omega
      rw [e, ffr]
      by_cases hp : p i = true
      · rw [if_pos hp, if_pos hp]
      · rw [if_neg hp, if_neg hp]
        exact ih (i + 1) (by omega) (by omega) (by omega)
theorem GSt.at {P : PP} {r s : Nat} {t : Ob} (g : GSt P r s t) {k : Nat} (h : s + k < 61) : t.1 22 (s + k) = (pth P r s k).1 := by
  rw [g.1 (s + k) h, wh, if_neg (by omega), Nat.add_sub_cancel_left]
theorem GSt.at2 {P : PP} {r s : Nat} {t : Ob} (g : GSt P r s t) {k : Nat} (h1 : s ≤ k) (h : k < 61) : t.1 22 k = (pth P r s (k - s)).1 := by
  rw [g.1 k h, wh, if_neg (by omega)]
theorem e_comesOf (fu : Nat) (hf : 2000 ≤ fu) (P : PP) {r s : Nat} (hs : s < 61) {t : Ob} (g : GSt P r s t) (v : Int32) : p_X10_comesOf fu t (nI s) v = some (coF P r s v) := by
  unfold p_X10_comesOf coF
  refine loop_ffa (fun m i => p_X10_comesOf_L2 fu t m v (nI i)) (fun n => decide ((pth P r s (n - s)).1 = v)) s 61 id ?_ ?_ fu s (Nat.le_refl _) (by omega) (by omega)
  · intro m
    show p_X10_comesOf_L2 fu t (m + 1) v (nI 61) = _
    rw [p_X10_comesOf_L2]
    simp (disch := omega) only [inb_nI, inb_lit, cl_nI, cl_lit, nI_add, add_nl, add_ln, mul_ln, pk_mul, le_nn, lt_nn, eq_nn, le_nl, lt_nl, eq_nl, le_ln, lt_ln, eq_ln, eq_ll, lt_ll, le_ll, eq_nm1, eq_nm2, eq_nm3, eq_nm4, Option.bind_some, ↓reduceIte, if_true, if_false, Nat.reduceEqDiff, Nat.reduceAdd, Nat.reduceMul, Nat.reduceLT, Nat.reduceLeDiff]
    rfl
  · intro m i h1 hi
    show p_X10_comesOf_L2 fu t (m + 1) v (nI i) = if _ then _ else p_X10_comesOf_L2 fu t m v (nI (i + 1))
    rw [p_X10_comesOf_L2]
    simp (disch := omega) only [inb_nI, inb_lit, cl_nI, cl_lit, nI_add, add_nl, add_ln, mul_ln, pk_mul, le_nn, lt_nn, eq_nn, le_nl, lt_nl, eq_nl, le_ln, lt_ln, eq_ln, eq_ll, lt_ll, le_ll, eq_nm1, eq_nm2, eq_nm3, eq_nm4, Option.bind_some, ↓reduceIte, if_true, if_false, Nat.reduceEqDiff, Nat.reduceAdd, Nat.reduceMul, Nat.reduceLT, Nat.reduceLeDiff, g.at2 h1 hi, if_neg (show ¬ 60 < i by omega), decide_eq_true_eq]
    rfl
theorem e_spotAt (fu : Nat) (y : Ob) {n : Nat} (h : n < 61) : p_X5_spotAt fu y (nI n) = some (y.1 0 n) := by
  unfold p_X5_spotAt
  simp (disch := omega) only [inb_nI, inb_lit, cl_nI, cl_lit, nI_add, add_nl, add_ln, mul_ln, pk_mul, le_nn, lt_nn, eq_nn, le_nl, lt_nl, eq_nl, le_ln, lt_ln, eq_ln, eq_ll, lt_ll, le_ll, eq_nm1, eq_nm2, eq_nm3, eq_nm4, Option.bind_some, ↓reduceIte, if_true, if_false, Nat.reduceEqDiff, Nat.reduceAdd, Nat.reduceMul, Nat.reduceLT, Nat.reduceLeDiff, e_pick, if_neg (show ¬ n < 0 by omega), if_neg (show ¬ 60 < n by omega)]
theorem e_firstIn (fu : Nat) (hf : 2000 ≤ fu) (P : PP) {r s : Nat} (hs : s < 61) {y : Ob} (d : DSt P r s y) (v : Int32) (hv : v ≠ -2) : p_X5_firstIn fu y v = some (coF P r s v) := by
  unfold p_X5_firstIn coF
  refine (loop_ff (fun m i => p_X5_firstIn_L2 fu y m v (nI i)) (fun n => decide (wc P r s n = v)) 61 id ?_ ?_ fu 0 (Nat.zero_le _) (by omega)).trans ?_
  · intro m
    show p_X5_firstIn_L2 fu y (m + 1) v (nI 61) = _
    rw [p_X5_firstIn_L2]
    simp (disch := omega) only [inb_nI, inb_lit, cl_nI, cl_lit, nI_add, add_nl, add_ln, mul_ln, pk_mul, le_nn, lt_nn, eq_nn, le_nl, lt_nl, eq_nl, le_ln, lt_ln, eq_ln, eq_ll, lt_ll, le_ll, eq_nm1, eq_nm2, eq_nm3, eq_nm4, Option.bind_some, ↓reduceIte, if_true, if_false, Nat.reduceEqDiff, Nat.reduceAdd, Nat.reduceMul, Nat.reduceLT, Nat.reduceLeDiff]
    rfl
  · intro m i hi
    show p_X5_firstIn_L2 fu y (m + 1) v (nI i) = if _ then _ else p_X5_firstIn_L2 fu y m v (nI (i + 1))
    rw [p_X5_firstIn_L2]
    simp (disch := omega) only [inb_nI, inb_lit, cl_nI, cl_lit, nI_add, add_nl, add_ln, mul_ln, pk_mul, le_nn, lt_nn, eq_nn, le_nl, lt_nl, eq_nl, le_ln, lt_ln, eq_ln, eq_ll, lt_ll, le_ll, eq_nm1, eq_nm2, eq_nm3, eq_nm4, Option.bind_some, ↓reduceIte, if_true, if_false, Nat.reduceEqDiff, Nat.reduceAdd, Nat.reduceMul, Nat.reduceLT, Nat.reduceLeDiff, e_spotAt, d.1 i hi, if_neg (show ¬ 60 < i by omega), decide_eq_true_eq]
    rfl
  · show some (ffr _ 0 (61 - 0)) = _
    rw [show 61 - 0 = s + (61 - s) by omega, ffr_skip (61 - s) 0 s (fun j h1 h2 => decide_eq_false (by rw [wc, if_pos (by omega)]; exact fun e => hv e.symm)), Nat.zero_add]
    congr 1
    apply ffr_cg
    intro j h1 h2
    rw [wc, if_neg (by omega)]
theorem or_b1 {t : Int32} {q : Nat} (hq : q < 32) (h : bq t q = true) : t ||| b1 q = t := by
  apply bq_ext
  intro i hi
  rw [bq_or, bq_b1 q hq i hi]
  by_cases c : i = q
  · subst c; simp [h]
  · simp [c]
theorem KQ.s12 {x : Nat → Ob} (v : Ob) : KQ x (va_up x 12 v) := KQ.rf.up (by decide) v
theorem up12 {x : Nat → Ob} (v : Ob) : va_up x 12 v 12 = v := rfl
theorem s_sea (fu : Nat) (hf : 2000 ≤ fu) {x : Nat → Ob} {o : Ob} (h : Rel x o) (v1 v2 : Int32) : ∃ r y t, p_X9_sea fu x v1 v2 = some (r, y) ∧ p_X10_sea fu o v1 v2 = some (r, t) ∧ Rel y t := by
  unfold p_X9_sea p_X10_sea
  rcases e_putIn fu hf h v1 v2 with ⟨e1, t, e2, F⟩ | ⟨r, s, y, t, hr, hs, rfl, rfl, e1, d, e2, F, G, g⟩
  · simp only [e1, e2, Option.bind_some, ↓reduceIte, if_true, if_false, Nat.reduceEqDiff, Nat.reduceAdd, Nat.reduceMul, Nat.reduceLT, Nat.reduceLeDiff]
    exact ⟨_, _, _, rfl, rfl, h.kp KQ.rf F⟩
  · simp (disch := omega) only [e1, e2, Option.bind_some, ↓reduceIte, if_true, if_false, Nat.reduceEqDiff, Nat.reduceAdd, Nat.reduceMul, Nat.reduceLT, Nat.reduceLeDiff, inb_nI, inb_lit, cl_nI, cl_lit, nI_add, add_nl, add_ln, mul_ln, pk_mul, le_nn, lt_nn, eq_nn, le_nl, lt_nl, eq_nl, le_ln, lt_ln, eq_ln, eq_ll, lt_ll, le_ll, eq_nm1, eq_nm2, eq_nm3, eq_nm4, e_comesOf fu hf _ hs g, up12, d.2.2.2.2.1]
    exact ⟨_, _, _, rfl, rfl, h.kp (KQ.s12 y) F⟩
theorem s_comes (fu : Nat) (hf : 2000 ≤ fu) {x : Nat → Ob} {o : Ob} (h : Rel x o) (v1 v2 v3 : Int32) : ∃ r y t, p_X9_comes fu x v1 v2 v3 = some (r, y) ∧ p_X10_comes fu o v1 v2 v3 = some (r, t) ∧ Rel y t := by
  have hR := h.w.2.1.1
  unfold p_X9_comes p_X10_comes
  rw [e_cReach fu h, e_isReach fu o _ h.w, Option.bind_some, Option.bind_some]
  rcases ixq_of v3 (n := nR (o.1 1)) (by omega) with ⟨e3, -⟩ | ⟨e3, q, hq, rfl⟩
  · simp only [e3, Option.bind_some, ↓reduceIte, if_true, if_false, Nat.reduceEqDiff, Nat.reduceAdd, Nat.reduceMul, Nat.reduceLT, Nat.reduceLeDiff]
    exact ⟨_, _, _, rfl, rfl, h⟩
  · simp (disch := omega) only [e3, inb_nI, inb_lit, cl_nI, cl_lit, nI_add, add_nl, add_ln, mul_ln, pk_mul, le_nn, lt_nn, eq_nn, le_nl, lt_nl, eq_nl, le_ln, lt_ln, eq_ln, eq_ll, lt_ll, le_ll, eq_nm1, eq_nm2, eq_nm3, eq_nm4, Option.bind_some, ↓reduceIte, if_true, if_false, Nat.reduceEqDiff, Nat.reduceAdd, Nat.reduceMul, Nat.reduceLT, Nat.reduceLeDiff]
    rcases e_putIn fu hf h v1 v2 with ⟨e1, t, e2, F⟩ | ⟨r, s, y, t, hr, hs, rfl, rfl, e1, d, e2, F, G, g⟩
    · simp only [e1, e2, Option.bind_some, ↓reduceIte, if_true, if_false, Nat.reduceEqDiff, Nat.reduceAdd, Nat.reduceMul, Nat.reduceLT, Nat.reduceLeDiff]
      exact ⟨_, _, _, rfl, rfl, h.kp KQ.rf F⟩
    · simp (disch := omega) only [e1, e2, Option.bind_some, ↓reduceIte, if_true, if_false, Nat.reduceEqDiff, Nat.reduceAdd, Nat.reduceMul, Nat.reduceLT, Nat.reduceLeDiff, inb_nI, inb_lit, cl_nI, cl_lit, nI_add, add_nl, add_ln, mul_ln, pk_mul, le_nn, lt_nn, eq_nn, le_nl, lt_nl, eq_nl, le_ln, lt_ln, eq_ln, eq_ll, lt_ll, le_ll, eq_nm1, eq_nm2, eq_nm3, eq_nm4, e_comesOf fu hf _ hs g, up12, e_firstIn fu hf _ hs d (nI q) (by simp (disch := omega) only [eq_nm2, ne_eq, not_false_eq_true])]
      exact ⟨_, _, _, rfl, rfl, h.kp (KQ.s12 y) F⟩
theorem s_where (fu : Nat) (hf : 2000 ≤ fu) {x : Nat → Ob} {o : Ob} (h : Rel x o) (v1 v2 v3 : Int32) : ∃ r y t, p_X9_where fu x v1 v2 v3 = some (r, y) ∧ p_X10_where fu o v1 v2 v3 = some (r, t) ∧ Rel y t := by
  unfold p_X9_where p_X10_where
  rw [e_cStep, Option.bind_some]
  have e60 : p_X10_in fu v3.toInt64 v2.toInt64 (60 : Int64) = some (if v3 < v2 then 0 else if 60 < v3 then 0 else 1) := e_in fu v3 v2 60
  rw [e60]
  rcases e_putIn fu hf h v1 v2 with ⟨e1, t, e2, F⟩ | ⟨r, s, y, t, hr, hs, rfl, rfl, e1, d, e2, F, G, g⟩
  · simp only [e1, e2, Option.bind_some, ↓reduceIte, if_true, if_false, Nat.reduceEqDiff, Nat.reduceAdd, Nat.reduceMul, Nat.reduceLT, Nat.reduceLeDiff]
    refine ⟨-2, x, t, ?_, rfl, h.kp KQ.rf F⟩
    split
    · rfl
    · split <;> rfl
  · simp (disch := omega) only [e1, e2, Option.bind_some, ↓reduceIte, if_true, if_false, Nat.reduceEqDiff, Nat.reduceAdd, Nat.reduceMul, Nat.reduceLT, Nat.reduceLeDiff, inb_nI, inb_lit, cl_nI, cl_lit, nI_add, add_nl, add_ln, mul_ln, pk_mul, le_nn, lt_nn, eq_nn, le_nl, lt_nl, eq_nl, le_ln, lt_ln, eq_ln, eq_ll, lt_ll, le_ll, eq_nm1, eq_nm2, eq_nm3, eq_nm4, up12]
    rcases ixq_of v3 (n := 61) (by omega) with ⟨e3, hh⟩ | ⟨e3, n, hn, rfl⟩
    · simp only [e3, Option.bind_some, ↓reduceIte, if_true, if_false, Nat.reduceEqDiff, Nat.reduceAdd, Nat.reduceMul, Nat.reduceLT, Nat.reduceLeDiff]
      refine ⟨-2, x, t, rfl, ?_, h.kp KQ.rf F⟩
      by_cases c : v3 < nI s
      · simp only [c, Option.bind_some, ↓reduceIte, if_true, if_false, Nat.reduceEqDiff, Nat.reduceAdd, Nat.reduceMul, Nat.reduceLT, Nat.reduceLeDiff]
      · simp only [c, Option.bind_some, ↓reduceIte, if_true, if_false, Nat.reduceEqDiff, Nat.reduceAdd, Nat.reduceMul, Nat.reduceLT, Nat.reduceLeDiff]
        have : 60 < v3 := by
          rcases hh with z | z
          · exfalso
            apply c
            have z1 := Int32.lt_iff_toInt_lt.mp z
            rw [Int32.lt_iff_toInt_lt, nI_toInt (by omega)]
            have : (0 : Int32).toInt = 0 := rfl
            omega
          · have z1 := Int32.le_iff_toInt_le.mp z
            rw [nI_toInt (by omega)] at z1
            rw [Int32.lt_iff_toInt_lt]
            show (60 : Int) < _
            omega
        simp only [this, Option.bind_some, ↓reduceIte, if_true, if_false, Nat.reduceEqDiff, Nat.reduceAdd, Nat.reduceMul, Nat.reduceLT, Nat.reduceLeDiff]
    · simp (disch := omega) only [e3, Option.bind_some, ↓reduceIte, if_true, if_false, Nat.reduceEqDiff, Nat.reduceAdd, Nat.reduceMul, Nat.reduceLT, Nat.reduceLeDiff, inb_nI, inb_lit, cl_nI, cl_lit, nI_add, add_nl, add_ln, mul_ln, pk_mul, le_nn, lt_nn, eq_nn, le_nl, lt_nl, eq_nl, le_ln, lt_ln, eq_ln, eq_ll, lt_ll, le_ll, eq_nm1, eq_nm2, eq_nm3, eq_nm4]
      by_cases c : n < s
      · simp only [c, Option.bind_some, ↓reduceIte, if_true, if_false, Nat.reduceEqDiff, Nat.reduceAdd, Nat.reduceMul, Nat.reduceLT, Nat.reduceLeDiff]
        exact ⟨_, _, _, rfl, rfl, h.kp KQ.rf F⟩
      · simp (disch := omega) only [c, Option.bind_some, ↓reduceIte, if_true, if_false, Nat.reduceEqDiff, Nat.reduceAdd, Nat.reduceMul, Nat.reduceLT, Nat.reduceLeDiff, e_spotAt, if_neg (show ¬ 60 < n by omega), d.1 n hn, g.at2 (show s ≤ n by omega) hn]
        exact ⟨_, _, _, rfl, by rw [wc, if_neg c]; rfl, h.kp (KQ.s12 y) F⟩
theorem s_leaves (fu : Nat) (hf : 2000 ≤ fu) {x : Nat → Ob} {o : Ob} (h : Rel x o) (v1 v2 : Int32) : ∃ r y t, p_X9_leaves fu x v1 v2 = some (r, y) ∧ p_X10_leaves fu o v1 v2 = some (r, t) ∧ Rel y t := by
  unfold p_X9_leaves p_X10_leaves
  rcases e_putIn fu hf h v1 v2 with ⟨e1, t, e2, F⟩ | ⟨r, s, y, t, hr, hs, rfl, rfl, e1, d, e2, F, G, g⟩
  · simp only [e1, e2, Option.bind_some, ↓reduceIte, if_true, if_false, Nat.reduceEqDiff, Nat.reduceAdd, Nat.reduceMul, Nat.reduceLT, Nat.reduceLeDiff]
    exact ⟨_, _, _, rfl, rfl, h.kp KQ.rf F⟩
  · simp (disch := omega) only [e1, e2, Option.bind_some, ↓reduceIte, if_true, if_false, Nat.reduceEqDiff, Nat.reduceAdd, Nat.reduceMul, Nat.reduceLT, Nat.reduceLeDiff, inb_nI, inb_lit, cl_nI, cl_lit, nI_add, add_nl, add_ln, mul_ln, pk_mul, le_nn, lt_nn, eq_nn, le_nl, lt_nl, eq_nl, le_ln, lt_ln, eq_ln, eq_ll, lt_ll, le_ll, eq_nm1, eq_nm2, eq_nm3, eq_nm4, up12, d.2.2.2.2.2.2.1, g.2.2.1]
    exact ⟨_, _, _, rfl, rfl, h.kp (KQ.s12 y) F⟩
theorem s_jumps (fu : Nat) (hf : 2000 ≤ fu) {x : Nat → Ob} {o : Ob} (h : Rel x o) (v1 v2 : Int32) : ∃ r y t, p_X9_jumps fu x v1 v2 = some (r, y) ∧ p_X10_jumps fu o v1 v2 = some (r, t) ∧ Rel y t := by
  unfold p_X9_jumps p_X10_jumps
  rcases e_putIn fu hf h v1 v2 with ⟨e1, t, e2, F⟩ | ⟨r, s, y, t, hr, hs, rfl, rfl, e1, d, e2, F, G, g⟩
  · simp only [e1, e2, Option.bind_some, ↓reduceIte, if_true, if_false, Nat.reduceEqDiff, Nat.reduceAdd, Nat.reduceMul, Nat.reduceLT, Nat.reduceLeDiff]
    exact ⟨_, _, _, rfl, rfl, h.kp KQ.rf F⟩
  · simp (disch := omega) only [e1, e2, Option.bind_some, ↓reduceIte, if_true, if_false, Nat.reduceEqDiff, Nat.reduceAdd, Nat.reduceMul, Nat.reduceLT, Nat.reduceLeDiff, inb_nI, inb_lit, cl_nI, cl_lit, nI_add, add_nl, add_ln, mul_ln, pk_mul, le_nn, lt_nn, eq_nn, le_nl, lt_nl, eq_nl, le_ln, lt_ln, eq_ln, eq_ll, lt_ll, le_ll, eq_nm1, eq_nm2, eq_nm3, eq_nm4, up12, d.2.2.2.2.2.2.2.1, g.2.2.2.1]
    exact ⟨_, _, _, rfl, rfl, h.kp (KQ.s12 y) F⟩
theorem s_used (fu : Nat) (hf : 2000 ≤ fu) {x : Nat → Ob} {o : Ob} (h : Rel x o) (v1 v2 : Int32) : ∃ r y t, p_X9_used fu x v1 v2 = some (r, y) ∧ p_X10_used fu o v1 v2 = some (r, t) ∧ Rel y t := by
  unfold p_X9_used p_X10_used
  rcases e_putIn fu hf h v1 v2 with ⟨e1, t, e2, F⟩ | ⟨r, s, y, t, hr, hs, rfl, rfl, e1, d, e2, F, G, g⟩
  · simp only [e1, e2, Option.bind_some, ↓reduceIte, if_true, if_false, Nat.reduceEqDiff, Nat.reduceAdd, Nat.reduceMul, Nat.reduceLT, Nat.reduceLeDiff]
    exact ⟨_, _, _, rfl, rfl, h.kp KQ.rf F⟩
  · simp (disch := omega) only [e1, e2, Option.bind_some, ↓reduceIte, if_true, if_false, Nat.reduceEqDiff, Nat.reduceAdd, Nat.reduceMul, Nat.reduceLT, Nat.reduceLeDiff, inb_nI, inb_lit, cl_nI, cl_lit, nI_add, add_nl, add_ln, mul_ln, pk_mul, le_nn, lt_nn, eq_nn, le_nl, lt_nl, eq_nl, le_ln, lt_ln, eq_ln, eq_ll, lt_ll, le_ll, eq_nm1, eq_nm2, eq_nm3, eq_nm4, up12, d.2.2.2.2.2.2.2.2, g.2.2.2.2]
    exact ⟨_, _, _, rfl, rfl, h.kp (KQ.s12 y) F⟩
