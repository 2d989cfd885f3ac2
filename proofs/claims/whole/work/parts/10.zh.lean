theorem ev60 : ∀ n : Fin 61, (nI n.1 - nI n.1 / 2 * 2 = 0) = (n.1 % 2 = 0) := by decide
theorem ev_n {n : Nat} (h : n ≤ 60) : (nI n - nI n / 2 * 2 = 0) = (n % 2 = 0) := ev60 ⟨n, by omega⟩
/-- a row that tells spots, on both sides -/
def RT (x : Nat → Ob) (o : Ob) (k m : Nat) : Prop := k < 4 ∧ 2 * m ≤ 60 ∧ (x (14 + k)).1 2 0 = nI (2 * m) ∧ o.1 38 k = nI (2 * m) ∧ (∀ i, i < 60 → (x (14 + k)).2 3 i = o.2 40 (60 * k + i)) ∧ tel (fun q => o.2 40 (60 * k + q)) (nR (o.1 1)) 0 m
theorem e_refuse (fu : Nat) (hf : 2000 ≤ fu) {x : Nat → Ob} {o : Ob} (h : Rel x o) (v : Int32) :
    (∃ r : Int32, (r = -2 ∨ r = -6) ∧ p_X9_refuseSeen fu x v = some r ∧ p_X10_askSeen fu o v 1 = some (r, o)) ∨
    ∃ k m, v = nI k ∧ RT x o k m ∧ p_X9_refuseSeen fu x v = some 0 ∧ (p_X9_rowOf fu x v = some (some k)) ∧ (∀ y, p_X9_rowOf fu y v = some (some k)) ∧ ∃ s, p_X10_askSeen fu o v 1 = some (0, s) ∧ AI o s := by
  have oN : ∀ {α : Type} (a : Option α) (f : Nat → Option α), oCase none a f = a := fun _ _ => rfl
  have oS : ∀ {α : Type} (j : Nat) (a : Option α) (f : Nat → Option α), oCase (some j) a f = f j := fun _ _ _ => rfl
  have hb := h.w.2.1.1
  unfold p_X9_refuseSeen p_X10_askSeen
  rw [e_isSlot, Option.bind_some, e_isRivers fu o h.w]
  rcases e_rowOf fu x v with ⟨e1, e2⟩ | ⟨k, hk, rfl, e1, e2⟩
  · left
    refine ⟨-2, Or.inl rfl, ?_, ?_⟩
    · rw [e1, Option.bind_some, oN]
    · rw [e2, if_pos rfl]
  · have eA : ∀ y, p_X9_rowOf fu y (nI k) = some (some k) := fun y => by
      rcases e_rowOf fu y (nI k) with ⟨f1, f2⟩ | ⟨k', hk', g, f1, f2⟩
      · exfalso
        rw [f2] at e2
        exact absurd e2 (by decide)
      · have : k = k' := by
          have := congrArg Int32.toInt g
          rw [nI_toInt (by omega), nI_toInt (by omega)] at this
          omega
        rw [f1, this]
    rw [e1, Option.bind_some, oS, if_pos hk, e2, if_neg (show ¬ (1 : Int32) = 0 by decide), Option.bind_some]
    simp only [told0 h]
    by_cases c : nL (o.1 1) = 0
    · left
      refine ⟨-2, Or.inl rfl, ?_, ?_⟩
      · rw [if_pos c]
      · simp only [if_pos c, if_true]
    · have i1 : inb (nI k) 4 = true := by simp (disch := omega) only [inb_nI]
      have i3 : (nI k).toNatClampNeg = k := by simp (disch := omega) only [cl_nI]
      simp only [if_neg c, i1, i3, if_true, if_neg (show ¬ (1 : Int32) = 0 by decide)]
      rcases h.2.2.2.2.2 k hk with ⟨a1, a2⟩ | ⟨a1, n, b, hn, hb', a2, a3, a4, a5, a6⟩
      · left
        refine ⟨-6, Or.inr rfl, ?_, ?_⟩
        · rw [if_pos a1]
        · rw [if_pos a2]
      · rw [if_neg (show ¬ (x (14 + k)).1 0 0 = 0 by rw [a1]; decide), if_neg (show ¬ o.1 38 k = -1 by rw [a3]; exact m1_ne (by omega))]
        unfold p_X3_tellsSpots
        rw [a2, a3]
        simp only [ev_n hn, if_neg (show ¬ (2 : Int32) = 0 by decide)]
        by_cases g : n % 2 = 0
        · obtain ⟨m, rfl⟩ : ∃ m, n = 2 * m := ⟨n / 2, by omega⟩
          have x54 : (x 5).1 4 0 = nI (nR (o.1 1)) := h.1.2.1.2.2.2.2.1
          simp only [if_pos g, x54]
          rcases e_tell fu h.w hk hn a2 a3 a6 m 0 fu fu (by omega) (by omega) (by omega) with ⟨g1, g2, g3⟩ | ⟨g1, g2⟩
          · right
            obtain ⟨s, es, as⟩ := e_asItIs fu hf o h.w
            refine ⟨k, m, rfl, ⟨hk, hn, a2, a3, a6, g3⟩, ?_, rfl, eA, s, ?_, as⟩
            · have g1' : p_X3_tellsSpots_L13 fu (x (14 + k)) fu (nI (nR (o.1 1))) 0 = some 1 := g1
              rw [g1', Option.bind_some, if_neg (show ¬ (1 : Int32) = 0 by decide)]
            · have g2' : p_X10_askSeen_L50 fu fu o (nI k) 0 = _ := g2
              rw [g2', es, Option.bind_some]
          · left
            refine ⟨-2, Or.inl rfl, ?_, ?_⟩
            · have g1' : p_X3_tellsSpots_L13 fu (x (14 + k)) fu (nI (nR (o.1 1))) 0 = some 0 := g1
              rw [g1', Option.bind_some, if_pos rfl]
            · exact g2
        · left
          refine ⟨-2, Or.inl rfl, ?_, ?_⟩
          · rw [if_neg g, Option.bind_some, if_pos rfl]
          · rw [if_neg g]
/-- is a stick with these spots seen? -/
def snF (N : Nat → Int64) (W : Nat → Int32) : Nat → Nat → Bool
  | _, 0 => true
  | i, m + 1 => decide (W (N (2 * i)).toInt32.toNatClampNeg = (N (2 * i + 1)).toInt32) && snF N W (i + 1) m
theorem wc_wh (P : PP) (r s k b : Nat) (hb : b < 2147483648) : (wc P r s k = nI b) = (wh P r s k = nI b) := by
  unfold wc wh
  by_cases c : k < s
  · simp only [if_pos c]
    apply propext
    constructor
    · intro e
      have := congrArg Int32.toInt e
      rw [nI_toInt hb] at this
      have e2 : (-2 : Int32).toInt = -2 := rfl
      omega
    · intro e
      have := congrArg Int32.toInt e
      rw [nI_toInt hb] at this
      have e2 : (-4 : Int32).toInt = -4 := rfl
      omega
  · simp only [if_neg c]
theorem e_wasSeen (fu : Nat) (P : PP) {r s n R : Nat} {y w : Ob} (d : DSt P r s y) (hn : n ≤ 60) (hR : R ≤ 10) (er : w.1 2 0 = nI n) {N : Nat → Int64} (eN : ∀ i, i < 60 → w.2 3 i = N i) :
    ∀ m i f, 2 * (i + m) = n → m < f → tel N R i m → p_X5_wasSeen_L2 fu y w f (nI (2 * i)) = some (if snF N (wh P r s) i m = true then 1 else 0) := by
  intro m
  induction m with
  | zero =>
    intro i f h1 h2 h3
    obtain ⟨c, rfl⟩ : ∃ c, f = c + 1 := ⟨f - 1, by omega⟩
    rw [p_X5_wasSeen_L2, snF]
    simp (disch := omega) only [inb_nI, inb_lit, cl_nI, cl_lit, nI_add, add_nl, add_ln, mul_ln, pk_mul, le_nn, lt_nn, eq_nn, le_nl, lt_nl, eq_nl, le_ln, lt_ln, eq_ln, eq_ll, lt_ll, le_ll, eq_nm1, eq_nm2, eq_nm3, eq_nm4, Option.bind_some, ↓reduceIte, if_true, if_false, Nat.reduceEqDiff, Nat.reduceAdd, Nat.reduceMul, Nat.reduceLT, Nat.reduceLeDiff, er, show n ≤ 2 * i + 1 by omega]
  | succ m ih =>
    intro i f h1 h2 h3
    obtain ⟨c, rfl⟩ : ∃ c, f = c + 1 := ⟨f - 1, by omega⟩
    obtain ⟨a, b, ha, hb, ea, eb⟩ := h3 i (by omega) (by omega)
    have hi := ih (i + 1) c (by omega) (by omega) (fun q h4 h5 => h3 q (by omega) (by omega))
    have hi' : p_X5_wasSeen_L2 fu y w c (nI (2 * i + 2)) = _ := hi
    rw [p_X5_wasSeen_L2, snF, ea, eb]
    simp (disch := omega) only [inb_nI, inb_lit, cl_nI, cl_lit, nI_add, add_nl, add_ln, mul_ln, pk_mul, le_nn, lt_nn, eq_nn, le_nl, lt_nl, eq_nl, le_ln, lt_ln, eq_ln, eq_ll, lt_ll, le_ll, eq_nm1, eq_nm2, eq_nm3, eq_nm4, Option.bind_some, ↓reduceIte, if_true, if_false, Nat.reduceEqDiff, Nat.reduceAdd, Nat.reduceMul, Nat.reduceLT, Nat.reduceLeDiff, er, show ¬ n ≤ 2 * i + 1 by omega, e_number, eN, ea, eb, l_i32, e_spotAt, d.1 a ha, wc_wh, hi']
    by_cases g : wh P r s a = nI b
    · simp only [g, Option.bind_some, ↓reduceIte, if_true, if_false, Nat.reduceEqDiff, Nat.reduceAdd, Nat.reduceMul, Nat.reduceLT, Nat.reduceLeDiff, decide_true, Bool.true_and]
    · simp only [g, Option.bind_some, ↓reduceIte, if_true, if_false, Nat.reduceEqDiff, Nat.reduceAdd, Nat.reduceMul, Nat.reduceLT, Nat.reduceLeDiff, decide_false, Bool.false_and, Bool.false_eq_true]
theorem i64_inj (a b : Int32) : (a.toInt64 = b.toInt64) = (a = b) := by
  apply propext
  refine ⟨fun h => ?_, fun h => by rw [h]⟩
  have := congrArg Int64.toInt h
  rw [Int32.toInt_toInt64, Int32.toInt_toInt64] at this
  exact Int32.toInt_inj.mp this
theorem e_isSeen (fu : Nat) (P : PP) {r s n R k : Nat} {t : Ob} (d : GSt P r s t) (hn : n ≤ 60) (hR : R ≤ 10) (hk : k < 4) (et : t.1 38 k = nI n) {N : Nat → Int64} (eN : ∀ i, i < 60 → t.2 40 (60 * k + i) = N i) :
    ∀ m i f, 2 * (i + m) = n → m < f → tel N R i m → p_X10_isSeen_L2 fu t f (nI k) (nI (2 * i)) = some (if snF N (wh P r s) i m = true then 1 else 0) := by
  intro m
  induction m with
  | zero =>
    intro i f h1 h2 h3
    obtain ⟨c, rfl⟩ : ∃ c, f = c + 1 := ⟨f - 1, by omega⟩
    rw [p_X10_isSeen_L2, snF]
    simp (disch := omega) only [inb_nI, inb_lit, cl_nI, cl_lit, nI_add, add_nl, add_ln, mul_ln, pk_mul, le_nn, lt_nn, eq_nn, le_nl, lt_nl, eq_nl, le_ln, lt_ln, eq_ln, eq_ll, lt_ll, le_ll, eq_nm1, eq_nm2, eq_nm3, eq_nm4, Option.bind_some, ↓reduceIte, if_true, if_false, Nat.reduceEqDiff, Nat.reduceAdd, Nat.reduceMul, Nat.reduceLT, Nat.reduceLeDiff, et, show n ≤ 2 * i by omega]
  | succ m ih =>
    intro i f h1 h2 h3
    obtain ⟨c, rfl⟩ : ∃ c, f = c + 1 := ⟨f - 1, by omega⟩
    obtain ⟨a, b, ha, hb, ea, eb⟩ := h3 i (by omega) (by omega)
    have hi := ih (i + 1) c (by omega) (by omega) (fun q h4 h5 => h3 q (by omega) (by omega))
    have hi' : p_X10_isSeen_L2 fu t c (nI k) (nI (2 * i + 2)) = _ := hi
    rw [p_X10_isSeen_L2, snF, ea, eb]
    simp (disch := omega) only [inb_nI, inb_lit, cl_nI, cl_lit, nI_add, add_nl, add_ln, mul_ln, pk_mul, le_nn, lt_nn, eq_nn, le_nl, lt_nl, eq_nl, le_ln, lt_ln, eq_ln, eq_ll, lt_ll, le_ll, eq_nm1, eq_nm2, eq_nm3, eq_nm4, Option.bind_some, ↓reduceIte, if_true, if_false, Nat.reduceEqDiff, Nat.reduceAdd, Nat.reduceMul, Nat.reduceLT, Nat.reduceLeDiff, et, show ¬ n ≤ 2 * i by omega, e_numberAt, eN, ea, eb, l_i32, d.1 a ha, lge, i64_inj, hi']
    by_cases g : wh P r s a = nI b
    · simp only [g, Option.bind_some, ↓reduceIte, if_true, if_false, Nat.reduceEqDiff, Nat.reduceAdd, Nat.reduceMul, Nat.reduceLT, Nat.reduceLeDiff, decide_true, Bool.true_and]
    · simp only [g, Option.bind_some, ↓reduceIte, if_true, if_false, Nat.reduceEqDiff, Nat.reduceAdd, Nat.reduceMul, Nat.reduceLT, Nat.reduceLeDiff, decide_false, Bool.false_and, Bool.false_eq_true]
