/-! ask, doubts -/
/-- at a step, in how many of the pairs is the stick there (the reference's words) -/
def cW (P : PP) (t : PT) (q : Nat) (u : Int32) : Int32 := it (fun i n => if wh P (t.2 i).1 (t.2 i).2 q = u then n + 1 else n) 0 t.1
def cC (P : PP) (t : PT) (q v : Nat) : Int32 := it (fun i n => if wc P (t.2 i).1 (t.2 i).2 q = nI v + (-2) then n + 1 else n) 0 t.1
def mF (P : PP) (t : PT) (q j : Nat) (n : Int32) : Int32 := if n < cW P t q (nI j + (-4)) then cW P t q (nI j + (-4)) else n
def mC (P : PP) (t : PT) (q v : Nat) (n : Int32) : Int32 := if n < cC P t q v then cC P t q v else n
def mM (P : PP) (t : PT) (q : Nat) : Int32 := it (mC P t q) 0 12
def whv (v : Nat) : Int32 := if v = 0 then -4 else nI v + (-2)
theorem wv1 : ∀ v : Fin 12, ∀ i : Fin 11, (whv v.1 = nI (3 + i.1) + (-4)) ↔ (nI v.1 + (-2) = nI (1 + i.1) + (-2)) := by decide +kernel
theorem wv0 : ∀ v : Fin 12, (whv v.1 = nI 0 + (-4)) ↔ (nI v.1 + (-2) = nI 0 + (-2)) := by decide +kernel
theorem wv2 : ∀ v : Fin 12, ¬ whv v.1 = nI 1 + (-4) ∧ ¬ whv v.1 = nI 2 + (-4) := by decide +kernel
theorem wv_of {P : PP} (h : OKP P) (h0 : P.2.2.2.2.2 = 0) {r : Nat} (hr : r < nR P.1) (s k : Nat) : ∃ v, v < 12 ∧ wc P r s k = nI v + (-2) ∧ wh P r s k = whv v := by
  unfold wc wh whv
  by_cases c : k < s
  · rw [if_pos c, if_pos c]
    exact ⟨0, by omega, n2_0, rfl⟩
  · rw [if_neg c, if_neg c]
    rcases pth_in h h0 hr s (k - s) with e | ⟨q, hq, e⟩
    · refine ⟨1, by omega, e.trans n2_1, ?_⟩
      rw [if_neg (by decide)]
      exact e.trans n2_1
    · refine ⟨q + 2, by omega, e.trans (n2_k ⟨q, hq⟩), ?_⟩
      rw [if_neg (by omega)]
      exact e.trans (n2_k ⟨q, hq⟩)
theorem cW_C {P : PP} (h : OKP P) (h0 : P.2.2.2.2.2 = 0) {t : PT} {b : Nat} (hp : pOk (nR P.1) b t) (q : Nat) {i : Nat} (hi : i < 11) : cW P t q (nI (3 + i) + (-4)) = cC P t q (1 + i) := by
  unfold cW cC
  refine it_cg t.1 (fun j hj n => ?_)
  obtain ⟨v, hv, e1, e2⟩ := wv_of h h0 (hp.2 j hj).1 (t.2 j).2 q
  show (if wh P (t.2 j).1 (t.2 j).2 q = _ then n + 1 else n) = if wc P (t.2 j).1 (t.2 j).2 q = _ then n + 1 else n
  rw [e1, e2]
  have := wv1 ⟨v, hv⟩ ⟨i, hi⟩
  by_cases g : whv v = nI (3 + i) + (-4)
  · rw [if_pos g, if_pos (this.mp g)]
  · rw [if_neg g, if_neg (fun z => g (this.mpr z))]
theorem cW_0 {P : PP} (h : OKP P) (h0 : P.2.2.2.2.2 = 0) {t : PT} {b : Nat} (hp : pOk (nR P.1) b t) (q : Nat) : cW P t q (nI 0 + (-4)) = cC P t q 0 := by
  unfold cW cC
  refine it_cg t.1 (fun j hj n => ?_)
  obtain ⟨v, hv, e1, e2⟩ := wv_of h h0 (hp.2 j hj).1 (t.2 j).2 q
  show (if wh P (t.2 j).1 (t.2 j).2 q = _ then n + 1 else n) = if wc P (t.2 j).1 (t.2 j).2 q = _ then n + 1 else n
  rw [e1, e2]
  have := wv0 ⟨v, hv⟩
  by_cases g : whv v = nI 0 + (-4)
  · rw [if_pos g, if_pos (this.mp g)]
  · rw [if_neg g, if_neg (fun z => g (this.mpr z))]
theorem it_id {σ : Type} {f : Nat → σ → σ} {s : σ} : ∀ k, (∀ j, j < k → ∀ t, f j t = t) → it f s k = s := by
  intro k
  induction k with
  | zero => intro _; rfl
  | succ k ih =>
    intro h
    rw [it, h k (by omega), ih (fun j hj => h j (by omega))]
theorem cW_12 {P : PP} (h : OKP P) (h0 : P.2.2.2.2.2 = 0) {t : PT} {b : Nat} (hp : pOk (nR P.1) b t) (q : Nat) : cW P t q (nI 1 + (-4)) = 0 ∧ cW P t q (nI 2 + (-4)) = 0 := by
  unfold cW
  refine ⟨it_id t.1 (fun j hj n => ?_), it_id t.1 (fun j hj n => ?_)⟩
  · obtain ⟨v, hv, e1, e2⟩ := wv_of h h0 (hp.2 j hj).1 (t.2 j).2 q
    show (if wh P (t.2 j).1 (t.2 j).2 q = _ then n + 1 else n) = n
    rw [e2, if_neg (wv2 ⟨v, hv⟩).1]
  · obtain ⟨v, hv, e1, e2⟩ := wv_of h h0 (hp.2 j hj).1 (t.2 j).2 q
    show (if wh P (t.2 j).1 (t.2 j).2 q = _ then n + 1 else n) = n
    rw [e2, if_neg (wv2 ⟨v, hv⟩).2]
theorem it_shift {σ : Type} (f : Nat → σ → σ) (s : σ) (a : Nat) : ∀ n, it f s (a + n) = it (fun i => f (a + i)) (it f s a) n := by
  intro n
  induction n with
  | zero => rfl
  | succ n ih =>
    show it f s (a + n + 1) = _
    rw [it, it, ih]
theorem mM_eq {P : PP} (h : OKP P) (h0 : P.2.2.2.2.2 = 0) {t : PT} {b : Nat} (hp : pOk (nR P.1) b t) (q : Nat) : it (mF P t q) 0 14 = mM P t q := by
  have e3 : it (mF P t q) 0 3 = it (mC P t q) 0 1 := by
    have f0 : mF P t q 0 0 = mC P t q 0 0 := by
      unfold mF mC
      rw [cW_0 h h0 hp q]
    show mF P t q 2 (mF P t q 1 (mF P t q 0 0)) = mC P t q 0 0
    rw [f0]
    obtain ⟨g1, g2⟩ := cW_12 h h0 hp q
    have nn : ¬ mC P t q 0 0 < 0 := by
      unfold mC
      by_cases c : (0 : Int32) < cC P t q 0
      · rw [if_pos c]
        rw [Int32.lt_iff_toInt_lt] at *
        have : (0 : Int32).toInt = 0 := rfl
        omega
      · rw [if_neg c]; decide
    have m1 : mF P t q 1 (mC P t q 0 0) = mC P t q 0 0 := by
      show (if mC P t q 0 0 < cW P t q (nI 1 + (-4)) then cW P t q (nI 1 + (-4)) else mC P t q 0 0) = _
      rw [g1, if_neg nn]
    have m2 : mF P t q 2 (mC P t q 0 0) = mC P t q 0 0 := by
      show (if mC P t q 0 0 < cW P t q (nI 2 + (-4)) then cW P t q (nI 2 + (-4)) else mC P t q 0 0) = _
      rw [g2, if_neg nn]
    rw [m1, m2]
  have s1 := it_shift (mF P t q) 0 3 11
  have s2 := it_shift (mC P t q) 0 1 11
  unfold mM
  have s1' : it (mF P t q) 0 14 = _ := s1
  have s2' : it (mC P t q) 0 12 = _ := s2
  rw [s1', s2', e3]
  refine it_cg 11 (fun i hi n => ?_)
  show mF P t q (3 + i) n = mC P t q (1 + i) n
  unfold mF mC
  rw [cW_C h h0 hp q hi]
/-- the best step so far, and what is left then -/
def bS (P : PP) (t : PT) (q : Nat) (u : Int32 × Int32) : Int32 × Int32 := if mM P t q < u.2 then (nI q, mM P t q) else u
theorem bS_inv (P : PP) (t : PT) (c : Int32) : ∀ n, n ≤ 61 → ((it (bS P t) (-1, c) n).1 = -1 ∧ (it (bS P t) (-1, c) n).2 = c) ∨ ∃ q, q < 61 ∧ it (bS P t) (-1, c) n = (nI q, mM P t q) := by
  intro n
  induction n with
  | zero => intro _; exact Or.inl ⟨rfl, rfl⟩
  | succ n ih =>
    intro hn
    rw [it]
    by_cases g : mM P t n < (it (bS P t) (-1, c) n).2
    · right
      refine ⟨n, by omega, ?_⟩
      show (if mM P t n < (it (bS P t) (-1, c) n).2 then _ else _) = _
      rw [if_pos g]
    · have e : bS P t n (it (bS P t) (-1, c) n) = it (bS P t) (-1, c) n := if_neg g
      rw [e]
      exact ih (by omega)
theorem e_worst (fu : Nat) (hf : 2000 ≤ fu) {P : PP} {F : Ob} {t : PT} (c : CI P F t) {q : Nat} (hq : q < 61) : p_X4_leftAtWorst fu F (nI q) = some (mM P t q) := by
  have e := loop_it (fun n i u => p_X4_leftAtWorst_L4 fu F n (nI q) u (nI i)) (mC P t q) 0 12 (some (mM P t q)) (by
    intro n
    show p_X4_leftAtWorst_L4 fu F (n + 1) (nI q) _ (nI 12) = _
    rw [p_X4_leftAtWorst_L4, if_pos (by decide)]
    rfl) (by
    intro n i hi
    show p_X4_leftAtWorst_L4 fu F (n + 1) (nI q) _ (nI i) = p_X4_leftAtWorst_L4 fu F n (nI q) _ (nI (i + 1))
    have a1 : nI (12 * q) + nI i = nI (12 * q + i) := nI_add _ _
    rw [p_X4_leftAtWorst_L4, if_neg (by rw [le_ln (by decide) (by omega)]; omega), mul_n12, a1, e_pick fu (F.1 3) (show 12 * q + i < 732 by omega) (by decide), Option.bind_some, c.2.2.2 q i hq hi, show nI i + 1 = nI (i + 1) from nI_add i 1]
    rfl) fu 0 (Nat.zero_le _) (by omega)
  exact e
theorem e_best (fu : Nat) (hf : 2000 ≤ fu) {P : PP} {F : Ob} {t : PT} (c : CI P F t) : p_X4_bestStep fu F = some (it (bS P t) (-1, nI t.1) 61).1 := by
  unfold p_X4_bestStep
  rw [c.1]
  have e := loop_it (fun n i u => p_X4_bestStep_L9 fu F n u.1 u.2 (nI i)) (bS P t) (-1, nI t.1) 61 (some (it (bS P t) (-1, nI t.1) 61).1) (by
    intro n
    show p_X4_bestStep_L9 fu F (n + 1) _ _ (nI 61) = _
    rw [p_X4_bestStep_L9, if_pos (by decide)]) (by
    intro n i hi
    show p_X4_bestStep_L9 fu F (n + 1) (it (bS P t) (-1, nI t.1) i).1 (it (bS P t) (-1, nI t.1) i).2 (nI i) = p_X4_bestStep_L9 fu F n (bS P t i (it (bS P t) (-1, nI t.1) i)).1 (bS P t i (it (bS P t) (-1, nI t.1) i)).2 (nI (i + 1))
    rw [p_X4_bestStep_L9, if_neg (by rw [lt_ln (by decide) (by omega)]; omega), e_worst fu hf c hi, Option.bind_some, show nI i + 1 = nI (i + 1) from nI_add i 1]
    generalize it (bS P t) (-1, nI t.1) i = u
    unfold bS
    by_cases g : mM P t i < u.2
    · rw [if_pos g, if_neg (Int32.not_le.mpr g)]
    · rw [if_neg g, if_pos (Int32.not_lt.mp g)]) fu 0 (Nat.zero_le _) (by omega)
  exact e
theorem e_leastL (fu : Nat) (hf : 2000 ≤ fu) {P : PP} {F : Ob} {t : PT} (c : CI P F t) : p_X4_leastLeft fu F = some (it (bS P t) (-1, nI t.1) 61).2 := by
  unfold p_X4_leastLeft
  rw [e_best fu hf c, Option.bind_some, c.1]
  rcases bS_inv P t (nI t.1) 61 (Nat.le_refl _) with ⟨e1, e2⟩ | ⟨q, hq, e⟩
  · rw [if_pos e1, e2]
  · rw [e]
    show (if nI q = -1 then _ else (p_X4_leftAtWorst fu F (nI q)).bind _) = some (mM P t q)
    rw [if_neg (m1_ne (by omega)), e_worst fu hf c hq, Option.bind_some]
