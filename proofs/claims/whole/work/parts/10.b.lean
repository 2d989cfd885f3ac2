/-! ===== the rivers as the reference holds them ===== -/
def wT (w : Nat → Int32) (r : Nat) : Int32 := w (8 + 3 * r + 0)
def wK (w : Nat → Int32) (r : Nat) : Int32 := w (8 + 3 * r + 1)
def wL (w : Nat → Int32) (r : Nat) : Int32 := w (8 + 3 * r + 2)
def wF (w : Nat → Int32) (j : Nat) : Int32 := w (38 + 4 * j + 0)
def wG (w : Nat → Int32) (j : Nat) : Int32 := w (38 + 4 * j + 1)
def wE (w : Nat → Int32) (j : Nat) : Int32 := w (38 + 4 * j + 2)
def wB (w : Nat → Int32) (j : Nat) : Int32 := w (38 + 4 * j + 3)
def wM (w : Nat → Int32) (k : Nat) : Int32 := w (58 + 2 * k)
def wS (w : Nat → Int32) (k : Nat) : Int32 := w (58 + 2 * k + 1)
def wC (w : Nat → Int32) (k : Nat) : Int32 := w (68 + k)
def nR (w : Nat → Int32) : Nat := (w 3).toNatClampNeg
def nJ (w : Nat → Int32) : Nat := (w 4).toNatClampNeg
def nN (w : Nat → Int32) : Nat := (w 5).toNatClampNeg
def nA (w : Nat → Int32) : Nat := (w 6).toNatClampNeg
def nL (w : Nat → Int32) : Nat := (w 7).toNatClampNeg
/-- an act, as the reference writes it -/
def actOK (w : Nat → Int32) (c : Int32) : Prop := (∃ j b, j < nJ w ∧ b ≤ 1 ∧ c = nI (2 * j + b)) ∨ (∃ s n, s ≤ 60 ∧ 1 ≤ n ∧ n ≤ 30 ∧ c = nI (100 * (s + 1) + n))
def OKr (w : Nat → Int32) : Prop := ∀ r, r < nR w → (wT w r = -1 ∨ ∃ t, t < nR w ∧ wT w r = nI t) ∧ (∃ t, 1 ≤ t ∧ t ≤ 5 ∧ wK w r = nI t) ∧ (∃ l, l ≤ 20 ∧ wL w r = nI l)
def OKj (w : Nat → Int32) : Prop := ∀ j, j < nJ w → (∃ f, f < nR w ∧ wF w j = nI f) ∧ (∃ t, t < nR w ∧ wG w j = nI t) ∧ (∃ e a, 1 ≤ e ∧ e ≤ 9 ∧ a < e ∧ wE w j = nI e ∧ wB w j = nI a)
def OKn (w : Nat → Int32) : Prop := ∀ k, k < nN w → (∃ m, 1 ≤ m ∧ m ≤ 30 ∧ wM w k = nI m) ∧ (∃ s, s ≤ 60 ∧ wS w k = nI s)
def OKa (w : Nat → Int32) : Prop := ∀ k, k < nA w → actOK w (wC w k)
def OKW (w : Nat → Int32) : Prop :=
  ((∃ l o s, l ≤ 60 ∧ o ≤ 10 ∧ s ≤ 9 ∧ w 0 = nI l ∧ w 1 = nI o ∧ w 2 = nI s) ∧ w 3 = nI (nR w) ∧ w 4 = nI (nJ w) ∧ w 5 = nI (nN w) ∧ w 6 = nI (nA w) ∧ w 7 = nI (nL w)) ∧
  (nR w ≤ 10 ∧ nJ w ≤ 5 ∧ nN w ≤ 5 ∧ nA w ≤ 30 ∧ nL w ≤ 21) ∧ ((nL w = 0 → nR w = 0 ∧ nJ w = 0 ∧ nN w = 0 ∧ nA w = 0) ∧ (nL w ≠ 0 → nL w = 1 + nR w + nJ w + nN w)) ∧ OKr w ∧ OKj w ∧ OKn w ∧ OKa w
theorem e_of0 (fu : Nat) (o : Ob) {r : Nat} (h : r < 10) : p_X10_of fu o (nI r) 0 = some (wT (o.1 1) r) := by
  unfold p_X10_of wT
  simp (disch := omega) only [inb_nI, inb_lit, cl_nI, cl_lit, nI_add, add_nl, add_ln, mul_ln, pk_mul, le_nn, lt_nn, eq_nn, le_nl, lt_nl, eq_nl, le_ln, lt_ln, eq_ln, eq_ll, lt_ll, le_ll, eq_nm1, eq_nm2, eq_nm3, eq_nm4, ↓reduceIte]
theorem e_of1 (fu : Nat) (o : Ob) {r : Nat} (h : r < 10) : p_X10_of fu o (nI r) 1 = some (wK (o.1 1) r) := by
  unfold p_X10_of wK
  simp (disch := omega) only [inb_nI, inb_lit, cl_nI, cl_lit, nI_add, add_nl, add_ln, mul_ln, pk_mul, le_nn, lt_nn, eq_nn, le_nl, lt_nl, eq_nl, le_ln, lt_ln, eq_ln, eq_ll, lt_ll, le_ll, eq_nm1, eq_nm2, eq_nm3, eq_nm4, ↓reduceIte]
theorem e_of2 (fu : Nat) (o : Ob) {r : Nat} (h : r < 10) : p_X10_of fu o (nI r) 2 = some (wL (o.1 1) r) := by
  unfold p_X10_of wL
  simp (disch := omega) only [inb_nI, inb_lit, cl_nI, cl_lit, nI_add, add_nl, add_ln, mul_ln, pk_mul, le_nn, lt_nn, eq_nn, le_nl, lt_nl, eq_nl, le_ln, lt_ln, eq_ln, eq_ll, lt_ll, le_ll, eq_nm1, eq_nm2, eq_nm3, eq_nm4, ↓reduceIte]
theorem e_oj0 (fu : Nat) (o : Ob) {r : Nat} (h : r < 5) : p_X10_ofJoin fu o (nI r) 0 = some (wF (o.1 1) r) := by
  unfold p_X10_ofJoin wF
  simp (disch := omega) only [inb_nI, inb_lit, cl_nI, cl_lit, nI_add, add_nl, add_ln, mul_ln, pk_mul, le_nn, lt_nn, eq_nn, le_nl, lt_nl, eq_nl, le_ln, lt_ln, eq_ln, eq_ll, lt_ll, le_ll, eq_nm1, eq_nm2, eq_nm3, eq_nm4, ↓reduceIte]
theorem e_oj1 (fu : Nat) (o : Ob) {r : Nat} (h : r < 5) : p_X10_ofJoin fu o (nI r) 1 = some (wG (o.1 1) r) := by
  unfold p_X10_ofJoin wG
  simp (disch := omega) only [inb_nI, inb_lit, cl_nI, cl_lit, nI_add, add_nl, add_ln, mul_ln, pk_mul, le_nn, lt_nn, eq_nn, le_nl, lt_nl, eq_nl, le_ln, lt_ln, eq_ln, eq_ll, lt_ll, le_ll, eq_nm1, eq_nm2, eq_nm3, eq_nm4, ↓reduceIte]
theorem e_oj2 (fu : Nat) (o : Ob) {r : Nat} (h : r < 5) : p_X10_ofJoin fu o (nI r) 2 = some (wE (o.1 1) r) := by
  unfold p_X10_ofJoin wE
  simp (disch := omega) only [inb_nI, inb_lit, cl_nI, cl_lit, nI_add, add_nl, add_ln, mul_ln, pk_mul, le_nn, lt_nn, eq_nn, le_nl, lt_nl, eq_nl, le_ln, lt_ln, eq_ln, eq_ll, lt_ll, le_ll, eq_nm1, eq_nm2, eq_nm3, eq_nm4, ↓reduceIte]
theorem e_oj3 (fu : Nat) (o : Ob) {r : Nat} (h : r < 5) : p_X10_ofJoin fu o (nI r) 3 = some (wB (o.1 1) r) := by
  unfold p_X10_ofJoin wB
  simp (disch := omega) only [inb_nI, inb_lit, cl_nI, cl_lit, nI_add, add_nl, add_ln, mul_ln, pk_mul, le_nn, lt_nn, eq_nn, le_nl, lt_nl, eq_nl, le_ln, lt_ln, eq_ln, eq_ll, lt_ll, le_ll, eq_nm1, eq_nm2, eq_nm3, eq_nm4, ↓reduceIte]
/-! in, isReach and their like -/
theorem lg_lt (x y : Int32) : (lg_cmp x.toInt64 y.toInt64 < 0) = (x < y) := by
  unfold lg_cmp
  apply propext
  have hx : x.toInt64.toInt = x.toInt := Int32.toInt_toInt64 x
  have hy : y.toInt64.toInt = y.toInt := Int32.toInt_toInt64 y
  by_cases h1 : x.toInt64 > y.toInt64
  · rw [if_pos h1]
    have h1' : y.toInt64.toInt < x.toInt64.toInt := Int64.lt_iff_toInt_lt.mp h1
    refine ⟨fun h => absurd h (by decide), fun h => ?_⟩
    have := Int32.lt_iff_toInt_lt.mp h
    omega
  · rw [if_neg h1]
    have h1' : ¬ y.toInt64.toInt < x.toInt64.toInt := fun h => h1 (Int64.lt_iff_toInt_lt.mpr h)
    by_cases h2 : x.toInt64 = y.toInt64
    · rw [if_pos h2]
      refine ⟨fun h => absurd h (by decide), fun h => ?_⟩
      have := Int32.lt_iff_toInt_lt.mp h
      have h3 := congrArg Int64.toInt h2
      omega
    · rw [if_neg h2]
      refine ⟨fun _ => Int32.lt_iff_toInt_lt.mpr ?_, fun _ => by decide⟩
      have : x.toInt64.toInt ≠ y.toInt64.toInt := fun e => h2 (Int64.toInt_inj.mp e)
      omega
theorem lg_gt (x y : Int32) : (0 < lg_cmp x.toInt64 y.toInt64) = (y < x) := by
  unfold lg_cmp
  apply propext
  have hx : x.toInt64.toInt = x.toInt := Int32.toInt_toInt64 x
  have hy : y.toInt64.toInt = y.toInt := Int32.toInt_toInt64 y
  by_cases h1 : x.toInt64 > y.toInt64
  · rw [if_pos h1]
    have h1' : y.toInt64.toInt < x.toInt64.toInt := Int64.lt_iff_toInt_lt.mp h1
    refine ⟨fun _ => Int32.lt_iff_toInt_lt.mpr (by omega), fun _ => by decide⟩
  · rw [if_neg h1]
    have h1' : ¬ y.toInt64.toInt < x.toInt64.toInt := fun h => h1 (Int64.lt_iff_toInt_lt.mpr h)
    refine ⟨fun h => ?_, fun h => ?_⟩
    · by_cases h2 : x.toInt64 = y.toInt64
      · rw [if_pos h2] at h; exact absurd h (by decide)
      · rw [if_neg h2] at h; exact absurd h (by decide)
    · have := Int32.lt_iff_toInt_lt.mp h
      omega
theorem e_in (fu : Nat) (v lo hi : Int32) : p_X10_in fu v.toInt64 lo.toInt64 hi.toInt64 = some (if v < lo then 0 else if hi < v then 0 else 1) := by
  unfold p_X10_in
  simp only [lg_lt, lg_gt]
  split
  · rfl
  · split <;> rfl
theorem l64 {n : Nat} (h : (OfNat.ofNat n : Nat) < 2147483648) : (no_index (OfNat.ofNat n : Int64)) = (no_index (OfNat.ofNat n : Int32)).toInt64 := (nI_l (n := n) h).symm
theorem e_inl (fu : Nat) {a b : Nat} (ha : (OfNat.ofNat a : Nat) < 2147483648) (hb : (OfNat.ofNat b : Nat) < 2147483648) (v : Int32) : p_X10_in fu v.toInt64 (no_index (OfNat.ofNat a : Int64)) (no_index (OfNat.ofNat b : Int64)) = some (if v < (no_index (OfNat.ofNat a : Int32)) then 0 else if (no_index (OfNat.ofNat b : Int32)) < v then 0 else 1) := by
  rw [l64 ha, l64 hb, e_in]
theorem e_inh (fu : Nat) {a : Nat} (ha : (OfNat.ofNat a : Nat) < 2147483648) (v hi : Int32) : p_X10_in fu v.toInt64 (no_index (OfNat.ofNat a : Int64)) hi.toInt64 = some (if v < (no_index (OfNat.ofNat a : Int32)) then 0 else if hi < v then 0 else 1) := by
  rw [l64 ha, e_in]
theorem lt_pred {n : Nat} (h : n < 2147483648) (v : Int32) : (nI n - 1 < v) = (nI n ≤ v) := by
  apply propext
  have h1 : (nI n - 1).toInt = (n : Int) - 1 := by
    rw [show (1 : Int32) = nI 1 from rfl]
    rcases Nat.eq_zero_or_pos n with rfl | h0
    · decide
    · rw [pk_sub (by omega), nI_toInt (by omega)]
      omega
  rw [Int32.lt_iff_toInt_lt, Int32.le_iff_toInt_le, h1, nI_toInt (by omega)]
  omega
/-- v is one of 0 .. n - 1 -/
def ixq (v : Int32) (n : Nat) : Int32 := if v < 0 then 0 else if nI n ≤ v then 0 else 1
theorem e_inp (fu : Nat) (v : Int32) {n : Nat} (h : n < 2147483648) : p_X10_in fu v.toInt64 0 ((nI n - 1).toInt64) = some (ixq v n) := by
  rw [show (0 : Int64) = (0 : Int32).toInt64 from rfl, e_in]
  simp only [lt_pred h]
  rfl
theorem ixq_b (v : Int32) (n : Nat) : (ixq v n = 0 ∨ ixq v n = 1) = True := by
  unfold ixq
  split
  · simp
  · split <;> simp
theorem ixq_of (v : Int32) {n : Nat} (h : n < 2147483648) : (ixq v n = 0 ∧ (v < 0 ∨ nI n ≤ v)) ∨ (ixq v n = 1 ∧ ∃ j, j < n ∧ v = nI j) := by
  unfold ixq
  rcases pk_ix v (n := n) (by omega) with h1 | h1 | ⟨j, hj, rfl⟩
  · exact Or.inl ⟨by rw [if_pos h1], Or.inl h1⟩
  · exact Or.inl ⟨by rw [if_pos h1]; split <;> rfl, Or.inr h1⟩
  · refine Or.inr ⟨?_, j, hj, rfl⟩
    simp (disch := omega) only [inb_nI, inb_lit, cl_nI, cl_lit, nI_add, add_nl, add_ln, mul_ln, pk_mul, le_nn, lt_nn, eq_nn, le_nl, lt_nl, eq_nl, le_ln, lt_ln, eq_ln, eq_ll, lt_ll, le_ll, eq_nm1, eq_nm2, eq_nm3, eq_nm4]
    rw [if_neg (by omega), if_neg (by omega)]
theorem ixq_nI {j n : Nat} (hj : j < n) (h : n < 2147483648) : ixq (nI j) n = 1 := by
  unfold ixq
  simp (disch := omega) only [inb_nI, inb_lit, cl_nI, cl_lit, nI_add, add_nl, add_ln, mul_ln, pk_mul, le_nn, lt_nn, eq_nn, le_nl, lt_nl, eq_nl, le_ln, lt_ln, eq_ln, eq_ll, lt_ll, le_ll, eq_nm1, eq_nm2, eq_nm3, eq_nm4]
  rw [if_neg (by omega), if_neg (by omega)]
theorem ixq_61 (v : Int32) : (if v < 0 then (0 : Int32) else if (60 : Int32) < v then 0 else 1) = ixq v 61 := by
  unfold ixq
  rcases pk_ix v (n := 61) (by omega) with h1 | h1 | ⟨j, hj, rfl⟩
  · rw [if_pos h1, if_pos h1]
  · have h2 : (60 : Int32) < v := by
      have := Int32.le_iff_toInt_le.mp h1
      rw [nI_toInt (by omega)] at this
      rw [Int32.lt_iff_toInt_lt]
      show (60 : Int) < _
      omega
    rw [if_pos h1, if_pos h2]
  · simp (disch := omega) only [inb_nI, inb_lit, cl_nI, cl_lit, nI_add, add_nl, add_ln, mul_ln, pk_mul, le_nn, lt_nn, eq_nn, le_nl, lt_nl, eq_nl, le_ln, lt_ln, eq_ln, eq_ll, lt_ll, le_ll, eq_nm1, eq_nm2, eq_nm3, eq_nm4]
    rw [if_neg (by omega), if_neg (by omega), if_neg (by omega), if_neg (by omega)]
theorem e_isReach (fu : Nat) (o : Ob) (v : Int32) (h : OKW (o.1 1)) : p_X10_isReach fu o v.toInt64 = some (ixq v (nR (o.1 1))) := by
  unfold p_X10_isReach
  have h3 := h.1.2.1
  have hb := h.2.1.1
  simp (disch := omega) only [inb_nI, inb_lit, cl_nI, cl_lit, nI_add, add_nl, add_ln, mul_ln, pk_mul, le_nn, lt_nn, eq_nn, le_nl, lt_nl, eq_nl, le_ln, lt_ln, eq_ln, eq_ll, lt_ll, le_ll, eq_nm1, eq_nm2, eq_nm3, eq_nm4, ↓reduceIte, h3, e_inp, Option.bind_some, ixq_b]
theorem e_isJoin (fu : Nat) (o : Ob) (v : Int32) (h : OKW (o.1 1)) : p_X10_isJoin fu o v = some (ixq v (nJ (o.1 1))) := by
  unfold p_X10_isJoin
  have h3 := h.1.2.2.1
  have hb := h.2.1.2.1
  simp (disch := omega) only [inb_nI, inb_lit, cl_nI, cl_lit, nI_add, add_nl, add_ln, mul_ln, pk_mul, le_nn, lt_nn, eq_nn, le_nl, lt_nl, eq_nl, le_ln, lt_ln, eq_ln, eq_ll, lt_ll, le_ll, eq_nm1, eq_nm2, eq_nm3, eq_nm4, ↓reduceIte, h3, e_inp, Option.bind_some, ixq_b]
theorem e_rStep (fu : Nat) (v : Int32) : p_X10_isStep fu v.toInt64 = some (ixq v 61) := by
  unfold p_X10_isStep
  rw [e_inl fu (a := 0) (b := 60) (by decide) (by decide) v, Option.bind_some, ixq_61]
  simp only [ixq_b, if_true]
theorem e_cStep (fu : Nat) (v : Int32) : p_X9_isStep fu v = some (ixq v 61) := by
  unfold p_X9_isStep
  rw [← ixq_61]
  split
  · rfl
  · split <;> rfl
theorem e_isRivers (fu : Nat) (o : Ob) (h : OKW (o.1 1)) : p_X10_isRivers fu o = some (if nL (o.1 1) = 0 then 0 else 1) := by
  unfold p_X10_isRivers
  have h3 := h.1.2.2.2.2.2
  have hb := h.2.1.2.2.2.2
  simp (disch := omega) only [inb_nI, inb_lit, cl_nI, cl_lit, nI_add, add_nl, add_ln, mul_ln, pk_mul, le_nn, lt_nn, eq_nn, le_nl, lt_nl, eq_nl, le_ln, lt_ln, eq_ln, eq_ll, lt_ll, le_ll, eq_nm1, eq_nm2, eq_nm3, eq_nm4, ↓reduceIte, h3]
  by_cases h0 : nL (o.1 1) = 0
  · rw [if_pos (by omega), if_pos h0]
  · rw [if_neg (by omega), if_neg h0]
