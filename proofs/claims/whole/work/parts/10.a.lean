/-! ===== the pure side: numbers, rows, loops ===== -/
theorem inb_nI {k n : Nat} (h : k < n) (hn : n < 2147483648) : (inb (nI k) n = true) = True := by
  apply propext
  refine ⟨fun _ => trivial, fun _ => ?_⟩
  unfold inb
  rw [nI_toInt (by omega)]
  exact decide_eq_true (by omega)
theorem inb_lit {k n : Nat} (h : (OfNat.ofNat k : Nat) < n) (hn : n < 2147483648) : (inb (no_index (OfNat.ofNat k : Int32)) n = true) = True := inb_nI h hn
theorem cl_nI {n : Nat} (h : n < 2147483648) : (nI n).toNatClampNeg = n := nI_clamp h
theorem cl_lit {n : Nat} (h : (OfNat.ofNat n : Nat) < 2147483648) : (no_index (OfNat.ofNat n : Int32)).toNatClampNeg = (OfNat.ofNat n : Nat) := nI_clamp h
theorem add_nl (a b : Nat) : nI a + (no_index (OfNat.ofNat b : Int32)) = nI (a + (OfNat.ofNat b : Nat)) := nI_add a b
theorem add_ln (a b : Nat) : (no_index (OfNat.ofNat a : Int32)) + nI b = nI ((OfNat.ofNat a : Nat) + b) := nI_add a b
theorem mul_ln (a b : Nat) : (no_index (OfNat.ofNat a : Int32)) * nI b = nI ((OfNat.ofNat a : Nat) * b) := pk_mul a b
theorem le_nn {a b : Nat} (ha : a < 2147483648) (hb : b < 2147483648) : (nI a ≤ nI b) = (a ≤ b) := propext (nI_leI ha hb)
theorem lt_nn {a b : Nat} (ha : a < 2147483648) (hb : b < 2147483648) : (nI a < nI b) = (a < b) := propext (nI_ltI ha hb)
theorem eq_nn {a b : Nat} (ha : a < 2147483648) (hb : b < 2147483648) : (nI a = nI b) = (a = b) := propext (nI_eq ha hb)
theorem le_nl {a b : Nat} (ha : a < 2147483648) (hb : (OfNat.ofNat b : Nat) < 2147483648) : (nI a ≤ (no_index (OfNat.ofNat b : Int32))) = (a ≤ (OfNat.ofNat b : Nat)) := le_nn ha hb
theorem lt_nl {a b : Nat} (ha : a < 2147483648) (hb : (OfNat.ofNat b : Nat) < 2147483648) : (nI a < (no_index (OfNat.ofNat b : Int32))) = (a < (OfNat.ofNat b : Nat)) := lt_nn ha hb
theorem eq_nl {a b : Nat} (ha : a < 2147483648) (hb : (OfNat.ofNat b : Nat) < 2147483648) : (nI a = (no_index (OfNat.ofNat b : Int32))) = (a = (OfNat.ofNat b : Nat)) := eq_nn ha hb
theorem le_ln {a b : Nat} (ha : (OfNat.ofNat a : Nat) < 2147483648) (hb : b < 2147483648) : ((no_index (OfNat.ofNat a : Int32)) ≤ nI b) = ((OfNat.ofNat a : Nat) ≤ b) := le_nn ha hb
theorem lt_ln {a b : Nat} (ha : (OfNat.ofNat a : Nat) < 2147483648) (hb : b < 2147483648) : ((no_index (OfNat.ofNat a : Int32)) < nI b) = ((OfNat.ofNat a : Nat) < b) := lt_nn ha hb
theorem eq_ln {a b : Nat} (ha : (OfNat.ofNat a : Nat) < 2147483648) (hb : b < 2147483648) : ((no_index (OfNat.ofNat a : Int32)) = nI b) = ((OfNat.ofNat a : Nat) = b) := eq_nn ha hb
theorem eq_ll {a b : Nat} (ha : (OfNat.ofNat a : Nat) < 2147483648) (hb : (OfNat.ofNat b : Nat) < 2147483648) : ((no_index (OfNat.ofNat a : Int32)) = (no_index (OfNat.ofNat b : Int32))) = ((OfNat.ofNat a : Nat) = (OfNat.ofNat b : Nat)) := eq_nn ha hb
theorem lt_ll {a b : Nat} (ha : (OfNat.ofNat a : Nat) < 2147483648) (hb : (OfNat.ofNat b : Nat) < 2147483648) : ((no_index (OfNat.ofNat a : Int32)) < (no_index (OfNat.ofNat b : Int32))) = ((OfNat.ofNat a : Nat) < (OfNat.ofNat b : Nat)) := lt_nn ha hb
theorem le_ll {a b : Nat} (ha : (OfNat.ofNat a : Nat) < 2147483648) (hb : (OfNat.ofNat b : Nat) < 2147483648) : ((no_index (OfNat.ofNat a : Int32)) ≤ (no_index (OfNat.ofNat b : Int32))) = ((OfNat.ofNat a : Nat) ≤ (OfNat.ofNat b : Nat)) := le_nn ha hb
theorem nI_nonneg {a : Nat} (h : a < 2147483648) : 0 ≤ (nI a).toInt := by rw [nI_toInt (by omega)]; omega
theorem eq_neg {a : Nat} (h : a < 2147483648) {z : Int32} (hz : z.toInt < 0) : (nI a = z) = False := by
  apply propext
  refine ⟨fun e => ?_, False.elim⟩
  have := nI_nonneg h
  rw [e] at this
  omega
theorem eq_nm1 {a : Nat} (h : a < 2147483648) : (nI a = (-1 : Int32)) = False := eq_neg h (by decide)
theorem eq_nm2 {a : Nat} (h : a < 2147483648) : (nI a = (-2 : Int32)) = False := eq_neg h (by decide)
theorem eq_nm3 {a : Nat} (h : a < 2147483648) : (nI a = (-3 : Int32)) = False := eq_neg h (by decide)
theorem eq_nm4 {a : Nat} (h : a < 2147483648) : (nI a = (-4 : Int32)) = False := eq_neg h (by decide)
theorem oA_1 (o : Ob) (f : Nat) (g : Nat → Int32) (k : Nat) : (oA o f g).1 k = if k = f then g else o.1 k := rfl
theorem oI_1 (o : Ob) (f : Nat) (v : Int32) (k : Nat) : (oI o f v).1 k = if k = f then (fun _ => v) else o.1 k := rfl
theorem oLA_1 (o : Ob) (f : Nat) (g : Nat → Int64) : (oLA o f g).1 = o.1 := rfl
theorem oL_1 (o : Ob) (f : Nat) (v : Int64) : (oL o f v).1 = o.1 := rfl
theorem oA_2 (o : Ob) (f : Nat) (g : Nat → Int32) : (oA o f g).2 = o.2 := rfl
theorem oI_2 (o : Ob) (f : Nat) (v : Int32) : (oI o f v).2 = o.2 := rfl
theorem oLA_2 (o : Ob) (f : Nat) (g : Nat → Int64) (k : Nat) : (oLA o f g).2 k = if k = f then g else o.2 k := rfl
theorem oL_2 (o : Ob) (f : Nat) (v : Int64) (k : Nat) : (oL o f v).2 k = if k = f then (fun _ => v) else o.2 k := rfl
theorem up_v {α : Type} (f : Nat → α) (k : Nat) (v : α) (j : Nat) : va_up f k v j = if j = k then v else f j := rfl
theorem upd_v (f : Nat → Int32) (k : Nat) (v : Int32) (j : Nat) : upd f k v j = if j = k then v else f j := rfl
theorem updL_v (f : Nat → Int64) (k : Nat) (v : Int64) (j : Nat) : vp_updL f k v j = if j = k then v else f j := rfl
/-! pick, put, bit -/
theorem e_pick (fu : Nat) {n k : Nat} (f : Nat → Int32) (h : k < n) (hn : n < 2147483648) : p_X9_pick fu n f (nI k) = some (f k) := by
  unfold p_X9_pick
  simp (disch := omega) only [inb_nI, inb_lit, cl_nI, cl_lit, nI_add, add_nl, add_ln, mul_ln, pk_mul, le_nn, lt_nn, eq_nn, le_nl, lt_nl, eq_nl, le_ln, lt_ln, eq_ln, eq_ll, lt_ll, le_ll, eq_nm1, eq_nm2, eq_nm3, eq_nm4]
  rw [if_neg (by omega), if_neg (by omega), if_pos trivial]
theorem e_pickl (fu : Nat) {n k : Nat} (f : Nat → Int32) (h : k < n) (hn : n < 2147483648) : p_X9_pick fu n f (no_index (OfNat.ofNat k : Int32)) = some (f k) := e_pick fu f h hn
theorem e_put (fu : Nat) {n k : Nat} (f : Nat → Int32) (v : Int32) (h : k < n) (hn : n < 2147483648) : p_X9_put fu n f (nI k) v = some (upd f k v) := by
  unfold p_X9_put
  simp (disch := omega) only [inb_nI, inb_lit, cl_nI, cl_lit, nI_add, add_nl, add_ln, mul_ln, pk_mul, le_nn, lt_nn, eq_nn, le_nl, lt_nl, eq_nl, le_ln, lt_ln, eq_ln, eq_ll, lt_ll, le_ll, eq_nm1, eq_nm2, eq_nm3, eq_nm4]
  rw [if_neg (by omega), if_neg (by omega), if_pos trivial]
theorem e_putl (fu : Nat) {n k : Nat} (f : Nat → Int32) (v : Int32) (h : k < n) (hn : n < 2147483648) : p_X9_put fu n f (no_index (OfNat.ofNat k : Int32)) v = some (upd f k v) := e_put fu f v h hn
theorem e_putneg (fu : Nat) {n : Nat} (f : Nat → Int32) (x v : Int32) (h : x < 0) : p_X9_put fu n f x v = some f := by
  unfold p_X9_put
  rw [if_pos h]
theorem e_pickneg (fu : Nat) {n : Nat} (f : Nat → Int32) (x : Int32) (h : x < 0) : p_X9_pick fu n f x = some 0 := by
  unfold p_X9_pick
  rw [if_pos h]
/-- one bit -/
def b1 (k : Nat) : Int32 := (1 : Int32) <<< (nI k &&& 31)
theorem e_bit (fu : Nat) {k : Nat} (h : k ≤ 10) : p_X9_bit fu (nI k) = some (b1 k) := by
  unfold p_X9_bit
  simp (disch := omega) only [inb_nI, inb_lit, cl_nI, cl_lit, nI_add, add_nl, add_ln, mul_ln, pk_mul, le_nn, lt_nn, eq_nn, le_nl, lt_nl, eq_nl, le_ln, lt_ln, eq_ln, eq_ll, lt_ll, le_ll, eq_nm1, eq_nm2, eq_nm3, eq_nm4]
  rw [if_neg (by omega), if_neg (by omega)]
  rfl
theorem e_bitm1 (fu : Nat) : p_X9_bit fu (-1) = some 0 := rfl
/-! bits -/
def bq (x : Int32) (i : Nat) : Bool := x.toBitVec.getLsbD i
theorem bq_ext {x y : Int32} (h : ∀ i, i < 32 → bq x i = bq y i) : x = y := Int32.toBitVec_inj.mp (BitVec.eq_of_getLsbD_eq (fun i hi => h i hi))
theorem bq_or (x y : Int32) (i : Nat) : bq (x ||| y) i = (bq x i || bq y i) := by unfold bq; rw [Int32.toBitVec_or, BitVec.getLsbD_or]
theorem bq_and (x y : Int32) (i : Nat) : bq (x &&& y) i = (bq x i && bq y i) := by unfold bq; rw [Int32.toBitVec_and, BitVec.getLsbD_and]
theorem bq_xor (x y : Int32) (i : Nat) : bq (x ^^^ y) i = (bq x i ^^ bq y i) := by unfold bq; rw [Int32.toBitVec_xor, BitVec.getLsbD_xor]
theorem bq_big {x : Int32} {i : Nat} (h : 32 ≤ i) : bq x i = false := BitVec.getLsbD_of_ge _ _ h
theorem bq_m1 : ∀ i, i < 32 → bq (-1) i = true := by decide +kernel
theorem bq_0 (i : Nat) : bq 0 i = false := BitVec.getLsbD_zero
theorem bq_1 : ∀ i, i < 32 → bq 1 i = decide (i = 0) := by decide +kernel
theorem bq_b1 : ∀ k, k < 32 → ∀ i, i < 32 → bq (b1 k) i = decide (i = k) := by decide +kernel
theorem bs_l : ∀ n, n < 32 → ((nI n &&& 31).toBitVec.smod 32).toNat = n := by decide +kernel
theorem bq_shr (n : Nat) (hn : n < 32) (x : Int32) {i : Nat} (hi : i < 32) : bq (x >>> (nI n &&& 31)) i = if n + i < 32 then bq x (n + i) else bq x 31 := by
  unfold bq
  rw [Int32.toBitVec_shiftRight]
  show (x.toBitVec.sshiftRight ((nI n &&& 31).toBitVec.smod 32).toNat).getLsbD i = _
  rw [bs_l n hn, BitVec.getLsbD_sshiftRight, BitVec.msb_eq_getLsbD_last]
  simp [hi]
/-- the reference's bit -/
theorem e_rbit (fu : Nat) (s : Int32) {k : Nat} (h : k < 32) : p_X10_bit fu s (nI k) = some (if bq s k = true then 1 else 0) := by
  unfold p_X10_bit
  congr 1
  apply bq_ext
  intro i hi
  rw [bq_and, bq_shr k h s hi, bq_1 i hi]
  by_cases h0 : i = 0
  · subst h0
    simp only [Nat.add_zero, h, if_true, decide_true, Bool.and_true]
    cases hb : bq s k
    · simp [bq_0]
    · simp [bq_1]
  · simp only [h0, decide_false, Bool.and_false]
    cases hb : bq s k
    · simp [bq_0]
    · simp [bq_1 i hi, h0]
/-- a set and one bit -/
theorem and_b1 (s : Int32) {k : Nat} (h : k < 32) : (s &&& b1 k = 0) = (bq s k = false) := by
  apply propext
  refine ⟨fun e => ?_, fun e => ?_⟩
  · have := congrArg (fun z => bq z k) e
    simp only [bq_and, bq_b1 k h k h, bq_0, decide_true, Bool.and_true] at this
    exact this
  · apply bq_ext
    intro i hi
    rw [bq_and, bq_b1 k h i hi, bq_0]
    by_cases hk : i = k
    · subst hk; simp [e]
    · simp [hk]
/-! loops -/
/-- a fold over 0, 1, .. -/
def it {σ : Type} (f : Nat → σ → σ) (s : σ) : Nat → σ
  | 0 => s
  | i + 1 => f i (it f s i)
/-- the first place from i on, of k places -/
def ffr (p : Nat → Bool) : Nat → Nat → Int32
  | _, 0 => -1
  | i, k + 1 => if p i = true then nI i else ffr p (i + 1) k
/-- a loop over i = a .. b - 1 whose state is a fold -/
theorem loop_it {σ R : Type} (L : Nat → Nat → σ → Option R) (f : Nat → σ → σ) (s0 : σ) (b : Nat) (r : Option R)
    (hend : ∀ n, L (n + 1) b (it f s0 b) = r) (hstep : ∀ n i, i < b → L (n + 1) i (it f s0 i) = L n (i + 1) (it f s0 (i + 1))) :
    ∀ n i, i ≤ b → b - i < n → L n i (it f s0 i) = r := by
  intro n
  induction n with
  | zero => intro i _ h; omega
  | succ n ih =>
    intro i hi hn
    by_cases hb : i = b
    · subst hb; exact hend n
    · rw [hstep n i (by omega)]
      exact ih (i + 1) (by omega) (by omega)
/-- a loop with an invariant, which may end early -/
theorem loop_inv {σ R : Type} (L : Nat → Nat → σ → Option R) (b : Nat) (I : Nat → σ → Prop) (Q : R → Prop)
    (hend : ∀ n s, I b s → ∃ r, L (n + 1) b s = some r ∧ Q r)
    (hstep : ∀ n i s, i < b → I i s → (∃ r, L (n + 1) i s = some r ∧ Q r) ∨ (∃ s', L (n + 1) i s = L n (i + 1) s' ∧ I (i + 1) s')) :
    ∀ n i s, i ≤ b → b - i < n → I i s → ∃ r, L n i s = some r ∧ Q r := by
  intro n
  induction n with
  | zero => intro i s _ h; omega
  | succ n ih =>
    intro i s hi hn hI
    by_cases hb : i = b
    · subst hb; exact hend n s hI
    · rcases hstep n i s (by omega) hI with h | ⟨s', e, h⟩
      · exact h
      · rw [e]
        exact ih (i + 1) s' (by omega) (by omega) h
/-- a loop that looks for the first -/
theorem loop_ff {R : Type} (L : Nat → Nat → Option R) (p : Nat → Bool) (b : Nat) (g : Int32 → R)
    (hend : ∀ n, L (n + 1) b = some (g (-1))) (hstep : ∀ n i, i < b → L (n + 1) i = if p i = true then some (g (nI i)) else L n (i + 1)) :
    ∀ n i, i ≤ b → b - i < n → L n i = some (g (ffr p i (b - i))) := by
  intro n
  induction n with
  | zero => intro i _ h; omega
  | succ n ih =>
    intro i hi hn
    by_cases hb : i = b
    · subst hb
      rw [hend n, Nat.sub_self]
      rfl
    · rw [hstep n i (by omega)]
      have e : b - i = (b - (i + 1)) + 1 := by omega
      rw [e, ffr]
      by_cases hp : p i = true
      · rw [if_pos hp, if_pos hp]
      · rw [if_neg hp, if_neg hp]
        exact ih (i + 1) (by omega) (by omega)
theorem ffr_cg {p q : Nat → Bool} : ∀ (k i : Nat), (∀ j, i ≤ j → j < i + k → p j = q j) → ffr p i k = ffr q i k
  | 0, _, _ => rfl
  | k + 1, i, h => by
    rw [ffr, ffr, h i (Nat.le_refl _) (by omega), ffr_cg k (i + 1) (fun j h1 h2 => h j (by omega) (by omega))]
theorem it_cg {σ : Type} {f g : Nat → σ → σ} {s : σ} : ∀ (k : Nat), (∀ j, j < k → ∀ t, f j t = g j t) → it f s k = it g s k
  | 0, _ => rfl
  | k + 1, h => by
    rw [it, it, it_cg k (fun j hj => h j (by omega)), h k (by omega)]
/-- what ffr answers -/
theorem ffr_or (p : Nat → Bool) : ∀ (k i : Nat), (ffr p i k = -1 ∧ ∀ j, i ≤ j → j < i + k → p j = false) ∨ (∃ j, i ≤ j ∧ j < i + k ∧ p j = true ∧ ffr p i k = nI j ∧ ∀ q, i ≤ q → q < j → p q = false)
  | 0, i => Or.inl ⟨rfl, fun j h1 h2 => by omega⟩
  | k + 1, i => by
    rw [ffr]
    by_cases hp : p i = true
    · exact Or.inr ⟨i, Nat.le_refl _, by omega, hp, by rw [if_pos hp], fun q h1 h2 => by omega⟩
    · rw [if_neg hp]
      have hp' : p i = false := by cases h : p i <;> simp_all
      rcases ffr_or p k (i + 1) with ⟨e, h⟩ | ⟨j, h1, h2, h3, h4, h5⟩
      · exact Or.inl ⟨e, fun j h1 h2 => by
          by_cases hj : j = i
          · subst hj; exact hp'
          · exact h j (by omega) (by omega)⟩
      · exact Or.inr ⟨j, by omega, by omega, h3, h4, fun q g1 g2 => by
          by_cases hq : q = i
          · subst hq; exact hp'
          · exact h5 q (by omega) g2⟩
/-- a loop that goes on to its end, and then on -/
theorem loop_to {σ R : Type} (L : Nat → Nat → σ → Option R) (b : Nat) (I : Nat → σ → Prop) (c : σ → Option R)
    (hend : ∀ n s, I b s → L (n + 1) b s = c s) (hstep : ∀ n i s, i < b → I i s → ∃ s', L (n + 1) i s = L n (i + 1) s' ∧ I (i + 1) s') :
    ∀ n i s, i ≤ b → b - i < n → I i s → ∃ s', L n i s = c s' ∧ I b s' := by
  intro n
  induction n with
  | zero => intro i s _ h; omega
  | succ n ih =>
    intro i s hi hn hI
    by_cases hb : i = b
    · subst hb; exact ⟨s, hend n s hI, hI⟩
    · obtain ⟨s', e, h⟩ := hstep n i s (by omega) hI
      rw [e]
      exact ih (i + 1) s' (by omega) (by omega) h
