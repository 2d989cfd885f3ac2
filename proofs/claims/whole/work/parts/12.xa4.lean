/-! ===== the greatest common divisor; mean, chance, risk ===== -/
theorem g_step (a b : Nat) : Nat.gcd a b = Nat.gcd b (a % b) := by
  rw [Nat.gcd_comm a b, Nat.gcd_rec b a, Nat.gcd_comm]
theorem l64_0 : (0 : Int64) = lN 0 := rfl
theorem cd_s (fu n : Nat) {a b i : Nat} (ha : a < 2 ^ 63) (hb : b < 2 ^ 63) (hi : i < 200) : p_X9_commonDivisor_L3 fu (n + 1) (lN a) (lN b) (nI i) = if b = 0 then some (lN a) else p_X9_commonDivisor_L3 fu n (lN b) (lN (a % b)) (nI (i + 1)) := by
  rw [p_X9_commonDivisor_L3, if_neg (show ¬ (200 : Int32) ≤ nI i by rw [le_ln (by decide) (by omega)]; omega)]
  by_cases g : b = 0
  · subst g
    rw [if_pos (show lg_cmp (lN 0) 0 = 0 from (lg_cmp_eq _ _).mpr rfl), if_pos rfl]
  · have h0 : ¬ lN b = 0 := fun z => g ((pk_lEQ hb (b := 0) (by decide)).mp z)
    rw [if_neg g, if_neg (fun z => h0 ((lg_cmp_eq _ _).mp z)), if_neg h0, pk_lRem ha (by omega) hb, add_nl]
theorem rd_s (fu n : Nat) {a b : Nat} (ha : a < 2 ^ 63) (hb : b < 2 ^ 63) : p_X10_divisor_L6 fu (n + 1) (lN a) (lN b) = if b = 0 then some (lN a) else p_X10_divisor_L6 fu n (lN b) (lN (a % b)) := by
  rw [p_X10_divisor_L6]
  by_cases g : b = 0
  · subst g
    rw [if_pos (show lg_cmp (lN 0) 0 = 0 from (lg_cmp_eq _ _).mpr rfl), if_pos rfl]
  · have h0 : ¬ lN b = 0 := fun z => g ((pk_lEQ hb (b := 0) (by decide)).mp z)
    rw [if_neg g, if_neg (fun z => h0 ((lg_cmp_eq _ _).mp z)), if_neg h0, pk_lRem ha (by omega) hb]
theorem g_half {a b k : Nat} (h : b < 2 ^ (k + 1)) (h0 : ¬ a % b = 0) (hb : ¬ b = 0) : b % (a % b) < 2 ^ k := by
  have h1 : a % b < b := Nat.mod_lt _ (by omega)
  have h2 : b % (a % b) < a % b := Nat.mod_lt _ (by omega)
  have h3 : b % (a % b) ≤ b - a % b := by
    rw [Nat.mod_eq_sub_mod (by omega)]
    exact Nat.mod_le _ _
  rw [Nat.pow_succ] at h
  omega
theorem cd_g (fu : Nat) : ∀ (k a b n i : Nat), b < 2 ^ k → k ≤ 63 → a < 2 ^ 63 → 2 * k + 1 ≤ n → i + (2 * k + 1) ≤ 200 → p_X9_commonDivisor_L3 fu n (lN a) (lN b) (nI i) = some (lN (Nat.gcd a b)) := by
  intro k
  induction k with
  | zero =>
    intro a b n i hb hk ha hn hi
    obtain ⟨m, rfl⟩ : ∃ m, n = m + 1 := ⟨n - 1, by omega⟩
    have : b = 0 := by omega
    subst this
    rw [cd_s fu m ha (by decide) (by omega), if_pos rfl, Nat.gcd_zero_right]
  | succ k ih =>
    intro a b n i hb hk ha hn hi
    obtain ⟨m, rfl⟩ : ∃ m, n = m + 1 + 1 := ⟨n - 2, by omega⟩
    have hb63 : b < 2 ^ 63 := Nat.lt_of_lt_of_le hb (Nat.pow_le_pow_right (by decide) hk)
    rw [cd_s fu (m + 1) ha hb63 (by omega)]
    by_cases g : b = 0
    · rw [if_pos g, g, Nat.gcd_zero_right]
    · have hr : a % b < 2 ^ 63 := Nat.lt_trans (Nat.mod_lt _ (by omega)) hb63
      rw [if_neg g, cd_s fu m hb63 hr (by omega), g_step a b]
      by_cases g1 : a % b = 0
      · rw [if_pos g1, g1, Nat.gcd_zero_right]
      · rw [if_neg g1, ih (a % b) (b % (a % b)) m (i + 1 + 1) (g_half hb g1 g) (by omega) hr (by omega) (by omega), g_step b (a % b)]
theorem rd_g (fu : Nat) : ∀ (k a b n : Nat), b < 2 ^ k → k ≤ 63 → a < 2 ^ 63 → 2 * k + 1 ≤ n → p_X10_divisor_L6 fu n (lN a) (lN b) = some (lN (Nat.gcd a b)) := by
  intro k
  induction k with
  | zero =>
    intro a b n hb hk ha hn
    obtain ⟨m, rfl⟩ : ∃ m, n = m + 1 := ⟨n - 1, by omega⟩
    have : b = 0 := by omega
    subst this
    rw [rd_s fu m ha (by decide), if_pos rfl, Nat.gcd_zero_right]
  | succ k ih =>
    intro a b n hb hk ha hn
    obtain ⟨m, rfl⟩ : ∃ m, n = m + 1 + 1 := ⟨n - 2, by omega⟩
    have hb63 : b < 2 ^ 63 := Nat.lt_of_lt_of_le hb (Nat.pow_le_pow_right (by decide) hk)
    rw [rd_s fu (m + 1) ha hb63]
    by_cases g : b = 0
    · rw [if_pos g, g, Nat.gcd_zero_right]
    · have hr : a % b < 2 ^ 63 := Nat.lt_trans (Nat.mod_lt _ (by omega)) hb63
      rw [if_neg g, rd_s fu m hb63 hr, g_step a b]
      by_cases g1 : a % b = 0
      · rw [if_pos g1, g1, Nat.gcd_zero_right]
      · rw [if_neg g1, ih (a % b) (b % (a % b)) m (g_half hb g1 g) (by omega) hr (by omega), g_step b (a % b)]
/-- the fraction told -/
theorem e_told (fu : Nat) (hf : 2000 ≤ fu) {a b : Nat} (ha : a < 2 ^ 63) (hb : b < 2 ^ 63) (h0 : 0 < b) (v : Int32) : p_X9_toldFraction fu (lN a) (lN b) v = some ((if v = 0 then lN a else lN b) / lN (Nat.gcd a b)) ∧ p_X10_divisor fu (lN a) (lN b) = some (lN (Nat.gcd a b)) ∧ ¬ lN (Nat.gcd a b) = 0 := by
  have hg : Nat.gcd a b < 2 ^ 63 := Nat.lt_of_le_of_lt (Nat.gcd_le_right a h0) hb
  have hp : 0 < Nat.gcd a b := Nat.gcd_pos_of_pos_right a h0
  have hn : ¬ lN (Nat.gcd a b) = 0 := fun z => by
    have := (pk_lEQ hg (b := 0) (by decide)).mp z
    omega
  have hc : 0 < lg_cmp (lN (Nat.gcd a b)) 0 := (lg_cmp_gt _ _).mpr ((pk_lLT (a := 0) (by decide) hg).mpr hp)
  refine ⟨?_, rd_g fu 63 a b fu hb (Nat.le_refl _) ha (by omega), hn⟩
  have e : p_X9_commonDivisor fu (lN a) (lN b) = some (lN (Nat.gcd a b)) := cd_g fu 63 a b fu 0 hb (Nat.le_refl _) ha (by omega) (by omega)
  unfold p_X9_toldFraction
  rw [e, Option.bind_some, if_pos hc, if_neg hn, if_neg hn]
  by_cases g : v = 0
  · rw [if_pos g, if_pos g]
  · rw [if_neg g, if_neg g]
/-- all that both need to know -/
theorem ch_env {x : Nat → Ob} {o s : Ob} (h : Rel x o) (a : AI o s) : ∃ l od sw g, CB l od sw g ∧ CX x l od sw g ∧ RX s l od sw g := by
  obtain ⟨g, hg, hb⟩ := rain_n h.w
  obtain ⟨l, od, sw, h1, h2, h3, e0, e1, e2⟩ := h.w.1.1
  refine ⟨l, od, sw, g, ⟨h1, h2, h3, hb⟩, ⟨?_, fun k hk => ?_, ?_, ?_⟩, ?_, fun k hk => ?_, ?_, ?_⟩
  · rw [h.2.1.2.1 0 (by omega), lvW, lv, e0, hg 0, nI_add]
  · rw [h.2.1.1 k hk, hg k]
  · rw [h.1.2.1.2.2.1, e1]
  · rw [h.1.2.1.2.2.2.1, e2]
  · rw [a.w, e0]
  · rw [a.2.1 k hk, hg k]
  · rw [a.w, e1]
  · rw [a.w, e2]
/-- what both tell of a step's level -/
theorem ch_w {l od sw : Nat} {g : Nat → Nat} (hB : CB l od sw g) {n : Nat} (hn : n ≤ 14) : sm (wq l od sw g n) 1300 = 10 ^ n ∧ 10 ^ n < 2 ^ 63 ∧ 0 < 10 ^ n ∧ (∀ k, sm (wq l od sw g n) k ≤ 10 ^ n) ∧ sm (fun k => k * wq l od sw g n k) 1300 = sm (fun k => k * wq l od sw g n k) (Tq l sw g n + 1) ∧ sm (fun k => k * wq l od sw g n k) (Tq l sw g n + 1) < 2 ^ 63 := by
  have ht := hB.t hn
  have e := wq_sm l sw g hB.2.1 n 1300 (by omega)
  have hp : 10 ^ n ≤ 10 ^ 14 := Nat.pow_le_pow_right (by decide) hn
  have hle : ∀ k, sm (wq l od sw g n) k ≤ 10 ^ n := fun k => by
    rcases Nat.lt_or_ge (Tq l sw g n) k with q | q
    · rw [wq_sm l sw g hB.2.1 n k q]; exact Nat.le_refl _
    · rw [← e]
      exact sm_mono _ 1300 (by omega)
  have ef : sm (fun k => k * wq l od sw g n k) 1300 = sm (fun k => k * wq l od sw g n k) (Tq l sw g n + 1) := sm_flat _ _ (by omega) (fun k h1 _ => by rw [wq_z l od sw g n k (by omega), Nat.mul_zero])
  have hb : sm (fun k => k * wq l od sw g n k) (Tq l sw g n + 1) ≤ 1300 * 10 ^ n := by
    rw [← e, ← sm_mul, ← ef]
    exact sm_le 1300 (fun k hk => Nat.mul_le_mul_right _ (by omega))
  exact ⟨e, by omega, Nat.pow_pos (by decide), hle, ef, by omega⟩
theorem e_hasCh (fu : Nat) {x : Nat → Ob} {o : Ob} (h : Rel x o) (v : Int32) : p_X9_hasChance fu x v = some (if nL (o.1 1) = 0 then 0 else ixq v 15) := by
  unfold p_X9_hasChance
  simp only [told0 h]
  split
  · rfl
  · unfold ixq
    rcases pk_ix v (n := 15) (by omega) with h1 | h1 | ⟨j, hj, rfl⟩
    · rw [if_pos h1, if_pos h1]
    · have h2 : (14 : Int32) < v := by
        have := Int32.le_iff_toInt_le.mp h1
        rw [nI_toInt (by omega)] at this
        rw [Int32.lt_iff_toInt_lt]
        show (14 : Int) < _
        omega
      rw [if_pos h1, if_pos h2]
      split <;> rfl
    · simp (disch := omega) only [inb_nI, inb_lit, cl_nI, cl_lit, nI_add, add_nl, add_ln, mul_ln, pk_mul, le_nn, lt_nn, eq_nn, le_nl, lt_nl, eq_nl, le_ln, lt_ln, eq_ln, eq_ll, lt_ll, le_ll, eq_nm1, eq_nm2, eq_nm3, eq_nm4]
      rw [if_neg (by omega), if_neg (by omega), if_neg (by omega), if_neg (by omega)]
/-- a number of 0 .. n, asked by two comparisons -/
theorem ifb {α : Type} (v : Int32) {n : Nat} (hn : n < 2147483000) (m : Int32) (hm : m = nI n) (A B : α) : (if v < 0 then A else if v ≤ m then B else A) = if ixq v (n + 1) = 0 then A else B := by
  subst hm
  unfold ixq
  rcases pk_ix v (n := n + 1) (by omega) with h1 | h1 | ⟨j, hj, rfl⟩
  · rw [if_pos h1, if_pos h1, if_pos rfl]
  · have z := Int32.le_iff_toInt_le.mp h1
    rw [nI_toInt (by omega)] at z
    have h2 : ¬ v ≤ nI n := by
      rw [Int32.le_iff_toInt_le, nI_toInt (by omega)]
      omega
    have h3 : ¬ v < 0 := by
      rw [Int32.lt_iff_toInt_lt]
      have : (0 : Int32).toInt = 0 := rfl
      omega
    rw [if_neg h3, if_neg h2, if_neg h3, if_pos h1, if_pos rfl]
  · have h3 : ¬ nI j < 0 := by rw [lt_nl (by omega) (by decide)]; omega
    rw [if_neg h3, if_neg h3, if_pos (show nI j ≤ nI n by rw [le_nn (by omega) (by omega)]; omega), if_neg (show ¬ nI (n + 1) ≤ nI j by rw [le_nn (by omega) (by omega)]; omega), if_neg (show ¬ (1 : Int32) = 0 by decide)]
theorem e_ref39 (fu : Nat) (hf : 2000 ≤ fu) (c : Ob → Int32 → Option (Int64 × Ob)) (o s : Ob) {l od sw : Nat} {g : Nat → Nat} (hX : RX o l od sw g) (hB : CB l od sw g) (hs : RM o s (wq l od sw g 0)) {n : Nat} (hn : n ≤ 14) (v2 : Int32) : ∃ t, p_X10_mean_L39 fu c fu s (nI n) v2 1 = c t v2 ∧ RM o t (wq l od sw g n) := by
  refine loop_to (fun m i s => p_X10_mean_L39 fu c m s (nI n) v2 (nI (i + 1))) n (fun i (s : Ob) => RM o s (wq l od sw g i)) (fun s => c s v2) ?_ ?_ fu 0 s (Nat.zero_le _) (by omega) hs
  · rintro m s -
    show p_X10_mean_L39 fu c (m + 1) s (nI n) v2 (nI (n + 1)) = _
    rw [p_X10_mean_L39, if_pos (show nI n < nI (n + 1) by rw [lt_nn (by omega) (by omega)]; omega)]
  · rintro m i s hi h
    obtain ⟨t, et, ht⟩ := e_stepW fu hf o s hX hB (n := i) (by omega) h
    refine ⟨t, ?_, ht⟩
    show p_X10_mean_L39 fu c (m + 1) s (nI n) v2 (nI (i + 1)) = p_X10_mean_L39 fu c m t (nI n) v2 (nI (i + 1 + 1))
    rw [p_X10_mean_L39, if_neg (show ¬ nI n < nI (i + 1) by rw [lt_nn (by omega) (by omega)]; omega), et, Option.bind_some, add_nl]
theorem e_ref52 (fu : Nat) (hf : 2000 ≤ fu) (c : Ob → Int32 → Int32 → Option (Int64 × Ob)) (o s : Ob) {l od sw : Nat} {g : Nat → Nat} (hX : RX o l od sw g) (hB : CB l od sw g) (hs : RM o s (wq l od sw g 0)) {n : Nat} (hn : n ≤ 14) (v2 v3 : Int32) : ∃ t, p_X10_chance_L52 fu c fu s (nI n) v2 v3 1 = c t v2 v3 ∧ RM o t (wq l od sw g n) := by
  refine loop_to (fun m i s => p_X10_chance_L52 fu c m s (nI n) v2 v3 (nI (i + 1))) n (fun i (s : Ob) => RM o s (wq l od sw g i)) (fun s => c s v2 v3) ?_ ?_ fu 0 s (Nat.zero_le _) (by omega) hs
  · rintro m s -
    show p_X10_chance_L52 fu c (m + 1) s (nI n) v2 v3 (nI (n + 1)) = _
    rw [p_X10_chance_L52, if_pos (show nI n < nI (n + 1) by rw [lt_nn (by omega) (by omega)]; omega)]
  · rintro m i s hi h
    obtain ⟨t, et, ht⟩ := e_stepW fu hf o s hX hB (n := i) (by omega) h
    refine ⟨t, ?_, ht⟩
    show p_X10_chance_L52 fu c (m + 1) s (nI n) v2 v3 (nI (i + 1)) = p_X10_chance_L52 fu c m t (nI n) v2 v3 (nI (i + 1 + 1))
    rw [p_X10_chance_L52, if_neg (show ¬ nI n < nI (i + 1) by rw [lt_nn (by omega) (by omega)]; omega), et, Option.bind_some, add_nl]
theorem e_ref60 (fu : Nat) (hf : 2000 ≤ fu) (c : Ob → Int32 → Int64 → Option (Int64 × Ob)) (o : Ob) {w : Nat → Nat} (h : ∀ k, k < 1300 → o.2 35 k = lN (w k)) (v2 : Int32) : p_X10_mean_L60 fu c fu o v2 0 0 = c o v2 (lN (sm (fun k => k * w k) 1300)) := by
  obtain ⟨s, es, rfl⟩ := loop_to (fun m i s => p_X10_mean_L60 fu c m o v2 s (nI i)) 1300 (fun i (s : Int64) => s = lN (sm (fun k => k * w k) i)) (fun s => c o v2 s) (by
    rintro m s -
    show p_X10_mean_L60 fu c (m + 1) o v2 s (nI 1300) = _
    rw [p_X10_mean_L60, if_pos (show (1300 : Int32) ≤ nI 1300 by decide)]) (by
    rintro m i s hi rfl
    refine ⟨lN (sm (fun k => k * w k) (i + 1)), ?_, rfl⟩
    show p_X10_mean_L60 fu c (m + 1) o v2 _ (nI i) = p_X10_mean_L60 fu c m o v2 _ (nI (i + 1))
    have ib : (inb (nI i) 1300 = true) := by rw [inb_nI (by omega) (by omega)]; trivial
    have li : (nI i).toInt64 = lN i := nI_l (by omega)
    rw [p_X10_mean_L60, if_neg (show ¬ (1300 : Int32) ≤ nI i by rw [le_ln (by decide) (by omega)]; omega), if_pos ib, cl_nI (by omega), h i hi, li, lN_mul, lN_add, add_nl, sm]) fu 0 0 (Nat.zero_le _) (by omega) rfl
  exact es
theorem ifb2 {α : Type} (v : Int32) {n : Nat} (hn : n < 2147483000) (m : Int32) (hm : m = nI n) (A B : α) : (if v < 0 then A else if m < v then A else B) = if ixq v (n + 1) = 0 then A else B := by
  rw [← ifb v hn m hm A B]
  split
  · rfl
  · by_cases g : v ≤ m
    · rw [if_pos g, if_neg (Int32.not_lt.mpr g)]
    · rw [if_neg g, if_pos (Int32.not_le.mp g)]
