/-! ===== fits, source, sources ===== -/
theorem snF_all (N : Nat → Int64) (W : Nat → Int32) : ∀ m i, snF N W i m = true → ∀ q, i ≤ q → q < i + m → W (N (2 * q)).toInt32.toNatClampNeg = (N (2 * q + 1)).toInt32 := by
  intro m
  induction m with
  | zero => intro i _ q h1 h2; omega
  | succ m ih =>
    intro i h q h1 h2
    rw [snF, Bool.and_eq_true, decide_eq_true_eq] at h
    by_cases e : q = i
    · rw [e]; exact h.1
    · exact ih (i + 1) h.2 q (by omega) (by omega)
theorem e_earliest (fu : Nat) {r : Ob} {n R : Nat} (hn : n ≤ 60) (er : r.1 2 0 = nI n) {N : Nat → Int64} (eN : ∀ i, i < 60 → r.2 3 i = N i) :
    ∀ m i f E, 2 * (i + m) = n → m < f → tel N R i m → E ≤ 60 → ∃ E', E' ≤ E ∧ p_X3_earliestStep_L5 fu r f (nI E) (nI (2 * i)) = some (nI E') ∧ (E' = E ∨ ∃ q, i ≤ q ∧ q < i + m ∧ N (2 * q) = (nI E').toInt64) := by
  intro m
  induction m with
  | zero =>
    intro i f E h1 h2 h3 hE
    obtain ⟨c, rfl⟩ : ∃ c, f = c + 1 := ⟨f - 1, by omega⟩
    refine ⟨E, Nat.le_refl _, ?_, Or.inl rfl⟩
    rw [p_X3_earliestStep_L5]
    simp (disch := omega) only [inb_nI, inb_lit, cl_nI, cl_lit, nI_add, add_nl, add_ln, mul_ln, pk_mul, le_nn, lt_nn, eq_nn, le_nl, lt_nl, eq_nl, le_ln, lt_ln, eq_ln, eq_ll, lt_ll, le_ll, eq_nm1, eq_nm2, eq_nm3, eq_nm4, Option.bind_some, ↓reduceIte, if_true, if_false, Nat.reduceEqDiff, Nat.reduceAdd, Nat.reduceMul, Nat.reduceLT, Nat.reduceLeDiff, er, show n ≤ 2 * i by omega]
  | succ m ih =>
    intro i f E h1 h2 h3 hE
    obtain ⟨c, rfl⟩ : ∃ c, f = c + 1 := ⟨f - 1, by omega⟩
    obtain ⟨a, b, ha, hb, ea, eb⟩ := h3 i (by omega) (by omega)
    rw [p_X3_earliestStep_L5]
    simp (disch := omega) only [inb_nI, inb_lit, cl_nI, cl_lit, nI_add, add_nl, add_ln, mul_ln, pk_mul, le_nn, lt_nn, eq_nn, le_nl, lt_nl, eq_nl, le_ln, lt_ln, eq_ln, eq_ll, lt_ll, le_ll, eq_nm1, eq_nm2, eq_nm3, eq_nm4, Option.bind_some, ↓reduceIte, if_true, if_false, Nat.reduceEqDiff, Nat.reduceAdd, Nat.reduceMul, Nat.reduceLT, Nat.reduceLeDiff, er, show ¬ n ≤ 2 * i by omega, e_number, eN, ea, l_i32]
    by_cases g : a < E
    · obtain ⟨E', g1, g2, g3⟩ := ih (i + 1) c a (by omega) (by omega) (fun q h4 h5 => h3 q (by omega) (by omega)) (by omega)
      refine ⟨E', by omega, ?_, Or.inr ?_⟩
      · simp only [g, if_true]; exact g2
      · rcases g3 with rfl | ⟨q, q1, q2, q3⟩
        · exact ⟨i, by omega, by omega, ea⟩
        · exact ⟨q, by omega, by omega, q3⟩
    · obtain ⟨E', g1, g2, g3⟩ := ih (i + 1) c E (by omega) (by omega) (fun q h4 h5 => h3 q (by omega) (by omega)) hE
      refine ⟨E', by omega, ?_, ?_⟩
      · simp only [g, if_false]; exact g2
      · rcases g3 with rfl | ⟨q, q1, q2, q3⟩
        · exact Or.inl rfl
        · exact Or.inr ⟨q, by omega, by omega, q3⟩
theorem sn_late {P : PP} {r s n R m E q : Nat} {N : Nat → Int64} (T : tel N R 0 m) (hR : R ≤ 10) (hq : q < m) (e : N (2 * q) = (nI E).toInt64) (hE : E ≤ 60) (hs : E < s) : snF N (wh P r s) 0 m = false := by
  cases g : snF N (wh P r s) 0 m
  · rfl
  · exfalso
    have h := snF_all N (wh P r s) m 0 g q (by omega) (by omega)
    obtain ⟨a, b, ha, hb, ea, eb⟩ := T q (by omega) (by omega)
    rw [e, eb, l_i32 (by omega), l_i32 (by omega), show (nI E).toNatClampNeg = E by simp (disch := omega) only [cl_nI]] at h
    unfold wh at h
    rw [if_pos hs] at h
    have := congrArg Int32.toInt h
    rw [nI_toInt (by omega)] at this
    have e2 : (-4 : Int32).toInt = -4 := rfl
    omega
theorem n2_0 : (-2 : Int32) = nI 0 + (-2) := by decide
theorem n2_1 : (-1 : Int32) = nI 1 + (-2) := by decide
theorem n2_k : ∀ k : Fin 10, nI k.1 = nI (k.1 + 2) + (-2) := by decide
theorem wh_b : ∀ k : Fin 10, vp_nar .byte ((nI k.1).toInt8.toInt32) = nI k.1 := by decide
theorem wh_4 : vp_nar .byte ((-4 : Int32).toInt8.toInt32) = -4 := by decide
theorem wh_1 : vp_nar .byte ((-1 : Int32).toInt8.toInt32) = -1 := by decide
/-- which spots there are: not yet, the sea, a reach -/
theorem pth_in {P : PP} (h : OKP P) (h0 : P.2.2.2.2.2 = 0) {r : Nat} (hr : r < nR P.1) (s k : Nat) : (pth P r s k).1 = -1 ∨ ∃ q, q < 10 ∧ (pth P r s k).1 = nI q := by
  have hR := h.1.2.1.1
  rcases (pth_ok P h hr s k).1 with e | e | ⟨q, hq, e⟩
  · rcases pth_np P h0 (r := r) s k with g | g | g
    · exact absurd e g
    · exact absurd h g
    · exact absurd hr g
  · exact Or.inl e
  · exact Or.inr ⟨q, by omega, e⟩
theorem wc_sort {P : PP} (h : OKP P) (h0 : P.2.2.2.2.2 = 0) {r : Nat} (hr : r < nR P.1) (s k : Nat) : ∃ v, v < 12 ∧ wc P r s k = nI v + (-2) := by
  unfold wc
  split
  · exact ⟨0, by omega, n2_0⟩
  · rcases pth_in h h0 hr s (k - s) with e | ⟨q, hq, e⟩
    · exact ⟨1, by omega, e.trans n2_1⟩
    · exact ⟨q + 2, by omega, e.trans (n2_k ⟨q, hq⟩)⟩
theorem wh_nar {P : PP} (h : OKP P) (h0 : P.2.2.2.2.2 = 0) {r : Nat} (hr : r < nR P.1) (s k : Nat) : vp_nar .byte ((wh P r s k).toInt8.toInt32) = wh P r s k := by
  unfold wh
  split
  · exact wh_4
  · rcases pth_in h h0 hr s (k - s) with e | ⟨q, hq, e⟩
    · rw [e]; exact wh_1
    · rw [e]; exact wh_b ⟨q, hq⟩
theorem pl_n2 {A v : Nat} : nI A + (nI v + (-2)) - (-2) = nI (A + v) := by
  rw [← Int32.add_assoc, Int32.add_sub_cancel]
  exact nI_add A v
theorem n2_inj {a b : Nat} (ha : a < 2147483648) (hb : b < 2147483648) (h : nI a + (-2) = nI b + (-2)) : a = b := by
  have e : nI a = nI b := by
    have := congrArg (fun z => z - (-2 : Int32)) h
    simp only [Int32.add_sub_cancel] at this
    exact this
  have := congrArg Int32.toInt e
  rw [nI_toInt ha, nI_toInt hb] at this
  omega
theorem mul_n12 (i : Nat) : nI i * 12 = nI (12 * i) := by
  have e : nI 12 * nI i = nI (12 * i) := (Int32.ofNat_mul 12 i).symm
  rw [← e, Int32.mul_comm]
  rfl
theorem e_noteS (fu m : Nat) {y : Ob} (t : Ob) {i v : Nat} (hi : i < 61) (hv : v < 12) (ev : y.1 0 i = nI v + (-2)) :
    p_X4_note_L2 fu y (m + 1) t (nI i) = p_X4_note_L2 fu y m (oA t 3 (upd (t.1 3) (12 * i + v) (t.1 3 (12 * i + v) + 1))) (nI (i + 1)) := by
  rw [p_X4_note_L2, if_neg (show ¬ (60 : Int32) < nI i by rw [lt_ln (by decide) (by omega)]; omega), e_spotAt fu y hi, Option.bind_some, ev, mul_n12, pl_n2, e_pick fu (t.1 3) (show 12 * i + v < 732 by omega) (by decide), Option.bind_some, e_put fu (t.1 3) _ (show 12 * i + v < 732 by omega) (by decide), Option.bind_some, show nI i + 1 = nI (i + 1) from nI_add i 1]
theorem e_note (fu : Nat) (hf : 2000 ≤ fu) {P : PP} (h : OKP P) (h0 : P.2.2.2.2.2 = 0) {r s : Nat} (hr : r < nR P.1) {y : Ob} (dy : DSt P r s y) (F : Ob) :
    ∃ G, p_X4_note fu F y = some G ∧ FR [3] F G ∧ ∀ q v, q < 61 → v < 12 → G.1 3 (12 * q + v) = if wc P r s q = nI v + (-2) then F.1 3 (12 * q + v) + 1 else F.1 3 (12 * q + v) := by
  unfold p_X4_note
  obtain ⟨G, e, q1, q2⟩ := loop_inv (fun m i t => p_X4_note_L2 fu y m t (nI i)) 61 (fun i t => FR [3] F t ∧ ∀ q v, q < 61 → v < 12 → t.1 3 (12 * q + v) = if q < i ∧ wc P r s q = nI v + (-2) then F.1 3 (12 * q + v) + 1 else F.1 3 (12 * q + v)) (fun G => FR [3] F G ∧ ∀ q v, q < 61 → v < 12 → G.1 3 (12 * q + v) = if wc P r s q = nI v + (-2) then F.1 3 (12 * q + v) + 1 else F.1 3 (12 * q + v)) (by
    rintro m t ⟨h1, h2⟩
    refine ⟨t, ?_, h1, fun q v hq hv => ?_⟩
    · show p_X4_note_L2 fu y (m + 1) t (nI 61) = _
      rw [p_X4_note_L2]
      simp (disch := omega) only [inb_nI, inb_lit, cl_nI, cl_lit, nI_add, add_nl, add_ln, mul_ln, pk_mul, le_nn, lt_nn, eq_nn, le_nl, lt_nl, eq_nl, le_ln, lt_ln, eq_ln, eq_ll, lt_ll, le_ll, eq_nm1, eq_nm2, eq_nm3, eq_nm4, Option.bind_some, ↓reduceIte, if_true, if_false, Nat.reduceEqDiff, Nat.reduceAdd, Nat.reduceMul, Nat.reduceLT, Nat.reduceLeDiff]
    · rw [h2 q v hq hv]
      simp only [hq, true_and]) (by
    rintro m i t hi ⟨h1, h2⟩
    right
    obtain ⟨v, hv, ev⟩ := wc_sort h h0 hr s i
    refine ⟨oA t 3 (upd (t.1 3) (12 * i + v) (t.1 3 (12 * i + v) + 1)), ?_, h1.A (by decide) _, fun q u hq hu => ?_⟩
    · exact e_noteS fu m t hi hv ((dy.1 i hi).trans ev)
    · simp only [oA_1, oI_1, oLA_1, oL_1, oA_2, oI_2, oLA_2, oL_2, up_v, upd_v, updL_v, Option.bind_some, ↓reduceIte, if_true, if_false, Nat.reduceEqDiff, Nat.reduceAdd, Nat.reduceMul, Nat.reduceLT, Nat.reduceLeDiff]
      by_cases g : q = i
      · subst g
        by_cases g2 : u = v
        · subst g2
          rw [if_pos rfl, h2 q u hq hu, if_neg (show ¬ (q < q ∧ _) from fun z => absurd z.1 (Nat.lt_irrefl _)), if_pos ⟨Nat.lt_succ_self q, ev⟩]
        · rw [if_neg (by omega), h2 q u hq hu, if_neg (show ¬ (q < q ∧ _) from fun z => absurd z.1 (Nat.lt_irrefl _)), if_neg (fun z => g2 (n2_inj (by omega) (by omega) (z.2.symm.trans ev)))]
      · rw [if_neg (by omega), h2 q u hq hu]
        have : (q < i + 1 ∧ wc P r s q = nI u + (-2)) = (q < i ∧ wc P r s q = nI u + (-2)) := by
          apply propext
          constructor
          · rintro ⟨z1, z2⟩; exact ⟨by omega, z2⟩
          · rintro ⟨z1, z2⟩; exact ⟨by omega, z2⟩
        simp only [this]) fu 0 F (Nat.zero_le _) (by omega) ⟨FR.rf, fun q v hq hv => by rw [if_neg (fun z => absurd z.1 (Nat.not_lt_zero _))]⟩
  exact ⟨G, e, q1, q2⟩
