/-! ===== both take tokens ===== -/
/-- the text's tokens: c of them, and its end -/
def EV (B : Nat → Nat) (n : Nat) (k : Ob) (c : Nat) : Prop := n ≤ 700 ∧ c ≤ n ∧ tkp B n c = n ∧ (∀ j, j < c → tkp B n j < n) ∧ TKs k B n (c + 1)
/-- no fault yet; token i is next -/
def GO (B : Nat → Nat) (n : Nat) (k : Ob) (c i : Nat) (o r : Ob) : Prop := i ≤ c ∧ o.1 2 0 = 0 ∧ o.1 5 0 = nI i ∧ o.1 4 0 = k.1 0 i ∧ r.1 12 0 = 0 ∧ r.1 13 0 = -1 ∧ RB r B n ∧ AT B n (tkp B n i) r
/-- a fault, the same on both sides -/
def BO (B : Nat → Nat) (n c : Nat) (o r : Ob) : Prop := ∃ i f, i ≤ c ∧ (f = 1 ∨ f = 2 ∨ f = 3) ∧ o.1 2 0 = nI f ∧ o.1 5 0 = nI i ∧ r.1 12 0 = nI f ∧ r.1 13 0 = nI (tkp B n i)
theorem BO.o {B : Nat → Nat} {n c : Nat} {o r : Ob} (h : BO B n c o r) : ¬ o.1 2 0 = 0 := by
  obtain ⟨i, f, -, hf, e, -⟩ := h
  rw [e]
  rcases hf with rfl | rfl | rfl <;> decide
theorem BO.r {B : Nat → Nat} {n c : Nat} {o r : Ob} (h : BO B n c o r) : ¬ r.1 12 0 = 0 := by
  obtain ⟨i, f, -, hf, -, -, e, -⟩ := h
  rw [e]
  rcases hf with rfl | rfl | rfl <;> decide
theorem GO.nb {B : Nat → Nat} {n c i : Nat} {k o r : Ob} (h : GO B n k c i o r) : ¬ BO B n c o r := fun z => z.o h.2.1
abbrev RF : List Nat := [8, 9, 10, 11, 12, 13]
theorem i10 : ((1 : Int32) = 0) = False := eq_false (by decide)
theorem c_takeB (fu : Nat) (o k v : Ob) (w : Int32) (h : ¬ o.1 2 0 = 0) : p_X1_take fu o k v w = some (o, k, v) := by
  unfold p_X1_take p_X1_blame p_X1_take_J13
  by_cases g : o.1 4 0 = w
  · rw [if_pos g, if_neg h]
  · simp only [if_neg g, if_neg h, Option.bind_some]
theorem c_takeN (fu : Nat) (o k v : Ob) (w : Int32) (h : o.1 2 0 = 0) (g : ¬ o.1 4 0 = w) : p_X1_take fu o k v w = some (oI o 2 1, k, v) := by
  have h2 : ¬ (oI o 2 1).1 2 0 = 0 := (by decide : ¬ (1 : Int32) = 0)
  unfold p_X1_take p_X1_blame p_X1_take_J13
  simp only [if_neg g, if_pos h, Option.bind_some, if_neg h2]
theorem c_takeY (fu : Nat) (o k v : Ob) (w : Int32) {i : Nat} (h : o.1 2 0 = 0) (g : o.1 4 0 = w) (h5 : o.1 5 0 = nI i) (hi : i + 1 < 701) : ∃ s, p_X1_take fu o k v w = some (s, k, v) ∧ s.1 2 0 = 0 ∧ s.1 5 0 = nI (i + 1) ∧ s.1 4 0 = k.1 0 (i + 1) := by
  unfold p_X1_take p_X1_take_J13
  rw [if_pos g, if_pos h, h5, add_nl, show (oI o 5 (nI (i + 1))).1 5 0 = nI (i + 1) from rfl, e_pick fu _ hi (by omega), Option.bind_some]
  exact ⟨_, rfl, h, rfl, rfl⟩
theorem r_errs (fu : Nat) (r : Ob) (v : Int32) (h : r.1 12 0 = 0) : ∃ s, p_X10_errs fu r v = some s ∧ FR RF r s ∧ s.1 12 0 = v ∧ s.1 13 0 = r.1 9 0 := by
  unfold p_X10_errs p_X10_good
  rw [if_pos h, Option.bind_some, if_neg (by decide)]
  exact ⟨_, rfl, (FR.rf.I (by decide) _).I (by decide) _, rfl, rfl⟩
theorem r_errsB (fu : Nat) (r : Ob) (v : Int32) (h : ¬ r.1 12 0 = 0) : p_X10_errs fu r v = some r := by
  unfold p_X10_errs p_X10_good
  rw [if_neg h, Option.bind_some, if_pos rfl]
theorem r_good (fu : Nat) (r : Ob) : p_X10_good fu r = some (if r.1 12 0 = 0 then 1 else 0) := by
  unfold p_X10_good
  split <;> rfl
theorem GO.p {B : Nat → Nat} {n c i : Nat} {k o r : Ob} (E : EV B n k c) (h : GO B n k c i o r) : KD B n (tkp B n i) (o.1 4 0) ∧ (o.1 4 0 = 2 → k.1 2 i = nI (NV B n 1000 (tkp B n i))) ∧ (tkp B n i < n → i < c) := by
  have ht := E.2.2.2.2 i (by have := h.1; omega)
  rw [h.2.2.2.1]
  refine ⟨ht.1, ht.2.2, fun z => ?_⟩
  rcases Nat.lt_or_ge i c with q | q
  · exact q
  · have e : i = c := by have := h.1; omega
    rw [e, E.2.2.1] at z
    omega
/-- the reference goes on to the next token -/
theorem r_adv (fu : Nat) (hf : 2000 ≤ fu) {B : Nat → Nat} {n c i : Nat} {k o r : Ob} (E : EV B n k c) (h : GO B n k c i o r) (hp : tkp B n i < n) : ∃ s, p_X10_advance fu r = some s ∧ FR RF r s ∧ s.1 12 0 = 0 ∧ s.1 13 0 = -1 ∧ RB s B n ∧ AT B n (tkp B n (i + 1)) s := by
  obtain ⟨h1, h2, h3, h4, h5, h6, h7, h8⟩ := h
  have e8 := h8.2.2.1
  rw [if_pos hp] at e8
  obtain ⟨s, es, F, A⟩ := e_adv fu hf r h7 (nxt_le B hp) e8
  exact ⟨s, es, F.mono (by decide), by rw [F.f1 12 (by decide)]; exact h5, by rw [F.f1 13 (by decide)]; exact h6, h7.kp F (by decide) (by decide), A⟩
/-- one fault, on both sides -/
theorem BO.mk {B : Nat → Nat} {n c i : Nat} {k o r s t : Ob} (h : GO B n k c i o r) {f : Nat} (hf : f = 1 ∨ f = 2 ∨ f = 3) (h2 : s.1 2 0 = nI f) (h5 : s.1 5 0 = o.1 5 0) (t12 : t.1 12 0 = nI f) (t13 : t.1 13 0 = r.1 9 0) : BO B n c s t :=
  ⟨i, f, h.1, hf, h2, by rw [h5]; exact h.2.2.1, t12, by rw [t13]; exact h.2.2.2.2.2.2.2.2.1⟩
/-- a word is needed -/
theorem st_needs (fu : Nat) (hf : 2000 ≤ fu) {B : Nat → Nat} {n c a : Nat} {k o r : Ob} (v : Ob) (E : EV B n k c) (h : BO B n c o r ∨ ∃ i, a ≤ i ∧ GO B n k c i o r) {w : Nat} (hw : w < 13) : ∃ s t, p_X1_take fu o k v (kw w) = some (s, k, v) ∧ p_X10_needs fu r w = some t ∧ FR RF r t ∧ (BO B n c s t ∨ ((∃ i, a + 1 ≤ i ∧ GO B n k c i s t) ∧ ¬ BO B n c o r)) := by
  unfold p_X10_needs p_X10_takes
  rcases h with h | ⟨i, hi, h⟩
  · refine ⟨o, r, c_takeB fu o k v _ h.o, ?_, FR.rf, Or.inl h⟩
    simp only [e_isN fu hf r hw h.r, Option.bind_some, if_true, true_or, r_errsB fu r _ h.r]
  · obtain ⟨hK, -, hc⟩ := h.p E
    obtain ⟨b, hb, eb⟩ := e_is fu hf h.2.2.2.2.2.2.1 h.2.2.2.2.2.2.2 h.2.2.2.2.1 hw
    have hbk := hb.trans (KD_w hK hw).symm
    have hn := E.1
    have hcn := E.2.1
    cases b with
    | true =>
      have eb1 : p_X10_is fu r w = some 1 := eb
      have g := hbk.mp rfl
      have hp := (hb.mp rfl).1
      have hic := hc hp
      obtain ⟨s, es, s2, s5, s4⟩ := c_takeY fu o k v (kw w) h.2.1 g h.2.2.1 (by omega)
      obtain ⟨t, et, F, t12, t13, tB, tA⟩ := r_adv fu hf E h hp
      refine ⟨s, t, es, ?_, F, Or.inr ⟨⟨i + 1, by omega, by omega, s2, s5, s4, t12, t13, tB, tA⟩, h.nb⟩⟩
      simp only [eb1, Option.bind_some, i10, if_false, if_true, or_true, et]
    | false =>
      have eb1 : p_X10_is fu r w = some 0 := eb
      have g : ¬ o.1 4 0 = kw w := fun z => by have := hbk.mpr z; cases this
      obtain ⟨t, et, F, t12, t13⟩ := r_errs fu r 1 h.2.2.2.2.1
      refine ⟨oI o 2 1, t, c_takeN fu o k v _ h.2.1 g, ?_, F, Or.inl (BO.mk h (f := 1) (Or.inl rfl) rfl rfl t12 t13)⟩
      simp only [eb1, Option.bind_some, if_true, true_or, et]
/-- the sign at a line's end, as the class takes it -/
theorem c_takeV (fu : Nat) (o k v : Ob) (w : Int32) {i : Nat} (h5 : o.1 5 0 = nI i) (hi : i + 1 < 701) : ∃ s, p_X1_take fu o k v w = some (s, k, v) := by
  by_cases h : o.1 2 0 = 0
  · by_cases g : o.1 4 0 = w
    · obtain ⟨s, es, -⟩ := c_takeY fu o k v w h g h5 hi
      exact ⟨s, es⟩
    · exact ⟨_, c_takeN fu o k v w h g⟩
  · exact ⟨_, c_takeB fu o k v w h⟩
theorem cap_in {M m : Nat} (h : M < 1000) : cap 1000 M = M := by unfold cap; rw [if_pos h]
/-- a number of lo .. hi -/
theorem st_num (fu : Nat) (hf : 2000 ≤ fu) {B : Nat → Nat} {n c a : Nat} {k o r : Ob} (v : Ob) (E : EV B n k c) (h : BO B n c o r ∨ ∃ i, a ≤ i ∧ GO B n k c i o r) {lo : Nat} (hlo : lo < 100) (hi1 hi2 : Int32) (hh : BO B n c o r ∨ (hi2 = hi1 ∧ hi1.toInt < 100)) : ∃ y s y' t, p_X1_takeValue fu o k v (nI lo) hi1 = some (y, s, k, v) ∧ p_X10_number fu r (nI lo) hi2 = some (y', t) ∧ FR RF r t ∧ (BO B n c s t ∨ ((∃ i, a + 1 ≤ i ∧ GO B n k c i s t) ∧ (∃ N, lo ≤ N ∧ N < 100 ∧ nI N ≤ hi1 ∧ y = nI N ∧ y' = nI N) ∧ ¬ BO B n c o r)) := by
  unfold p_X1_takeValue p_X10_number
  rcases h with h | ⟨i, hi, h⟩
  · obtain ⟨i, f, hic, hf', o2, o5, r12, r13⟩ := id h
    have hn := E.1
    have hcn := E.2.1
    have cb := c_takeB fu o k v 2 h.o
    have J38 : ∀ y, p_X1_takeValue_J38 fu o k v y = some (y, o, k, v) := fun y => by unfold p_X1_takeValue_J38; simp only [cb, Option.bind_some]
    have J33 : ∀ y, p_X1_takeValue_J33 fu o k v y = some (y, o, k, v) := fun y => by
      unfold p_X1_takeValue_J33 p_X1_blame
      rw [if_neg h.o, Option.bind_some]
      exact J38 y
    have J47 : p_X10_number_J47 fu r = some (0, r) := by unfold p_X10_number_J47; rw [r_good, Option.bind_some, if_neg h.r, if_pos rfl]
    have J20 : p_X10_number_J20 fu r (nI lo) hi2 = some (0, r) := by unfold p_X10_number_J20; rw [r_good, Option.bind_some, if_neg h.r, if_pos rfl, J47]
    refine ⟨k.1 2 i, o, 0, r, ?_, ?_, FR.rf, Or.inl h⟩
    · rw [o5, e_pick fu _ (show i < 701 by omega) (by omega), Option.bind_some]
      simp only [J38, J33, ite_self]
    · rw [r_good, Option.bind_some, if_neg h.r, if_pos rfl, J20]
  · obtain ⟨hK, hV, hc⟩ := h.p E
    have hn := E.1
    have hcn := E.2.1
    have hic := h.1
    have r12 := h.2.2.2.2.1
    rw [h.2.2.1, e_pick fu _ (show i < 701 by omega) (by omega), Option.bind_some, r_good, Option.bind_some, if_pos r12, if_neg (show ¬ (1 : Int32) = 0 by decide)]
    by_cases g : o.1 4 0 = 2
    · obtain ⟨hp, hle, hdi⟩ := (KD_2 hK).mp g
      have hic' := hc hp
      have g2 : r.1 10 0 = 2 := (AT_2 h.2.2.2.2.2.2.2).mpr ⟨hp, hle, hdi⟩
      have hv : r.1 11 0 = nI (NV B n 99999 (tkp B n i)) := by
        rcases h.2.2.2.2.2.2.2.2.2.2 with ⟨h1, e⟩ | ⟨h1, h2, e⟩ | ⟨h1, h2, h3, e, e'⟩ | ⟨h1, h2, h3, e⟩
        · omega
        · rw [hle] at h2; cases h2
        · exact e'
        · rw [hdi] at h3; cases h3
      obtain ⟨e2, hi100⟩ : hi2 = hi1 ∧ hi1.toInt < 100 := hh.resolve_left h.nb
      have h48 : ∀ q, q < nxt B n (tkp B n i) - tkp B n i → 48 ≤ B (tkp B n i + q) := fun q hq => by
        have ex : nxt B n (tkp B n i) = run B n isDi (tkp B n i) := by unfold nxt; rw [hle, if_neg (by decide), if_pos hdi, run_go hp hdi]
        exact (of_decide_eq_true (run_in B n isDi (tkp B n i) _ (Nat.le_add_right _ _) (by omega)).2).1
      have hcap : NV B n 1000 (tkp B n i) = cap 1000 (NV B n 99999 (tkp B n i)) := nuv_c B _ _ h48
      have hMb : NV B n 99999 (tkp B n i) ≤ 99999 := nuv_b _ _ _ _
      rw [hV g, hcap]
      generalize NV B n 99999 (tkp B n i) = M at hv hMb ⊢
      have hcb : cap 1000 M ≤ 1000 := by unfold cap; split <;> omega
      rw [if_pos g, if_pos g2]
      unfold p_X10_number_J20
      rw [r_good, Option.bind_some, if_pos r12, if_neg (show ¬ (1 : Int32) = 0 by decide), hv, e2, e_in, Option.bind_some]
      simp only [lt_nn (show cap 1000 M < 2147483648 by omega) (show lo < 2147483648 by omega), lt_nn (show M < 2147483648 by omega) (show lo < 2147483648 by omega)]
      -- a fault of its number
      have bad : ∃ s t, p_X1_takeValue_J33 fu o k v (nI (cap 1000 M)) = some (nI (cap 1000 M), s, k, v) ∧ ((p_X10_errs fu r 2).bind fun r_44 => p_X10_number_J47 fu r_44) = some (0, t) ∧ FR RF r t ∧ BO B n c s t := by
        obtain ⟨t, et, F, t12, t13⟩ := r_errs fu r 2 r12
        have n12 : ¬ t.1 12 0 = 0 := by rw [t12]; decide
        have n2 : ¬ (oI o 2 2).1 2 0 = 0 := (by decide : ¬ (2 : Int32) = 0)
        refine ⟨oI o 2 2, t, ?_, ?_, F, BO.mk h (f := 2) (Or.inr (Or.inl rfl)) rfl rfl t12 t13⟩
        · unfold p_X1_takeValue_J33 p_X1_blame
          rw [if_pos h.2.1, Option.bind_some]
          show p_X1_takeValue_J38 fu (oI o 2 2) k v _ = _
          unfold p_X1_takeValue_J38
          simp only [c_takeB fu _ k v 2 n2, Option.bind_some]
        · rw [et, Option.bind_some]
          unfold p_X10_number_J47
          rw [r_good, Option.bind_some, if_neg n12, if_pos rfl]
      obtain ⟨bs, bt, b1, b2, b3, b4⟩ := bad
      by_cases c1 : M < lo
      · have c1' : cap 1000 M < lo := by unfold cap; split <;> omega
        rw [if_pos c1, if_pos c1', if_pos rfl]
        exact ⟨_, bs, _, bt, b1, b2, b3, Or.inl b4⟩
      · have c1' : ¬ cap 1000 M < lo := by unfold cap; split <;> omega
        rw [if_neg c1, if_neg c1']
        by_cases c2 : hi1 < nI M
        · have c2' : ¬ nI (cap 1000 M) ≤ hi1 := by
            rw [Int32.le_iff_toInt_le, nI_toInt (by omega)]
            have := Int32.lt_iff_toInt_lt.mp c2
            rw [nI_toInt (by omega)] at this
            unfold cap
            split <;> omega
          rw [if_pos c2, if_neg c2', if_pos rfl]
          exact ⟨_, bs, _, bt, b1, b2, b3, Or.inl b4⟩
        · have hM : (M : Int) ≤ hi1.toInt := by
            have := Int32.not_lt.mp c2
            rw [Int32.le_iff_toInt_le, nI_toInt (by omega)] at this
            exact this
          have hM100 : M < 100 := by omega
          have ec : cap 1000 M = M := by unfold cap; rw [if_pos (by omega)]
          have c2' : nI M ≤ hi1 := Int32.not_lt.mp c2
          rw [if_neg c2, if_neg (show ¬ (1 : Int32) = 0 by decide), ec, if_pos c2']
          obtain ⟨s, es, s2, s5, s4⟩ := c_takeY fu o k v 2 h.2.1 g h.2.2.1 (by omega)
          obtain ⟨t, et, F, t12, t13, tB, tA⟩ := r_adv fu hf E h hp
          refine ⟨nI M, s, nI M, t, ?_, ?_, F, Or.inr ⟨⟨i + 1, by omega, by omega, s2, s5, s4, t12, t13, tB, tA⟩, ⟨M, by omega, hM100, c2', rfl, rfl⟩, h.nb⟩⟩
          · unfold p_X1_takeValue_J38
            simp only [es, Option.bind_some]
          · unfold p_X10_number_J47
            rw [r_good, Option.bind_some, if_pos r12, if_neg (show ¬ (1 : Int32) = 0 by decide), et, Option.bind_some, hv]
    · have g2 : ¬ r.1 10 0 = 2 := fun z => g ((KD_2 hK).mpr ((AT_2 h.2.2.2.2.2.2.2).mp z))
      rw [if_neg g, if_neg g2]
      obtain ⟨t, et, F, t12, t13⟩ := r_errs fu r 1 r12
      have n12 : ¬ t.1 12 0 = 0 := by rw [t12]; decide
      have J47 : p_X10_number_J47 fu t = some (0, t) := by unfold p_X10_number_J47; rw [r_good, Option.bind_some, if_neg n12, if_pos rfl]
      refine ⟨k.1 2 i, oI o 2 1, 0, t, ?_, ?_, F, Or.inl (BO.mk h (f := 1) (Or.inl rfl) rfl rfl t12 t13)⟩
      · unfold p_X1_takeValue_J38
        simp only [c_takeN fu o k v 2 h.2.1 g, Option.bind_some]
      · rw [et, Option.bind_some]
        unfold p_X10_number_J20
        rw [r_good, Option.bind_some, if_neg n12, if_pos rfl, J47]
/-- a word, and a number behind it -/
theorem st_told (fu : Nat) (hf : 2000 ≤ fu) {B : Nat → Nat} {n c a : Nat} {k o r : Ob} (v : Ob) (E : EV B n k c) (h : BO B n c o r ∨ ∃ i, a ≤ i ∧ GO B n k c i o r) {w : Nat} (hw : w < 13) {lo : Nat} (hlo : lo < 100) (hi1 hi2 : Int32) (hh : BO B n c o r ∨ (hi2 = hi1 ∧ hi1.toInt < 100)) : ∃ y s y' t, p_X1_takeNumber fu o k v (kw w) (nI lo) hi1 = some (y, s, k, v) ∧ p_X10_told fu r w (nI lo) hi2 = some (y', t) ∧ FR RF r t ∧ (BO B n c s t ∨ ((∃ i, a + 1 ≤ i ∧ GO B n k c i s t) ∧ (∃ N, lo ≤ N ∧ N < 100 ∧ nI N ≤ hi1 ∧ y = nI N ∧ y' = nI N) ∧ ¬ BO B n c o r)) := by
  obtain ⟨s1, t1, es1, et1, F1, h1⟩ := st_needs fu hf v E h hw
  have h1' : BO B n c s1 t1 ∨ ∃ i, a + 1 ≤ i ∧ GO B n k c i s1 t1 := h1.imp id (fun z => z.1)
  have hh' : BO B n c s1 t1 ∨ (hi2 = hi1 ∧ hi1.toInt < 100) := by
    rcases h1 with z | z
    · exact Or.inl z
    · exact Or.inr (hh.resolve_left z.2)
  obtain ⟨y, s, y', t, es, et, F, h2⟩ := st_num fu hf v E h1' hlo hi1 hi2 hh'
  refine ⟨y, s, y', t, ?_, ?_, F1.tr F, ?_⟩
  · unfold p_X1_takeNumber
    simp only [es1, es, Option.bind_some]
  · unfold p_X10_told
    simp only [et1, et, Option.bind_some]
  · rcases h2 with z | ⟨⟨i, hi, z1⟩, z2, z3⟩
    · exact Or.inl z
    · exact Or.inr ⟨⟨i, by omega, z1⟩, z2, (h1.resolve_left z3).2⟩
