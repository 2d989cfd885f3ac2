theorem nle0 {v : Int32} : (¬ (0 : Int32) ≤ v) = (v < 0) := propext Int32.not_le
theorem nn0 {q : Nat} (h : q < 2147483648) : ¬ nI q < 0 := by simp (disch := omega) only [inb_nI, inb_lit, cl_nI, cl_lit, nI_add, add_nl, add_ln, mul_ln, pk_mul, le_nn, lt_nn, eq_nn, le_nl, lt_nl, eq_nl, le_ln, lt_ln, eq_ln, eq_ll, lt_ll, le_ll, eq_nm1, eq_nm2, eq_nm3, eq_nm4, Nat.not_lt_zero, not_false_eq_true]
theorem e_wayL (fu : Nat) (hf : 2000 ≤ fu) (P : PP) (h : OKP P) {r s : Nat} (hr : r < nR P.1) (hs : s < 61) {t : Ob} (g : GSt P r s t) : p_X10_way_L17 fu fu t 0 (nI s) = some ((aVis P r s (61 - s)).1, t) := by
  have hR := h.1.2.1.1
  obtain ⟨z, e, rfl⟩ := loop_inv (fun m k v => p_X10_way_L17 fu m t v (nI (s + k))) (61 - s) (fun k v => v = (aVis P r s k).1) (fun z => z = ((aVis P r s (61 - s)).1, t)) (by
    rintro n v rfl
    refine ⟨_, ?_, rfl⟩
    show p_X10_way_L17 fu (n + 1) t _ (nI (s + (61 - s))) = _
    rw [p_X10_way_L17, show s + (61 - s) = 61 by omega]
    simp (disch := omega) only [inb_nI, inb_lit, cl_nI, cl_lit, nI_add, add_nl, add_ln, mul_ln, pk_mul, le_nn, lt_nn, eq_nn, le_nl, lt_nl, eq_nl, le_ln, lt_ln, eq_ln, eq_ll, lt_ll, le_ll, eq_nm1, eq_nm2, eq_nm3, eq_nm4, Option.bind_some, ↓reduceIte, if_true, if_false, Nat.reduceEqDiff, Nat.reduceAdd, Nat.reduceMul, Nat.reduceLT, Nat.reduceLeDiff]) (by
    rintro n k v hk rfl
    right
    refine ⟨_, ?_, rfl⟩
    show p_X10_way_L17 fu (n + 1) t _ (nI (s + k)) = p_X10_way_L17 fu n t _ (nI (s + (k + 1)))
    rw [p_X10_way_L17, aVis_s]
    simp (disch := omega) only [inb_nI, inb_lit, cl_nI, cl_lit, nI_add, add_nl, add_ln, mul_ln, pk_mul, le_nn, lt_nn, eq_nn, le_nl, lt_nl, eq_nl, le_ln, lt_ln, eq_ln, eq_ll, lt_ll, le_ll, eq_nm1, eq_nm2, eq_nm3, eq_nm4, Option.bind_some, ↓reduceIte, if_true, if_false, Nat.reduceEqDiff, Nat.reduceAdd, Nat.reduceMul, Nat.reduceLT, Nat.reduceLeDiff, g.at (show s + k < 61 by omega), if_neg (show ¬ 60 < s + k by omega)]
    rcases spo_neg h (pth_ok P h hr s k).1 with ⟨hneg, -⟩ | ⟨q, hq, hq10, eq⟩
    · simp only [if_neg (Int32.not_le.mpr hneg), if_pos hneg, Int32.or_zero, Nat.add_assoc]
    · simp (disch := omega) only [eq, inb_nI, inb_lit, cl_nI, cl_lit, nI_add, add_nl, add_ln, mul_ln, pk_mul, le_nn, lt_nn, eq_nn, le_nl, lt_nl, eq_nl, le_ln, lt_ln, eq_ln, eq_ll, lt_ll, le_ll, eq_nm1, eq_nm2, eq_nm3, eq_nm4, Option.bind_some, ↓reduceIte, if_true, if_false, Nat.reduceEqDiff, Nat.reduceAdd, Nat.reduceMul, Nat.reduceLT, Nat.reduceLeDiff, Nat.zero_le, if_neg (show ¬ q < 0 by omega)]
      have e : ∀ z : Int32, z ||| ((1 : Int32) <<< (nI q &&& 31)) = z ||| b1 q := fun _ => rfl
      rw [e]
      by_cases c : bq (aVis P r s k).1 q = true
      · rw [if_pos c, or_b1 (by omega) c, Nat.add_assoc]
      · rw [if_neg c, Nat.add_assoc]) fu 0 0 (Nat.zero_le _) (by omega) rfl
  exact e
theorem s_way (fu : Nat) (hf : 2000 ≤ fu) {x : Nat → Ob} {o : Ob} (h : Rel x o) (v1 v2 : Int32) : ∃ r y t, p_X9_way fu x v1 v2 = some (r, y) ∧ p_X10_way fu o v1 v2 = some (r, t) ∧ Rel y t := by
  unfold p_X9_way p_X10_way
  rcases e_putIn fu hf h v1 v2 with ⟨e1, t, e2, F⟩ | ⟨r, s, y, t, hr, hs, rfl, rfl, e1, d, e2, F, G, g⟩
  · simp only [e1, e2, Option.bind_some, ↓reduceIte, if_true, if_false, Nat.reduceEqDiff, Nat.reduceAdd, Nat.reduceMul, Nat.reduceLT, Nat.reduceLeDiff]
    exact ⟨_, _, _, rfl, rfl, h.kp KQ.rf F⟩
  · simp (disch := omega) only [e1, e2, Option.bind_some, ↓reduceIte, if_true, if_false, Nat.reduceEqDiff, Nat.reduceAdd, Nat.reduceMul, Nat.reduceLT, Nat.reduceLeDiff, inb_nI, inb_lit, cl_nI, cl_lit, nI_add, add_nl, add_ln, mul_ln, pk_mul, le_nn, lt_nn, eq_nn, le_nl, lt_nl, eq_nl, le_ln, lt_ln, eq_ln, eq_ll, lt_ll, le_ll, eq_nm1, eq_nm2, eq_nm3, eq_nm4, up12, d.2.1, e_wayL fu hf _ h.w.p hr hs g]
    exact ⟨_, _, _, rfl, rfl, h.kp (KQ.s12 y) F⟩
theorem bq_gp {P : PP} {t : Ob} (G : GP P t) (h : OKP P) {n q : Nat} (hn : n < 61) (hq : q < nR P.1) : bq (t.1 17 n) q = stds P n (nI q) := by
  have hR := h.1.2.1.1
  rw [G.2.2.1 n hn, bq_stq P.1 _ q (by omega) _ (by omega), stds, cl_nI (by omega)]
  simp [hq]
theorem aStd_s (P : PP) (r s k : Nat) : aStd P r s (k + 1) = if (pth P r s k).1 < 0 then aStd P r s k else if stds P (s + k) (pth P r s k).1 = true then aStd P r s k + 1 else aStd P r s k := rfl
theorem e_waitsL (fu : Nat) (hf : 2000 ≤ fu) (P : PP) (h : OKP P) {r s : Nat} (hr : r < nR P.1) (hs : s < 61) {t : Ob} (G : GP P t) (g : GSt P r s t) : p_X10_waits_L17 fu fu t 0 (nI s) = some (aStd P r s (61 - s), t) := by
  have hR := h.1.2.1.1
  obtain ⟨z, e, rfl⟩ := loop_inv (fun m k v => p_X10_waits_L17 fu m t v (nI (s + k))) (61 - s) (fun k v => v = aStd P r s k) (fun z => z = (aStd P r s (61 - s), t)) (by
    rintro n v rfl
    refine ⟨_, ?_, rfl⟩
    show p_X10_waits_L17 fu (n + 1) t _ (nI (s + (61 - s))) = _
    rw [p_X10_waits_L17, show s + (61 - s) = 61 by omega]
    simp (disch := omega) only [inb_nI, inb_lit, cl_nI, cl_lit, nI_add, add_nl, add_ln, mul_ln, pk_mul, le_nn, lt_nn, eq_nn, le_nl, lt_nl, eq_nl, le_ln, lt_ln, eq_ln, eq_ll, lt_ll, le_ll, eq_nm1, eq_nm2, eq_nm3, eq_nm4, Option.bind_some, ↓reduceIte, if_true, if_false, Nat.reduceEqDiff, Nat.reduceAdd, Nat.reduceMul, Nat.reduceLT, Nat.reduceLeDiff]) (by
    rintro n k v hk rfl
    right
    refine ⟨_, ?_, rfl⟩
    show p_X10_waits_L17 fu (n + 1) t _ (nI (s + k)) = p_X10_waits_L17 fu n t _ (nI (s + (k + 1)))
    rw [p_X10_waits_L17, aStd_s]
    simp (disch := omega) only [inb_nI, inb_lit, cl_nI, cl_lit, nI_add, add_nl, add_ln, mul_ln, pk_mul, le_nn, lt_nn, eq_nn, le_nl, lt_nl, eq_nl, le_ln, lt_ln, eq_ln, eq_ll, lt_ll, le_ll, eq_nm1, eq_nm2, eq_nm3, eq_nm4, Option.bind_some, ↓reduceIte, if_true, if_false, Nat.reduceEqDiff, Nat.reduceAdd, Nat.reduceMul, Nat.reduceLT, Nat.reduceLeDiff, g.at (show s + k < 61 by omega), if_neg (show ¬ 60 < s + k by omega)]
    rcases spo_neg h (pth_ok P h hr s k).1 with ⟨hneg, -⟩ | ⟨q, hq, hq10, eq⟩
    · simp only [if_pos hneg, Int32.add_zero, Nat.add_assoc]
    · simp (disch := omega) only [eq, inb_nI, inb_lit, cl_nI, cl_lit, nI_add, add_nl, add_ln, mul_ln, pk_mul, le_nn, lt_nn, eq_nn, le_nl, lt_nl, eq_nl, le_ln, lt_ln, eq_ln, eq_ll, lt_ll, le_ll, eq_nm1, eq_nm2, eq_nm3, eq_nm4, Option.bind_some, ↓reduceIte, if_true, if_false, Nat.reduceEqDiff, Nat.reduceAdd, Nat.reduceMul, Nat.reduceLT, Nat.reduceLeDiff, if_neg (nn0 (show q < 2147483648 by omega)), if_neg (show ¬ q < 0 by omega), e_rbit, bq_gp G h (show s + k < 61 by omega) hq, Int32.add_zero, Nat.add_assoc]
      cases stds P (s + k) (nI q)
      · simp (disch := omega) only [inb_nI, inb_lit, cl_nI, cl_lit, nI_add, add_nl, add_ln, mul_ln, pk_mul, le_nn, lt_nn, eq_nn, le_nl, lt_nl, eq_nl, le_ln, lt_ln, eq_ln, eq_ll, lt_ll, le_ll, eq_nm1, eq_nm2, eq_nm3, eq_nm4, Option.bind_some, ↓reduceIte, if_true, if_false, Nat.reduceEqDiff, Nat.reduceAdd, Nat.reduceMul, Nat.reduceLT, Nat.reduceLeDiff, Bool.false_eq_true]
      · simp only [Option.bind_some, ↓reduceIte, if_true, if_false, Nat.reduceEqDiff, Nat.reduceAdd, Nat.reduceMul, Nat.reduceLT, Nat.reduceLeDiff]) fu 0 0 (Nat.zero_le _) (by omega) rfl
  exact e
theorem s_waits (fu : Nat) (hf : 2000 ≤ fu) {x : Nat → Ob} {o : Ob} (h : Rel x o) (v1 v2 : Int32) : ∃ r y t, p_X9_waits fu x v1 v2 = some (r, y) ∧ p_X10_waits fu o v1 v2 = some (r, t) ∧ Rel y t := by
  unfold p_X9_waits p_X10_waits
  rcases e_putIn fu hf h v1 v2 with ⟨e1, t, e2, F⟩ | ⟨r, s, y, t, hr, hs, rfl, rfl, e1, d, e2, F, G, g⟩
  · simp only [e1, e2, Option.bind_some, ↓reduceIte, if_true, if_false, Nat.reduceEqDiff, Nat.reduceAdd, Nat.reduceMul, Nat.reduceLT, Nat.reduceLeDiff]
    exact ⟨_, _, _, rfl, rfl, h.kp KQ.rf F⟩
  · simp (disch := omega) only [e1, e2, Option.bind_some, ↓reduceIte, if_true, if_false, Nat.reduceEqDiff, Nat.reduceAdd, Nat.reduceMul, Nat.reduceLT, Nat.reduceLeDiff, inb_nI, inb_lit, cl_nI, cl_lit, nI_add, add_nl, add_ln, mul_ln, pk_mul, le_nn, lt_nn, eq_nn, le_nl, lt_nl, eq_nl, le_ln, lt_ln, eq_ln, eq_ll, lt_ll, le_ll, eq_nm1, eq_nm2, eq_nm3, eq_nm4, up12, d.2.2.2.2.2.1, e_waitsL fu hf _ h.w.p hr hs G g]
    exact ⟨_, _, _, rfl, rfl, h.kp (KQ.s12 y) F⟩
theorem e_findsL (fu : Nat) (hf : 2000 ≤ fu) (P : PP) (h : OKP P) {r s : Nat} (hr : r < nR P.1) (hs : s < 61) {t : Ob} (g : GSt P r s t) : p_X10_finds_L20 fu fu t 0 (nI r) (nI s) = some ((aVis P r s (61 - s)).2, t) := by
  have hR := h.1.2.1.1
  obtain ⟨z, e, rfl⟩ := loop_inv (fun m k (v : Int32 × Int32) => p_X10_finds_L20 fu m t v.1 v.2 (nI (s + k))) (61 - s) (fun k v => v = aVis P r s k) (fun z => z = ((aVis P r s (61 - s)).2, t)) (by
    rintro n v rfl
    refine ⟨_, ?_, rfl⟩
    show p_X10_finds_L20 fu (n + 1) t _ _ (nI (s + (61 - s))) = _
    rw [p_X10_finds_L20, show s + (61 - s) = 61 by omega]
    simp (disch := omega) only [inb_nI, inb_lit, cl_nI, cl_lit, nI_add, add_nl, add_ln, mul_ln, pk_mul, le_nn, lt_nn, eq_nn, le_nl, lt_nl, eq_nl, le_ln, lt_ln, eq_ln, eq_ll, lt_ll, le_ll, eq_nm1, eq_nm2, eq_nm3, eq_nm4, Option.bind_some, ↓reduceIte, if_true, if_false, Nat.reduceEqDiff, Nat.reduceAdd, Nat.reduceMul, Nat.reduceLT, Nat.reduceLeDiff]) (by
    rintro n k v hk rfl
    right
    refine ⟨_, ?_, rfl⟩
    show p_X10_finds_L20 fu (n + 1) t _ _ (nI (s + k)) = p_X10_finds_L20 fu n t _ _ (nI (s + (k + 1)))
    rw [p_X10_finds_L20, aVis_s]
    simp (disch := omega) only [inb_nI, inb_lit, cl_nI, cl_lit, nI_add, add_nl, add_ln, mul_ln, pk_mul, le_nn, lt_nn, eq_nn, le_nl, lt_nl, eq_nl, le_ln, lt_ln, eq_ln, eq_ll, lt_ll, le_ll, eq_nm1, eq_nm2, eq_nm3, eq_nm4, Option.bind_some, ↓reduceIte, if_true, if_false, Nat.reduceEqDiff, Nat.reduceAdd, Nat.reduceMul, Nat.reduceLT, Nat.reduceLeDiff, g.at (show s + k < 61 by omega), if_neg (show ¬ 60 < s + k by omega)]
    rcases spo_neg h (pth_ok P h hr s k).1 with ⟨hneg, -⟩ | ⟨q, hq, hq10, eq⟩
    · simp only [if_pos hneg, Nat.add_assoc]
    · simp (disch := omega) only [eq, inb_nI, inb_lit, cl_nI, cl_lit, nI_add, add_nl, add_ln, mul_ln, pk_mul, le_nn, lt_nn, eq_nn, le_nl, lt_nl, eq_nl, le_ln, lt_ln, eq_ln, eq_ll, lt_ll, le_ll, eq_nm1, eq_nm2, eq_nm3, eq_nm4, Option.bind_some, ↓reduceIte, if_true, if_false, Nat.reduceEqDiff, Nat.reduceAdd, Nat.reduceMul, Nat.reduceLT, Nat.reduceLeDiff, if_neg (nn0 (show q < 2147483648 by omega)), if_neg (show ¬ q < 0 by omega), e_rbit, Nat.add_assoc]
      cases c : bq (aVis P r s k).1 q
      · simp (disch := omega) only [inb_nI, inb_lit, cl_nI, cl_lit, nI_add, add_nl, add_ln, mul_ln, pk_mul, le_nn, lt_nn, eq_nn, le_nl, lt_nl, eq_nl, le_ln, lt_ln, eq_ln, eq_ll, lt_ll, le_ll, eq_nm1, eq_nm2, eq_nm3, eq_nm4, Option.bind_some, ↓reduceIte, if_true, if_false, Nat.reduceEqDiff, Nat.reduceAdd, Nat.reduceMul, Nat.reduceLT, Nat.reduceLeDiff, Bool.false_eq_true]
        rfl
      · simp only [Option.bind_some, ↓reduceIte, if_true, if_false, Nat.reduceEqDiff, Nat.reduceAdd, Nat.reduceMul, Nat.reduceLT, Nat.reduceLeDiff]) fu 0 (0, nI r) (Nat.zero_le _) (by omega) rfl
  exact e
theorem s_finds (fu : Nat) (hf : 2000 ≤ fu) {x : Nat → Ob} {o : Ob} (h : Rel x o) (v1 v2 : Int32) : ∃ r y t, p_X9_finds fu x v1 v2 = some (r, y) ∧ p_X10_finds fu o v1 v2 = some (r, t) ∧ Rel y t := by
  unfold p_X9_finds p_X10_finds
  rcases e_putIn fu hf h v1 v2 with ⟨e1, t, e2, F⟩ | ⟨r, s, y, t, hr, hs, rfl, rfl, e1, d, e2, F, G, g⟩
  · simp only [e1, e2, Option.bind_some, ↓reduceIte, if_true, if_false, Nat.reduceEqDiff, Nat.reduceAdd, Nat.reduceMul, Nat.reduceLT, Nat.reduceLeDiff]
    exact ⟨_, _, _, rfl, rfl, h.kp KQ.rf F⟩
  · simp (disch := omega) only [e1, e2, Option.bind_some, ↓reduceIte, if_true, if_false, Nat.reduceEqDiff, Nat.reduceAdd, Nat.reduceMul, Nat.reduceLT, Nat.reduceLeDiff, inb_nI, inb_lit, cl_nI, cl_lit, nI_add, add_nl, add_ln, mul_ln, pk_mul, le_nn, lt_nn, eq_nn, le_nl, lt_nl, eq_nl, le_ln, lt_ln, eq_ln, eq_ll, lt_ll, le_ll, eq_nm1, eq_nm2, eq_nm3, eq_nm4, up12, d.2.2.1, e_findsL fu hf _ h.w.p hr hs g]
    exact ⟨_, _, _, rfl, rfl, h.kp (KQ.s12 y) F⟩
theorem e_againL (fu : Nat) (hf : 2000 ≤ fu) (P : PP) (h : OKP P) {r s : Nat} (hr : r < nR P.1) (hs : s < 61) {t : Ob} (g : GSt P r s t) : p_X10_again_L17 fu fu t 0 (nI s) = some (ffr (fun n => agq P r s (n - s)) s (61 - s), t) := by
  have hR := h.1.2.1.1
  obtain ⟨z, e, rfl⟩ := loop_inv (fun m k v => p_X10_again_L17 fu m t v (nI (s + k))) (61 - s) (fun k v => v = (aVis P r s k).1 ∧ ∀ j, j < k → agq P r s j = false) (fun z => z = (ffr (fun n => agq P r s (n - s)) s (61 - s), t)) (by
    rintro n v ⟨rfl, hk⟩
    refine ⟨_, ?_, rfl⟩
    show p_X10_again_L17 fu (n + 1) t _ (nI (s + (61 - s))) = _
    rw [p_X10_again_L17, show s + (61 - s) = 61 by omega, ffr_no (61 - s) s (fun j h1 h2 => hk (j - s) (by omega))]
    simp (disch := omega) only [inb_nI, inb_lit, cl_nI, cl_lit, nI_add, add_nl, add_ln, mul_ln, pk_mul, le_nn, lt_nn, eq_nn, le_nl, lt_nl, eq_nl, le_ln, lt_ln, eq_ln, eq_ll, lt_ll, le_ll, eq_nm1, eq_nm2, eq_nm3, eq_nm4, Option.bind_some, ↓reduceIte, if_true, if_false, Nat.reduceEqDiff, Nat.reduceAdd, Nat.reduceMul, Nat.reduceLT, Nat.reduceLeDiff]) (by
    rintro n k v hk ⟨rfl, hk2⟩
    show (∃ z, p_X10_again_L17 fu (n + 1) t _ (nI (s + k)) = some z ∧ _) ∨ (∃ v', p_X10_again_L17 fu (n + 1) t _ (nI (s + k)) = p_X10_again_L17 fu n t v' (nI (s + (k + 1))) ∧ _)
    rw [p_X10_again_L17]
    simp (disch := omega) only [inb_nI, inb_lit, cl_nI, cl_lit, nI_add, add_nl, add_ln, mul_ln, pk_mul, le_nn, lt_nn, eq_nn, le_nl, lt_nl, eq_nl, le_ln, lt_ln, eq_ln, eq_ll, lt_ll, le_ll, eq_nm1, eq_nm2, eq_nm3, eq_nm4, Option.bind_some, ↓reduceIte, if_true, if_false, Nat.reduceEqDiff, Nat.reduceAdd, Nat.reduceMul, Nat.reduceLT, Nat.reduceLeDiff, g.at (show s + k < 61 by omega), if_neg (show ¬ 60 < s + k by omega)]
    rcases spo_neg h (pth_ok P h hr s k).1 with ⟨hneg, -⟩ | ⟨q, hq, hq10, eq⟩
    · left
      simp only [if_neg (Int32.not_le.mpr hneg)]
      refine ⟨_, rfl, ?_⟩
      rw [ffr_no (61 - s) s (fun j h1 h2 => by
        by_cases c : j - s < k
        · exact hk2 _ c
        · have := pth_neg P r s hneg (j - s - k)
          rw [show k + (j - s - k) = j - s by omega] at this
          rw [agq, this]
          simp [hneg])]
    · have hag : agq P r s k = (arr P r s k && bq (aVis P r s k).1 q) := by
        rw [agq, eq, cl_nI (by omega)]
        simp [nn0 (show q < 2147483648 by omega)]
      have e : ∀ z : Int32, z ||| ((1 : Int32) <<< (nI q &&& 31)) = z ||| b1 q := fun _ => rfl
      have hv : (aVis P r s (k + 1)).1 = (aVis P r s k).1 ||| b1 q := by
        rw [aVis_s, eq, cl_nI (by omega), if_neg (nn0 (by omega))]
        split
        · rename_i c; exact (or_b1 (by omega) c).symm
        · rfl
      have hg := g.2.1 (s + k) (by omega) (by omega)
      rw [Nat.add_sub_cancel_left] at hg
      unfold p_X10_again_J63
      simp (disch := omega) only [eq, inb_nI, inb_lit, cl_nI, cl_lit, nI_add, add_nl, add_ln, mul_ln, pk_mul, le_nn, lt_nn, eq_nn, le_nl, lt_nl, eq_nl, le_ln, lt_ln, eq_ln, eq_ll, lt_ll, le_ll, eq_nm1, eq_nm2, eq_nm3, eq_nm4, Option.bind_some, ↓reduceIte, if_true, if_false, Nat.reduceEqDiff, Nat.reduceAdd, Nat.reduceMul, Nat.reduceLT, Nat.reduceLeDiff, Nat.zero_le, e_rbit, hg, e]
      cases c1 : arr P r s k
      · right
        refine ⟨_, ?_, hv.symm, fun j hj => ?_⟩
        · simp only [Bool.false_eq_true, Option.bind_some, ↓reduceIte, if_true, if_false, Nat.reduceEqDiff, Nat.reduceAdd, Nat.reduceMul, Nat.reduceLT, Nat.reduceLeDiff, Nat.add_assoc]
        · by_cases hjk : j = k
          · subst hjk; rw [hag, c1]; rfl
          · exact hk2 j (by omega)
      · cases c2 : bq (aVis P r s k).1 q
        · right
          refine ⟨_, ?_, hv.symm, fun j hj => ?_⟩
          · simp (disch := omega) only [Bool.false_eq_true, inb_nI, inb_lit, cl_nI, cl_lit, nI_add, add_nl, add_ln, mul_ln, pk_mul, le_nn, lt_nn, eq_nn, le_nl, lt_nl, eq_nl, le_ln, lt_ln, eq_ln, eq_ll, lt_ll, le_ll, eq_nm1, eq_nm2, eq_nm3, eq_nm4, Option.bind_some, ↓reduceIte, if_true, if_false, Nat.reduceEqDiff, Nat.reduceAdd, Nat.reduceMul, Nat.reduceLT, Nat.reduceLeDiff, Nat.add_assoc]
          · by_cases hjk : j = k
            · subst hjk; rw [hag, c1, c2]; rfl
            · exact hk2 j (by omega)
        · left
          refine ⟨_, ?_, rfl⟩
          rw [ffr_at (p := fun n => agq P r s (n - s)) (j := s + k) (by omega) (by omega) (by rw [Nat.add_sub_cancel_left, hag, c1, c2]; rfl) (fun j h1 h2 => hk2 (j - s) (by omega))]
          simp (disch := omega) only [inb_nI, inb_lit, cl_nI, cl_lit, nI_add, add_nl, add_ln, mul_ln, pk_mul, le_nn, lt_nn, eq_nn, le_nl, lt_nl, eq_nl, le_ln, lt_ln, eq_ln, eq_ll, lt_ll, le_ll, eq_nm1, eq_nm2, eq_nm3, eq_nm4, Option.bind_some, ↓reduceIte, if_true, if_false, Nat.reduceEqDiff, Nat.reduceAdd, Nat.reduceMul, Nat.reduceLT, Nat.reduceLeDiff]) fu 0 0 (Nat.zero_le _) (by omega) ⟨rfl, fun j hj => by omega⟩
  exact e
theorem s_again (fu : Nat) (hf : 2000 ≤ fu) {x : Nat → Ob} {o : Ob} (h : Rel x o) (v1 v2 : Int32) : ∃ r y t, p_X9_again fu x v1 v2 = some (r, y) ∧ p_X10_again fu o v1 v2 = some (r, t) ∧ Rel y t := by
  unfold p_X9_again p_X10_again
  rcases e_putIn fu hf h v1 v2 with ⟨e1, t, e2, F⟩ | ⟨r, s, y, t, hr, hs, rfl, rfl, e1, d, e2, F, G, g⟩
  · simp only [e1, e2, Option.bind_some, ↓reduceIte, if_true, if_false, Nat.reduceEqDiff, Nat.reduceAdd, Nat.reduceMul, Nat.reduceLT, Nat.reduceLeDiff]
    exact ⟨_, _, _, rfl, rfl, h.kp KQ.rf F⟩
  · simp (disch := omega) only [e1, e2, Option.bind_some, ↓reduceIte, if_true, if_false, Nat.reduceEqDiff, Nat.reduceAdd, Nat.reduceMul, Nat.reduceLT, Nat.reduceLeDiff, inb_nI, inb_lit, cl_nI, cl_lit, nI_add, add_nl, add_ln, mul_ln, pk_mul, le_nn, lt_nn, eq_nn, le_nl, lt_nl, eq_nl, le_ln, lt_ln, eq_ln, eq_ll, lt_ll, le_ll, eq_nm1, eq_nm2, eq_nm3, eq_nm4, up12, d.2.2.2.1, e_againL fu hf _ h.w.p hr hs g]
    exact ⟨_, _, _, rfl, rfl, h.kp (KQ.s12 y) F⟩
