/-! ===== both read a line ===== -/
theorem c_valB (fu : Nat) (o k v : Ob) (lo hi : Int32) {i : Nat} (h : ¬ o.1 2 0 = 0) (h5 : o.1 5 0 = nI i) (hi' : i < 701) : p_X1_takeValue fu o k v lo hi = some (k.1 2 i, o, k, v) := by
  have J38 : ∀ y, p_X1_takeValue_J38 fu o k v y = some (y, o, k, v) := fun y => by
    unfold p_X1_takeValue_J38
    simp only [c_takeB fu o k v 2 h, Option.bind_some]
  have J33 : ∀ y, p_X1_takeValue_J33 fu o k v y = some (y, o, k, v) := fun y => by
    unfold p_X1_takeValue_J33 p_X1_blame
    simp only [if_neg h, Option.bind_some, J38]
  unfold p_X1_takeValue
  rw [h5, e_pick fu _ hi' (by omega), Option.bind_some]
  simp only [J38, J33, ite_self]
theorem c_numB (fu : Nat) (o k v : Ob) (w lo hi : Int32) {i : Nat} (h : ¬ o.1 2 0 = 0) (h5 : o.1 5 0 = nI i) (hi' : i < 701) : p_X1_takeNumber fu o k v w lo hi = some (k.1 2 i, o, k, v) := by
  unfold p_X1_takeNumber
  simp only [c_takeB fu o k v w h, Option.bind_some, c_valB fu o k v lo hi h h5 hi']
theorem r_numB (fu : Nat) (r : Ob) (lo hi : Int32) (h : ¬ r.1 12 0 = 0) : p_X10_number fu r lo hi = some (0, r) := by
  have J47 : p_X10_number_J47 fu r = some (0, r) := by unfold p_X10_number_J47; rw [r_good, Option.bind_some, if_neg h, if_pos rfl]
  have J20 : p_X10_number_J20 fu r lo hi = some (0, r) := by unfold p_X10_number_J20; rw [r_good, Option.bind_some, if_neg h, if_pos rfl, J47]
  unfold p_X10_number
  rw [r_good, Option.bind_some, if_neg h, if_pos rfl, J20]
theorem r_takesN (fu : Nat) (r : Ob) (w : Nat) (h : p_X10_is fu r w = some 0) : p_X10_takes fu r w = some (0, r) := by
  unfold p_X10_takes
  simp only [h, Option.bind_some, if_true, true_or]
theorem r_takesY (fu : Nat) (r : Ob) (w : Nat) {t : Ob} (h : p_X10_is fu r w = some 1) (ht : p_X10_advance fu r = some t) : p_X10_takes fu r w = some (1, t) := by
  unfold p_X10_takes
  simp only [h, Option.bind_some, i10, if_false, ht, or_true, if_true]
theorem st_w {B : Nat → Nat} {n c a : Nat} {k s t : Ob} (h : BO B n c s t ∨ ∃ i, a ≤ i ∧ GO B n k c i s t) (g : Nat → Int32) : BO B n c s (oA t 14 g) ∨ ∃ i, a ≤ i ∧ GO B n k c i s (oA t 14 g) := h.imp (fun z => z) (fun ⟨i, hi, z⟩ => ⟨i, hi, z⟩)
theorem c_claim (fu : Nat) (o k v : Ob) {a m : Nat} (h : a < m) (hm : m < 100) : p_X1_claim fu o k v (nI a) (nI m) = some (nI a, o, k, v) := by
  have e : ¬ (nI m - 1 < nI a) := by
    rw [lt_pred (by omega), le_nn (by omega) (by omega)]; omega
  unfold p_X1_claim p_X1_claim_J10
  rw [if_pos (show nI a < nI m by rw [lt_nn (by omega) (by omega)]; exact h), if_neg e]
theorem c_claimB (fu : Nat) (o k v : Ob) {m : Nat} (h0 : 0 < m) (hm : m < 100) (h : o.1 2 0 = 0) : p_X1_claim fu o k v (nI m) (nI m) = some (nI (m - 1), oI o 2 3, k, v) := by
  have e : nI (m - 1) < nI m := by
    rw [lt_nn (by omega) (by omega)]; omega
  have e2 : nI m - 1 = nI (m - 1) := pk_sub (b := 1) (by omega)
  unfold p_X1_claim p_X1_claim_J10 p_X1_blame
  simp only [if_neg (show ¬ nI m < nI m from Int32.lt_irrefl), if_pos h, Option.bind_some, e2, if_pos e]
/-- where a reach goes -/
theorem st_target (fu : Nat) (hf : 2000 ≤ fu) {B : Nat → Nat} {n c a : Nat} {k o r : Ob} (v : Ob) (E : EV B n k c) (h : BO B n c o r ∨ ∃ i, a ≤ i ∧ GO B n k c i o r) {nr : Nat} (hnr : nr < 10) (A1 A2 : Int32) : ∃ s T T' t, (if (o.1 4 0) = (10 : Int32) then (p_X1_take fu o k v (10 : Int32)).bind fun r_38 => (p_X9_put fu 10 (r_38.2.2.1 5) (nI nr) ((-1) : Int32)).bind fun r_50 => p_X1_readReach_J74 fu r_38.1 r_38.2.1 (oA r_38.2.2 5 r_50) (nI nr) else (p_X1_takeValue fu o k v (0 : Int32) (9 : Int32)).bind fun r_68 => (p_X9_put fu 10 (r_68.2.2.2.1 5) (nI nr) r_68.1).bind fun r_71 => p_X1_readReach_J74 fu r_68.2.1 r_68.2.2.1 (oA r_68.2.2.2 5 r_71) (nI nr)) = p_X1_readReach_J74 fu s k (oA v 5 (upd (v.1 5) nr T)) (nI nr) ∧
    ((p_X10_takes fu r 2).bind fun r_21 => if r_21.1 = 0 then (p_X10_number fu r_21.2 (0 : Int32) (9 : Int32)).bind fun r_44 => p_X10_readReach_J47 fu r_44.2 A1 A2 r_44.1 else p_X10_readReach_J47 fu r_21.2 A1 A2 (-1)) = p_X10_readReach_J47 fu t A1 A2 T' ∧ FR RF r t ∧ (BO B n c s t ∨ ((∃ i, a + 1 ≤ i ∧ GO B n k c i s t) ∧ (T' = T ∧ (T = -1 ∨ ∃ q, q ≤ 9 ∧ T = nI q)) ∧ ¬ BO B n c o r)) := by
  have hn := E.1
  have hcn := E.2.1
  have pt : ∀ y, p_X9_put fu 10 (v.1 5) (nI nr) y = some (upd (v.1 5) nr y) := fun y => e_put fu _ _ hnr (by omega)
  rcases h with h | ⟨i, hi, h⟩
  · obtain ⟨i, f, hic, hf', o2, o5, r12, r13⟩ := id h
    have e2 := r_takesN fu r 2 (e_isN fu hf r (by decide) h.r)
    have e3 := r_numB fu r 0 9 h.r
    by_cases g : o.1 4 0 = 10
    · refine ⟨o, -1, 0, r, ?_, ?_, FR.rf, Or.inl h⟩
      · simp only [if_pos g, c_takeB fu o k v 10 h.o, Option.bind_some, pt]
      · simp only [e2, Option.bind_some, if_true, e3]
    · refine ⟨o, k.1 2 i, 0, r, ?_, ?_, FR.rf, Or.inl h⟩
      · simp only [if_neg g, c_valB fu o k v 0 9 h.o o5 (by omega), Option.bind_some, pt]
      · simp only [e2, Option.bind_some, if_true, e3]
  · obtain ⟨hK, -, hc⟩ := h.p E
    obtain ⟨b, hb, eb⟩ := e_is fu hf h.2.2.2.2.2.2.1 h.2.2.2.2.2.2.2 h.2.2.2.2.1 (w := 2) (by decide)
    have hbk := hb.trans (KD_w hK (w := 2) (by decide)).symm
    cases b with
    | true =>
      have g : o.1 4 0 = 10 := hbk.mp rfl
      have hp := (hb.mp rfl).1
      have hic := hc hp
      obtain ⟨s, es, s2, s5, s4⟩ := c_takeY fu o k v 10 h.2.1 g h.2.2.1 (by omega)
      obtain ⟨t, et, F, t12, t13, tB, tA⟩ := r_adv fu hf E h hp
      have e2 := r_takesY fu r 2 eb et
      refine ⟨s, -1, -1, t, ?_, ?_, F, Or.inr ⟨⟨i + 1, by omega, by omega, s2, s5, s4, t12, t13, tB, tA⟩, ⟨rfl, Or.inl rfl⟩, h.nb⟩⟩
      · simp only [if_pos g, es, Option.bind_some, pt]
      · simp only [e2, Option.bind_some, i10, if_false]
    | false =>
      have g : ¬ o.1 4 0 = 10 := fun z => by have := hbk.mpr z; cases this
      have e2 := r_takesN fu r 2 eb
      obtain ⟨y, s, y', t, es, et, F, hh⟩ := st_num fu hf v E (Or.inr ⟨i, hi, h⟩) (lo := 0) (by omega) 9 9 (Or.inr ⟨rfl, by decide⟩)
      have es : p_X1_takeValue fu o k v (0 : Int32) (9 : Int32) = some (y, s, k, v) := es
      have et : p_X10_number fu r (0 : Int32) (9 : Int32) = some (y', t) := et
      refine ⟨s, y, y', t, ?_, ?_, F, ?_⟩
      · simp only [if_neg g, es, Option.bind_some, pt]
      · simp only [e2, Option.bind_some, if_true, et]
      · rcases hh with z | ⟨z1, ⟨N, h1, h2, h3, rfl, rfl⟩, z3⟩
        · exact Or.inl z
        · have h3 : N ≤ 9 := by
            have e9 : (nI N ≤ (9 : Int32)) = (N ≤ 9) := le_nn (b := 9) (by omega) (by omega)
            rw [e9] at h3; exact h3
          exact Or.inr ⟨z1, ⟨rfl, Or.inr ⟨N, h3, rfl⟩⟩, z3⟩
theorem e_J47 (fu : Nat) (t : Ob) (T : Int32) {a : Nat} (ha : a + 2 < 98) {y1 y2 : Int32} {t1 t2 : Ob} (e1 : p_X10_told fu (oA t 14 (upd (t.1 14) a T)) 9 (1 : Int32) (5 : Int32) = some (y1, t1)) (e2 : p_X10_told fu (oA t1 14 (upd (t1.1 14) (a + 1) y1)) 3 (0 : Int32) (20 : Int32) = some (y2, t2)) : p_X10_readReach_J47 fu t (nI a) (nI a) T = some (oA (oA t2 14 (upd (t2.1 14) (a + 2) y2)) 14 (upd (upd (t2.1 14) (a + 2) y2) 3 ((upd (t2.1 14) (a + 2) y2) 3 + 1))) := by
  have i0 : inb (nI a) 98 = true := by rw [inb_nI (by omega) (by omega)]; trivial
  have i1 : inb (nI (a + 1)) 98 = true := by rw [inb_nI (by omega) (by omega)]; trivial
  have i2 : inb (nI (a + 2)) 98 = true := by rw [inb_nI (by omega) (by omega)]; trivial
  have i3 : inb (3 : Int32) 98 = true := by decide
  have c0 : (nI a).toNatClampNeg = a := cl_nI (by omega)
  have c1 : (nI (a + 1)).toNatClampNeg = a + 1 := cl_nI (by omega)
  have c2 : (nI (a + 2)).toNatClampNeg = a + 2 := cl_nI (by omega)
  have c3 : (3 : Int32).toNatClampNeg = 3 := rfl
  unfold p_X10_readReach_J47
  simp only [add_nl, i0, i1, i2, i3, c0, c1, c2, c3, if_true, e1, e2, Option.bind_some]
  rfl
theorem upd_n {f : Nat → Int32} {k j : Nat} {v : Int32} (h : j ≠ k) : upd f k v j = f j := by rw [upd_v, if_neg h]
theorem upd_s {f : Nat → Int32} {k : Nat} {v : Int32} : upd f k v k = v := by rw [upd_v, if_pos rfl]
/-- a reach's numbers are in bounds -/
def okR (T K L : Int32) : Prop := (T = -1 ∨ ∃ q, q ≤ 9 ∧ T = nI q) ∧ (∃ t, 1 ≤ t ∧ t ≤ 5 ∧ K = nI t) ∧ (∃ l, l ≤ 20 ∧ L = nI l)
theorem st_reach (fu : Nat) (hf : 2000 ≤ fu) {B : Nat → Nat} {n c a : Nat} {k o r : Ob} (v : Ob) (E : EV B n k c) (h : BO B n c o r ∨ ∃ i, a ≤ i ∧ GO B n k c i o r) {nr : Nat} (hnr : nr < 10) (T : Int32) (w3 : r.1 14 3 = nI nr) : ∃ s K L K' L' t, p_X1_readReach_J74 fu o k v (nI nr) = some (s, k, oI (oA (oA v 6 (upd (v.1 6) nr K)) 7 (upd (v.1 7) nr L)) 4 (nI (nr + 1))) ∧ p_X10_readReach_J47 fu r (nI (8 + 3 * nr)) (nI (8 + 3 * nr)) T = some t ∧ FR (14 :: RF) r t ∧ t.1 14 = upd (upd (upd (upd (r.1 14) (8 + 3 * nr) T) (8 + 3 * nr + 1) K') (8 + 3 * nr + 2) L') 3 (nI (nr + 1)) ∧ (BO B n c s t ∨ ((∃ i, a ≤ i ∧ GO B n k c i s t) ∧ (K' = K ∧ L' = L ∧ (∃ t, 1 ≤ t ∧ t ≤ 5 ∧ K = nI t) ∧ (∃ l, l ≤ 20 ∧ L = nI l)) ∧ ¬ BO B n c o r)) := by
  have h0 := st_w h (upd (r.1 14) (8 + 3 * nr) T)
  obtain ⟨y1, s1, y1', t1, es1, et1, F1, h1⟩ := st_told fu hf v E h0 (w := 9) (by decide) (lo := 1) (by omega) 5 5 (Or.inr ⟨rfl, by decide⟩)
  have es1 : p_X1_takeNumber fu o k v (11 : Int32) (1 : Int32) (5 : Int32) = some (y1, s1, k, v) := es1
  have et1 : p_X10_told fu (oA r 14 (upd (r.1 14) (8 + 3 * nr) T)) 9 (1 : Int32) (5 : Int32) = some (y1', t1) := et1
  have h1' := st_w (h1.imp id (fun z => z.1)) (upd (t1.1 14) (8 + 3 * nr + 1) y1')
  obtain ⟨y2, s2, y2', t2, es2, et2, F2, h2⟩ := st_told fu hf (oA v 6 (upd (v.1 6) nr y1)) E h1' (w := 3) (by decide) (lo := 0) (by omega) 20 20 (Or.inr ⟨rfl, by decide⟩)
  have es2 : p_X1_takeNumber fu s1 k (oA v 6 (upd (v.1 6) nr y1)) (12 : Int32) (0 : Int32) (20 : Int32) = some (y2, s2, k, oA v 6 (upd (v.1 6) nr y1)) := es2
  have et2 : p_X10_told fu (oA t1 14 (upd (t1.1 14) (8 + 3 * nr + 1) y1')) 3 (0 : Int32) (20 : Int32) = some (y2', t2) := et2
  have p1 : p_X9_put fu 10 (v.1 6) (nI nr) y1 = some (upd (v.1 6) nr y1) := e_put fu _ _ hnr (by omega)
  have p2 : p_X9_put fu 10 ((oA v 6 (upd (v.1 6) nr y1)).1 7) (nI nr) y2 = some (upd (v.1 7) nr y2) := e_put fu _ _ hnr (by omega)
  have e1 : t1.1 14 = upd (r.1 14) (8 + 3 * nr) T := F1.f1 14 (by decide)
  have e2 : t2.1 14 = upd (t1.1 14) (8 + 3 * nr + 1) y1' := F2.f1 14 (by decide)
  have e3 : (upd (t2.1 14) (8 + 3 * nr + 2) y2') 3 = nI nr := by rw [upd_n (by omega), e2, upd_n (by omega), e1, upd_n (by omega), w3]
  refine ⟨s2, y1, y2, y1', y2', _, ?_, e_J47 fu r T (by omega) et1 et2, ?_, ?_, ?_⟩
  · unfold p_X1_readReach_J74
    simp only [es1, Option.bind_some, p1, es2, p2, add_nl]
  · exact ((((FR.rf (o := r)).A (by decide) _).tr (F1.mono (by decide))).A (by decide) _ |>.tr (F2.mono (by decide))).A (by decide) _ |>.A (by decide) _
  · show upd (upd (t2.1 14) (8 + 3 * nr + 2) y2') 3 ((upd (t2.1 14) (8 + 3 * nr + 2) y2') 3 + 1) = _
    rw [e3, add_nl, e2, e1]
  · rcases h2 with z | ⟨⟨i, hi, z1⟩, ⟨N2, b1, b2, b3, rfl, rfl⟩, z3⟩
    · exact Or.inl z
    · obtain ⟨-, ⟨N1, a1, a2, a3, rfl, rfl⟩, y3⟩ := h1.resolve_left z3
      have a3 : N1 ≤ 5 := by
        have e9 : (nI N1 ≤ (5 : Int32)) = (N1 ≤ 5) := le_nn (b := 5) (by omega) (by omega)
        rw [e9] at a3; exact a3
      have b3 : N2 ≤ 20 := by
        have e9 : (nI N2 ≤ (20 : Int32)) = (N2 ≤ 20) := le_nn (b := 20) (by omega) (by omega)
        rw [e9] at b3; exact b3
      exact Or.inr ⟨⟨i, by omega, z1⟩, ⟨rfl, rfl, ⟨N1, a1, a3, rfl⟩, ⟨N2, b3, rfl⟩⟩, y3⟩
/-- a line of a reach, behind its word -/
theorem rd_reach (fu : Nat) (hf : 2000 ≤ fu) {B : Nat → Nat} {n c i : Nat} {k o r : Ob} (v : Ob) (E : EV B n k c) (h : GO B n k c i o r) (hk : o.1 4 0 = 8) {nr : Nat} (hnr : nr < 10) (v4 : v.1 4 0 = nI nr) (w3 : r.1 14 3 = nI nr) : ∃ t0 s v' t, p_X10_advance fu r = some t0 ∧ p_X1_readReach fu o k v = some (s, k, v') ∧ p_X10_readReach fu t0 = some t ∧ FR (14 :: RF) r t ∧ v'.1 4 0 = nI (nr + 1) ∧ (BO B n c s t ∨ ((∃ j, i + 1 ≤ j ∧ GO B n k c j s t) ∧ ∃ T K L, okR T K L ∧ v' = oI (oA (oA (oA v 5 (upd (v.1 5) nr T)) 6 (upd (v.1 6) nr K)) 7 (upd (v.1 7) nr L)) 4 (nI (nr + 1)) ∧ t.1 14 = upd (upd (upd (upd (r.1 14) (8 + 3 * nr) T) (8 + 3 * nr + 1) K) (8 + 3 * nr + 2) L) 3 (nI (nr + 1)))) := by
  obtain ⟨hK, -, hc⟩ := h.p E
  have hn := E.1
  have hcn := E.2.1
  have hp := ((KD_w hK (w := 8) (by decide)).mp hk).1
  have hic := hc hp
  obtain ⟨s1, es1, q2, q5, q4⟩ := c_takeY fu o k v 8 h.2.1 hk h.2.2.1 (by omega)
  obtain ⟨t0, et0, F0, t12, t13, tB, tA⟩ := r_adv fu hf E h hp
  have g1 : GO B n k c (i + 1) s1 t0 := ⟨by omega, q2, q5, q4, t12, t13, tB, tA⟩
  obtain ⟨s2, t2, es2, et2, F2, h2⟩ := st_needs fu hf v E (Or.inr ⟨i + 1, Nat.le_refl _, g1⟩) (w := 0) (by decide)
  have es2 : p_X1_take fu s1 k v (9 : Int32) = some (s2, k, v) := es2
  obtain ⟨s3, T, T', t3, e3, f3, F3, h3⟩ := st_target fu hf v E (h2.imp id (fun z => z.1)) hnr (nI (8 + 3 * nr)) (nI (8 + 3 * nr))
  have w30 : t0.1 14 3 = nI nr := by rw [F0.f1 14 (by decide)]; exact w3
  have w33 : t3.1 14 3 = nI nr := by rw [F3.f1 14 (by decide), F2.f1 14 (by decide)]; exact w30
  obtain ⟨s4, K, L, K', L', t4, e4, f4, F4, w4, h4⟩ := st_reach fu hf (oA v 5 (upd (v.1 5) nr T)) E (h3.imp id (fun z => z.1)) hnr T' w33
  have ecl : p_X1_claim fu o k v (nI nr) (10 : Int32) = some (nI nr, o, k, v) := c_claim fu o k v (m := 10) hnr (by omega)
  refine ⟨t0, s4, oI (oA (oA (oA v 5 (upd (v.1 5) nr T)) 6 (upd (v.1 6) nr K)) 7 (upd (v.1 7) nr L)) 4 (nI (nr + 1)), t4, et0, ?_, ?_, ((F0.mono (by decide)).tr (F2.mono (by decide))).tr (F3.mono (by decide)) |>.tr F4, rfl, ?_⟩
  · unfold p_X1_readReach
    simp only [v4, ecl, Option.bind_some, es1, es2]
    rw [e3, e4]
    rfl
  · unfold p_X10_readReach
    have c3 : (3 : Int32).toNatClampNeg = 3 := rfl
    have i3 : inb (3 : Int32) 98 = true := by decide
    simp only [i3, if_true, et2, Option.bind_some, c3, w30, mul_ln, add_ln, add_nl, Nat.add_zero]
    rw [f3, f4]
  · rcases h4 with z | ⟨⟨j, hj, z1⟩, ⟨rfl, rfl, z4, z5⟩, z3⟩
    · exact Or.inl z
    · obtain ⟨-, ⟨rfl, y2⟩, y3⟩ := h3.resolve_left z3
      refine Or.inr ⟨⟨j, by omega, z1⟩, _, _, _, ⟨y2, z4, z5⟩, rfl, ?_⟩
      rw [w4, F3.f1 14 (by decide), F2.f1 14 (by decide), F0.f1 14 (by decide)]
