/-! ===== a line's body, its sign, all lines ===== -/
theorem bad3 {B : Nat → Nat} {n c i : Nat} {k o r : Ob} (h : GO B n k c i o r) : ¬ (oI o 2 3).1 2 0 = 0 ∧ (oI o 2 3).1 5 0 = nI i := ⟨(by decide : ¬ (3 : Int32) = 0), h.2.2.1⟩
/-- the class' body of a line that is not the first -/
def cBody (fu : Nat) (o k v : Ob) : Option (Ob × Ob × Ob) := if (o.1 4 0) = (8 : Int32) then p_X1_readReach fu o k v else if (o.1 4 0) = (13 : Int32) then p_X1_readJoin fu o k v else if (o.1 4 0) = (16 : Int32) then p_X1_readRain fu o k v else p_X1_blame fu o k v (1 : Int32)
theorem ln_next (fu : Nat) (hf : 2000 ≤ fu) {B : Nat → Nat} {n c i : Nat} {k o r : Ob} (v : Ob) (E : EV B n k c) (h : GO B n k c i o r) {L nr nj nn : Nat} (hL : L ≠ 0) (hP : PV v (r.1 14) L L nr nj nn) : ∃ s v' t, cBody fu o k v = some (s, k, v') ∧ p_X10_readNext fu r = some t ∧ FR (14 :: RF) r t ∧ (∃ q, q ≤ 10 ∧ v'.1 4 0 = nI q) ∧ (BO B n c s t ∨ ∃ nr' nj' nn', (∃ j, i + 1 ≤ j ∧ GO B n k c j s t) ∧ PV v' (t.1 14) L (L + 1) nr' nj' nn') := by
  have hn := E.1
  have hcn := E.2.1
  have hic := h.1
  have r12 := h.2.2.2.2.1
  obtain ⟨n3, n5⟩ := bad3 h
  have is8 : p_X10_is fu r 8 = some (if o.1 4 0 = 8 then 1 else 0) := is_k fu hf E h (w := 8) (by decide)
  have is4 : p_X10_is fu r 4 = some (if o.1 4 0 = 13 then 1 else 0) := is_k fu hf E h (w := 4) (by decide)
  have is6 : p_X10_is fu r 6 = some (if o.1 4 0 = 16 then 1 else 0) := is_k fu hf E h (w := 6) (by decide)
  have c3 : (3 : Int32).toNatClampNeg = 3 := rfl
  have c4 : (4 : Int32).toNatClampNeg = 4 := rfl
  have c5 : (5 : Int32).toNatClampNeg = 5 := rfl
  have i3 : inb (3 : Int32) 98 = true := by decide
  have i4 : inb (4 : Int32) 98 = true := by decide
  have i5 : inb (5 : Int32) 98 = true := by decide
  have w3 := hP.1.1
  have w4 := hP.1.2.1
  have w5 := hP.1.2.2.1
  have v4 := hP.2.1.1
  have v8 := hP.2.1.2.1
  have v13 := hP.2.1.2.2.1
  obtain ⟨m1, m2, m3, -⟩ := hP.2.2.1
  have q10 : (nI nr = (10 : Int32)) = (nr = 10) := eq_nn (b := 10) (by omega) (by omega)
  have qj : (nI nj = (5 : Int32)) = (nj = 5) := eq_nn (b := 5) (by omega) (by omega)
  have qn : (nI nn = (5 : Int32)) = (nn = 5) := eq_nn (b := 5) (by omega) (by omega)
  have g1 : p_X10_good fu r = some 1 := by rw [r_good, if_pos r12]
  unfold cBody
  by_cases k8 : o.1 4 0 = 8
  · have e8 : p_X10_is fu r 8 = some 1 := by rw [is8, if_pos k8]
    have e4 : p_X10_is fu r 4 = some 0 := by rw [is4, if_neg (by rw [k8]; decide)]
    have e6 : p_X10_is fu r 6 = some 0 := by rw [is6, if_neg (by rw [k8]; decide)]
    rw [if_pos k8]
    unfold p_X10_readNext p_X10_readNext_J32
    by_cases hm : nr = 10
    · obtain ⟨t, et, F, t12, t13⟩ := r_errs fu r 3 r12
      have tn : ¬ t.1 12 0 = 0 := by rw [t12]; decide
      refine ⟨oI o 2 3, oI (oA (oA (oA v 5 (upd (v.1 5) 9 (k.1 2 i))) 6 (upd (v.1 6) 9 (k.1 2 i))) 7 (upd (v.1 7) 9 (k.1 2 i))) 4 (nI 10), t, ?_, ?_, F.mono (by decide), ⟨10, Nat.le_refl _, rfl⟩, Or.inl (BO.mk h (f := 3) (Or.inr (Or.inr rfl)) rfl rfl t12 t13)⟩
      · have ecl : p_X1_claim fu o k v (nI nr) (10 : Int32) = some (nI 9, oI o 2 3, k, v) := by
          rw [hm]
          exact c_claimB fu o k v (m := 10) (by omega) (by omega) h.2.1
        have k10 : ¬ (oI o 2 3).1 4 0 = 10 := by show ¬ o.1 4 0 = 10; rw [k8]; decide
        have pa : ∀ (f : Nat → Int32) (y : Int32), p_X9_put fu 10 f (nI 9) y = some (upd f 9 y) := fun f y => e_put fu f y (by omega) (by omega)
        unfold p_X1_readReach p_X1_readReach_J74
        simp only [v4, ecl, Option.bind_some, c_takeB fu _ k v 8 n3, c_takeB fu _ k v 9 n3, if_neg k10, c_valB fu _ k v 0 9 n3 n5 (show i < 701 by omega), pa, c_numB fu _ k _ _ _ _ n3 n5 (show i < 701 by omega), add_nl]
        rfl
      · simp only [e8, Option.bind_some, i10, if_false, i3, c3, w3, q10, hm, if_true, et, nx57 fu hf t tn]
        exact if_pos rfl
    · obtain ⟨t0, s, v', t, et0, es, et, F, q4, hh⟩ := rd_reach fu hf v E h k8 (nr := nr) (by omega) v4 w3
      refine ⟨s, v', t, es, ?_, F, ⟨nr + 1, by omega, q4⟩, ?_⟩
      · have ey := r_takesY fu r 8 e8 et0
        unfold p_X10_readNext_J57 p_X10_readNext_J81 p_X10_readNext_J105
        simp only [e8, Option.bind_some, i10, if_false, i3, c3, w3, q10, hm, if_true, e4, e6, g1, ey, et]
      · rcases hh with z | ⟨z1, T, K, W, ok, rfl, z2⟩
        · exact Or.inl z
        · right
          refine ⟨nr + 1, nj, nn, z1, ?_⟩
          rw [z2]
          exact hP.reach hL (by omega) ok
  · have e8 : p_X10_is fu r 8 = some 0 := by rw [is8, if_neg k8]
    rw [if_neg k8]
    by_cases k13 : o.1 4 0 = 13
    · have e4 : p_X10_is fu r 4 = some 1 := by rw [is4, if_pos k13]
      have e6 : p_X10_is fu r 6 = some 0 := by rw [is6, if_neg (by rw [k13]; decide)]
      rw [if_pos k13]
      unfold p_X10_readNext p_X10_readNext_J32 p_X10_readNext_J57
      by_cases hm : nj = 5
      · obtain ⟨t, et, F, t12, t13⟩ := r_errs fu r 3 r12
        have tn : ¬ t.1 12 0 = 0 := by rw [t12]; decide
        refine ⟨oI o 2 3, oI (oA (oA (oA (oA v 9 (upd (v.1 9) 4 (k.1 2 i))) 10 (upd (v.1 10) 4 (k.1 2 i))) 11 (upd (v.1 11) 4 (k.1 2 i))) 12 (upd (v.1 12) 4 (k.1 2 i))) 8 (nI 5), t, ?_, ?_, F.mono (by decide), ⟨nr, m1, v4⟩, Or.inl (BO.mk h (f := 3) (Or.inr (Or.inr rfl)) rfl rfl t12 t13)⟩
        · have ecl : p_X1_claim fu o k v (nI nj) (5 : Int32) = some (nI 4, oI o 2 3, k, v) := by
            rw [hm]
            exact c_claimB fu o k v (m := 5) (by omega) (by omega) h.2.1
          have pa : ∀ (f : Nat → Int32) (y : Int32), p_X9_put fu 5 f (nI 4) y = some (upd f 4 y) := fun f y => e_put fu f y (by omega) (by omega)
          unfold p_X1_readJoin
          simp only [v8, ecl, Option.bind_some, c_numB fu _ k _ _ _ _ n3 n5 (show i < 701 by omega), pa, add_nl]
          rfl
        · simp only [e8, e4, Option.bind_some, i10, if_false, i4, c4, w4, qj, hm, if_true, et, nx81 fu hf t tn]
          exact if_pos rfl
      · obtain ⟨t0, s, v', t, et0, es, et, F, q4, hh⟩ := rd_join fu hf v E h k13 (nr := nr) (nj := nj) m1 (by omega) v4 v8 w3 w4
        refine ⟨s, v', t, es, ?_, F, ⟨nr, m1, q4.trans v4⟩, ?_⟩
        · have en := r_takesN fu r 8 e8
          have ey := r_takesY fu r 4 e4 et0
          unfold p_X10_readNext_J81 p_X10_readNext_J105
          simp only [e8, Option.bind_some, i10, if_false, i4, c4, w4, qj, hm, if_true, e4, e6, g1, en, ey, et]
        · rcases hh with z | ⟨z1, f, g, e, b, y1, y2, y3, y4, y5, rfl, z2⟩
          · exact Or.inl z
          · right
            refine ⟨nr, nj + 1, nn, z1, ?_⟩
            rw [z2]
            exact hP.join hL (by omega) y1 y2 y3 y4 y5
    · have e4 : p_X10_is fu r 4 = some 0 := by rw [is4, if_neg k13]
      rw [if_neg k13]
      by_cases k16 : o.1 4 0 = 16
      · have e6 : p_X10_is fu r 6 = some 1 := by rw [is6, if_pos k16]
        rw [if_pos k16]
        unfold p_X10_readNext p_X10_readNext_J32 p_X10_readNext_J57 p_X10_readNext_J81
        by_cases hm : nn = 5
        · obtain ⟨t, et, F, t12, t13⟩ := r_errs fu r 3 r12
          have tn : ¬ t.1 12 0 = 0 := by rw [t12]; decide
          refine ⟨oI o 2 3, oI (oA (oA v 14 (upd (v.1 14) 4 (k.1 2 i))) 15 (upd (v.1 15) 4 (k.1 2 i))) 13 (nI 5), t, ?_, ?_, F.mono (by decide), ⟨nr, m1, v4⟩, Or.inl (BO.mk h (f := 3) (Or.inr (Or.inr rfl)) rfl rfl t12 t13)⟩
          · have ecl : p_X1_claim fu o k v (nI nn) (5 : Int32) = some (nI 4, oI o 2 3, k, v) := by
              rw [hm]
              exact c_claimB fu o k v (m := 5) (by omega) (by omega) h.2.1
            have pa : ∀ (f : Nat → Int32) (y : Int32), p_X9_put fu 5 f (nI 4) y = some (upd f 4 y) := fun f y => e_put fu f y (by omega) (by omega)
            unfold p_X1_readRain
            simp only [v13, ecl, Option.bind_some, c_numB fu _ k _ _ _ _ n3 n5 (show i < 701 by omega), pa, add_nl]
            rfl
          · simp only [e8, e4, e6, Option.bind_some, i10, if_false, i5, c5, w5, qn, hm, if_true, et, nx105 fu t tn]
            exact if_pos rfl
        · obtain ⟨t0, s, v', t, et0, es, et, F, q4, hh⟩ := rd_rain fu hf v E h k16 (nn := nn) (by omega) v13 w5
          refine ⟨s, v', t, es, ?_, F, ⟨nr, m1, q4.trans v4⟩, ?_⟩
          · have en := r_takesN fu r 8 e8
            have en4 := r_takesN fu r 4 e4
            unfold p_X10_readNext_J105
            simp only [e8, Option.bind_some, i10, if_false, i5, c5, w5, qn, hm, if_true, e4, e6, g1, en, en4, et0, et]
          · rcases hh with z | ⟨z1, m, b, y1, y2, y3, rfl, z2⟩
            · exact Or.inl z
            · right
              refine ⟨nr, nj, nn + 1, z1, ?_⟩
              rw [z2]
              exact hP.rain hL (by omega) y1 y2 y3
      · have e6 : p_X10_is fu r 6 = some 0 := by rw [is6, if_neg k16]
        rw [if_neg k16]
        unfold p_X10_readNext
        obtain ⟨t, et, F, t12, t13⟩ := r_errs fu r 1 r12
        have tn : ¬ t.1 12 0 = 0 := by rw [t12]; decide
        refine ⟨oI o 2 1, v, t, ?_, ?_, F.mono (by decide), ⟨nr, m1, v4⟩, Or.inl (BO.mk h (f := 1) (Or.inl rfl) rfl rfl t12 t13)⟩
        · unfold p_X1_blame
          rw [if_pos h.2.1]
        · simp only [e8, e4, e6, Option.bind_some, if_true, et, nx32 fu hf t tn]
/-- the sign at a line's end -/
theorem ln_sign (fu : Nat) (hf : 2000 ≤ fu) {B : Nat → Nat} {n c a : Nat} {k o r : Ob} (v : Ob) (E : EV B n k c) (h : BO B n c o r ∨ ∃ i, a ≤ i ∧ GO B n k c i o r) {L : Nat} (w7 : ¬ BO B n c o r → r.1 14 7 = nI L) : ∃ s t, p_X1_take fu o k v 1 = some (s, k, v) ∧ p_X10_readLine_J21 fu r = some t ∧ FR (14 :: RF) r t ∧ (BO B n c s t ∨ ((∃ i, a + 1 ≤ i ∧ GO B n k c i s t) ∧ t.1 14 = upd (r.1 14) 7 (nI (L + 1)) ∧ ¬ BO B n c o r)) := by
  have c7 : (7 : Int32).toNatClampNeg = 7 := rfl
  have i7 : inb (7 : Int32) 98 = true := by decide
  have J52 : ∀ t : Ob, p_X10_readLine_J52 fu t = some (oA t 14 (upd (t.1 14) 7 (t.1 14 7 + 1))) := fun t => by
    unfold p_X10_readLine_J52
    simp only [i7, if_true, c7]
  have J41B : ∀ t : Ob, ¬ t.1 12 0 = 0 → p_X10_readLine_J41 fu t = some (oA t 14 (upd (t.1 14) 7 (t.1 14 7 + 1))) := fun t ht => by
    unfold p_X10_readLine_J41
    rw [r_good, Option.bind_some, if_neg ht, if_pos rfl, J52]
  unfold p_X10_readLine_J21
  rcases h with h | ⟨i, hi, h⟩
  · refine ⟨o, oA r 14 (upd (r.1 14) 7 (r.1 14 7 + 1)), c_takeB fu o k v 1 h.o, ?_, FR.rf.A (by decide) _, Or.inl h⟩
    rw [r_good, Option.bind_some, if_neg h.r, if_pos rfl, J41B r h.r]
  · obtain ⟨hK, -, hc⟩ := h.p E
    have hn := E.1
    have hcn := E.2.1
    have hic := h.1
    have r12 := h.2.2.2.2.1
    rw [r_good, Option.bind_some, if_pos r12, if_neg (show ¬ (1 : Int32) = 0 by decide)]
    by_cases g : o.1 4 0 = 1
    · have hh := (KD_1 hK).mp g
      have g2 : r.1 10 0 = 3 := (AT_3 h.2.2.2.2.2.2.2).mpr hh
      have hic' := hc hh.1
      obtain ⟨s, es, s2, s5, s4⟩ := c_takeY fu o k v 1 h.2.1 g h.2.2.1 (by omega)
      obtain ⟨t, et, F, t12, t13, tB, tA⟩ := r_adv fu hf E h hh.1
      have tw : t.1 14 = r.1 14 := F.f1 14 (by decide)
      have t7 : t.1 14 7 = nI L := by rw [tw]; exact w7 h.nb
      refine ⟨s, oA t 14 (upd (t.1 14) 7 (t.1 14 7 + 1)), es, ?_, (F.mono (by decide)).A (by decide) _, Or.inr ⟨⟨i + 1, by omega, by omega, s2, s5, s4, t12, t13, tB, tA⟩, ?_, h.nb⟩⟩
      · rw [if_pos g2]
        unfold p_X10_readLine_J41
        rw [r_good, Option.bind_some, if_pos r12, if_neg (show ¬ (1 : Int32) = 0 by decide), et, Option.bind_some, J52]
      · show upd (t.1 14) 7 (t.1 14 7 + 1) = _
        rw [t7, tw, add_nl]
    · have g2 : ¬ r.1 10 0 = 3 := fun z => g ((KD_1 hK).mpr ((AT_3 h.2.2.2.2.2.2.2).mp z))
      obtain ⟨t, et, F, t12, t13⟩ := r_errs fu r 1 r12
      have tn : ¬ t.1 12 0 = 0 := by rw [t12]; decide
      refine ⟨oI o 2 1, oA t 14 (upd (t.1 14) 7 (t.1 14 7 + 1)), c_takeN fu o k v 1 h.2.1 g, ?_, (F.mono (by decide)).A (by decide) _, Or.inl ?_⟩
      · rw [if_neg g2, et, Option.bind_some, J41B t tn]
      · have hb : BO B n c (oI o 2 1) t := BO.mk h (f := 1) (Or.inl rfl) rfl rfl t12 t13
        exact hb
/-- one line, on both sides -/
theorem ln_one (fu : Nat) (hf : 2000 ≤ fu) {B : Nat → Nat} {n c i : Nat} {k o r : Ob} (v o1 : Ob) (E : EV B n k c) (h : GO B n k c i o r) (hk : ¬ o.1 4 0 = 0) {L nr nj nn : Nat} (hLi : L ≤ i) (hP : PV v (r.1 14) L L nr nj nn) (c141 : Ob → Ob → Ob → Option (Ob × Ob × Ob)) (m : Nat) : ∃ s v' t, p_X1_read_L45 fu o1 c141 (m + 1) o k v (nI L) = p_X1_read_L45 fu o1 c141 m s k v' (nI (L + 1)) ∧ p_X10_readLine fu r = some t ∧ FR (14 :: RF) r t ∧ (∃ q, q ≤ 10 ∧ v'.1 4 0 = nI q) ∧ (BO B n c s t ∨ ∃ nr' nj' nn', (∃ j, i + 1 ≤ j ∧ GO B n k c j s t) ∧ PV v' (t.1 14) (L + 1) (L + 1) nr' nj' nn') := by
  have hn := E.1
  have hcn := E.2.1
  have hic : i < c := by
    have h1 := h.1
    rcases Nat.lt_or_ge i c with q | q
    · exact q
    · exfalso
      have e : i = c := by omega
      apply hk
      have := (h.p E).1
      rw [e, E.2.2.1] at this
      exact (KD_0 this).mpr rfl
  have c7 : (7 : Int32).toNatClampNeg = 7 := rfl
  have i7 : inb (7 : Int32) 98 = true := by decide
  have w7 := hP.1.2.2.2.2
  have q0 : (nI L = (0 : Int32)) = (L = 0) := eq_nn (b := 0) (by omega) (by omega)
  -- the body
  obtain ⟨s1, v1, t1, ec, er, F1, hq, hb⟩ : ∃ s1 v1 t1, p_X1_read_L45 fu o1 c141 (m + 1) o k v (nI L) = p_X1_read_J130 fu o1 (fun oz okz ovz v2 => p_X1_read_L45 fu o1 c141 m oz okz ovz v2) s1 k v1 (nI L) ∧ (p_X10_readLine fu r = p_X10_readLine_J21 fu t1) ∧ FR (14 :: RF) r t1 ∧ (∃ q, q ≤ 10 ∧ v1.1 4 0 = nI q) ∧ (BO B n c s1 t1 ∨ ∃ nr' nj' nn', (∃ j, i + 1 ≤ j ∧ GO B n k c j s1 t1) ∧ PV v1 (t1.1 14) L (L + 1) nr' nj' nn') := by
    rw [p_X1_read_L45, if_neg (show ¬ (700 : Int32) ≤ nI L by rw [le_ln (by decide) (by omega)]; omega), if_neg hk, if_pos h.2.1]
    unfold p_X10_readLine
    by_cases h0 : L = 0
    · subst h0
      obtain ⟨s1, v1, t1, es, et, F, q4, hh⟩ := rd_first fu hf v E h
      refine ⟨s1, v1, t1, ?_, ?_, F, ⟨nr, hP.2.2.1.1, q4.trans hP.2.1.1⟩, ?_⟩
      · rw [if_pos (show nI 0 = 0 from rfl)]
        simp only [es, Option.bind_some]
      · simp only [i7, if_true, c7, w7, q0, et, Option.bind_some]
      · rcases hh with z | ⟨z1, l, d, w, y1, y2, y3, rfl, z2⟩
        · exact Or.inl z
        · right
          refine ⟨nr, nj, nn, z1, ?_⟩
          rw [z2]
          exact hP.first y1 y2 y3
    · obtain ⟨s1, v1, t1, es, et, F, q4, hh⟩ := ln_next fu hf v E h h0 hP
      refine ⟨s1, v1, t1, ?_, ?_, F, q4, hh⟩
      · rw [if_neg (show ¬ nI L = 0 by rw [q0]; exact h0)]
        unfold cBody at es
        by_cases k8 : o.1 4 0 = 8
        · rw [if_pos k8] at es ⊢
          simp only [es, Option.bind_some]
        · rw [if_neg k8] at es ⊢
          by_cases k13 : o.1 4 0 = 13
          · rw [if_pos k13] at es ⊢
            simp only [es, Option.bind_some]
          · rw [if_neg k13] at es ⊢
            by_cases k16 : o.1 4 0 = 16
            · rw [if_pos k16] at es ⊢
              simp only [es, Option.bind_some]
            · rw [if_neg k16] at es ⊢
              simp only [es, Option.bind_some]
      · simp only [i7, if_true, c7, w7, q0, h0, if_false, et, Option.bind_some]
  have hb' : BO B n c s1 t1 ∨ ∃ j, i + 1 ≤ j ∧ GO B n k c j s1 t1 := hb.imp id (fun ⟨_, _, _, z, _⟩ => z)
  obtain ⟨s, t, es, et, F2, hs⟩ := ln_sign fu hf v1 E hb' (L := L) (fun z => by
    obtain ⟨_, _, _, _, hP1⟩ := hb.resolve_left z
    exact hP1.1.2.2.2.2)
  refine ⟨s, v1, t, ?_, ?_, F1.tr F2, hq, ?_⟩
  · rw [ec]
    unfold p_X1_read_J130
    simp only [es, Option.bind_some, add_nl]
  · rw [er, et]
  · rcases hs with z | ⟨⟨j, hj, z1⟩, z2, z3⟩
    · exact Or.inl z
    · obtain ⟨nr', nj', nn', -, hP1⟩ := hb.resolve_left z3
      right
      refine ⟨nr', nj', nn', ⟨j, by omega, z1⟩, ?_⟩
      rw [z2]
      exact hP1.u7 (L + 1)
/-- all lines -/
theorem ln_all (fu : Nat) (hf : 2000 ≤ fu) {B : Nat → Nat} {n c : Nat} {k : Ob} (o1 : Ob) (E : EV B n k c) (c141 : Ob → Ob → Ob → Option (Ob × Ob × Ob)) (c74 : Ob → Option (Int32 × Ob)) : ∀ (m m' i L nr nj nn : Nat) (o v r : Ob), GO B n k c i o r → L ≤ i → PV v (r.1 14) L L nr nj nn → c - i < m → c - i < m' → ∃ s v' t, p_X1_read_L45 fu o1 c141 m o k v (nI L) = c141 s k v' ∧ p_X10_rivers_L53 fu c74 m' r = c74 t ∧ FR (14 :: RF) r t ∧ (∃ q, q ≤ 10 ∧ v'.1 4 0 = nI q) ∧ (BO B n c s t ∨ ∃ L' nr' nj' nn', GO B n k c c s t ∧ PV v' (t.1 14) L' L' nr' nj' nn') := by
  intro m
  induction m with
  | zero => intro m' i L nr nj nn o v r _ _ _ h1; omega
  | succ m ih =>
    intro m' i L nr nj nn o v r h hLi hP hm hm'
    have hn := E.1
    have hcn := E.2.1
    have hic := h.1
    obtain ⟨q, rfl⟩ : ∃ q, m' = q + 1 := ⟨m' - 1, by omega⟩
    have r12 := h.2.2.2.2.1
    by_cases hk : o.1 4 0 = 0
    · have ep := (KD_0 (h.p E).1).mp hk
      have ei : i = c := by
        rcases Nat.lt_or_ge i c with z | z
        · exact absurd (E.2.2.2.1 i z) (by omega)
        · omega
      have r10 : r.1 10 0 = 0 := (AT_0 h.2.2.2.2.2.2.2).mpr ep
      refine ⟨o, v, r, ?_, ?_, FR.rf, ⟨nr, hP.2.2.1.1, hP.2.1.1⟩, Or.inr ⟨L, nr, nj, nn, by rw [ei] at h; exact h, hP⟩⟩
      · rw [p_X1_read_L45]
        simp only [if_pos hk, ite_self]
      · rw [p_X10_rivers_L53, r_good, Option.bind_some, if_pos r12, if_neg (show ¬ (1 : Int32) = 0 by decide), if_pos r10]
    · have r10 : ¬ r.1 10 0 = 0 := fun z => hk ((KD_0 (h.p E).1).mpr ((AT_0 h.2.2.2.2.2.2.2).mp z))
      have hic' : i < c := by
        rcases Nat.lt_or_ge i c with z | z
        · exact z
        · exfalso
          apply hk
          have e : i = c := by omega
          have := (h.p E).1
          rw [e, E.2.2.1] at this
          exact (KD_0 this).mpr rfl
      obtain ⟨s, v', t, es, et, F, q4, hh⟩ := ln_one fu hf v o1 E h hk hLi hP c141 m
      have eR : p_X10_rivers_L53 fu c74 (q + 1) r = p_X10_rivers_L53 fu c74 q t := by
        rw [p_X10_rivers_L53, r_good, Option.bind_some, if_pos r12, if_neg (show ¬ (1 : Int32) = 0 by decide), if_neg r10, et, Option.bind_some]
      rcases hh with z | ⟨nr', nj', nn', ⟨j, hj, z1⟩, z2⟩
      · obtain ⟨m0, rfl⟩ : ∃ m0, m = m0 + 1 := ⟨m - 1, by omega⟩
        obtain ⟨q0, rfl⟩ : ∃ q0, q = q0 + 1 := ⟨q - 1, by omega⟩
        refine ⟨s, v', t, ?_, ?_, F, q4, Or.inl z⟩
        · rw [es, p_X1_read_L45]
          simp only [if_neg z.o, ite_self]
        · rw [eR, p_X10_rivers_L53, r_good, Option.bind_some, if_neg z.r, if_pos rfl]
      · have hjc := z1.1
        obtain ⟨s', v'', t', es', et', F', q4', hh'⟩ := ih q j (L + 1) nr' nj' nn' s v' t z1 (by omega) z2 (by omega) (by omega)
        exact ⟨s', v'', t', es.trans es', eR.trans et', F.tr F', q4', hh'⟩
