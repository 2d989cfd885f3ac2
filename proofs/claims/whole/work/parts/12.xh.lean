/-! ===== lines of joins, of rains, the first line ===== -/
theorem le_of {N m : Nat} (hN : N < 100) (hm : m < 100) (h : nI N ≤ nI m) : N ≤ m := by
  rw [le_nn (by omega) (by omega)] at h; exact h
theorem lt_of {N m : Nat} (hN : N < 100) (hm : m < 100) (h : nI N ≤ nI m - 1) : N < m := by
  have h1 := Int32.not_lt.mpr h
  rw [lt_pred (by omega), le_nn (by omega) (by omega)] at h1
  omega
theorem pred_100 {m : Nat} (hm : m < 100) : (nI m - 1).toInt < 100 := by
  have e : (nI m - nI 1).toInt = (m : Int) - 1 := pk_sub_toInt (a := m) (b := 1) (by omega) (by omega)
  show (nI m - nI 1).toInt < 100
  omega
theorem rd_join (fu : Nat) (hf : 2000 ≤ fu) {B : Nat → Nat} {n c i : Nat} {k o r : Ob} (v : Ob) (E : EV B n k c) (h : GO B n k c i o r) (hk : o.1 4 0 = 13) {nr nj : Nat} (hnr : nr ≤ 10) (hnj : nj < 5) (v4 : v.1 4 0 = nI nr) (v8 : v.1 8 0 = nI nj) (w3 : r.1 14 3 = nI nr) (w4 : r.1 14 4 = nI nj) : ∃ t0 s v' t, p_X10_advance fu r = some t0 ∧ p_X1_readJoin fu o k v = some (s, k, v') ∧ p_X10_readJoin fu t0 = some t ∧ FR (14 :: RF) r t ∧ v'.1 4 0 = v.1 4 0 ∧ (BO B n c s t ∨ ((∃ j, i + 1 ≤ j ∧ GO B n k c j s t) ∧ ∃ f g e b, f < nr ∧ g < nr ∧ 1 ≤ e ∧ e ≤ 9 ∧ b < e ∧ v' = oI (oA (oA (oA (oA v 9 (upd (v.1 9) nj (nI f))) 10 (upd (v.1 10) nj (nI g))) 11 (upd (v.1 11) nj (nI e))) 12 (upd (v.1 12) nj (nI b))) 8 (nI (nj + 1)) ∧ t.1 14 = upd (upd (upd (upd (upd (r.1 14) (38 + 4 * nj) (nI f)) (38 + 4 * nj + 1) (nI g)) (38 + 4 * nj + 2) (nI e)) (38 + 4 * nj + 3) (nI b)) 4 (nI (nj + 1)))) := by
  obtain ⟨hK, -, hc⟩ := h.p E
  have hn := E.1
  have hcn := E.2.1
  have hp := ((KD_w hK (w := 4) (by decide)).mp hk).1
  have hic := hc hp
  obtain ⟨s1, es1, q2, q5, q4⟩ := c_takeY fu o k v 13 h.2.1 hk h.2.2.1 (by omega)
  obtain ⟨t0, et0, F0, t12, t13, tB, tA⟩ := r_adv fu hf E h hp
  have g1 : GO B n k c (i + 1) s1 t0 := ⟨by omega, q2, q5, q4, t12, t13, tB, tA⟩
  have w0 : t0.1 14 = r.1 14 := F0.f1 14 (by decide)
  -- from
  obtain ⟨y1, s2, y1', t2, es2, et2, F2, h2⟩ := st_num fu hf v E (Or.inr ⟨i + 1, Nat.le_refl _, g1⟩) (lo := 0) (by omega) (nI nr - 1) (nI nr - 1) (Or.inr ⟨rfl, pred_100 (by omega)⟩)
  have es2 : p_X1_takeValue fu s1 k v (0 : Int32) (nI nr - 1) = some (y1, s2, k, v) := es2
  have et2 : p_X10_number fu t0 (0 : Int32) (nI nr - 1) = some (y1', t2) := et2
  have en1 : p_X1_takeNumber fu o k v (13 : Int32) (0 : Int32) (nI nr - 1) = some (y1, s2, k, v) := by
    unfold p_X1_takeNumber
    simp only [es1, Option.bind_some, es2]
  have w2 : t2.1 14 = r.1 14 := (F2.f1 14 (by decide)).trans w0
  obtain ⟨v2, hv2⟩ : ∃ v2, v2 = oA v 9 (upd (v.1 9) nj y1) := ⟨_, rfl⟩
  have p1 : p_X9_put fu 5 (v.1 9) (nI nj) y1 = some (upd (v.1 9) nj y1) := e_put fu _ _ hnj (by omega)
  have v24 : v2.1 4 0 = nI nr := by rw [hv2]; exact v4
  -- to
  obtain ⟨u2, hu2⟩ : ∃ u2, u2 = oA t2 14 (upd (t2.1 14) (38 + 4 * nj) y1') := ⟨_, rfl⟩
  have hh2 := st_w (h2.imp id (fun z => z.1)) (upd (t2.1 14) (38 + 4 * nj) y1')
  rw [← hu2] at hh2
  obtain ⟨y2, s3, y2', t3, es3, et3, F3, h3⟩ := st_told fu hf v2 E hh2 (w := 0) (by decide) (lo := 0) (by omega) (nI nr - 1) (nI nr - 1) (Or.inr ⟨rfl, pred_100 (by omega)⟩)
  have es3 : p_X1_takeNumber fu s2 k v2 (9 : Int32) (0 : Int32) (nI nr - 1) = some (y2, s3, k, v2) := es3
  have et3 : p_X10_told fu u2 0 (0 : Int32) (nI nr - 1) = some (y2', t3) := et3
  have wu2 : u2.1 14 = upd (r.1 14) (38 + 4 * nj) y1' := by rw [hu2, ← w2]; rfl
  have wu23 : u2.1 14 3 = nI nr := by rw [wu2, upd_n (by omega), w3]
  have w3' : t3.1 14 = upd (r.1 14) (38 + 4 * nj) y1' := (F3.f1 14 (by decide)).trans wu2
  obtain ⟨v3, hv3⟩ : ∃ v3, v3 = oA v2 10 (upd (v2.1 10) nj y2) := ⟨_, rfl⟩
  have p2 : p_X9_put fu 5 (v2.1 10) (nI nj) y2 = some (upd (v2.1 10) nj y2) := e_put fu _ _ hnj (by omega)
  -- each
  obtain ⟨u3, hu3⟩ : ∃ u3, u3 = oA t3 14 (upd (t3.1 14) (38 + 4 * nj + 1) y2') := ⟨_, rfl⟩
  have hh3 := st_w (h3.imp id (fun z => z.1)) (upd (t3.1 14) (38 + 4 * nj + 1) y2')
  rw [← hu3] at hh3
  obtain ⟨y3, s4, y3', t4, es4, et4, F4, h4⟩ := st_told fu hf v3 E hh3 (w := 5) (by decide) (lo := 1) (by omega) 9 9 (Or.inr ⟨rfl, by decide⟩)
  have es4 : p_X1_takeNumber fu s3 k v3 (14 : Int32) (1 : Int32) (9 : Int32) = some (y3, s4, k, v3) := es4
  have et4 : p_X10_told fu u3 5 (1 : Int32) (9 : Int32) = some (y3', t4) := et4
  have wu3 : u3.1 14 = upd (upd (r.1 14) (38 + 4 * nj) y1') (38 + 4 * nj + 1) y2' := by rw [hu3, ← w3']; rfl
  have w4' : t4.1 14 = upd (upd (r.1 14) (38 + 4 * nj) y1') (38 + 4 * nj + 1) y2' := (F4.f1 14 (by decide)).trans wu3
  obtain ⟨v4', hv4'⟩ : ∃ v4', v4' = oA v3 11 (upd (v3.1 11) nj y3) := ⟨_, rfl⟩
  have p3 : p_X9_put fu 5 (v3.1 11) (nI nj) y3 = some (upd (v3.1 11) nj y3) := e_put fu _ _ hnj (by omega)
  -- at
  obtain ⟨u4, hu4⟩ : ∃ u4, u4 = oA t4 14 (upd (t4.1 14) (38 + 4 * nj + 2) y3') := ⟨_, rfl⟩
  have hh4 := st_w (h4.imp id (fun z => z.1)) (upd (t4.1 14) (38 + 4 * nj + 2) y3')
  have hb4 : BO B n c s4 u4 ∨ (y3' - 1 = y3 - 1 ∧ (y3 - 1).toInt < 100) := by
    rcases h4 with z | ⟨-, ⟨N, -, hN, -, rfl, rfl⟩, -⟩
    · left
      rw [hu4]
      exact z
    · exact Or.inr ⟨rfl, pred_100 hN⟩
  rw [← hu4] at hh4
  obtain ⟨y4, s5, y4', t5, es5, et5, F5, h5⟩ := st_told fu hf v4' E hh4 (w := 1) (by decide) (lo := 0) (by omega) (y3 - 1) (y3' - 1) hb4
  have es5 : p_X1_takeNumber fu s4 k v4' (15 : Int32) (0 : Int32) (y3 - 1) = some (y4, s5, k, v4') := es5
  have et5 : p_X10_told fu u4 1 (0 : Int32) (y3' - 1) = some (y4', t5) := et5
  have wu4 : u4.1 14 = upd (upd (upd (r.1 14) (38 + 4 * nj) y1') (38 + 4 * nj + 1) y2') (38 + 4 * nj + 2) y3' := by rw [hu4, ← w4']; rfl
  have wu42 : u4.1 14 (38 + 4 * nj + 2) = y3' := by rw [wu4, upd_s]
  have w5' : t5.1 14 = upd (upd (upd (r.1 14) (38 + 4 * nj) y1') (38 + 4 * nj + 1) y2') (38 + 4 * nj + 2) y3' := (F5.f1 14 (by decide)).trans wu4
  have p4 : p_X9_put fu 5 (v4'.1 12) (nI nj) y4 = some (upd (v4'.1 12) nj y4) := e_put fu _ _ hnj (by omega)
  have w54 : (upd (t5.1 14) (38 + 4 * nj + 3) y4') 4 = nI nj := by rw [upd_n (by omega), w5', upd_n (by omega), upd_n (by omega), upd_n (by omega), w4]
  have ecl : p_X1_claim fu o k v (nI nj) (5 : Int32) = some (nI nj, o, k, v) := c_claim fu o k v (m := 5) hnj (by omega)
  refine ⟨t0, s5, oI (oA v4' 12 (upd (v4'.1 12) nj y4)) 8 (nI (nj + 1)), oA (oA t5 14 (upd (t5.1 14) (38 + 4 * nj + 3) y4')) 14 (upd (upd (t5.1 14) (38 + 4 * nj + 3) y4') 4 (nI (nj + 1))), et0, ?_, ?_, ?_, by rw [hv4', hv3, hv2]; rfl, ?_⟩
  · unfold p_X1_readJoin
    simp only [v8, v4, ecl, Option.bind_some, en1, p1, ← hv2, v24, es3, p2, ← hv3, es4, p3, ← hv4', es5, p4, add_nl]
  · unfold p_X10_readJoin
    have c3 : (3 : Int32).toNatClampNeg = 3 := rfl
    have c4 : (4 : Int32).toNatClampNeg = 4 := rfl
    have i3 : inb (3 : Int32) 98 = true := by decide
    have i4 : inb (4 : Int32) 98 = true := by decide
    have j0 : inb (nI (38 + 4 * nj)) 98 = true := by rw [inb_nI (by omega) (by omega)]; trivial
    have j1 : inb (nI (38 + 4 * nj + 1)) 98 = true := by rw [inb_nI (by omega) (by omega)]; trivial
    have j2 : inb (nI (38 + 4 * nj + 2)) 98 = true := by rw [inb_nI (by omega) (by omega)]; trivial
    have j3 : inb (nI (38 + 4 * nj + 3)) 98 = true := by rw [inb_nI (by omega) (by omega)]; trivial
    have d0 : (nI (38 + 4 * nj)).toNatClampNeg = 38 + 4 * nj := cl_nI (by omega)
    have d1 : (nI (38 + 4 * nj + 1)).toNatClampNeg = 38 + 4 * nj + 1 := cl_nI (by omega)
    have d2 : (nI (38 + 4 * nj + 2)).toNatClampNeg = 38 + 4 * nj + 2 := cl_nI (by omega)
    have d3 : (nI (38 + 4 * nj + 3)).toNatClampNeg = 38 + 4 * nj + 3 := cl_nI (by omega)
    have w03 : t0.1 14 3 = nI nr := by rw [w0]; exact w3
    have w04 : t0.1 14 4 = nI nj := by rw [w0]; exact w4
    have o14 : ∀ (q : Ob) (g : Nat → Int32), (oA q 14 g).1 14 = g := fun _ _ => rfl
    have ux2 : upd (t2.1 14) (38 + 4 * nj) y1' 3 = nI nr := by rw [upd_n (by omega), w2, w3]
    have ux4 : upd (t4.1 14) (38 + 4 * nj + 2) y3' (38 + 4 * nj + 2) = y3' := upd_s
    simp only [c3, c4, i3, i4, w03, w04, mul_ln, add_ln, if_true, et2, Option.bind_some, j0, d0, ← hu2, ux2, et3, add_nl, j1, d1, ← hu3, et4, j2, d2, ← hu4, ux4, et5, j3, d3, o14, w54]
  · have A1 : FR (14 :: RF) r u2 := by rw [hu2]; exact ((F0.mono (by decide)).tr (F2.mono (by decide))).A (by decide) _
    have A2 : FR (14 :: RF) r u3 := by rw [hu3]; exact (A1.tr (F3.mono (by decide))).A (by decide) _
    have A3 : FR (14 :: RF) r u4 := by rw [hu4]; exact (A2.tr (F4.mono (by decide))).A (by decide) _
    exact ((A3.tr (F5.mono (by decide))).A (by decide) _).A (by decide) _
  · rcases h5 with z | ⟨⟨j, hj, z1⟩, ⟨N4, d1, d2, d3, rfl, rfl⟩, z3⟩
    · exact Or.inl z
    · have n4 : ¬ BO B n c s4 t4 := fun z => z3 (by rw [hu4]; exact z)
      obtain ⟨-, ⟨N3, c1, c2, c3, rfl, rfl⟩, m3⟩ := h4.resolve_left n4
      have n3 : ¬ BO B n c s3 t3 := fun z => m3 (by rw [hu3]; exact z)
      obtain ⟨-, ⟨N2, b1, b2, b3, rfl, rfl⟩, m2⟩ := h3.resolve_left n3
      have n2 : ¬ BO B n c s2 t2 := fun z => m2 (by rw [hu2]; exact z)
      obtain ⟨-, ⟨N1, a1, a2, a3, rfl, rfl⟩, m1⟩ := h2.resolve_left n2
      refine Or.inr ⟨⟨j, by omega, z1⟩, N1, N2, N3, N4, lt_of a2 (by omega) a3, lt_of b2 (by omega) b3, c1, le_of (m := 9) c2 (by omega) c3, lt_of d2 c2 d3, ?_, ?_⟩
      · rw [hv4', hv3, hv2]; rfl
      · show upd (upd (t5.1 14) (38 + 4 * nj + 3) (nI N4)) 4 (nI (nj + 1)) = _
        rw [w5']
theorem rd_rain (fu : Nat) (hf : 2000 ≤ fu) {B : Nat → Nat} {n c i : Nat} {k o r : Ob} (v : Ob) (E : EV B n k c) (h : GO B n k c i o r) (hk : o.1 4 0 = 16) {nn : Nat} (hnn : nn < 5) (v13 : v.1 13 0 = nI nn) (w5 : r.1 14 5 = nI nn) : ∃ t0 s v' t, p_X10_advance fu r = some t0 ∧ p_X1_readRain fu o k v = some (s, k, v') ∧ p_X10_readRain fu t0 = some t ∧ FR (14 :: RF) r t ∧ v'.1 4 0 = v.1 4 0 ∧ (BO B n c s t ∨ ((∃ j, i + 1 ≤ j ∧ GO B n k c j s t) ∧ ∃ m b, 1 ≤ m ∧ m ≤ 30 ∧ b ≤ 60 ∧ v' = oI (oA (oA v 14 (upd (v.1 14) nn (nI m))) 15 (upd (v.1 15) nn (nI b))) 13 (nI (nn + 1)) ∧ t.1 14 = upd (upd (upd (r.1 14) (58 + 2 * nn) (nI m)) (58 + 2 * nn + 1) (nI b)) 5 (nI (nn + 1)))) := by
  obtain ⟨hK, -, hc⟩ := h.p E
  have hn := E.1
  have hcn := E.2.1
  have hp := ((KD_w hK (w := 6) (by decide)).mp hk).1
  have hic := hc hp
  obtain ⟨s1, es1, q2, q5, q4⟩ := c_takeY fu o k v 16 h.2.1 hk h.2.2.1 (by omega)
  obtain ⟨t0, et0, F0, t12, t13, tB, tA⟩ := r_adv fu hf E h hp
  have g1 : GO B n k c (i + 1) s1 t0 := ⟨by omega, q2, q5, q4, t12, t13, tB, tA⟩
  have w0 : t0.1 14 = r.1 14 := F0.f1 14 (by decide)
  obtain ⟨y1, s2, y1', t2, es2, et2, F2, h2⟩ := st_num fu hf v E (Or.inr ⟨i + 1, Nat.le_refl _, g1⟩) (lo := 1) (by omega) 30 30 (Or.inr ⟨rfl, by decide⟩)
  have es2 : p_X1_takeValue fu s1 k v (1 : Int32) (30 : Int32) = some (y1, s2, k, v) := es2
  have et2 : p_X10_number fu t0 (1 : Int32) (30 : Int32) = some (y1', t2) := et2
  have en1 : p_X1_takeNumber fu o k v (16 : Int32) (1 : Int32) (30 : Int32) = some (y1, s2, k, v) := by
    unfold p_X1_takeNumber
    simp only [es1, Option.bind_some, es2]
  have w2 : t2.1 14 = r.1 14 := (F2.f1 14 (by decide)).trans w0
  obtain ⟨v2, hv2⟩ : ∃ v2, v2 = oA v 14 (upd (v.1 14) nn y1) := ⟨_, rfl⟩
  have p1 : p_X9_put fu 5 (v.1 14) (nI nn) y1 = some (upd (v.1 14) nn y1) := e_put fu _ _ hnn (by omega)
  obtain ⟨u2, hu2⟩ : ∃ u2, u2 = oA t2 14 (upd (t2.1 14) (58 + 2 * nn) y1') := ⟨_, rfl⟩
  have hh2 := st_w (h2.imp id (fun z => z.1)) (upd (t2.1 14) (58 + 2 * nn) y1')
  rw [← hu2] at hh2
  obtain ⟨y2, s3, y2', t3, es3, et3, F3, h3⟩ := st_told fu hf v2 E hh2 (w := 1) (by decide) (lo := 0) (by omega) 60 60 (Or.inr ⟨rfl, by decide⟩)
  have es3 : p_X1_takeNumber fu s2 k v2 (15 : Int32) (0 : Int32) (60 : Int32) = some (y2, s3, k, v2) := es3
  have et3 : p_X10_told fu u2 1 (0 : Int32) (60 : Int32) = some (y2', t3) := et3
  have wu2 : u2.1 14 = upd (r.1 14) (58 + 2 * nn) y1' := by rw [hu2, ← w2]; rfl
  have w3' : t3.1 14 = upd (r.1 14) (58 + 2 * nn) y1' := (F3.f1 14 (by decide)).trans wu2
  have p2 : p_X9_put fu 5 (v2.1 15) (nI nn) y2 = some (upd (v2.1 15) nn y2) := e_put fu _ _ hnn (by omega)
  have w35 : (upd (t3.1 14) (58 + 2 * nn + 1) y2') 5 = nI nn := by rw [upd_n (by omega), w3', upd_n (by omega), w5]
  have ecl : p_X1_claim fu o k v (nI nn) (5 : Int32) = some (nI nn, o, k, v) := c_claim fu o k v (m := 5) hnn (by omega)
  refine ⟨t0, s3, oI (oA v2 15 (upd (v2.1 15) nn y2)) 13 (nI (nn + 1)), oA (oA t3 14 (upd (t3.1 14) (58 + 2 * nn + 1) y2')) 14 (upd (upd (t3.1 14) (58 + 2 * nn + 1) y2') 5 (nI (nn + 1))), et0, ?_, ?_, ?_, by rw [hv2]; rfl, ?_⟩
  · unfold p_X1_readRain
    simp only [v13, ecl, Option.bind_some, en1, p1, ← hv2, es3, p2, add_nl]
  · unfold p_X10_readRain
    have c5 : (5 : Int32).toNatClampNeg = 5 := rfl
    have i5 : inb (5 : Int32) 98 = true := by decide
    have j0 : inb (nI (58 + 2 * nn)) 98 = true := by rw [inb_nI (by omega) (by omega)]; trivial
    have j1 : inb (nI (58 + 2 * nn + 1)) 98 = true := by rw [inb_nI (by omega) (by omega)]; trivial
    have d0 : (nI (58 + 2 * nn)).toNatClampNeg = 58 + 2 * nn := cl_nI (by omega)
    have d1 : (nI (58 + 2 * nn + 1)).toNatClampNeg = 58 + 2 * nn + 1 := cl_nI (by omega)
    have w05 : t0.1 14 5 = nI nn := by rw [w0]; exact w5
    have o14 : ∀ (q : Ob) (g : Nat → Int32), (oA q 14 g).1 14 = g := fun _ _ => rfl
    simp only [c5, i5, w05, mul_ln, add_ln, if_true, et2, Option.bind_some, j0, d0, ← hu2, et3, add_nl, j1, d1, o14, w35]
  · have A1 : FR (14 :: RF) r u2 := by rw [hu2]; exact ((F0.mono (by decide)).tr (F2.mono (by decide))).A (by decide) _
    exact ((A1.tr (F3.mono (by decide))).A (by decide) _).A (by decide) _
  · rcases h3 with z | ⟨⟨j, hj, z1⟩, ⟨N2, b1, b2, b3, rfl, rfl⟩, z3⟩
    · exact Or.inl z
    · have n2 : ¬ BO B n c s2 t2 := fun z => z3 (by rw [hu2]; exact z)
      obtain ⟨-, ⟨N1, a1, a2, a3, rfl, rfl⟩, m1⟩ := h2.resolve_left n2
      refine Or.inr ⟨⟨j, by omega, z1⟩, N1, N2, a1, le_of (m := 30) a2 (by omega) a3, le_of (m := 60) b2 (by omega) b3, ?_, ?_⟩
      · rw [hv2]; rfl
      · show upd (upd (t3.1 14) (58 + 2 * nn + 1) (nI N2)) 5 (nI (nn + 1)) = _
        rw [w3']
theorem rd_first (fu : Nat) (hf : 2000 ≤ fu) {B : Nat → Nat} {n c i : Nat} {k o r : Ob} (v : Ob) (E : EV B n k c) (h : GO B n k c i o r) : ∃ s v' t, p_X1_readRivers fu o k v = some (s, k, v') ∧ p_X10_readFirst fu r = some t ∧ FR (14 :: RF) r t ∧ v'.1 4 0 = v.1 4 0 ∧ (BO B n c s t ∨ ((∃ j, i + 1 ≤ j ∧ GO B n k c j s t) ∧ ∃ l d w, l ≤ 60 ∧ d ≤ 10 ∧ w ≤ 9 ∧ v' = oI (oI (oI (oI v 0 1) 1 (nI l)) 2 (nI d)) 3 (nI w) ∧ t.1 14 = upd (upd (upd (r.1 14) 0 (nI l)) 1 (nI d)) 2 (nI w))) := by
  obtain ⟨s1, t1, es1, et1, F1, h1⟩ := st_needs fu hf (oI v 0 1) E (Or.inr ⟨i, Nat.le_refl _, h⟩) (w := 12) (by decide)
  have es1 : p_X1_take fu o k (oI v 0 1) (4 : Int32) = some (s1, k, oI v 0 1) := es1
  have w1 : t1.1 14 = r.1 14 := F1.f1 14 (by decide)
  obtain ⟨y2, s2, y2', t2, es2, et2, F2, h2⟩ := st_told fu hf (oI v 0 1) E (h1.imp id (fun z => z.1)) (w := 10) (by decide) (lo := 0) (by omega) 60 60 (Or.inr ⟨rfl, by decide⟩)
  have es2 : p_X1_takeNumber fu s1 k (oI v 0 1) (5 : Int32) (0 : Int32) (60 : Int32) = some (y2, s2, k, oI v 0 1) := es2
  have et2 : p_X10_told fu t1 10 (0 : Int32) (60 : Int32) = some (y2', t2) := et2
  have w2 : t2.1 14 = r.1 14 := (F2.f1 14 (by decide)).trans w1
  obtain ⟨u2, hu2⟩ : ∃ u2, u2 = oA t2 14 (upd (t2.1 14) 0 y2') := ⟨_, rfl⟩
  have hh2 := st_w (h2.imp id (fun z => z.1)) (upd (t2.1 14) 0 y2')
  rw [← hu2] at hh2
  obtain ⟨y3, s3, y3', t3, es3, et3, F3, h3⟩ := st_told fu hf (oI (oI v 0 1) 1 y2) E hh2 (w := 7) (by decide) (lo := 0) (by omega) 10 10 (Or.inr ⟨rfl, by decide⟩)
  have es3 : p_X1_takeNumber fu s2 k (oI (oI v 0 1) 1 y2) (6 : Int32) (0 : Int32) (10 : Int32) = some (y3, s3, k, oI (oI v 0 1) 1 y2) := es3
  have et3 : p_X10_told fu u2 7 (0 : Int32) (10 : Int32) = some (y3', t3) := et3
  have wu2 : u2.1 14 = upd (r.1 14) 0 y2' := by rw [hu2, ← w2]; rfl
  have w3 : t3.1 14 = upd (r.1 14) 0 y2' := (F3.f1 14 (by decide)).trans wu2
  obtain ⟨u3, hu3⟩ : ∃ u3, u3 = oA t3 14 (upd (t3.1 14) 1 y3') := ⟨_, rfl⟩
  have hh3 := st_w (h3.imp id (fun z => z.1)) (upd (t3.1 14) 1 y3')
  rw [← hu3] at hh3
  obtain ⟨y4, s4, y4', t4, es4, et4, F4, h4⟩ := st_told fu hf (oI (oI (oI v 0 1) 1 y2) 2 y3) E hh3 (w := 11) (by decide) (lo := 1) (by omega) 9 9 (Or.inr ⟨rfl, by decide⟩)
  have es4 : p_X1_takeNumber fu s3 k (oI (oI (oI v 0 1) 1 y2) 2 y3) (7 : Int32) (1 : Int32) (9 : Int32) = some (y4, s4, k, oI (oI (oI v 0 1) 1 y2) 2 y3) := es4
  have et4 : p_X10_told fu u3 11 (1 : Int32) (9 : Int32) = some (y4', t4) := et4
  have wu3 : u3.1 14 = upd (upd (r.1 14) 0 y2') 1 y3' := by rw [hu3, ← w3]; rfl
  have w4 : t4.1 14 = upd (upd (r.1 14) 0 y2') 1 y3' := (F4.f1 14 (by decide)).trans wu3
  refine ⟨s4, oI (oI (oI (oI v 0 1) 1 y2) 2 y3) 3 y4, oA t4 14 (upd (t4.1 14) 2 y4'), ?_, ?_, ?_, rfl, ?_⟩
  · unfold p_X1_readRivers
    simp only [es1, Option.bind_some, es2, es3, es4]
  · unfold p_X10_readFirst
    have c0 : (0 : Int32).toNatClampNeg = 0 := rfl
    have c1 : (1 : Int32).toNatClampNeg = 1 := rfl
    have c2 : (2 : Int32).toNatClampNeg = 2 := rfl
    have i0 : inb (0 : Int32) 98 = true := by decide
    have i1 : inb (1 : Int32) 98 = true := by decide
    have i2 : inb (2 : Int32) 98 = true := by decide
    simp only [et1, Option.bind_some, et2, i0, i1, i2, c0, c1, c2, if_true, ← hu2, et3, ← hu3, et4]
  · have A1 : FR (14 :: RF) r u2 := by rw [hu2]; exact ((F1.mono (by decide)).tr (F2.mono (by decide))).A (by decide) _
    have A2 : FR (14 :: RF) r u3 := by rw [hu3]; exact (A1.tr (F3.mono (by decide))).A (by decide) _
    exact (A2.tr (F4.mono (by decide))).A (by decide) _
  · rcases h4 with z | ⟨⟨j, hj, z1⟩, ⟨N4, c1, c2, c3, rfl, rfl⟩, z3⟩
    · exact Or.inl z
    · have n3 : ¬ BO B n c s3 t3 := fun z => z3 (by rw [hu3]; exact z)
      obtain ⟨-, ⟨N3, b1, b2, b3, rfl, rfl⟩, m3⟩ := h3.resolve_left n3
      have n2 : ¬ BO B n c s2 t2 := fun z => m3 (by rw [hu2]; exact z)
      obtain ⟨-, ⟨N2, a1, a2, a3, rfl, rfl⟩, m2⟩ := h2.resolve_left n2
      refine Or.inr ⟨⟨j, by omega, z1⟩, N2, N3, N4, le_of (m := 60) a2 (by omega) a3, le_of (m := 10) b2 (by omega) b3, le_of (m := 9) c2 (by omega) c3, rfl, ?_⟩
      show upd (t4.1 14) 2 (nI N4) = _
      rw [w4]
