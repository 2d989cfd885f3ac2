/-! ===== rivers: both end ===== -/
/-- where a reach goes, once it is known which reaches there are -/
def tgt (m T : Int32) : Int32 := if T < m then T else -1
theorem e_sts (fu : Nat) (hf : 2000 ≤ fu) (v : Ob) {nr : Nat} (hnr : nr ≤ 10) (h4 : v.1 4 0 = nI nr) : ∃ z, p_X2_sendToSea fu v = some z ∧ FR [5] v z ∧ ∀ q, q < nr → z.1 5 q = tgt (nI nr) (v.1 5 q) := by
  unfold p_X2_sendToSea
  obtain ⟨z, ez, F, hz⟩ := loop_inv (fun m i z => p_X2_sendToSea_L2 fu m z (nI i)) nr (fun i z => FR [5] v z ∧ (∀ q, q < i → z.1 5 q = tgt (nI nr) (v.1 5 q)) ∧ ∀ q, i ≤ q → z.1 5 q = v.1 5 q) (fun z => FR [5] v z ∧ ∀ q, q < nr → z.1 5 q = tgt (nI nr) (v.1 5 q)) (by
    rintro m z ⟨F, h1, h2⟩
    have e4 : z.1 4 0 = nI nr := by rw [F.f1 4 (by decide)]; exact h4
    refine ⟨z, ?_, F, h1⟩
    show p_X2_sendToSea_L2 fu (m + 1) z (nI nr) = _
    rw [p_X2_sendToSea_L2, e4, if_pos (Int32.le_refl _)]) (by
    rintro m i z hi ⟨F, h1, h2⟩
    have e4 : z.1 4 0 = nI nr := by rw [F.f1 4 (by decide)]; exact h4
    right
    have e5 : z.1 5 i = v.1 5 i := h2 i (Nat.le_refl _)
    show ∃ s', p_X2_sendToSea_L2 fu (m + 1) z (nI i) = p_X2_sendToSea_L2 fu m s' (nI (i + 1)) ∧ _
    rw [p_X2_sendToSea_L2, e4, if_neg (show ¬ nI nr ≤ nI i by rw [le_nn (by omega) (by omega)]; omega), e_pick fu _ (show i < 10 by omega) (by omega), Option.bind_some, e5, add_nl]
    by_cases c : v.1 5 i < nI nr
    · rw [if_pos c]
      refine ⟨z, rfl, F, fun q hq => ?_, fun q hq => h2 q (by omega)⟩
      by_cases e : q = i
      · rw [e, e5]; unfold tgt; rw [if_pos c]
      · exact h1 q (by omega)
    · rw [if_neg c, e_put fu _ _ (show i < 10 by omega) (by omega), Option.bind_some]
      refine ⟨oA z 5 (upd (z.1 5) i (-1)), rfl, F.A (by decide) _, fun q hq => ?_, fun q hq => ?_⟩
      · show upd (z.1 5) i (-1) q = _
        by_cases e : q = i
        · rw [e, upd_s]; unfold tgt; rw [if_neg c]
        · rw [upd_n e]; exact h1 q (by omega)
      · show upd (z.1 5) i (-1) q = _
        rw [upd_n (by omega)]; exact h2 q (by omega)) fu 0 v (Nat.zero_le _) (by omega) ⟨FR.rf, fun q hq => absurd hq (Nat.not_lt_zero _), fun _ _ => rfl⟩
  exact ⟨z, ez, F, hz⟩
/-- the reference's row of the text, cleared -/
theorem r_clear (fu : Nat) (hf : 2000 ≤ fu) (c49 : Ob → Option (Int32 × Ob)) (r : Ob) : ∃ s, p_X10_rivers_L30 fu c49 fu r 0 = c49 s ∧ FR [14] r s ∧ ∀ k, k < 98 → s.1 14 k = 0 := by
  obtain ⟨s, es, h⟩ := loop_to (fun m i s => p_X10_rivers_L30 fu c49 m s (nI i)) 98 (fun i s => FR [14] r s ∧ ∀ k, k < i → s.1 14 k = 0) (fun s => c49 s) (by
    rintro m s -
    show p_X10_rivers_L30 fu c49 (m + 1) s (nI 98) = _
    rw [p_X10_rivers_L30, if_pos (show (98 : Int32) ≤ nI 98 from Int32.le_refl _)]) (by
    rintro m i s hi ⟨F, h1⟩
    have i0 : inb (nI i) 98 = true := by rw [inb_nI (by omega) (by omega)]; trivial
    have d0 : (nI i).toNatClampNeg = i := cl_nI (by omega)
    refine ⟨oA s 14 (upd (s.1 14) i 0), ?_, F.A (by decide) _, fun k hk => ?_⟩
    · show p_X10_rivers_L30 fu c49 (m + 1) s (nI i) = p_X10_rivers_L30 fu c49 m _ (nI (i + 1))
      rw [p_X10_rivers_L30, if_neg (show ¬ (98 : Int32) ≤ nI i by rw [le_ln (by decide) (by omega)]; omega), if_pos i0, d0, add_nl]
    · show upd (s.1 14) i 0 k = 0
      by_cases e : k = i
      · rw [e, upd_s]
      · rw [upd_n e]; exact h1 k (by omega)) fu 0 r (Nat.zero_le _) (by omega) ⟨FR.rf, fun k hk => absurd hk (Nat.not_lt_zero _)⟩
  exact ⟨s, es, h.1, h.2⟩
theorem r_sts (fu : Nat) (hf : 2000 ≤ fu) (c138 : Ob → Option (Int32 × Ob)) (t : Ob) {nr : Nat} (hnr : nr ≤ 10) (h3 : t.1 14 3 = nI nr) : ∃ s, p_X10_rivers_L86 fu c138 fu t 0 = c138 s ∧ FR [14] t s ∧ (∀ q, q < nr → s.1 14 (8 + 3 * q) = tgt (nI nr) (t.1 14 (8 + 3 * q))) ∧ ∀ x, (∀ q, q < nr → x ≠ 8 + 3 * q) → s.1 14 x = t.1 14 x := by
  obtain ⟨s, es, h⟩ := loop_to (fun m i s => p_X10_rivers_L86 fu c138 m s (nI i)) nr (fun i s => FR [14] t s ∧ (∀ q, q < i → s.1 14 (8 + 3 * q) = tgt (nI nr) (t.1 14 (8 + 3 * q))) ∧ ∀ x, (∀ q, q < i → x ≠ 8 + 3 * q) → s.1 14 x = t.1 14 x) (fun s => c138 s) (by
    rintro m s ⟨F, h1, h2⟩
    have e3 : s.1 14 3 = nI nr := by rw [h2 3 (fun q _ => by omega)]; exact h3
    have c3 : (3 : Int32).toNatClampNeg = 3 := rfl
    have i3 : inb (3 : Int32) 98 = true := by decide
    show p_X10_rivers_L86 fu c138 (m + 1) s (nI nr) = _
    rw [p_X10_rivers_L86, if_pos i3, c3, e3, if_pos (Int32.le_refl _)]) (by
    rintro m i s hi ⟨F, h1, h2⟩
    have e3 : s.1 14 3 = nI nr := by rw [h2 3 (fun q _ => by omega)]; exact h3
    have c3 : (3 : Int32).toNatClampNeg = 3 := rfl
    have i3 : inb (3 : Int32) 98 = true := by decide
    have i0 : inb (nI (8 + 3 * i)) 98 = true := by rw [inb_nI (by omega) (by omega)]; trivial
    have d0 : (nI (8 + 3 * i)).toNatClampNeg = 8 + 3 * i := cl_nI (by omega)
    have ee : ((8 + (3 * nI i)) + 0 : Int32) = nI (8 + 3 * i) := by rw [mul_ln, add_ln, add_nl]; rfl
    have e5 : s.1 14 (8 + 3 * i) = t.1 14 (8 + 3 * i) := h2 _ (fun q hq => by omega)
    show ∃ s', p_X10_rivers_L86 fu c138 (m + 1) s (nI i) = p_X10_rivers_L86 fu c138 m s' (nI (i + 1)) ∧ _
    rw [p_X10_rivers_L86, if_pos i3, c3, e3, if_neg (show ¬ nI nr ≤ nI i by rw [le_nn (by omega) (by omega)]; omega), ee, if_pos i0, if_pos i3, d0, e5, add_nl]
    by_cases c : t.1 14 (8 + 3 * i) < nI nr
    · rw [if_pos c]
      refine ⟨s, rfl, F, fun q hq => ?_, fun x hx => h2 x (fun q hq => hx q (by omega))⟩
      by_cases e : q = i
      · rw [e, e5]; unfold tgt; rw [if_pos c]
      · exact h1 q (by omega)
    · rw [if_neg c, if_pos i0]
      refine ⟨oA s 14 (upd (s.1 14) (8 + 3 * i) (-1)), rfl, F.A (by decide) _, fun q hq => ?_, fun x hx => ?_⟩
      · show upd (s.1 14) (8 + 3 * i) (-1) (8 + 3 * q) = _
        by_cases e : q = i
        · rw [e, upd_s]; unfold tgt; rw [if_neg c]
        · rw [upd_n (by omega)]; exact h1 q (by omega)
      · show upd (s.1 14) (8 + 3 * i) (-1) x = _
        rw [upd_n (hx i (by omega))]; exact h2 x (fun q hq => hx q (by omega))) fu 0 t (Nat.zero_le _) (by omega) ⟨FR.rf, fun q hq => absurd hq (Nat.not_lt_zero _), fun _ _ => rfl⟩
  exact ⟨s, es, h.1, h.2.1, h.2.2⟩
theorem r_copy (fu : Nat) (hf : 2000 ≤ fu) (t : Ob) : ∃ s, p_X10_rivers_L140 fu fu t 0 = some (t.1 14 7, s) ∧ FR [1] t s ∧ ∀ k, k < 98 → s.1 1 k = t.1 14 k := by
  obtain ⟨⟨a, s⟩, es, e7, h⟩ := loop_inv (fun m i s => p_X10_rivers_L140 fu m s (nI i)) 98 (fun i s => FR [1] t s ∧ ∀ k, k < i → s.1 1 k = t.1 14 k) (fun a => a.1 = t.1 14 7 ∧ FR [1] t a.2 ∧ ∀ k, k < 98 → a.2.1 1 k = t.1 14 k) (by
    rintro m s ⟨F, h1⟩
    have c7 : (7 : Int32).toNatClampNeg = 7 := rfl
    have i7 : inb (7 : Int32) 98 = true := by decide
    refine ⟨(s.1 1 7, s), ?_, h1 7 (by omega), F, h1⟩
    show p_X10_rivers_L140 fu (m + 1) s (nI 98) = _
    rw [p_X10_rivers_L140, if_pos (show (98 : Int32) ≤ nI 98 from Int32.le_refl _), if_pos i7, c7]) (by
    rintro m i s hi ⟨F, h1⟩
    have i0 : inb (nI i) 98 = true := by rw [inb_nI (by omega) (by omega)]; trivial
    have d0 : (nI i).toNatClampNeg = i := cl_nI (by omega)
    right
    refine ⟨oA s 1 (upd (s.1 1) i (t.1 14 i)), ?_, F.A (by decide) _, fun k hk => ?_⟩
    · show p_X10_rivers_L140 fu (m + 1) s (nI i) = p_X10_rivers_L140 fu m _ (nI (i + 1))
      rw [p_X10_rivers_L140, if_neg (show ¬ (98 : Int32) ≤ nI i by rw [le_ln (by decide) (by omega)]; omega), if_pos i0, if_pos i0, d0, F.f1 14 (by decide), add_nl]
    · show upd (s.1 1) i (t.1 14 i) k = _
      by_cases e : k = i
      · rw [e, upd_s]
      · rw [upd_n e]; exact h1 k (by omega)) fu 0 t (Nat.zero_le _) (by omega) ⟨FR.rf, fun k hk => absurd hk (Nat.not_lt_zero _)⟩
  simp only at e7 h
  rw [← e7]
  exact ⟨s, es, h.1, h.2⟩
/-- the new rivers, once the text has ended -/
theorem PV.rw {v z : Ob} {w u : Nat → Int32} {L nr nj nn : Nat} (h : PV v w L L nr nj nn) (F : FR [5] v z) (hz : ∀ q, q < nr → z.1 5 q = tgt (nI nr) (v.1 5 q)) (hu : ∀ q, q < nr → u (8 + 3 * q) = tgt (nI nr) (w (8 + 3 * q))) (hx : ∀ x, x < 98 → (∀ q, q < nr → x ≠ 8 + 3 * q) → u x = w x) : RW z u ∧ nL u = L := by
  obtain ⟨⟨a1, a2, a3, a4, a5⟩, ⟨v1, v2, v3, v4⟩, ⟨c1, c2, c3, c4, c5⟩, h0, ⟨l, d, s, b1, b2, b3, b4, b5, b6, b7, b8, b9⟩, hr, hj, hn⟩ := h
  have hL : L ≤ 21 := by
    by_cases e : L = 0
    · omega
    · have := c5 e; omega
  have k : ∀ x, x < 8 → u x = w x := fun x h => hx x (by omega) (fun q _ => by omega)
  have kj : ∀ x, x < 98 → 38 ≤ x → u x = w x := fun x h h' => hx x h (fun q hq => by omega)
  have u3 : u 3 = nI nr := (k 3 (by omega)).trans a1
  have u4 : u 4 = nI nj := (k 4 (by omega)).trans a2
  have u5 : u 5 = nI nn := (k 5 (by omega)).trans a3
  have u6 : u 6 = nI 0 := (k 6 (by omega)).trans a4
  have u7 : u 7 = nI L := (k 7 (by omega)).trans a5
  have R : nR u = nr := by unfold nR; rw [u3]; exact cl_nI (by omega)
  have J : nJ u = nj := by unfold nJ; rw [u4]; exact cl_nI (by omega)
  have N : nN u = nn := by unfold nN; rw [u5]; exact cl_nI (by omega)
  have A : nA u = 0 := by unfold nA; rw [u6]; exact cl_nI (by omega)
  have LL : nL u = L := by unfold nL; rw [u7]; exact cl_nI (by omega)
  have uT : ∀ q, q < nr → wT u q = tgt (nI nr) (wT w q) := hu
  have uK : ∀ q, q < nr → wK u q = wK w q := fun q hq => hx _ (by omega) (fun q' _ => by omega)
  have uL : ∀ q, q < nr → wL u q = wL w q := fun q hq => hx _ (by omega) (fun q' _ => by omega)
  have uF : ∀ j, j < nj → wF u j = wF w j := fun j hj => kj _ (by omega) (by omega)
  have uG : ∀ j, j < nj → wG u j = wG w j := fun j hj => kj _ (by omega) (by omega)
  have uE : ∀ j, j < nj → wE u j = wE w j := fun j hj => kj _ (by omega) (by omega)
  have uB : ∀ j, j < nj → wB u j = wB w j := fun j hj => kj _ (by omega) (by omega)
  have uM : ∀ j, j < nn → wM u j = wM w j := fun j hj => kj _ (by omega) (by omega)
  have uS : ∀ j, j < nn → wS u j = wS w j := fun j hj => kj _ (by omega) (by omega)
  refine ⟨⟨⟨⟨⟨l, d, s, b1, b2, b3, (k 0 (by omega)).trans b4, (k 1 (by omega)).trans b5, (k 2 (by omega)).trans b6⟩, by rw [R]; exact u3, by rw [J]; exact u4, by rw [N]; exact u5, by rw [A]; exact u6, by rw [LL]; exact u7⟩, ⟨by omega, by omega, by omega, by omega, by omega⟩, ⟨fun e => ?_, fun e => ?_⟩, ?_, ?_, ?_, ?_⟩, ⟨?_, ?_, ?_, ?_, ?_, ?_, ?_, ?_⟩, ?_, ?_, ?_, ?_⟩, LL⟩
  · obtain ⟨e1, e2, e3⟩ := c4 (by omega)
    exact ⟨by omega, by omega, by omega, A⟩
  · have := c5 (by omega)
    omega
  · intro q hq
    rw [R] at hq ⊢
    obtain ⟨⟨ok1, ok2, ok3⟩, -⟩ := hr q hq
    rw [uT q hq, uK q hq, uL q hq]
    refine ⟨?_, ok2, ok3⟩
    unfold tgt
    rcases ok1 with e | ⟨t, ht, e⟩
    · left
      rw [e]
      split <;> rfl
    · rw [e]
      by_cases g : t < nr
      · right
        rw [if_pos (show nI t < nI nr by rw [lt_nn (by omega) (by omega)]; exact g)]
        exact ⟨t, g, rfl⟩
      · left
        rw [if_neg (show ¬ nI t < nI nr by rw [lt_nn (by omega) (by omega)]; exact g)]
  · intro j hj'
    rw [J] at hj'
    obtain ⟨f, g, e, b, ⟨o1, o2, o3, o4, o5⟩, ⟨w1, w2, w3, w4⟩, -⟩ := hj j hj'
    rw [R, uF j hj', uG j hj', uE j hj', uB j hj']
    exact ⟨⟨f, o1, w1⟩, ⟨g, o2, w2⟩, e, b, o3, o4, o5, w3, w4⟩
  · intro q hq
    rw [N] at hq
    obtain ⟨m, s', ⟨o1, o2, o3⟩, ⟨w1, w2⟩, -⟩ := hn q hq
    rw [uM q hq, uS q hq]
    exact ⟨⟨m, o1, o2, w1⟩, s', o3, w2⟩
  · intro q hq
    rw [A] at hq
    exact absurd hq (Nat.not_lt_zero _)
  · rw [F.f1 0 (by decide), LL]; exact h0
  · rw [F.f1 1 (by decide), b7, k 0 (by omega), b4]
  · rw [F.f1 2 (by decide), b8, k 1 (by omega), b5]
  · rw [F.f1 3 (by decide), b9, k 2 (by omega), b6]
  · rw [F.f1 4 (by decide), R]; exact v1
  · rw [F.f1 8 (by decide), J]; exact v2
  · rw [F.f1 13 (by decide), N]; exact v3
  · rw [F.f1 16 (by decide), A]; exact v4
  · intro q hq
    rw [R] at hq
    obtain ⟨-, e1, e2, e3⟩ := hr q hq
    rw [F.f1 6 (by decide), F.f1 7 (by decide), hz q hq, uT q hq, uK q hq, uL q hq, e1, e2, e3]
    exact ⟨rfl, rfl, rfl⟩
  · intro j hj'
    rw [J] at hj'
    obtain ⟨f, g, e, b, -, ⟨w1, w2, w3, w4⟩, x1, x2, x3, x4⟩ := hj j hj'
    rw [F.f1 9 (by decide), F.f1 10 (by decide), F.f1 11 (by decide), F.f1 12 (by decide), uF j hj', uG j hj', uE j hj', uB j hj', w1, w2, w3, w4, x1, x2, x3, x4]
    exact ⟨rfl, rfl, rfl, rfl⟩
  · intro q hq
    rw [N] at hq
    obtain ⟨m, s', -, ⟨w1, w2⟩, x1, x2⟩ := hn q hq
    rw [F.f1 14 (by decide), F.f1 15 (by decide), uM q hq, uS q hq, w1, w2, x1, x2]
    exact ⟨rfl, rfl⟩
  · intro q hq
    rw [A] at hq
    exact absurd hq (Nat.not_lt_zero _)
/-- a text read, on both sides -/
theorem Rel.rd {x y : Nat → Ob} {o s : Ob} (h : Rel x o) (hk : ∀ k, k ∉ [1, 2, 3, 4, 5, 10] → y k = x k) (hr : RW (y 5) (s.1 1)) (ht : WT (y 10) (s.1 1)) (hF : FTe y s) (h1 : (y 1).1 1 0 = 0) (h5 : s.1 5 0 = 0) (F : FR [1, 5, 7, 8, 9, 10, 11, 12, 13, 14] o s) : Rel y s := by
  refine ⟨hr, ht, hF, ⟨0, by omega, h1, h5, fun i hi => absurd hi (Nat.not_lt_zero _)⟩, ?_, ?_⟩
  · intro k hk3
    have := h.2.2.2.2.1 k hk3
    rw [hk 0 (by decide), hk (7 + k) (by simp; omega), F.f1 3 (by decide), F.f1 2 (by decide)]
    exact this
  · intro k hk3
    have := h.2.2.2.2.2 k hk3
    rw [hk (14 + k) (by simp; omega), F.f1 38 (by decide), F.f1 39 (by decide), F.f2 40 (by decide)]
    exact this
theorem lines_W (fu : Nat) {r : Ob} {w : Nat → Int32} (h : RW r w) : p_X2_lines fu r = some (nI (nL w)) := by
  unfold p_X2_lines
  obtain ⟨hw, ⟨e0, -, -, -, e4, e8, e13, -⟩, -⟩ := h
  rw [e0, e4, e8, e13]
  by_cases c : nL w = 0
  · rw [if_pos c, if_pos rfl, c]; rfl
  · have := hw.2.2.1.2 c
    rw [if_neg c, if_neg (by decide), this, add_ln, nI_add, nI_add]
