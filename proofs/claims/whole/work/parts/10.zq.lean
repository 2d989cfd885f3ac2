theorem fd_le {n : Nat} (hn : n ≤ 700) : (nI n ≤ (680 : Int32)) = (n ≤ 680) := by simp (disch := omega) only [le_nl]
theorem s_feed (fu : Nat) (hf : 2000 ≤ fu) {x : Nat → Ob} {o : Ob} (h : Rel x o) (v1 v2 v3 v4 v5 : Int32) : ∃ r y t, p_X9_feed fu x v1 v2 v3 v4 v5 = some (r, y) ∧ p_X10_feed fu o v1 v2 v3 v4 v5 = some (r, t) ∧ Rel y t := by
  obtain ⟨n, hn, t1, t2, t3⟩ := h.2.2.2.1
  unfold p_X9_feed p_X10_feed
  have e20 : nI n + 20 = nI (n + 20) := nI_add n 20
  have l20 : (nI (n + 20) ≤ (700 : Int32)) = (n ≤ 680) := by
    rw [le_nl (by omega) (by decide)]
    exact propext ⟨fun z => by omega, fun z => by omega⟩
  rw [t1, t2, e20]
  simp only [fd_le hn, l20]
  by_cases g : n ≤ 680
  · rw [if_pos g, if_pos g]
    obtain ⟨z1, a1, b1, c1, d1⟩ := e_append fu hf v1 t1 (by omega)
    obtain ⟨z2, a2, b2, c2, d2⟩ := e_append fu hf v2 b1 (by omega)
    obtain ⟨z3, a3, b3, c3, d3⟩ := e_append fu hf v3 b2 (by omega)
    obtain ⟨z4, a4, b4, c4, d4⟩ := e_append fu hf v4 b3 (by omega)
    obtain ⟨z5, a5, b5, c5, d5⟩ := e_append fu hf v5 b4 (by omega)
    have u1 : ∀ (y : Nat → Ob) (C D : Ob), va_up (va_up y 1 C) 1 D = va_up y 1 D := fun y C D => by
      funext q
      simp only [up_v]
      split <;> rfl
    have u2 : ∀ (y : Nat → Ob) (C : Ob), va_up y 1 C 1 = C := fun _ _ => rfl
    rw [a1, Option.bind_some, u2, a2, Option.bind_some, u1, u2, a3, Option.bind_some, u1, u2, a4, Option.bind_some, u1, u2, a5, Option.bind_some, u1, u2]
    have i0 : inb (0 : Int32) 5 = true := by decide
    have i1 : inb (1 : Int32) 5 = true := by decide
    have i2 : inb (2 : Int32) 5 = true := by decide
    have i3 : inb (3 : Int32) 5 = true := by decide
    have i4 : inb (4 : Int32) 5 = true := by decide
    have k0 : (0 : Int32).toNatClampNeg = 0 := by decide
    have k1 : (1 : Int32).toNatClampNeg = 1 := by decide
    have k2 : (2 : Int32).toNatClampNeg = 2 := by decide
    have k3 : (3 : Int32).toNatClampNeg = 3 := by decide
    have k4 : (4 : Int32).toNatClampNeg = 4 := by decide
    rw [if_pos i0, if_pos i1, if_pos i2, if_pos i3, if_pos i4, k0, k1, k2, k3, k4]
    obtain ⟨A, eA⟩ : ∃ A, A = (oA (oA (oA (oA (oA o 6 (upd (o.1 6) 0 v1)) 6 (upd ((oA o 6 (upd (o.1 6) 0 v1)).1 6) 1 v2)) 6 (upd ((oA (oA o 6 (upd (o.1 6) 0 v1)) 6 (upd ((oA o 6 (upd (o.1 6) 0 v1)).1 6) 1 v2)).1 6) 2 v3)) 6 (upd ((oA (oA (oA o 6 (upd (o.1 6) 0 v1)) 6 (upd ((oA o 6 (upd (o.1 6) 0 v1)).1 6) 1 v2)) 6 (upd ((oA (oA o 6 (upd (o.1 6) 0 v1)) 6 (upd ((oA o 6 (upd (o.1 6) 0 v1)).1 6) 1 v2)).1 6) 2 v3)).1 6) 3 v4)) 6 (upd ((oA (oA (oA (oA o 6 (upd (o.1 6) 0 v1)) 6 (upd ((oA o 6 (upd (o.1 6) 0 v1)).1 6) 1 v2)) 6 (upd ((oA (oA o 6 (upd (o.1 6) 0 v1)) 6 (upd ((oA o 6 (upd (o.1 6) 0 v1)).1 6) 1 v2)).1 6) 2 v3)) 6 (upd ((oA (oA (oA o 6 (upd (o.1 6) 0 v1)) 6 (upd ((oA o 6 (upd (o.1 6) 0 v1)).1 6) 1 v2)) 6 (upd ((oA (oA o 6 (upd (o.1 6) 0 v1)) 6 (upd ((oA o 6 (upd (o.1 6) 0 v1)).1 6) 1 v2)).1 6) 2 v3)).1 6) 3 v4)).1 6) 4 v5)) := ⟨_, rfl⟩
    rw [← eA]
    have A6 : ∀ a, a < 5 → A.1 6 a = v5s v1 v2 v3 v4 v5 a := by
      intro a ha
      rw [eA]
      unfold v5s
      simp only [oA_1, oI_1, oLA_1, oL_1, oA_2, oI_2, oLA_2, oL_2, up_v, upd_v, updL_v, Option.bind_some, ↓reduceIte, if_true, if_false, Nat.reduceEqDiff, Nat.reduceAdd, Nat.reduceMul, Nat.reduceLT, Nat.reduceLeDiff]
      rcases (show a = 0 ∨ a = 1 ∨ a = 2 ∨ a = 3 ∨ a = 4 by omega) with rfl | rfl | rfl | rfl | rfl <;> simp
    have FA : FR [6] o A := by
      rw [eA]
      exact ((((FR.rf.A (by decide) _).A (by decide) _).A (by decide) _).A (by decide) _).A (by decide) _
    have A5 : A.1 5 0 = nI n := by rw [FA.f1 5 (by decide)]; exact t2
    obtain ⟨z, ez, Fz, q1, q2⟩ := e_fd fu hf (fun oz => some (((oI oz 5 ((oz.1 5 0) + 20)).1 5 0), (oI oz 5 ((oz.1 5 0) + 20)))) A5 (by omega)
    rw [ez]
    have Z5 : z.1 5 0 + 20 = nI (n + 20) := by rw [Fz.f1 5 (by decide), A5]; exact e20
    have F0 : FR [4, 6] o z := (FA.mono (by decide)).tr (Fz.mono (by decide))
    have F1 : FR [4, 5, 6] o (oI z 5 (z.1 5 0 + 20)) := (F0.mono (by decide)).I (by decide) _
    refine ⟨nI (n + 20), va_up x 1 z5, oI z 5 (z.1 5 0 + 20), ?_, ?_, ?_⟩
    · rw [b5]
    · show some (z.1 5 0 + 20, _) = _
      rw [Z5]
    · have hy : ∀ j, j ≠ 1 → va_up x 1 z5 j = x j := fun j hj => by rw [up_v, if_neg hj]
      have big : ∀ a b, a < 5 → b < 4 → (va_up x 1 z5 1).1 0 (n + (4 * a + b)) = cB (v5s v1 v2 v3 v4 v5 a) (nI (24 - 8 * b)) := by
        intro a b ha hb
        show z5.1 0 _ = _
        rcases (show a = 0 ∨ a = 1 ∨ a = 2 ∨ a = 3 ∨ a = 4 by omega) with rfl | rfl | rfl | rfl | rfl
        · rw [c5 _ (by omega), c4 _ (by omega), c3 _ (by omega), c2 _ (by omega), show n + (4 * 0 + b) = n + b by omega, d1 b hb]; rfl
        · rw [c5 _ (by omega), c4 _ (by omega), c3 _ (by omega), show n + (4 * 1 + b) = n + 4 + b by omega, d2 b hb]; rfl
        · rw [c5 _ (by omega), c4 _ (by omega), show n + (4 * 2 + b) = n + 4 + 4 + b by omega, d3 b hb]; rfl
        · rw [c5 _ (by omega), show n + (4 * 3 + b) = n + 4 + 4 + 4 + b by omega, d4 b hb]; rfl
        · rw [show n + (4 * 4 + b) = n + 4 + 4 + 4 + 4 + b by omega, d5 b hb]; rfl
      refine ⟨?_, ?_, ?_, ?_, ?_, ?_⟩
      · rw [hy 5 (by decide), F1.f1 1 (by decide)]; exact h.1
      · rw [hy 10 (by decide), F1.f1 1 (by decide)]; exact h.2.1
      · have := h.2.2.1
        unfold FTe at this ⊢
        rw [hy 2 (by decide), F1.f1 12 (by decide), F1.f1 13 (by decide)]
        exact this
      · refine ⟨n + 20, by omega, b5, Z5, fun i hi => ?_⟩
        by_cases c : i < n
        · obtain ⟨m, m1, m2, m3⟩ := t3 i c
          refine ⟨m, m1, ?_, ?_⟩
          · show z5.1 0 i = _
            rw [c5 _ (by omega), c4 _ (by omega), c3 _ (by omega), c2 _ (by omega), c1 _ c]
            exact m2
          · show z.1 4 i = _
            rw [q1 i c, FA.f1 4 (by decide)]
            exact m3
        · obtain ⟨d, rfl⟩ : ∃ d, i = n + d := ⟨i - n, by omega⟩
          obtain ⟨m, m1, m2, m3⟩ := cB_rB (v5s v1 v2 v3 v4 v5 (d / 4)) (b := d % 4) (by omega)
          refine ⟨m, m1, ?_, ?_⟩
          · have := big (d / 4) (d % 4) (by omega) (by omega)
            rw [show 4 * (d / 4) + d % 4 = d by omega] at this
            rw [this]
            exact m2
          · show z.1 4 (n + d) = _
            rw [q2 d (by omega), A6 _ (by omega)]
            exact m3
      · have := h.2.2.2.2.1
        unfold IMe at this ⊢
        rw [F1.f1 3 (by decide), F1.f1 2 (by decide), hy 0 (by decide)]
        intro k hk
        rw [hy (7 + k) (by omega)]
        exact this k hk
      · have := h.2.2.2.2.2
        unfold SLe at this ⊢
        rw [F1.f1 38 (by decide), F1.f1 39 (by decide), F1.f2 40 (by decide)]
        intro k hk
        rw [hy (14 + k) (by omega)]
        exact this k hk
  · rw [if_neg g, if_neg g]
    exact ⟨_, _, _, rfl, rfl, h⟩
