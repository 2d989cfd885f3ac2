/-! ===== rivers ===== -/
/-- the class reads the text, where there is a fault; where there is none -/
theorem c_readEnd (fu : Nat) (hf : 2000 ≤ fu) (o1 s k v : Ob) {nr : Nat} (hnr : nr ≤ 10) (h4 : v.1 4 0 = nI nr) {i : Nat} (h5 : s.1 5 0 = nI i) (hi : i < 701) : ∃ z, FR [5] v z ∧ (∀ q, q < nr → z.1 5 q = tgt (nI nr) (v.1 5 q)) ∧ (if (s.1 2 0) = 0 then p_X1_read_J167 fu o1 s k v (-1) else (p_X9_pick fu 701 (k.1 1) (s.1 5 0)).bind fun r_164 => p_X1_read_J167 fu o1 s k v r_164) = some (oI s 3 (if s.1 2 0 = 0 then -1 else k.1 1 i), k, z) := by
  obtain ⟨z, ez, F, hz⟩ := e_sts fu hf v hnr h4
  refine ⟨z, F, hz, ?_⟩
  have J : ∀ y, p_X1_read_J167 fu o1 s k v y = some (oI s 3 y, k, z) := fun y => by
    unfold p_X1_read_J167
    rw [ez, Option.bind_some]
  by_cases c : s.1 2 0 = 0
  · rw [if_pos c, if_pos c, J]
  · rw [if_neg c, if_neg c, h5, e_pick fu _ hi (by omega), Option.bind_some, J]
/-- what rivers leaves in the class -/
theorem c_rivers (fu : Nat) {x : Nat → Ob} {a k z : Ob} (h : p_X1_read fu (x 2) (x 3) (x 4) (x 1) = some (a, k, z)) : p_X9_rivers fu x = (if a.1 2 0 = 0 then (p_X2_become fu (x 5) z).bind fun r5 => (p_X8_settle fu (x 10) r5).bind fun r10 => (p_X2_lines fu r5).bind fun n => some (n, va_up (va_up (va_up (va_up (va_up (va_up x 2 a) 3 k) 4 z) 1 (oI (x 1) 1 0)) 5 r5) 10 r10) else some (-4, va_up (va_up (va_up (va_up x 2 a) 3 k) 4 z) 1 (oI (x 1) 1 0))) := by
  unfold p_X9_rivers
  rw [h, Option.bind_some]
  rfl
theorem s_rivers (fu : Nat) (hf : 2000 ≤ fu) {x : Nat → Ob} {o : Ob} (h : Rel x o) : ∃ r y t, p_X9_rivers fu x = some (r, y) ∧ p_X10_rivers fu o = some (r, t) ∧ Rel y t := by
  obtain ⟨n, hn, t1, t2, tb⟩ := h.2.2.2.1
  obtain ⟨B, hB⟩ : ∃ B : Nat → Nat, ∀ i, i < n → B i < 256 ∧ (x 1).1 0 i = nI (B i) ∧ o.1 4 i = (nI (B i)).toInt8.toInt32 := by
    refine ⟨fun i => ((x 1).1 0 i).toNatClampNeg, fun i hi => ?_⟩
    obtain ⟨m, hm, e1, e2⟩ := tb i hi
    have e : ((x 1).1 0 i).toNatClampNeg = m := by rw [e1]; exact cl_nI (by omega)
    show ((x 1).1 0 i).toNatClampNeg < 256 ∧ (x 1).1 0 i = nI ((x 1).1 0 i).toNatClampNeg ∧ o.1 4 i = (nI ((x 1).1 0 i).toNatClampNeg).toInt8.toInt32
    rw [e]
    exact ⟨hm, e1, e2⟩
  have hT : TC (x 1) B n := ⟨t1, hn, fun k hk => ⟨(hB k hk).2.1, (hB k hk).1⟩⟩
  obtain ⟨k, c, ek, hc, k1, k2, k3⟩ := e_scan fu hf (x 3) hT
  have E : EV B n k c := ⟨hn, hc, k1, k2, k3⟩
  -- the class begins
  obtain ⟨v0, hv0⟩ : ∃ v0, p_X2_clear fu (x 4) = some v0 ∧ v0.1 0 0 = 0 ∧ v0.1 1 0 = 0 ∧ v0.1 2 0 = 0 ∧ v0.1 3 0 = 0 ∧ v0.1 4 0 = 0 ∧ v0.1 8 0 = 0 ∧ v0.1 13 0 = 0 ∧ v0.1 16 0 = 0 := ⟨_, rfl, rfl, rfl, rfl, rfl, rfl, rfl, rfl, rfl⟩
  obtain ⟨o0, ho0, p2, p5, p4⟩ : ∃ o0, o0 = oI (oI (oI (x 2) 2 0) 5 0) 4 (k.1 0 0) ∧ o0.1 2 0 = 0 ∧ o0.1 5 0 = nI 0 ∧ o0.1 4 0 = k.1 0 0 := ⟨_, rfl, rfl, rfl, rfl⟩
  -- the reference begins
  obtain ⟨r1, hr1⟩ : ∃ r1, r1 = oI (oI (oI (oI (oI o 7 (o.1 5 0)) 5 (0 : Int32)) 8 (0 : Int32)) 12 (0 : Int32)) 13 ((-1) : Int32) := ⟨_, rfl⟩
  have F1 : FR [1, 5, 7, 8, 9, 10, 11, 12, 13, 14] o r1 := by
    rw [hr1]
    exact ((((FR.rf.I (by decide) _).I (by decide) _).I (by decide) _).I (by decide) _).I (by decide) _
  obtain ⟨a1, a2, a3, a4, a5⟩ : r1.1 7 0 = nI n ∧ r1.1 5 0 = 0 ∧ r1.1 8 0 = nI 0 ∧ r1.1 12 0 = 0 ∧ r1.1 13 0 = -1 := by
    rw [hr1]
    exact ⟨t2, rfl, rfl, rfl, rfl⟩
  obtain ⟨c74, hc74⟩ : ∃ c74 : Ob → Option (Int32 × Ob), c74 = fun oz => (p_X10_good fu oz).bind fun r_75 => if r_75 = 0 then some (((-4) : Int32), oz) else p_X10_rivers_L86 fu (fun oz => p_X10_rivers_L140 fu fu oz 0) fu oz 0 := ⟨_, rfl⟩
  obtain ⟨r2, e2, F2, w0⟩ := r_clear fu hf (fun oz => (p_X10_advance fu oz).bind fun r_50 => p_X10_rivers_L53 fu c74 fu r_50) r1
  have R2 : RB r2 B n := by
    refine ⟨by rw [F2.f1 7 (by decide)]; exact a1, hn, fun i hi => ?_⟩
    rw [F2.f1 4 (by decide), F1.f1 4 (by decide)]
    exact ⟨(hB i hi).2.2, (hB i hi).1⟩
  obtain ⟨r3, e3, F3, A3⟩ := e_adv fu hf r2 R2 (Nat.zero_le _) (by rw [F2.f1 8 (by decide)]; exact a3)
  have g0 : GO B n k c 0 o0 r3 := ⟨Nat.zero_le _, p2, p5, p4, by rw [F3.f1 12 (by decide), F2.f1 12 (by decide)]; exact a4, by rw [F3.f1 13 (by decide), F2.f1 13 (by decide)]; exact a5, R2.kp F3 (by decide) (by decide), A3⟩
  have w3 : ∀ k, k < 98 → r3.1 14 k = 0 := fun k hk => by rw [F3.f1 14 (by decide)]; exact w0 k hk
  have hP : PV v0 (r3.1 14) 0 0 0 0 0 := by
    obtain ⟨-, q0, q1, q2, q3, q4, q8, q13, q16⟩ := hv0
    exact ⟨⟨w3 3 (by omega), w3 4 (by omega), w3 5 (by omega), w3 6 (by omega), w3 7 (by omega)⟩, ⟨q4, q8, q13, q16⟩, ⟨by omega, by omega, by omega, fun _ => ⟨rfl, rfl, rfl⟩, fun z => absurd rfl z⟩, by rw [if_pos rfl]; exact q0, ⟨0, 0, 0, by omega, by omega, by omega, w3 0 (by omega), w3 1 (by omega), w3 2 (by omega), q1, q2, q3⟩, fun q hq => absurd hq (Nat.not_lt_zero _), fun q hq => absurd hq (Nat.not_lt_zero _), fun q hq => absurd hq (Nat.not_lt_zero _)⟩
  -- all lines
  obtain ⟨s, v, t, es, et, F4, ⟨nr, hnr, v4⟩, hh⟩ := ln_all fu hf (x 1) E (fun oz okz ovz => if (oz.1 2 0) = 0 then p_X1_read_J167 fu (x 1) oz okz ovz (-1) else (p_X9_pick fu 701 (okz.1 1) (oz.1 5 0)).bind fun r_164 => p_X1_read_J167 fu (x 1) oz okz ovz r_164) c74 fu fu 0 0 0 0 0 o0 v0 r3 g0 (Nat.le_refl _) hP (by omega) (by omega)
  have es : p_X1_read_L45 fu (x 1) (fun oz okz ovz => if (oz.1 2 0) = 0 then p_X1_read_J167 fu (x 1) oz okz ovz (-1) else (p_X9_pick fu 701 (okz.1 1) (oz.1 5 0)).bind fun r_164 => p_X1_read_J167 fu (x 1) oz okz ovz r_164) fu o0 k v0 0 = _ := es
  have FT : FR [1, 5, 7, 8, 9, 10, 11, 12, 13, 14] o t := ((F1.tr (F2.mono (by decide))).tr (F3.mono (by decide))).tr (F4.mono (by decide))
  have t5 : t.1 5 0 = 0 := by rw [F4.f1 5 (by decide), F3.f1 5 (by decide), F2.f1 5 (by decide)]; exact a2
  have T1 : t.1 1 = o.1 1 := by rw [F4.f1 1 (by decide), F3.f1 1 (by decide), F2.f1 1 (by decide), hr1]; rfl
  have eR : p_X10_rivers fu o = c74 t := by
    unfold p_X10_rivers
    rw [← hr1, ← hc74, e2, e3, Option.bind_some, et]
  -- the class' text, read
  have rd : ∀ {i : Nat}, i < 701 → s.1 5 0 = nI i → ∃ z, FR [5] v z ∧ (∀ q, q < nr → z.1 5 q = tgt (nI nr) (v.1 5 q)) ∧ p_X1_read fu (x 2) (x 3) (x 4) (x 1) = some (oI s 3 (if s.1 2 0 = 0 then -1 else k.1 1 i), k, z) := by
    intro i hi hs5
    obtain ⟨z, Fz, hz, ez⟩ := c_readEnd fu hf (x 1) s k v hnr v4 hs5 hi
    refine ⟨z, Fz, hz, ?_⟩
    unfold p_X1_read
    rw [ek, Option.bind_some, hv0.1, Option.bind_some, show (oI (oI (x 2) 2 (0 : Int32)) 5 (0 : Int32)).1 5 0 = nI 0 from rfl, e_pick fu _ (show 0 < 701 by omega) (by omega), Option.bind_some, ← ho0, es]
    exact ez
  rw [eR, hc74]
  rcases hh with ⟨i, f, hic, hf', s2, s5, r12, r13⟩ | ⟨L, nr', nj, nn, g, P⟩
  · have f0 : ¬ nI f = 0 := by rcases hf' with rfl | rfl | rfl <;> decide
    have n2 : ¬ s.1 2 0 = 0 := by rw [s2]; exact f0
    have n12 : ¬ t.1 12 0 = 0 := by rw [r12]; exact f0
    obtain ⟨z, Fz, hz, ez⟩ := rd (show i < 701 by omega) s5
    rw [if_neg n2] at ez
    rw [c_rivers fu ez, if_neg (show ¬ (oI s 3 (k.1 1 i)).1 2 0 = 0 from n2)]
    refine ⟨-4, _, t, rfl, ?_, ?_⟩
    · show (p_X10_good fu t).bind _ = _
      rw [r_good, if_neg n12, Option.bind_some, if_pos rfl]
    · refine h.rd (fun q hq => ?_) ?_ ?_ ?_ rfl t5 FT
      · simp only [List.mem_cons, List.not_mem_nil, or_false, not_or] at hq
        rw [up_v, if_neg (by omega), up_v, if_neg (by omega), up_v, if_neg (by omega), up_v, if_neg (by omega)]
      · rw [T1]; exact h.1
      · rw [T1]; exact h.2.1
      · exact ⟨s2.trans r12.symm, ((k3 i (by omega)).2.1).trans r13.symm⟩
  · have s2 := g.2.1
    have r12 := g.2.2.2.2.1
    have r13 := g.2.2.2.2.2.1
    have e4 : nr' = nr := by
      have := P.2.1.1
      rw [v4, eq_nn (by omega) (by have := P.2.2.1.1; omega)] at this
      omega
    subst e4
    obtain ⟨z, Fz, hz, ez⟩ := rd (show c < 701 by omega) g.2.2.1
    rw [if_pos s2] at ez
    obtain ⟨u, eu, Fu, hu, hx⟩ := r_sts fu hf (fun oz => p_X10_rivers_L140 fu fu oz 0) t hnr P.1.1
    obtain ⟨w, ew, Fw, hw⟩ := r_copy fu hf u
    obtain ⟨hRW, hL⟩ := P.rw (u := w.1 1) Fz hz (fun q hq => by rw [hw _ (by omega)]; exact hu q hq) (fun y hy hq => by rw [hw y hy]; exact hx y hq)
    obtain ⟨s5, e5, h5⟩ := e_become2 fu hf (x 5) z _ hRW
    obtain ⟨s10, e10, h10⟩ := e_settle fu hf (x 10) s5 _ h5
    have el := lines_W fu h5
    have u7 : u.1 14 7 = nI (nL (w.1 1)) := by
      rw [hL, hx 7 (fun q _ => by omega)]
      exact P.1.2.2.2.2
    rw [c_rivers fu ez, if_pos (show (oI s 3 (-1)).1 2 0 = 0 from s2), e5, Option.bind_some, e10, Option.bind_some, el, Option.bind_some]
    refine ⟨_, _, w, rfl, ?_, ?_⟩
    · show (p_X10_good fu t).bind _ = _
      rw [r_good, if_pos r12, Option.bind_some, if_neg (by decide), eu]
      show p_X10_rivers_L140 fu fu u 0 = _
      rw [ew, u7]
    · have FW : FR [1, 5, 7, 8, 9, 10, 11, 12, 13, 14] o w := (FT.tr (Fu.mono (by decide))).tr (Fw.mono (by decide))
      refine h.rd (fun q hq => ?_) h5 h10 ⟨?_, ?_⟩ rfl ?_ FW
      · simp only [List.mem_cons, List.not_mem_nil, or_false, not_or] at hq
        rw [up_v, if_neg (by omega), up_v, if_neg (by omega), up_v, if_neg (by omega), up_v, if_neg (by omega), up_v, if_neg (by omega), up_v, if_neg (by omega)]
      · rw [Fw.f1 12 (by decide), Fu.f1 12 (by decide), r12]; exact s2
      · rw [Fw.f1 13 (by decide), Fu.f1 13 (by decide), r13]; rfl
      · rw [Fw.f1 5 (by decide), Fu.f1 5 (by decide)]; exact t5
