/-! ===== the reference: how likely a level is ===== -/
/-- weights as the reference holds them -/
def RM (o s : Ob) (w : Nat → Nat) : Prop := FR [35, 36] o s ∧ ∀ k, k < 1300 → s.2 35 k = lN (w k)
/-- what the reference needs to know of rains -/
def RX (s : Ob) (l od sw : Nat) (g : Nat → Nat) : Prop := s.1 1 0 = nI l ∧ (∀ k, k < 61 → s.1 15 k = nI (g k)) ∧ s.1 1 1 = nI od ∧ s.1 1 2 = nI sw
theorem RX.kp {o s : Ob} {l od sw : Nat} {g : Nat → Nat} (h : RX o l od sw g) (F : FR [35, 36] o s) : RX s l od sw g := by
  unfold RX at *
  rw [F.f1 1 (by decide), F.f1 15 (by decide)]
  exact h
theorem e_startW (fu : Nat) (hf : 2000 ≤ fu) (o : Ob) {l od sw : Nat} {g : Nat → Nat} (hX : RX o l od sw g) (hB : CB l od sw g) : ∃ s, p_X10_startWeights fu o = some s ∧ RM o s (wq l od sw g 0) := by
  have ht := hB.t (n := 0) (by omega)
  rw [Tq] at ht
  unfold p_X10_startWeights
  refine loop_inv (fun m i s => p_X10_startWeights_L2 fu (fun oz => if inb (0 : Int32) 98 = true then if inb (0 : Int32) 61 = true then if inb (((oz.1 1) (0 : Int32).toNatClampNeg) + ((oz.1 15) (0 : Int32).toNatClampNeg)) 1300 = true then some (oLA oz 35 (vp_updL (oz.2 35) ((((oz.1 1) (0 : Int32).toNatClampNeg) + ((oz.1 15) (0 : Int32).toNatClampNeg)).toNatClampNeg) (1 : Int64))) else none else none else none) m s (nI i)) 1300 (fun i (s : Ob) => FR [35, 36] o s ∧ ∀ k, k < i → s.2 35 k = 0) (fun s => RM o s (wq l od sw g 0)) ?_ ?_ fu 0 o (Nat.zero_le _) (by omega) ⟨FR.rf, fun k hk => by omega⟩
  · rintro m s ⟨F, hs⟩
    obtain ⟨x1, x2, x3, x4⟩ := hX.kp F
    refine ⟨oLA s 35 (vp_updL (s.2 35) (l + g 0) 1), ?_, F.LA (by decide) _, fun k hk => ?_⟩
    · show p_X10_startWeights_L2 fu _ (m + 1) s (nI 1300) = _
      rw [p_X10_startWeights_L2, if_pos (show (1300 : Int32) ≤ nI 1300 by decide)]
      have e0 : (0 : Int32).toNatClampNeg = 0 := rfl
      have ib : (inb (nI (l + g 0)) 1300 = true) := by rw [inb_nI (by omega) (by omega)]; trivial
      rw [e0, x1, x2 0 (by omega), nI_add, if_pos (by decide), if_pos (by decide), if_pos ib, cl_nI (by omega)]
    · show vp_updL (s.2 35) (l + g 0) 1 k = lN (if l + g 0 = k then 1 else 0)
      rw [updL_v]
      by_cases e : k = l + g 0
      · rw [if_pos e, if_pos e.symm]; rfl
      · rw [if_neg e, if_neg (fun z => e z.symm), hs k hk]; rfl
  · rintro m i s hi ⟨F, hs⟩
    right
    refine ⟨oLA s 35 (vp_updL (s.2 35) i 0), ?_, F.LA (by decide) _, fun k hk => ?_⟩
    · show p_X10_startWeights_L2 fu _ (m + 1) s (nI i) = p_X10_startWeights_L2 fu _ m _ (nI (i + 1))
      have ib : (inb (nI i) 1300 = true) := by rw [inb_nI (by omega) (by omega)]; trivial
      rw [p_X10_startWeights_L2, if_neg (show ¬ (1300 : Int32) ≤ nI i by rw [le_ln (by decide) (by omega)]; omega), if_pos ib, cl_nI (by omega), add_nl]
    · show vp_updL (s.2 35) i 0 k = 0
      rw [updL_v]
      split
      · rfl
      · exact hs k (by omega)
theorem e_stepW2 (fu : Nat) (hf : 2000 ≤ fu) (c : Ob → Int32 → Option Ob) (o : Ob) (v : Int32) : ∃ s, p_X10_stepWeights_L2 fu c fu o v 0 = c s v ∧ (FR [36] o s ∧ ∀ k, k < 1300 → s.2 36 k = 0) := by
  refine loop_to (fun m i s => p_X10_stepWeights_L2 fu c m s v (nI i)) 1300 (fun i (s : Ob) => FR [36] o s ∧ ∀ k, k < i → s.2 36 k = 0) (fun s => c s v) ?_ ?_ fu 0 o (Nat.zero_le _) (by omega) ⟨FR.rf, fun k hk => by omega⟩
  · rintro m s -
    show p_X10_stepWeights_L2 fu c (m + 1) s v (nI 1300) = _
    rw [p_X10_stepWeights_L2, if_pos (show (1300 : Int32) ≤ nI 1300 by decide)]
  · rintro m i s hi ⟨F, hs⟩
    refine ⟨oLA s 36 (vp_updL (s.2 36) i 0), ?_, F.LA (by decide) _, fun k hk => ?_⟩
    · show p_X10_stepWeights_L2 fu c (m + 1) s v (nI i) = p_X10_stepWeights_L2 fu c m _ v (nI (i + 1))
      have ib : (inb (nI i) 1300 = true) := by rw [inb_nI (by omega) (by omega)]; trivial
      rw [p_X10_stepWeights_L2, if_neg (show ¬ (1300 : Int32) ≤ nI i by rw [le_ln (by decide) (by omega)]; omega), if_pos ib, cl_nI (by omega), add_nl]
    · show vp_updL (s.2 36) i 0 k = 0
      rw [updL_v]
      split
      · rfl
      · exact hs k (by omega)
theorem e_stepW124 (fu : Nat) (hf : 2000 ≤ fu) (o : Ob) {w : Nat → Nat} (h : ∀ k, k < 1300 → o.2 36 k = lN (w k)) : ∃ s, p_X10_stepWeights_L124 fu fu o 0 = some s ∧ RM o s w := by
  refine loop_inv (fun m i s => p_X10_stepWeights_L124 fu m s (nI i)) 1300 (fun i (s : Ob) => FR [35] o s ∧ ∀ k, k < i → s.2 35 k = lN (w k)) (fun s => RM o s w) ?_ ?_ fu 0 o (Nat.zero_le _) (by omega) ⟨FR.rf, fun k hk => by omega⟩
  · rintro m s ⟨F, hs⟩
    refine ⟨s, ?_, F.mono (by decide), hs⟩
    show p_X10_stepWeights_L124 fu (m + 1) s (nI 1300) = _
    rw [p_X10_stepWeights_L124, if_pos (show (1300 : Int32) ≤ nI 1300 by decide)]
  · rintro m i s hi ⟨F, hs⟩
    right
    have e36 : s.2 36 i = lN (w i) := by rw [F.f2 36 (by decide)]; exact h i hi
    refine ⟨oLA s 35 (vp_updL (s.2 35) i (lN (w i))), ?_, F.LA (by decide) _, fun k hk => ?_⟩
    · show p_X10_stepWeights_L124 fu (m + 1) s (nI i) = p_X10_stepWeights_L124 fu m _ (nI (i + 1))
      have ib : (inb (nI i) 1300 = true) := by rw [inb_nI (by omega) (by omega)]; trivial
      rw [p_X10_stepWeights_L124, if_neg (show ¬ (1300 : Int32) ≤ nI i by rw [le_ln (by decide) (by omega)]; omega), if_pos ib, if_pos ib, cl_nI (by omega), e36, add_nl]
    · show vp_updL (s.2 35) i (lN (w i)) k = lN (w k)
      rw [updL_v]
      by_cases e : k = i
      · rw [if_pos e, e]
      · rw [if_neg e]; exact hs k (by omega)
theorem e_stepW24 (fu : Nat) (hf : 2000 ≤ fu) (c : Ob → Option Ob) (o : Ob) {n r od sw T : Nat} {w : Nat → Nat} (hn : n < 61) (hr : r < 2000) (hod : od ≤ 10) (hsw : sw < 2000) (h15 : o.1 15 n = nI r) (h1 : o.1 1 1 = nI od) (h2 : o.1 1 2 = nI sw) (h35 : ∀ k, k < 1300 → o.2 35 k = lN (w k)) (hz : ∀ k, T < k → w k = 0) (hT : (T - 1) + r + sw < 1300) (h36 : ∀ k, k < 1300 → o.2 36 k = 0) :
    ∃ s, p_X10_stepWeights_L24 fu c fu o (nI n) 0 = c s ∧ (FR [36] o s ∧ ∀ j, j < 1300 → s.2 36 j = lN (acc w r od sw 1300 j)) := by
  have h10 : (10 : Int32) - nI od = nI (10 - od) := pk_sub (a := 10) hod
  have l10 : (nI (10 - od)).toInt64 = lN (10 - od) := nI_l (by omega)
  have lod : (nI od).toInt64 = lN od := nI_l (by omega)
  refine loop_to (fun m i s => p_X10_stepWeights_L24 fu c m s (nI n) (nI i)) 1300 (fun i (s : Ob) => FR [36] o s ∧ ∀ j, j < 1300 → s.2 36 j = lN (acc w r od sw i j)) (fun s => c s) ?_ ?_ fu 0 o (Nat.zero_le _) (by omega) ⟨FR.rf, fun k hk => h36 k hk⟩
  · rintro m s -
    show p_X10_stepWeights_L24 fu c (m + 1) s (nI n) (nI 1300) = _
    rw [p_X10_stepWeights_L24, if_pos (show (1300 : Int32) ≤ nI 1300 by decide)]
  · rintro m i s hi ⟨F, hs⟩
    have e15 : s.1 15 n = nI r := by rw [F.f1 15 (by decide)]; exact h15
    have e1 : s.1 1 1 = nI od := by rw [F.f1 1 (by decide)]; exact h1
    have e2 : s.1 1 2 = nI sw := by rw [F.f1 1 (by decide)]; exact h2
    have e35 : s.2 35 i = lN (w i) := by rw [F.f2 35 (by decide)]; exact h35 i hi
    have ib : (inb (nI i) 1300 = true) := by rw [inb_nI (by omega) (by omega)]; trivial
    have ibn : (inb (nI n) 61 = true) := by rw [inb_nI (by omega) (by omega)]; trivial
    by_cases g : lN (w i) = 0
    · refine ⟨s, ?_, F, fun j hj => ?_⟩
      · show p_X10_stepWeights_L24 fu c (m + 1) s (nI n) (nI i) = p_X10_stepWeights_L24 fu c m s (nI n) (nI (i + 1))
        rw [p_X10_stepWeights_L24, if_neg (show ¬ (1300 : Int32) ≤ nI i by rw [le_ln (by decide) (by omega)]; omega), if_pos ib, cl_nI (by omega), e35, if_pos ((lg_cmp_eq _ _).mpr g), add_nl]
      · rw [hs j hj, acc, ← lN_add, ← lN_add]
        have z : ∀ q : Nat, lN (w i * q) = lN 0 := fun q => by
          rw [← lN_mul, g]
          show (0 : Int64) * lN q = 0
          exact Int64.zero_mul
        have z1 : ∀ (p : Prop) [Decidable p] (q : Nat), lN (if p then w i * q else 0) = 0 := fun p _ q => by
          by_cases hp : p
          · rw [if_pos hp, z]; rfl
          · rw [if_neg hp]; rfl
        rw [z1, z1, Int64.add_zero, Int64.add_zero]
    · have hiT : i ≤ T := by
        rcases Nat.lt_or_ge T i with q | q
        · exact absurd (by rw [hz i q]; rfl) g
        · exact q
      have e0 : (1 : Int32).toNatClampNeg = 1 := rfl
      have e00 : (2 : Int32).toNatClampNeg = 2 := rfl
      have ia : (inb (nI ((i - 1) + r)) 1300 = true) := by rw [inb_nI (by omega) (by omega)]; trivial
      have ia2 : (inb (nI ((i - 1) + r + sw)) 1300 = true) := by rw [inb_nI (by omega) (by omega)]; trivial
      refine ⟨oLA (oLA s 36 (vp_updL (s.2 36) ((i - 1) + r) (s.2 36 ((i - 1) + r) + lN (w i * (10 - od))))) 36 (vp_updL (vp_updL (s.2 36) ((i - 1) + r) (s.2 36 ((i - 1) + r) + lN (w i * (10 - od)))) ((i - 1) + r + sw) (vp_updL (s.2 36) ((i - 1) + r) (s.2 36 ((i - 1) + r) + lN (w i * (10 - od))) ((i - 1) + r + sw) + lN (w i * od))), ?_, (F.LA (by decide) _).LA (by decide) _, fun j hj => ?_⟩
      · show p_X10_stepWeights_L24 fu c (m + 1) s (nI n) (nI i) = p_X10_stepWeights_L24 fu c m _ (nI n) (nI (i + 1))
        rw [p_X10_stepWeights_L24, if_neg (show ¬ (1300 : Int32) ≤ nI i by rw [le_ln (by decide) (by omega)]; omega), if_pos ib, mx_n (by omega), cl_nI (n := i) (by omega), cl_nI (n := n) (by omega), e15, nI_add, e35, if_neg (fun q => g ((lg_cmp_eq _ _).mp q)), if_pos ibn, if_pos ia, if_pos ib, e0, e00, e1, h10, l10, lN_mul, cl_nI (by omega), if_pos (by decide)]
        obtain ⟨t, ht⟩ : ∃ t, t = oLA s 36 (vp_updL (s.2 36) ((i - 1) + r) (s.2 36 ((i - 1) + r) + lN (w i * (10 - od)))) := ⟨_, rfl⟩
        have t1 : t.1 1 2 = nI sw := by rw [ht]; exact e2
        have t11 : t.1 1 1 = nI od := by rw [ht]; exact e1
        have t35 : t.2 35 i = lN (w i) := by rw [ht]; exact e35
        have t36 : t.2 36 = vp_updL (s.2 36) ((i - 1) + r) (s.2 36 ((i - 1) + r) + lN (w i * (10 - od))) := by rw [ht]; rfl
        rw [← ht, t1, nI_add, t11, t35, lod, lN_mul, cl_nI (by omega), t36, if_pos ia, if_pos (by decide), if_pos ia2, if_pos ib, if_pos (by decide), if_pos ia2, add_nl]
      · show vp_updL (vp_updL (s.2 36) ((i - 1) + r) (s.2 36 ((i - 1) + r) + lN (w i * (10 - od)))) ((i - 1) + r + sw) (vp_updL (s.2 36) ((i - 1) + r) (s.2 36 ((i - 1) + r) + lN (w i * (10 - od))) ((i - 1) + r + sw) + lN (w i * od)) j = _
        rw [up2_n (s.2 36) (acc w r od sw i) _ _ _ _ j (hs j hj), acc]
theorem e_stepW (fu : Nat) (hf : 2000 ≤ fu) (o z : Ob) {l od sw : Nat} {g : Nat → Nat} (hX : RX o l od sw g) (hB : CB l od sw g) {n : Nat} (hn : n < 14) (hz : RM o z (wq l od sw g n)) : ∃ s, p_X10_stepWeights fu z (nI (n + 1)) = some s ∧ RM o s (wq l od sw g (n + 1)) := by
  obtain ⟨F, h35⟩ := hz
  obtain ⟨x1, x2, x3, x4⟩ := hX.kp F
  have ht := hB.t (n := n) (by omega)
  have ht1 := hB.t (n := n + 1) (by omega)
  have hr := hB.r (k := n + 1) (by omega)
  have hsw := hB.2.2.1
  rw [Tq] at ht1
  unfold p_X10_stepWeights
  obtain ⟨s1, es1, F1, z1⟩ := e_stepW2 fu hf (fun oz v1 => p_X10_stepWeights_L24 fu (fun oz => p_X10_stepWeights_L124 fu fu oz 0) fu oz v1 0) z (nI (n + 1))
  rw [es1]
  obtain ⟨s2, es2, F2, z2⟩ := e_stepW24 fu hf (fun oz => p_X10_stepWeights_L124 fu fu oz 0) s1 (n := n + 1) (r := g (n + 1)) (od := od) (sw := sw) (T := Tq l sw g n) (w := wq l od sw g n) (by omega) (by omega) hB.2.1 (by omega) (by rw [F1.f1 15 (by decide)]; exact x2 _ (by omega)) (by rw [F1.f1 1 (by decide)]; exact x3) (by rw [F1.f1 1 (by decide)]; exact x4) (fun k hk => by rw [F1.f2 35 (by decide)]; exact h35 k hk) (wq_z l od sw g n) (by omega) z1
  show ∃ s, p_X10_stepWeights_L24 fu (fun oz => p_X10_stepWeights_L124 fu fu oz 0) fu s1 (nI (n + 1)) 0 = some s ∧ _
  rw [es2]
  obtain ⟨s3, es3, F3, z3⟩ := e_stepW124 fu hf s2 (w := wq l od sw g (n + 1)) (fun k hk => by
    rw [z2 k hk]
    exact congrArg lN (acc_ext _ _ _ _ _ 1300 (by omega) (fun q h1 _ => wq_z l od sw g n q (by omega))))
  exact ⟨s3, es3, ((F.tr (F1.mono (by decide))).tr (F2.mono (by decide))).tr F3, z3⟩
theorem e_wFrom (fu : Nat) (hf : 2000 ≤ fu) (o : Ob) {w : Nat → Nat} (h : ∀ k, k < 1300 → o.2 35 k = lN (w k)) {a b : Nat} (hab : a ≤ b) (hb : b ≤ 1300) : p_X10_weightFrom fu o (nI a) (nI b) = some (lN (sm w b - sm w a)) := by
  unfold p_X10_weightFrom
  obtain ⟨r, er, rfl⟩ := loop_inv (fun m i s => p_X10_weightFrom_L5 fu o m (nI b) s (nI i)) b (fun i (s : Int64) => a ≤ i ∧ s = lN (sm w i - sm w a)) (fun r => r = lN (sm w b - sm w a)) (by
    rintro m s ⟨-, rfl⟩
    refine ⟨_, ?_, rfl⟩
    show p_X10_weightFrom_L5 fu o (m + 1) (nI b) _ (nI b) = _
    rw [p_X10_weightFrom_L5, if_pos (show nI b ≤ nI b by rw [le_nn (by omega) (by omega)]; exact Nat.le_refl _)]) (by
    rintro m i s hi ⟨ha, rfl⟩
    right
    refine ⟨lN (sm w (i + 1) - sm w a), ?_, by omega, rfl⟩
    show p_X10_weightFrom_L5 fu o (m + 1) (nI b) _ (nI i) = p_X10_weightFrom_L5 fu o m (nI b) _ (nI (i + 1))
    have ib : (inb (nI i) 1300 = true) := by rw [inb_nI (by omega) (by omega)]; trivial
    have hm := sm_mono w i ha
    rw [p_X10_weightFrom_L5, if_neg (show ¬ nI b ≤ nI i by rw [le_nn (by omega) (by omega)]; omega), if_pos ib, cl_nI (by omega), h i (by omega), lN_add, add_nl, sm, show sm w i - sm w a + w i = sm w i + w i - sm w a by omega]) fu a 0 hab (by omega) ⟨Nat.le_refl _, by rw [Nat.sub_self]; rfl⟩
  exact er
