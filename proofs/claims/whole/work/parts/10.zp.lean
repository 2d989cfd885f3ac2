/-! ===== feed ===== -/
theorem b255 : ∀ j : Fin 8, (255#8)[j.1]'j.2 = true := by decide
theorem fb24 (v : Int32) : (v >>> ((24 : Int32) &&& 31)).toInt8 = ((((v).toUInt32 >>> ((24 : Int32).toUInt32 &&& Int32.toUInt32 31)).toInt32) &&& 255).toInt8 := by
  have e1 : ((24 : Int32) &&& 31) = 24 := by decide
  have e2 : ((24 : Int32).toUInt32 &&& Int32.toUInt32 31) = 24 := by decide
  have e3 : (255#8) = BitVec.allOnes 8 := by decide
  rw [e1, e2]
  apply Int8.toBitVec_inj.mp
  rw [Int32.toBitVec_toInt8, Int32.toBitVec_toInt8, Int32.toBitVec_shiftRight, Int32.toBitVec_and]
  ext i hi
  simp [e3, BitVec.getElem_signExtend, BitVec.getElem_sshiftRight, BitVec.getElem_ushiftRight, show i < 32 by omega, show 24 + i < 32 by omega, BitVec.getElem_allOnes, BitVec.getLsbD_eq_getElem]
  exact fun _ => b255 ⟨i, hi⟩
theorem fb16 (v : Int32) : (v >>> ((16 : Int32) &&& 31)).toInt8 = ((((v).toUInt32 >>> ((16 : Int32).toUInt32 &&& Int32.toUInt32 31)).toInt32) &&& 255).toInt8 := by
  have e1 : ((16 : Int32) &&& 31) = 16 := by decide
  have e2 : ((16 : Int32).toUInt32 &&& Int32.toUInt32 31) = 16 := by decide
  have e3 : (255#8) = BitVec.allOnes 8 := by decide
  rw [e1, e2]
  apply Int8.toBitVec_inj.mp
  rw [Int32.toBitVec_toInt8, Int32.toBitVec_toInt8, Int32.toBitVec_shiftRight, Int32.toBitVec_and]
  ext i hi
  simp [e3, BitVec.getElem_signExtend, BitVec.getElem_sshiftRight, BitVec.getElem_ushiftRight, show i < 32 by omega, show 16 + i < 32 by omega, BitVec.getElem_allOnes, BitVec.getLsbD_eq_getElem]
  exact fun _ => b255 ⟨i, hi⟩
theorem fb8 (v : Int32) : (v >>> ((8 : Int32) &&& 31)).toInt8 = ((((v).toUInt32 >>> ((8 : Int32).toUInt32 &&& Int32.toUInt32 31)).toInt32) &&& 255).toInt8 := by
  have e1 : ((8 : Int32) &&& 31) = 8 := by decide
  have e2 : ((8 : Int32).toUInt32 &&& Int32.toUInt32 31) = 8 := by decide
  have e3 : (255#8) = BitVec.allOnes 8 := by decide
  rw [e1, e2]
  apply Int8.toBitVec_inj.mp
  rw [Int32.toBitVec_toInt8, Int32.toBitVec_toInt8, Int32.toBitVec_shiftRight, Int32.toBitVec_and]
  ext i hi
  simp [e3, BitVec.getElem_signExtend, BitVec.getElem_sshiftRight, BitVec.getElem_ushiftRight, show i < 32 by omega, show 8 + i < 32 by omega, BitVec.getElem_allOnes, BitVec.getLsbD_eq_getElem]
  exact fun _ => b255 ⟨i, hi⟩
theorem fb0 (v : Int32) : (v >>> ((0 : Int32) &&& 31)).toInt8 = ((((v).toUInt32 >>> ((0 : Int32).toUInt32 &&& Int32.toUInt32 31)).toInt32) &&& 255).toInt8 := by
  have e1 : ((0 : Int32) &&& 31) = 0 := by decide
  have e2 : ((0 : Int32).toUInt32 &&& Int32.toUInt32 31) = 0 := by decide
  have e3 : (255#8) = BitVec.allOnes 8 := by decide
  rw [e1, e2]
  apply Int8.toBitVec_inj.mp
  rw [Int32.toBitVec_toInt8, Int32.toBitVec_toInt8, Int32.toBitVec_shiftRight, Int32.toBitVec_and]
  ext i hi
  simp [e3, BitVec.getElem_signExtend, BitVec.getElem_sshiftRight, BitVec.getElem_ushiftRight, show i < 32 by omega, show 0 + i < 32 by omega, BitVec.getElem_allOnes, BitVec.getLsbD_eq_getElem]
  exact fun _ => b255 ⟨i, hi⟩
theorem nar_b (y : Int8) : vp_nar .byte y.toInt32 = y.toInt32 := by
  unfold vp_nar
  show y.toInt32.toInt8.toInt32 = y.toInt32
  rw [Int8.toInt8_toInt32]
theorem and255 (y : Int32) : ∃ m, m < 256 ∧ y &&& 255 = nI m := by
  refine ⟨(y &&& 255).toBitVec.toNat, ?_, ?_⟩
  · rw [Int32.toBitVec_and, BitVec.toNat_and]
    have : y.toBitVec.toNat &&& (255 : Int32).toBitVec.toNat ≤ (255 : Int32).toBitVec.toNat := Nat.and_le_right
    have e : (255 : Int32).toBitVec.toNat = 255 := rfl
    omega
  · apply Int32.toBitVec_inj.mp
    show _ = BitVec.ofNat 32 _
    rw [BitVec.ofNat_toNat]
    rfl
def cB (v s : Int32) : Int32 := ((((v).toUInt32 >>> ((s).toUInt32 &&& Int32.toUInt32 31)).toInt32) &&& 255)
def rB (v s : Int32) : Int32 := vp_nar .byte ((v >>> (s &&& 31)).toInt8.toInt32)
theorem cB_rB (v : Int32) {b : Nat} (hb : b < 4) : ∃ m, m < 256 ∧ cB v (nI (24 - 8 * b)) = nI m ∧ rB v (nI (24 - 8 * b)) = (nI m).toInt8.toInt32 := by
  obtain ⟨m, hm, e⟩ := and255 (((v).toUInt32 >>> ((nI (24 - 8 * b)).toUInt32 &&& Int32.toUInt32 31)).toInt32)
  refine ⟨m, hm, e, ?_⟩
  unfold rB
  rw [nar_b, ← e]
  congr 1
  rcases (show b = 0 ∨ b = 1 ∨ b = 2 ∨ b = 3 by omega) with rfl | rfl | rfl | rfl
  · exact fb24 v
  · exact fb16 v
  · exact fb8 v
  · exact fb0 v
theorem e_apS (fu f : Nat) {o : Ob} (v s : Int32) {n : Nat} (h : o.1 1 0 = nI n) (hn : n < 700) (hs : ¬ s < 0) : p_X6_append_L3 fu (f + 1) o v s = p_X6_append_L3 fu f (oI (oA o 0 (upd (o.1 0) n (cB v s))) 1 (nI (n + 1))) v (s + (-8)) := by
  rw [p_X6_append_L3, if_neg hs, h, e_put fu (o.1 0) _ hn (by decide), Option.bind_some]
  have e : (oA o 0 (upd (o.1 0) n (cB v s))).1 1 0 + 1 = nI (n + 1) := by
    show o.1 1 0 + 1 = _
    rw [h]
    exact nI_add n 1
  rw [← e]
  rfl
theorem e_append (fu : Nat) (hf : 2000 ≤ fu) {o : Ob} (v : Int32) {n : Nat} (h : o.1 1 0 = nI n) (hn : n + 4 ≤ 700) : ∃ z, p_X6_append fu o v = some z ∧ z.1 1 0 = nI (n + 4) ∧ (∀ p, p < n → z.1 0 p = o.1 0 p) ∧ ∀ b, b < 4 → z.1 0 (n + b) = cB v (nI (24 - 8 * b)) := by
  obtain ⟨f, rfl⟩ : ∃ f, fu = f + 5 := ⟨fu - 5, by omega⟩
  unfold p_X6_append
  rw [e_apS (f + 5) (f + 4) v 24 h (by omega) (by decide)]
  rw [e_apS (f + 5) (f + 3) (n := n + 1) v _ rfl (by omega) (by decide)]
  rw [e_apS (f + 5) (f + 2) (n := n + 1 + 1) v _ rfl (by omega) (by decide)]
  rw [e_apS (f + 5) (f + 1) (n := n + 1 + 1 + 1) v _ rfl (by omega) (by decide)]
  rw [p_X6_append_L3, if_pos (by decide)]
  refine ⟨_, rfl, rfl, fun p hp => ?_, fun b hb => ?_⟩
  · simp only [oA_1, oI_1, oLA_1, oL_1, oA_2, oI_2, oLA_2, oL_2, up_v, upd_v, updL_v, Option.bind_some, ↓reduceIte, if_true, if_false, Nat.reduceEqDiff, Nat.reduceAdd, Nat.reduceMul, Nat.reduceLT, Nat.reduceLeDiff]
    rw [if_neg (by omega), if_neg (by omega), if_neg (by omega), if_neg (by omega)]
  · simp only [oA_1, oI_1, oLA_1, oL_1, oA_2, oI_2, oLA_2, oL_2, up_v, upd_v, updL_v, Option.bind_some, ↓reduceIte, if_true, if_false, Nat.reduceEqDiff, Nat.reduceAdd, Nat.reduceMul, Nat.reduceLT, Nat.reduceLeDiff]
    rcases (show b = 0 ∨ b = 1 ∨ b = 2 ∨ b = 3 by omega) with rfl | rfl | rfl | rfl
    · rw [if_neg (by omega), if_neg (by omega), if_neg (by omega), if_pos (by omega)]
      rfl
    · rw [if_neg (by omega), if_neg (by omega), if_pos (by omega)]
      rfl
    · rw [if_neg (by omega), if_pos (by omega)]
      rfl
    · rw [if_pos (by omega)]
      rfl
theorem fd4 : ∀ i : Fin 20, nI i.1 / 4 = nI (i.1 / 4) ∧ 24 - (8 * (nI i.1 - nI (i.1 / 4) * 4)) = nI (24 - 8 * (i.1 % 4)) := by decide +kernel
def v5s (v1 v2 v3 v4 v5 : Int32) (a : Nat) : Int32 := if a = 0 then v1 else if a = 1 then v2 else if a = 2 then v3 else if a = 3 then v4 else v5
theorem e_fd (fu : Nat) (hf : 2000 ≤ fu) (c : Ob → Option (Int32 × Ob)) {A : Ob} {n : Nat} (h : A.1 5 0 = nI n) (hn : n + 20 ≤ 700) : ∃ z, p_X10_feed_L55 fu c fu A 0 = c z ∧ FR [4] A z ∧ (∀ p, p < n → z.1 4 p = A.1 4 p) ∧ ∀ i, i < 20 → z.1 4 (n + i) = rB (A.1 6 (i / 4)) (nI (24 - 8 * (i % 4))) := by
  obtain ⟨z, e, F, q1, q2⟩ := loop_to (fun p i z => p_X10_feed_L55 fu c p z (nI i)) 20 (fun i z => FR [4] A z ∧ (∀ p, p < n → z.1 4 p = A.1 4 p) ∧ ∀ j, j < i → z.1 4 (n + j) = rB (A.1 6 (j / 4)) (nI (24 - 8 * (j % 4)))) (fun z => c z) (by
    rintro p z -
    show p_X10_feed_L55 fu c (p + 1) z (nI 20) = _
    rw [p_X10_feed_L55, if_pos (by decide)]) (by
    rintro p i z hi ⟨F, h1, h2⟩
    have z5 : z.1 5 0 = nI n := by rw [F.f1 5 (by decide)]; exact h
    have z6 : z.1 6 = A.1 6 := F.f1 6 (by decide)
    obtain ⟨d1, d2⟩ := fd4 ⟨i, hi⟩
    refine ⟨oA z 4 (upd (z.1 4) (n + i) (rB (A.1 6 (i / 4)) (nI (24 - 8 * (i % 4))))), ?_, F.A (by decide) _, fun q hq => ?_, fun q hq => ?_⟩
    · show p_X10_feed_L55 fu c (p + 1) z (nI i) = p_X10_feed_L55 fu c p _ (nI (i + 1))
      have j0 : nI n + nI i = nI (n + i) := nI_add n i
      have j1 : inb (nI (n + i)) 700 = true := by simp (disch := omega) only [inb_nI]
      have j3 : (nI (n + i)).toNatClampNeg = n + i := by simp (disch := omega) only [cl_nI]
      have k1 : inb (nI (i / 4)) 5 = true := by simp (disch := omega) only [inb_nI]
      have k3 : (nI (i / 4)).toNatClampNeg = i / 4 := by simp (disch := omega) only [cl_nI]
      have d1 : nI i / 4 = nI (i / 4) := d1
      have d2 : 24 - (8 * (nI i - nI (i / 4) * 4)) = nI (24 - 8 * (i % 4)) := d2
      rw [p_X10_feed_L55, if_neg (by rw [le_ln (by decide) (by omega)]; omega), if_neg (show ¬ (4 : Int32) = 0 by decide), d1, k1, if_pos rfl, if_neg (show ¬ (4 : Int32) = 0 by decide), z5, j0, j1, if_pos rfl, j3, k3, d2, z6, show nI i + 1 = nI (i + 1) from nI_add i 1]
      rfl
    · simp only [oA_1, oI_1, oLA_1, oL_1, oA_2, oI_2, oLA_2, oL_2, up_v, upd_v, updL_v, Option.bind_some, ↓reduceIte, if_true, if_false, Nat.reduceEqDiff, Nat.reduceAdd, Nat.reduceMul, Nat.reduceLT, Nat.reduceLeDiff]
      rw [if_neg (by omega)]; exact h1 q hq
    · simp only [oA_1, oI_1, oLA_1, oL_1, oA_2, oI_2, oLA_2, oL_2, up_v, upd_v, updL_v, Option.bind_some, ↓reduceIte, if_true, if_false, Nat.reduceEqDiff, Nat.reduceAdd, Nat.reduceMul, Nat.reduceLT, Nat.reduceLeDiff]
      by_cases g : q = i
      · rw [g, if_pos rfl]
      · rw [if_neg (by omega)]; exact h2 q (by omega)) fu 0 A (Nat.zero_le _) (by omega) ⟨FR.rf, fun p _ => rfl, fun q hq => absurd hq (Nat.not_lt_zero _)⟩
  exact ⟨z, e, F, q1, q2⟩
