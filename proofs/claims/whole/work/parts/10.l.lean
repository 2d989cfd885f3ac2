/-! ===== the two, one beside the other ===== -/
/-- fields of the reference that no later call sees -/
abbrev tF : List Nat := [6, 7, 8, 9, 10, 11, 14, 15, 16, 17, 18, 19, 20, 21, 22, 23, 24, 25, 26, 27, 28, 29, 30, 31, 32, 33, 34, 35, 36, 37, 41]
/-- objects of the class that no later call sees -/
def KQ (x y : Nat → Ob) : Prop := (∀ k, k ∉ [0, 6, 11, 12, 13, 18, 19] → y k = x k) ∧ (y 0).1 5 = (x 0).1 5
theorem KQ.rf {x : Nat → Ob} : KQ x x := ⟨fun _ _ => rfl, rfl⟩
theorem KQ.tr {x y z : Nat → Ob} (h : KQ x y) (k : KQ y z) : KQ x z := ⟨fun j hj => (k.1 j hj).trans (h.1 j hj), k.2.trans h.2⟩
theorem KQ.up {x y : Nat → Ob} (h : KQ x y) {k : Nat} (hk : k ∈ [6, 11, 12, 13, 18, 19]) (v : Ob) : KQ x (va_up y k v) := by
  refine ⟨fun j hj => ?_, ?_⟩
  · rw [up_v, if_neg (fun e => hj (by subst e; simp at hk ⊢; omega))]
    exact h.1 j hj
  · rw [up_v, if_neg (fun e => by subst e; simp at hk)]
    exact h.2
theorem KQ.up0 {x y : Nat → Ob} (h : KQ x y) (g : Nat → Int32) : KQ x (va_up y 0 (oA (y 0) 13 g)) := by
  refine ⟨fun j hj => ?_, ?_⟩
  · rw [up_v, if_neg (fun e => hj (by subst e; simp))]
    exact h.1 j hj
  · rw [up_v, if_pos rfl, oA_1, if_neg (by decide)]
    exact h.2
def TPe (x : Nat → Ob) (o : Ob) : Prop := ∃ n, n ≤ 700 ∧ (x 1).1 1 0 = nI n ∧ o.1 5 0 = nI n ∧ ∀ i, i < n → ∃ m, m < 256 ∧ (x 1).1 0 i = nI m ∧ o.1 4 i = (nI m).toInt8.toInt32
def FTe (x : Nat → Ob) (o : Ob) : Prop := (x 2).1 2 0 = o.1 12 0 ∧ (x 2).1 3 0 = o.1 13 0
def IMe (x : Nat → Ob) (o : Ob) : Prop := ∀ k, k < 3 → (bq ((x 0).1 5 0) k = false ∧ o.1 3 k = 0) ∨ (bq ((x 0).1 5 0) k = true ∧ o.1 3 k = 1 ∧ RW (x (7 + k)) (fun i => o.1 2 (98 * k + i)))
def SLe (x : Nat → Ob) (o : Ob) : Prop := ∀ j, j < 4 → ((x (14 + j)).1 0 0 = 0 ∧ o.1 38 j = -1) ∨ ((x (14 + j)).1 0 0 = 1 ∧ ∃ n b, n ≤ 60 ∧ b ≤ 3 ∧ (x (14 + j)).1 2 0 = nI n ∧ o.1 38 j = nI n ∧ (x (14 + j)).1 1 0 = nI b ∧ o.1 39 j = nI b ∧ ∀ i, i < 60 → (x (14 + j)).2 3 i = o.2 40 (60 * j + i))
def Rel (x : Nat → Ob) (o : Ob) : Prop := RW (x 5) (o.1 1) ∧ WT (x 10) (o.1 1) ∧ FTe x o ∧ TPe x o ∧ IMe x o ∧ SLe x o
theorem Rel.kp {x y : Nat → Ob} {o s : Ob} (h : Rel x o) (k : KQ x y) (F : FR tF o s) : Rel y s := by
  have k2 : ∀ j, j ∉ [0, 6, 11, 12, 13, 18, 19] → y j = x j := k.1
  unfold Rel FTe TPe IMe SLe at *
  rw [k2 5 (by decide), k2 10 (by decide), k2 2 (by decide), k2 1 (by decide), k.2, F.f1 1 (by decide), F.f1 12 (by decide), F.f1 13 (by decide), F.f1 5 (by decide), F.f1 4 (by decide), F.f1 3 (by decide), F.f1 2 (by decide), F.f1 38 (by decide), F.f1 39 (by decide), F.f2 40 (by decide)]
  refine ⟨h.1, h.2.1, h.2.2.1, h.2.2.2.1, ?_, ?_⟩
  · intro q hq
    rw [k2 (7 + q) (by simp; omega)]
    exact h.2.2.2.2.1 q hq
  · intro q hq
    rw [k2 (14 + q) (by simp; omega)]
    exact h.2.2.2.2.2 q hq
theorem Rel.w {x : Nat → Ob} {o : Ob} (h : Rel x o) : OKW (o.1 1) := h.1.1
/-- the water as it is, no reach stopped -/
def PW (w : Nat → Int32) : PP := (w, wE w, wB w, lvW w, shW w, 0)
theorem OKW.t {w : Nat → Int32} (h : OKW w) : OKt w (wE w) (wB w) := fun j hj => (h.2.2.2.2.1 j hj).2.2
theorem OKW.p {w : Nat → Int32} (h : OKW w) : OKP (PW w) := ⟨h, h.t⟩
theorem AI.gp {o s : Ob} (h : AI o s) : GP (PW (o.1 1)) s := ⟨h.1.f1 1 (by decide), h.2.2.2.1, fun k hk => (h.2.2.1 k hk).2, h.2.2.2.2.1, h.2.2.2.2.2⟩
theorem AI.tf {o s : Ob} (h : AI o s) : FR tF o s := h.1.mono (by decide)
theorem AI.w {o s : Ob} (h : AI o s) : s.1 1 = o.1 1 := h.1.f1 1 (by decide)
theorem Rel.dp {x : Nat → Ob} {o : Ob} (h : Rel x o) : DP (PW (o.1 1)) (x 5) (x 10) := ⟨h.1.2.1.2.2.2.2.2.1, h.1.2.2.1, h.1.2.2.2.1, fun k hk => h.2.1.2.1 k hk, h.2.1.2.2, rfl⟩
/-! which arguments there are -/
theorem e_cReach (fu : Nat) {x : Nat → Ob} {o : Ob} (h : Rel x o) (v : Int32) : p_X9_isReach fu x v = some (ixq v (nR (o.1 1))) := by
  unfold p_X9_isReach ixq
  rw [h.1.2.1.2.2.2.2.1]
  split
  · rfl
  · split <;> rfl
theorem e_cJoin (fu : Nat) {x : Nat → Ob} {o : Ob} (h : Rel x o) (v : Int32) : p_X9_isJoin fu x v = some (ixq v (nJ (o.1 1))) := by
  unfold p_X9_isJoin ixq
  rw [h.1.2.1.2.2.2.2.2.1]
  split
  · rfl
  · split <;> rfl
theorem told0 {x : Nat → Ob} {o : Ob} (h : Rel x o) : ((x 5).1 0 0 = 0) = (nL (o.1 1) = 0) := by
  rw [h.1.2.1.1]
  apply propext
  by_cases c : nL (o.1 1) = 0
  · simp [c]
  · simp [c]
theorem e_hasStep (fu : Nat) {x : Nat → Ob} {o : Ob} (h : Rel x o) (v : Int32) : p_X9_hasStep fu x v = some (if nL (o.1 1) = 0 then 0 else ixq v 61) := by
  unfold p_X9_hasStep
  simp only [told0 h, e_cStep, Option.bind_some]
  split
  · rfl
  · rcases ixq_of v (n := 61) (by omega) with ⟨e, -⟩ | ⟨e, -⟩ <;> rw [e] <;> rfl
theorem e_asksRivers (fu : Nat) (hf : 2000 ≤ fu) (o : Ob) (hw : OKW (o.1 1)) : ∃ s, p_X10_asksRivers fu o = some (if nL (o.1 1) = 0 then 0 else 1, s) ∧ AI o s := by
  obtain ⟨s, e, a⟩ := e_asItIs fu hf o hw
  refine ⟨s, ?_, a⟩
  unfold p_X10_asksRivers
  rw [e, Option.bind_some, e_isRivers fu s (by rw [a.w]; exact hw), Option.bind_some, a.w]
  by_cases c : nL (o.1 1) = 0
  · simp [c]
  · simp [c]
theorem e_asksReach (fu : Nat) (hf : 2000 ≤ fu) (o : Ob) (hw : OKW (o.1 1)) (v : Int32) : ∃ s, p_X10_asksReach fu o v = some (ixq v (nR (o.1 1)), s) ∧ AI o s := by
  obtain ⟨s, e, a⟩ := e_asItIs fu hf o hw
  refine ⟨s, ?_, a⟩
  unfold p_X10_asksReach
  rw [e, Option.bind_some, e_isReach fu s v (by rw [a.w]; exact hw), Option.bind_some, a.w]
  simp only [ixq_b, if_true]
theorem e_isSt (fu : Nat) {x : Nat → Ob} {o : Ob} (h : Rel x o) {r n : Nat} (hr : r < nR (o.1 1)) (hn : n < 61) : p_X9_isStanding fu x (nI r) (nI n) = some (if lvW (o.1 1) n < wL (o.1 1) r then 1 else 0) := by
  have hR := h.w.2.1.1
  unfold p_X9_isStanding
  simp (disch := omega) only [e_levelAt, e_pick, Option.bind_some, (h.1.2.2.1 r hr).2.2, h.2.1.2.1 n hn]
  by_cases c : lvW (o.1 1) n < wL (o.1 1) r
  · rw [if_pos c, if_neg (Int32.not_le.mpr c)]
  · rw [if_neg c, if_pos (Int32.not_lt.mp c)]
/-- the reference's bit of what stands -/
theorem bq_sW {w : Nat → Int32} (h : OKW w) {r n : Nat} (hr : r < nR w) : bq (stq w (lvW w n) (nR w)) r = decide (lvW w n < wL w r) := by
  have hR := h.2.1.1
  rw [bq_stq w _ r (by omega) _ (by omega)]
  simp [hr]
