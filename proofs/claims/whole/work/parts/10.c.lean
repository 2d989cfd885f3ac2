/-! ===== rains, levels, what is shut ===== -/
/-- all fields but those of fs are as they were -/
def FR (fs : List Nat) (o s : Ob) : Prop := ∀ f, f ∉ fs → s.1 f = o.1 f ∧ s.2 f = o.2 f
theorem FR.rf {fs : List Nat} {o : Ob} : FR fs o o := fun _ _ => ⟨rfl, rfl⟩
theorem FR.tr {fs : List Nat} {o s t : Ob} (h : FR fs o s) (k : FR fs s t) : FR fs o t := fun f hf => ⟨(k f hf).1.trans (h f hf).1, (k f hf).2.trans (h f hf).2⟩
theorem FR.mono {fs gs : List Nat} {o s : Ob} (h : FR fs o s) (k : ∀ f, f ∈ fs → f ∈ gs) : FR gs o s := fun f hf => h f (fun z => hf (k f z))
theorem FR.A {fs : List Nat} {o s : Ob} (h : FR fs o s) {f : Nat} (hf : f ∈ fs) (g : Nat → Int32) : FR fs o (oA s f g) := fun q hq => ⟨by rw [oA_1, if_neg (show ¬ q = f from fun e => hq (e ▸ hf))]; exact (h q hq).1, (h q hq).2⟩
theorem FR.I {fs : List Nat} {o s : Ob} (h : FR fs o s) {f : Nat} (hf : f ∈ fs) (v : Int32) : FR fs o (oI s f v) := fun q hq => ⟨by rw [oI_1, if_neg (show ¬ q = f from fun e => hq (e ▸ hf))]; exact (h q hq).1, (h q hq).2⟩
theorem FR.LA {fs : List Nat} {o s : Ob} (h : FR fs o s) {f : Nat} (hf : f ∈ fs) (g : Nat → Int64) : FR fs o (oLA s f g) := fun q hq => ⟨(h q hq).1, by rw [oLA_2, if_neg (show ¬ q = f from fun e => hq (e ▸ hf))]; exact (h q hq).2⟩
theorem FR.L {fs : List Nat} {o s : Ob} (h : FR fs o s) {f : Nat} (hf : f ∈ fs) (v : Int64) : FR fs o (oL s f v) := fun q hq => ⟨(h q hq).1, by rw [oL_2, if_neg (show ¬ q = f from fun e => hq (e ▸ hf))]; exact (h q hq).2⟩
theorem FR.f1 {fs : List Nat} {o s : Ob} (h : FR fs o s) (f : Nat) (hf : f ∉ fs) : s.1 f = o.1 f := (h f hf).1
theorem FR.f2 {fs : List Nat} {o s : Ob} (h : FR fs o s) (f : Nat) (hf : f ∉ fs) : s.2 f = o.2 f := (h f hf).2
/-- the same on the steps 0 .. 60 -/
def E61 (f g : Nat → Int32) : Prop := ∀ k, k < 61 → f k = g k
theorem E61.rf {f : Nat → Int32} : E61 f f := fun _ _ => rfl
theorem E61.tr {f g h : Nat → Int32} (a : E61 f g) (b : E61 g h) : E61 f h := fun k hk => (a k hk).trans (b k hk)
theorem E61.sy {f g : Nat → Int32} (a : E61 f g) : E61 g f := fun k hk => (a k hk).symm
theorem E61.up {f g : Nat → Int32} (a : E61 f g) (s : Nat) (v : Int32) : E61 (upd f s v) (upd g s v) := fun k hk => by
  rw [upd_v, upd_v]
  split
  · rfl
  · exact a k hk
theorem E61.ad {f g : Nat → Int32} (a : E61 f g) {s : Nat} (hs : s < 61) (v : Int32) : E61 (upd f s (f s + v)) (upd g s (g s + v)) := by
  rw [a s hs]
  exact a.up s _
def actF (c : Nat) (p : (Nat → Int32) × Int32) : (Nat → Int32) × Int32 :=
  if 100 ≤ c then (upd p.1 (c / 100 - 1) (p.1 (c / 100 - 1) + nI (c % 100)), p.2) else if c % 2 = 1 then (p.1, p.2 ||| b1 (c / 2)) else (p.1, p.2 &&& (b1 (c / 2) ^^^ (-1)))
def rn0 (w : Nat → Int32) (k : Nat) : Nat → Int32 := it (fun k f => upd f (wS w k).toNatClampNeg (f (wS w k).toNatClampNeg + wM w k)) (fun _ => 0) k
def raA (w : Nat → Int32) (k : Nat) : (Nat → Int32) × Int32 := it (fun k p => actF (wC w k).toNatClampNeg p) (rn0 w (nN w), 0) k
def rnW (w : Nat → Int32) : Nat → Int32 := (raA w (nA w)).1
def shW (w : Nat → Int32) : Int32 := (raA w (nA w)).2
def lv (l0 : Int32) (rn : Nat → Int32) : Nat → Int32
  | 0 => l0 + rn 0
  | n + 1 => (if 0 < lv l0 rn n - 1 then lv l0 rn n - 1 else 0) + rn (n + 1)
def lvW (w : Nat → Int32) : Nat → Int32 := lv (w 0) (rnW w)
def stq (w : Nat → Int32) (l : Int32) (k : Nat) : Int32 := it (fun r s => s ||| (if l < wL w r then b1 r else 0)) 0 k
theorem lv_cg {l0 : Int32} {f g : Nat → Int32} (h : E61 f g) : ∀ k, k < 61 → lv l0 f k = lv l0 g k := by
  intro k
  induction k with
  | zero => intro hk; rw [lv, lv, h 0 hk]
  | succ k ih => intro hk; rw [lv, lv, ih (by omega), h (k + 1) hk]
theorem bq_stq (w : Nat → Int32) (l : Int32) (r : Nat) (hr : r < 32) : ∀ k, k ≤ 32 → bq (stq w l k) r = (decide (r < k) && decide (l < wL w r)) := by
  intro k
  induction k with
  | zero => intro _; simp [stq, it, bq_0]
  | succ k ih =>
    intro hk
    rw [stq, it, ← stq, bq_or, ih (by omega)]
    by_cases e : r = k
    · subst e
      by_cases hl : l < wL w r
      · simp [hl, bq_b1 r hr r hr]
      · simp [hl, bq_0]
    · by_cases hl : l < wL w k
      · rw [if_pos hl, bq_b1 k (by omega) r hr]
        simp [e, show (r < k + 1) = (r < k) from propext (by omega)]
      · rw [if_neg hl, bq_0]
        simp [show (r < k + 1) = (r < k) from propext (by omega)]
/-! the reference lays levels -/
theorem e_lay57 (fu : Nat) (hf : 2000 ≤ fu) (c : Ob → Int32 → Option Ob) (o : Ob) (i : Nat) (hi : i < 61) (hw : OKW (o.1 1)) (h0 : o.1 17 i = 0) :
    ∃ s, p_X10_layLevels_L57 fu c fu o (nI i) 0 = c s (nI i) ∧ FR [17] o s ∧ (∀ k, k ≠ i → s.1 17 k = o.1 17 k) ∧ s.1 17 i = stq (o.1 1) (o.1 16 i) (nR (o.1 1)) := by
  have hR := hw.2.1.1
  have h3 := hw.1.2.1
  refine loop_to (fun n r s => p_X10_layLevels_L57 fu c n s (nI i) (nI r)) (nR (o.1 1)) (fun r s => FR [17] o s ∧ (∀ k, k ≠ i → s.1 17 k = o.1 17 k) ∧ s.1 17 i = stq (o.1 1) (o.1 16 i) r) (fun s => c s (nI i)) ?_ ?_ fu 0 o (Nat.zero_le _) (by omega) ⟨FR.rf, fun _ _ => rfl, h0⟩
  · rintro n s ⟨hF, hk, hv⟩
    have e1 := hF.f1 1 (by decide)
    show p_X10_layLevels_L57 fu c (n + 1) s (nI i) (nI (nR (o.1 1))) = _
    rw [p_X10_layLevels_L57]
    simp (disch := omega) only [inb_nI, inb_lit, cl_nI, cl_lit, nI_add, add_nl, add_ln, mul_ln, pk_mul, le_nn, lt_nn, eq_nn, le_nl, lt_nl, eq_nl, le_ln, lt_ln, eq_ln, eq_ll, lt_ll, le_ll, eq_nm1, eq_nm2, eq_nm3, eq_nm4, Option.bind_some, ↓reduceIte, if_true, if_false, Nat.reduceEqDiff, Nat.reduceAdd, Nat.reduceMul, Nat.reduceLT, Nat.reduceLeDiff, e1, h3, Nat.le_refl]
  · rintro n r s hr ⟨hF, hk, hv⟩
    have e1 := hF.f1 1 (by decide)
    have e16 := hF.f1 16 (by decide)
    refine ⟨oA s 17 (upd (s.1 17) i (s.1 17 i ||| (if o.1 16 i < wL (o.1 1) r then b1 r else 0))), ?_, hF.A (by decide) _, ?_, ?_⟩
    · show p_X10_layLevels_L57 fu c (n + 1) s (nI i) (nI r) = p_X10_layLevels_L57 fu c n _ (nI i) (nI (r + 1))
      rw [p_X10_layLevels_L57]
      simp (disch := omega) only [inb_nI, inb_lit, cl_nI, cl_lit, nI_add, add_nl, add_ln, mul_ln, pk_mul, le_nn, lt_nn, eq_nn, le_nl, lt_nl, eq_nl, le_ln, lt_ln, eq_ln, eq_ll, lt_ll, le_ll, eq_nm1, eq_nm2, eq_nm3, eq_nm4, Option.bind_some, ↓reduceIte, if_true, if_false, Nat.reduceEqDiff, Nat.reduceAdd, Nat.reduceMul, Nat.reduceLT, Nat.reduceLeDiff, e1, h3, e16, e_of2, if_neg (show ¬ nR (o.1 1) ≤ r by omega)]
      by_cases hl : o.1 16 i < wL (o.1 1) r
      · rw [if_neg (Int32.not_le.mpr hl), if_pos hl]
        unfold p_X10_layLevels_J96
        simp (disch := omega) only [inb_nI, inb_lit, cl_nI, cl_lit, nI_add, add_nl, add_ln, mul_ln, pk_mul, le_nn, lt_nn, eq_nn, le_nl, lt_nl, eq_nl, le_ln, lt_ln, eq_ln, eq_ll, lt_ll, le_ll, eq_nm1, eq_nm2, eq_nm3, eq_nm4, Option.bind_some, ↓reduceIte, if_true, if_false, Nat.reduceEqDiff, Nat.reduceAdd, Nat.reduceMul, Nat.reduceLT, Nat.reduceLeDiff]
        rfl
      · rw [if_pos (Int32.not_lt.mp hl), if_neg hl]
        unfold p_X10_layLevels_J96
        simp (disch := omega) only [inb_nI, inb_lit, cl_nI, cl_lit, nI_add, add_nl, add_ln, mul_ln, pk_mul, le_nn, lt_nn, eq_nn, le_nl, lt_nl, eq_nl, le_ln, lt_ln, eq_ln, eq_ll, lt_ll, le_ll, eq_nm1, eq_nm2, eq_nm3, eq_nm4, Option.bind_some, ↓reduceIte, if_true, if_false, Nat.reduceEqDiff, Nat.reduceAdd, Nat.reduceMul, Nat.reduceLT, Nat.reduceLeDiff]
    · intro k hk1
      rw [oA_1, if_pos rfl, upd_v, if_neg hk1]
      exact hk k hk1
    · rw [oA_1, if_pos rfl, upd_v, if_pos rfl, hv, stq, stq, it]
def LV (o s : Ob) (k : Nat) : Prop := s.1 16 k = lv (o.1 1 0) (o.1 15) k ∧ s.1 17 k = stq (o.1 1) (lv (o.1 1 0) (o.1 15) k) (nR (o.1 1))
theorem e_lay (fu : Nat) (hf : 2000 ≤ fu) (o : Ob) (hw : OKW (o.1 1)) : ∃ s, p_X10_layLevels fu o = some s ∧ FR [16, 17] o s ∧ ∀ k, k < 61 → LV o s k := by
  unfold p_X10_layLevels
  refine loop_inv (fun n i s => p_X10_layLevels_L2 fu n s (nI i)) 61 (fun i s => FR [16, 17] o s ∧ ∀ k, k < i → LV o s k) (fun s => FR [16, 17] o s ∧ ∀ k, k < 61 → LV o s k) ?_ ?_ fu 0 o (Nat.zero_le _) (by omega) ⟨FR.rf, fun k hk => by omega⟩
  · rintro n s hs
    refine ⟨s, ?_, hs⟩
    show p_X10_layLevels_L2 fu (n + 1) s (nI 61) = _
    rw [p_X10_layLevels_L2]
    simp (disch := omega) only [inb_nI, inb_lit, cl_nI, cl_lit, nI_add, add_nl, add_ln, mul_ln, pk_mul, le_nn, lt_nn, eq_nn, le_nl, lt_nl, eq_nl, le_ln, lt_ln, eq_ln, eq_ll, lt_ll, le_ll, eq_nm1, eq_nm2, eq_nm3, eq_nm4, Option.bind_some, ↓reduceIte, if_true, if_false, Nat.reduceEqDiff, Nat.reduceAdd, Nat.reduceMul, Nat.reduceLT, Nat.reduceLeDiff]
  · rintro n i s hi ⟨hF, hk⟩
    right
    have e1 := hF.f1 1 (by decide)
    have e15 := hF.f1 15 (by decide)
    obtain ⟨t, et, tF, t1, t2⟩ := e_lay57 fu hf (fun oz v1 => p_X10_layLevels_L2 fu n oz (v1 + 1)) (oA (oA s 16 (upd (s.1 16) i (lv (o.1 1 0) (o.1 15) i))) 17 (upd (s.1 17) i 0)) i hi (by simp only [oA_1, oI_1, oLA_1, oL_1, oA_2, oI_2, oLA_2, oL_2, up_v, upd_v, updL_v, Option.bind_some, ↓reduceIte, if_true, if_false, Nat.reduceEqDiff, Nat.reduceAdd, Nat.reduceMul, Nat.reduceLT, Nat.reduceLeDiff, e1]; exact hw) (by simp only [oA_1, oI_1, oLA_1, oL_1, oA_2, oI_2, oLA_2, oL_2, up_v, upd_v, updL_v, Option.bind_some, ↓reduceIte, if_true, if_false, Nat.reduceEqDiff, Nat.reduceAdd, Nat.reduceMul, Nat.reduceLT, Nat.reduceLeDiff])
    refine ⟨t, ?_, ?_, ?_⟩
    · show p_X10_layLevels_L2 fu (n + 1) s (nI i) = p_X10_layLevels_L2 fu n t (nI (i + 1))
      rw [p_X10_layLevels_L2]
      simp (disch := omega) only [inb_nI, inb_lit, cl_nI, cl_lit, nI_add, add_nl, add_ln, mul_ln, pk_mul, le_nn, lt_nn, eq_nn, le_nl, lt_nl, eq_nl, le_ln, lt_ln, eq_ln, eq_ll, lt_ll, le_ll, eq_nm1, eq_nm2, eq_nm3, eq_nm4, Option.bind_some, ↓reduceIte, if_true, if_false, Nat.reduceEqDiff, Nat.reduceAdd, Nat.reduceMul, Nat.reduceLT, Nat.reduceLeDiff, if_neg (show ¬ 60 < i by omega)]
      have key : ∀ v, v + o.1 15 i = lv (o.1 1 0) (o.1 15) i → p_X10_layLevels_J40 fu (fun oz v1 => p_X10_layLevels_L2 fu n oz v1) s (nI i) (nI i) v = p_X10_layLevels_L2 fu n t (nI (i + 1)) := by
        intro v hv
        unfold p_X10_layLevels_J40
        simp (disch := omega) only [inb_nI, inb_lit, cl_nI, cl_lit, nI_add, add_nl, add_ln, mul_ln, pk_mul, le_nn, lt_nn, eq_nn, le_nl, lt_nl, eq_nl, le_ln, lt_ln, eq_ln, eq_ll, lt_ll, le_ll, eq_nm1, eq_nm2, eq_nm3, eq_nm4, Option.bind_some, ↓reduceIte, if_true, if_false, Nat.reduceEqDiff, Nat.reduceAdd, Nat.reduceMul, Nat.reduceLT, Nat.reduceLeDiff, oA_1, oI_1, oLA_1, oL_1, oA_2, oI_2, oLA_2, oL_2, up_v, upd_v, updL_v, e15, hv]
        rw [show p_X10_layLevels_L2 fu n t (nI (i + 1)) = (fun oz v1 => p_X10_layLevels_L2 fu n oz (v1 + 1)) t (nI i) from by simp only [add_nl]]
        exact et
      by_cases h0 : i = 0
      · subst h0
        simp only [Option.bind_some, ↓reduceIte, if_true, if_false, Nat.reduceEqDiff, Nat.reduceAdd, Nat.reduceMul, Nat.reduceLT, Nat.reduceLeDiff, e1]
        exact key _ rfl
      · obtain ⟨q, rfl⟩ : ∃ q, i = q + 1 := ⟨i - 1, by omega⟩
        simp (disch := omega) only [inb_nI, inb_lit, cl_nI, cl_lit, nI_add, add_nl, add_ln, mul_ln, pk_mul, le_nn, lt_nn, eq_nn, le_nl, lt_nl, eq_nl, le_ln, lt_ln, eq_ln, eq_ll, lt_ll, le_ll, eq_nm1, eq_nm2, eq_nm3, eq_nm4, Option.bind_some, ↓reduceIte, if_true, if_false, Nat.reduceEqDiff, Nat.reduceAdd, Nat.reduceMul, Nat.reduceLT, Nat.reduceLeDiff, h0, nI_pred]
        exact key _ (by rw [lv, (hk q (by omega)).1])
    · intro f hf
      have h1 := tF f (fun z => hf (by simp at z; simp [z]))
      simp only [List.mem_cons, List.not_mem_nil, or_false, not_or] at hf
      rw [oA_1, if_neg hf.2, oA_1, if_neg hf.1] at h1
      exact ⟨h1.1.trans (hF f (by simp [hf])).1, h1.2.trans (hF f (by simp [hf])).2⟩
    · intro k hk1
      have e16 : t.1 16 = upd (s.1 16) i (lv (o.1 1 0) (o.1 15) i) := by
        rw [tF.f1 16 (by decide)]
        simp only [oA_1, oI_1, oLA_1, oL_1, oA_2, oI_2, oLA_2, oL_2, up_v, upd_v, updL_v, Option.bind_some, ↓reduceIte, if_true, if_false, Nat.reduceEqDiff, Nat.reduceAdd, Nat.reduceMul, Nat.reduceLT, Nat.reduceLeDiff]
      by_cases hki : k = i
      · subst hki
        refine ⟨by rw [e16, upd_v, if_pos rfl], ?_⟩
        rw [t2]
        simp only [oA_1, oI_1, oLA_1, oL_1, oA_2, oI_2, oLA_2, oL_2, up_v, upd_v, updL_v, Option.bind_some, ↓reduceIte, if_true, if_false, Nat.reduceEqDiff, Nat.reduceAdd, Nat.reduceMul, Nat.reduceLT, Nat.reduceLeDiff, e1]
      · refine ⟨by rw [e16, upd_v, if_neg hki]; exact (hk k (by omega)).1, ?_⟩
        rw [t1 k hki]
        simp only [oA_1, oI_1, oLA_1, oL_1, oA_2, oI_2, oLA_2, oL_2, up_v, upd_v, updL_v, Option.bind_some, ↓reduceIte, if_true, if_false, Nat.reduceEqDiff, Nat.reduceAdd, Nat.reduceMul, Nat.reduceLT, Nat.reduceLeDiff, hki]
        exact (hk k (by omega)).2
