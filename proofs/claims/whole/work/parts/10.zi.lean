/-! ===== turn, turned ===== -/
theorem e_askSeen0 (fu : Nat) {o : Ob} (h : OKW (o.1 1)) (v : Int32) : p_X10_askSeen fu o v 0 = some (-2, o) := by
  unfold p_X10_askSeen
  rw [e_isSlot, Option.bind_some, e_isRivers fu o h, Option.bind_some]
  simp only [if_true]
  split
  · rfl
  · split <;> rfl
theorem e_clear (fu : Nat) (hf : 2000 ≤ fu) (o : Ob) : ∃ y, p_X4_clear fu o = some y ∧ y.1 0 0 = 0 ∧ y.1 1 0 = 0 ∧ y.1 2 0 = -1 ∧ ∀ p, p < 732 → y.1 3 p = 0 := by
  unfold p_X4_clear
  obtain ⟨y, e, q⟩ := loop_inv (fun m i t => p_X4_clear_L17 fu m t (nI i)) 732 (fun i t => t.1 0 0 = 0 ∧ t.1 1 0 = 0 ∧ t.1 2 0 = -1 ∧ ∀ p, p < i → t.1 3 p = 0) (fun y => y.1 0 0 = 0 ∧ y.1 1 0 = 0 ∧ y.1 2 0 = -1 ∧ ∀ p, p < 732 → y.1 3 p = 0) (by
    intro m t ht
    refine ⟨t, ?_, ht⟩
    show p_X4_clear_L17 fu (m + 1) t (nI 732) = _
    rw [p_X4_clear_L17]
    simp (disch := omega) only [inb_nI, inb_lit, cl_nI, cl_lit, nI_add, add_nl, add_ln, mul_ln, pk_mul, le_nn, lt_nn, eq_nn, le_nl, lt_nl, eq_nl, le_ln, lt_ln, eq_ln, eq_ll, lt_ll, le_ll, eq_nm1, eq_nm2, eq_nm3, eq_nm4, Option.bind_some, ↓reduceIte, if_true, if_false, Nat.reduceEqDiff, Nat.reduceAdd, Nat.reduceMul, Nat.reduceLT, Nat.reduceLeDiff, Nat.le_refl]) (by
    rintro m i t hi ⟨h1, h2, h3, h4⟩
    right
    refine ⟨oA t 3 (upd (t.1 3) i 0), ?_, h1, h2, h3, fun p hp => ?_⟩
    · show p_X4_clear_L17 fu (m + 1) t (nI i) = p_X4_clear_L17 fu m _ (nI (i + 1))
      rw [p_X4_clear_L17]
      simp (disch := omega) only [inb_nI, inb_lit, cl_nI, cl_lit, nI_add, add_nl, add_ln, mul_ln, pk_mul, le_nn, lt_nn, eq_nn, le_nl, lt_nl, eq_nl, le_ln, lt_ln, eq_ln, eq_ll, lt_ll, le_ll, eq_nm1, eq_nm2, eq_nm3, eq_nm4, Option.bind_some, ↓reduceIte, if_true, if_false, Nat.reduceEqDiff, Nat.reduceAdd, Nat.reduceMul, Nat.reduceLT, Nat.reduceLeDiff, show ¬ 732 ≤ i by omega]
    · simp only [oA_1, oI_1, oLA_1, oL_1, oA_2, oI_2, oLA_2, oL_2, up_v, upd_v, updL_v, Option.bind_some, ↓reduceIte, if_true, if_false, Nat.reduceEqDiff, Nat.reduceAdd, Nat.reduceMul, Nat.reduceLT, Nat.reduceLeDiff]
      by_cases g : p = i
      · rw [if_pos g]
      · rw [if_neg g]; exact h4 p (by omega)) fu 0 (oI (oI (oI o 0 (0 : Int32)) 1 (0 : Int32)) 2 ((-1) : Int32)) (Nat.zero_le _) (by omega) ⟨rfl, rfl, rfl, fun p hp => by omega⟩
  exact ⟨y, e, q⟩
def addO (o : Ob) (v : Int32) : Ob := if o.1 0 0 = 0 then oI (oI o 2 v) 0 (o.1 0 0 + 1) else oI o 0 (o.1 0 0 + 1)
theorem e_add (fu : Nat) (o : Ob) (v : Int32) : p_X4_add fu o v = some (addO o v) := by
  unfold p_X4_add p_X4_add_J12 addO
  split <;> rfl
theorem addO_0 (o : Ob) (v : Int32) : (addO o v).1 0 0 = o.1 0 0 + 1 := by
  unfold addO
  split <;> rfl
theorem addO_2 (o : Ob) (v : Int32) : (addO o v).1 2 0 = if o.1 0 0 = 0 then v else o.1 2 0 := by
  unfold addO
  split <;> rfl
/-- rivers with one join's turns put anew -/
def tQ (w : Nat → Int32) (j : Nat) (ea aa : Int32) : PP := (w, upd (wE w) j ea, upd (wB w) j aa, lvW w, shW w, 0)
theorem tQ_ok {w : Nat → Int32} (h : OKW w) {j e a : Nat} (h1 : 1 ≤ e) (h2 : e ≤ 9) (h3 : a < e) : OKP (tQ w j (nI e) (nI a)) := by
  refine ⟨h, fun i hi => ?_⟩
  show ∃ e' a', 1 ≤ e' ∧ e' ≤ 9 ∧ a' < e' ∧ upd (wE w) j (nI e) i = nI e' ∧ upd (wB w) j (nI a) i = nI a'
  rw [upd_v, upd_v]
  by_cases g : i = j
  · rw [if_pos g, if_pos g]
    exact ⟨e, a, h1, h2, h3, rfl, rfl⟩
  · rw [if_neg g, if_neg g]
    exact h.t i hi
theorem upd_eq {f g : Nat → Int32} {j i : Nat} {e v : Int32} (h : f i = upd g j v i) : upd f j e i = upd g j e i := by
  rw [upd_v] at h
  rw [upd_v, upd_v]
  by_cases c : i = j
  · rw [if_pos c, if_pos c]
  · rw [if_neg c, if_neg c]
    rw [if_neg c] at h
    exact h
theorem DP.tq {w : Nat → Int32} {j : Nat} {ea aa : Int32} {a b : Ob} (d : DP (tQ w j ea aa) a b) (e' a' : Int32) : DP (tQ w j e' a') (oA (oA a 11 (upd (a.1 11) j e')) 12 (upd (a.1 12) j a')) b := by
  obtain ⟨d1, d2, d3, d4, d5, d6⟩ := d
  refine ⟨d1, d2, fun i hi => ?_, d4, d5, d6⟩
  obtain ⟨k1, k2, k3, k4⟩ := d3 i hi
  have k3 : a.1 11 i = upd (wE w) j ea i := k3
  have k4 : a.1 12 i = upd (wB w) j aa i := k4
  exact ⟨k1, k2, upd_eq k3, upd_eq k4⟩
theorem GP.tq {w : Nat → Int32} {j : Nat} {ea aa : Int32} {a : Ob} (d : GP (tQ w j ea aa) a) (e' a' : Int32) : GP (tQ w j e' a') (oA (oA a 18 (upd (a.1 18) j e')) 19 (upd (a.1 19) j a')) := by
  obtain ⟨d1, d2, d3, d4, d5⟩ := d
  refine ⟨d1, fun i hi => ?_, d3, d4, d5⟩
  obtain ⟨k3, k4⟩ := d2 i hi
  have k3 : a.1 18 i = upd (wE w) j ea i := k3
  have k4 : a.1 19 i = upd (wB w) j aa i := k4
  exact ⟨upd_eq k3, upd_eq k4⟩
theorem upd_self (f : Nat → Int32) (j : Nat) : upd f j (f j) = f := by
  funext i
  rw [upd_v]
  split
  · rename_i e; rw [e]
  · rfl
theorem PW_tQ (w : Nat → Int32) (j : Nat) : PW w = tQ w j (wE w j) (wB w j) := by
  unfold PW tQ
  rw [upd_self, upd_self]
/-- the pairs counted and the first of them -/
def tnI (N : Nat → Int64) (w : Nat → Int32) (j r m e a : Nat) (t : Int32 × Int32) : Int32 × Int32 :=
  if snF N (wh (tQ w j (nI e) (nI a)) r 0) 0 m = true then (t.1 + 1, if t.1 = 0 then 10 * nI e + nI a else t.2) else t
def tnO (N : Nat → Int64) (w : Nat → Int32) (j r m i : Nat) (t : Int32 × Int32) : Int32 × Int32 := it (tnI N w j r m (i + 1)) t (i + 1)
theorem tnI_n (N : Nat → Int64) (w : Nat → Int32) (j r m e : Nat) (t : Int32 × Int32) (c : Nat) (h : t.1 = nI c) : ∀ a, ∃ c', c' ≤ c + a ∧ (it (tnI N w j r m e) t a).1 = nI c' := by
  intro a
  induction a with
  | zero => exact ⟨c, by omega, h⟩
  | succ a ih =>
    obtain ⟨c', h1, h2⟩ := ih
    rw [it, tnI]
    split
    · refine ⟨c' + 1, by omega, ?_⟩
      show (it (tnI N w j r m e) t a).1 + 1 = nI (c' + 1)
      rw [h2]
      exact nI_add c' 1
    · exact ⟨c', by omega, h2⟩
theorem tnO_n (N : Nat → Int64) (w : Nat → Int32) (j r m : Nat) (t : Int32 × Int32) (h : t.1 = nI 0) : ∀ i, i ≤ 9 → ∃ c', c' ≤ 9 * i ∧ (it (tnO N w j r m) t i).1 = nI c' := by
  intro i
  induction i with
  | zero => intro _; exact ⟨0, by omega, h⟩
  | succ i ih =>
    intro hi
    obtain ⟨c', h1, h2⟩ := ih (by omega)
    obtain ⟨c2, h3, h4⟩ := tnI_n N w j r m (i + 1) _ c' h2 (i + 1)
    exact ⟨c2, by omega, h4⟩
theorem e_searchT (fu : Nat) (hf : 2000 ≤ fu) {x : Nat → Ob} {o : Ob} (h : Rel x o) {k m j r : Nat} (T : RT x o k m) (eA : ∀ y, p_X9_rowOf fu y (nI k) = some (some k)) (hj : j < nJ (o.1 1)) (hr : r < nR (o.1 1)) :
    ∃ y, p_X9_searchTurns fu x (nI k) (nI j) (nI r) = some y ∧ KQ x y ∧ (y 18).1 0 0 = (it (tnO (fun q => o.2 40 (60 * k + q)) (o.1 1) j r m) (0, -1) 9).1 ∧ (y 18).1 2 0 = (it (tnO (fun q => o.2 40 (60 * k + q)) (o.1 1) j r m) (0, -1) 9).2 := by
  obtain ⟨hk, hm, T1, T2, T3, T4⟩ := T
  have hJ := h.w.2.1.2.1
  have hR := h.w.2.1.1
  obtain ⟨N, eN⟩ : ∃ N : Nat → Int64, N = fun q => o.2 40 (60 * k + q) := ⟨_, rfl⟩
  rw [← eN] at T4 ⊢
  have T3 : ∀ i, i < 60 → (x (14 + k)).2 3 i = N i := fun i hi => by rw [T3 i hi, eN]
  unfold p_X9_searchTurns
  obtain ⟨c, ec, c0, c1, c2, c3⟩ := e_clear fu hf (x 18)
  have k1 : KQ x (va_up x 18 c) := KQ.rf.up (by decide) c
  have x56 : (va_up x 18 c) 5 = x 5 := rfl
  obtain ⟨b, eb, rb⟩ := e_become2 fu hf ((va_up x 18 c) 6) ((va_up x 18 c) 5) (o.1 1) (by rw [x56]; exact h.1)
  rw [ec, Option.bind_some, eA, Option.bind_some]
  show ∃ y, (if k < 4 then _ else none) = some y ∧ _
  rw [if_pos hk, eb, Option.bind_some]
  have k2 : KQ x (va_up (va_up x 18 c) 6 b) := k1.up (by decide) b
  obtain ⟨y, ey, q⟩ := loop_inv (fun n i z => p_X9_searchTurns_L38 fu n z k (nI j) (nI r) (nI (i + 1))) 9 (fun i z => KQ x z ∧ (∃ ea aa, DP (tQ (o.1 1) j ea aa) (z 6) (z 10)) ∧ (z 18).1 0 0 = (it (tnO N (o.1 1) j r m) (0, -1) i).1 ∧ (z 18).1 2 0 = (it (tnO N (o.1 1) j r m) (0, -1) i).2) (fun y => KQ x y ∧ (y 18).1 0 0 = (it (tnO N (o.1 1) j r m) (0, -1) 9).1 ∧ (y 18).1 2 0 = (it (tnO N (o.1 1) j r m) (0, -1) 9).2) (by
    rintro n z ⟨h1, -, h3, h4⟩
    refine ⟨z, ?_, h1, h3, h4⟩
    show p_X9_searchTurns_L38 fu (n + 1) z k (nI j) (nI r) (nI (9 + 1)) = _
    rw [p_X9_searchTurns_L38]
    simp (disch := omega) only [inb_nI, inb_lit, cl_nI, cl_lit, nI_add, add_nl, add_ln, mul_ln, pk_mul, le_nn, lt_nn, eq_nn, le_nl, lt_nl, eq_nl, le_ln, lt_ln, eq_ln, eq_ll, lt_ll, le_ll, eq_nm1, eq_nm2, eq_nm3, eq_nm4, Option.bind_some, ↓reduceIte, if_true, if_false, Nat.reduceEqDiff, Nat.reduceAdd, Nat.reduceMul, Nat.reduceLT, Nat.reduceLeDiff]) (by
    rintro n i z hi ⟨h1, h2, h3, h4⟩
    right
    show ∃ s', p_X9_searchTurns_L38 fu (n + 1) z k (nI j) (nI r) (nI (i + 1)) = p_X9_searchTurns_L38 fu n s' k (nI j) (nI r) (nI (i + 1 + 1)) ∧ _
    rw [p_X9_searchTurns_L38]
    simp (disch := omega) only [inb_nI, inb_lit, cl_nI, cl_lit, nI_add, add_nl, add_ln, mul_ln, pk_mul, le_nn, lt_nn, eq_nn, le_nl, lt_nl, eq_nl, le_ln, lt_ln, eq_ln, eq_ll, lt_ll, le_ll, eq_nm1, eq_nm2, eq_nm3, eq_nm4, Option.bind_some, ↓reduceIte, if_true, if_false, Nat.reduceEqDiff, Nat.reduceAdd, Nat.reduceMul, Nat.reduceLT, Nat.reduceLeDiff, show ¬ 9 < i + 1 by omega]
    obtain ⟨t, et⟩ : ∃ t, t = it (tnO N (o.1 1) j r m) (0, -1) i := ⟨_, rfl⟩
    rw [← et] at h3 h4
    obtain ⟨s', g1, g2⟩ := loop_to (fun p a z => p_X9_searchTurns_L48 fu (fun xz j_9 v2 v3 v5 => p_X9_searchTurns_L38 fu n xz j_9 v2 v3 (v5 + 1)) p z k (nI j) (nI r) (nI (i + 1)) (nI a)) (i + 1) (fun a z => KQ x z ∧ (∃ ea aa, DP (tQ (o.1 1) j ea aa) (z 6) (z 10)) ∧ (z 18).1 0 0 = (it (tnI N (o.1 1) j r m (i + 1)) t a).1 ∧ (z 18).1 2 0 = (it (tnI N (o.1 1) j r m (i + 1)) t a).2) (fun z => p_X9_searchTurns_L38 fu n z k (nI j) (nI r) (nI (i + 1 + 1))) (by
      rintro p z -
      show p_X9_searchTurns_L48 fu _ (p + 1) z k (nI j) (nI r) (nI (i + 1)) (nI (i + 1)) = _
      rw [p_X9_searchTurns_L48]
      simp (disch := omega) only [inb_nI, inb_lit, cl_nI, cl_lit, nI_add, add_nl, add_ln, mul_ln, pk_mul, le_nn, lt_nn, eq_nn, le_nl, lt_nl, eq_nl, le_ln, lt_ln, eq_ln, eq_ll, lt_ll, le_ll, eq_nm1, eq_nm2, eq_nm3, eq_nm4, Option.bind_some, ↓reduceIte, if_true, if_false, Nat.reduceEqDiff, Nat.reduceAdd, Nat.reduceMul, Nat.reduceLT, Nat.reduceLeDiff, Nat.le_refl]) (by
      rintro p a z ha ⟨h1, ⟨ea, aa, dp⟩, h3, h4⟩
      have h1 : KQ x z := h1
      obtain ⟨B, eB⟩ : ∃ B, B = oA (oA (z 6) 11 (upd ((z 6).1 11) j (nI (i + 1)))) 12 (upd ((z 6).1 12) j (nI a)) := ⟨_, rfl⟩
      have dB : DP (tQ (o.1 1) j (nI (i + 1)) (nI a)) B (z 10) := by rw [eB]; exact dp.tq _ _
      obtain ⟨y, ey, dy⟩ := e_drift fu hf _ (tQ_ok h.w (j := j) (e := i + 1) (a := a) (by omega) (by omega) ha) hr (show 0 < 61 by omega) (z 12) B (z 10) dB
      have ey' : p_X5_drift fu (z 12) B (z 10) (nI r) 0 = some y := ey
      have z14 : z (14 + k) = x (14 + k) := h1.1 (14 + k) (by simp; omega)
      have ws : p_X5_wasSeen fu y (x (14 + k)) = _ := e_wasSeen fu (tQ (o.1 1) j (nI (i + 1)) (nI a)) dy hm hR T1 T3 m 0 fu (by omega) (by omega) T4
      have nk : ∀ j', j' < 14 → ¬ 14 + k = j' := fun j' _ => by omega
      have ea1 : nI a + 1 = nI (a + 1) := nI_add a 1
      show ∃ s', p_X9_searchTurns_L48 fu _ (p + 1) z k (nI j) (nI r) (nI (i + 1)) (nI a) = p_X9_searchTurns_L48 fu _ p s' k (nI j) (nI r) (nI (i + 1)) (nI (a + 1)) ∧ _
      rw [p_X9_searchTurns_L48]
      simp (disch := omega) only [le_nn, show ¬ i + 1 ≤ a by omega, if_false, e_put, Option.bind_some]
      have u0 : ∀ C, va_up (va_up z 6 C) 6 B = va_up z 6 B := fun C => by
        funext q
        simp only [up_v]
        split <;> rfl
      have u1 : (oA ((va_up z 6 (oA (z 6) 11 (upd ((z 6).1 11) j (nI (i + 1))))) 6) 12 (upd (((va_up z 6 (oA (z 6) 11 (upd ((z 6).1 11) j (nI (i + 1))))) 6).1 12) j (nI a))) = B := by
        rw [eB]
        rfl
      have u6 : va_up z 6 B 6 = B := rfl
      have u12 : va_up z 6 B 12 = z 12 := rfl
      have u10 : va_up z 6 B 10 = z 10 := rfl
      rw [u1, u0, u6, u12, u10, ey', Option.bind_some]
      have v12 : va_up (va_up z 6 B) 12 y 12 = y := rfl
      have v14 : va_up (va_up z 6 B) 12 y (14 + k) = x (14 + k) := by
        rw [up_v, if_neg (by omega), up_v, if_neg (by omega), z14]
      have v18 : va_up (va_up z 6 B) 12 y 18 = z 18 := rfl
      rw [v12, v14, v18, ws, Option.bind_some, e_add]
      rw [it, tnI]
      have kk : KQ x (va_up (va_up z 6 B) 12 y) := (h1.up (by decide) B).up (by decide) y
      by_cases g : snF N (wh (tQ (o.1 1) j (nI (i + 1)) (nI a)) r 0) 0 m = true
      · rw [if_pos g, if_pos g, if_neg (show ¬ (1 : Int32) = 0 by decide), Option.bind_some]
        refine ⟨va_up (va_up (va_up z 6 B) 12 y) 18 (addO (z 18) (10 * nI (i + 1) + nI a)), by rw [ea1], kk.up (by decide) _, ⟨_, _, dB⟩, ?_, ?_⟩
        · show (addO (z 18) _).1 0 0 = _
          rw [addO_0, h3]
        · show (addO (z 18) _).1 2 0 = _
          rw [addO_2, h3, h4]
      · rw [if_neg g, if_neg g, if_pos rfl]
        exact ⟨va_up (va_up z 6 B) 12 y, by rw [ea1], kk, ⟨_, _, dB⟩, h3, h4⟩) fu 0 z (Nat.zero_le _) (by omega) ⟨h1, h2, h3, h4⟩
    refine ⟨s', g1, ?_⟩
    rw [it, ← et]
    exact g2) fu 0 (va_up (va_up x 18 c) 6 b) (Nat.zero_le _) (by omega) ⟨k2, ⟨wE (o.1 1) j, wB (o.1 1) j, by
      rw [← PW_tQ]
      exact ⟨rb.2.1.2.2.2.2.2.1, rb.2.2.1, rb.2.2.2.1, fun q hq => h.2.1.2.1 q hq, h.2.1.2.2, rfl⟩⟩, c0, c2⟩
  exact ⟨y, ey, q⟩
theorem e_layT (fu : Nat) (hf : 2000 ≤ fu) {o s0 : Ob} (hw : OKW (o.1 1)) {k m j r : Nat} (hk : k < 4) (hm : 2 * m ≤ 60) (T2 : o.1 38 k = nI (2 * m)) (T4 : tel (fun q => o.2 40 (60 * k + q)) (nR (o.1 1)) 0 m) (hj : j < nJ (o.1 1)) (hr : r < nR (o.1 1)) (F0 : FR tF o s0) (G0 : GP (PW (o.1 1)) s0) :
    ∃ s, p_X10_layTurns_L48 fu fu (oI s0 34 (-1)) (nI k) (nI j) (nI r) 0 1 = some ((it (tnO (fun q => o.2 40 (60 * k + q)) (o.1 1) j r m) (0, -1) 9).1, s) ∧ FR tF o s ∧ s.1 34 0 = (it (tnO (fun q => o.2 40 (60 * k + q)) (o.1 1) j r m) (0, -1) 9).2 := by
  have hJ := hw.2.1.2.1
  have hR := hw.2.1.1
  obtain ⟨N, eN⟩ : ∃ N : Nat → Int64, N = fun q => o.2 40 (60 * k + q) := ⟨_, rfl⟩
  rw [← eN] at T4 ⊢
  obtain ⟨⟨v, y⟩, ey, q1, q2, q3⟩ := loop_inv (fun n i (z : Ob × Int32) => p_X10_layTurns_L48 fu n z.1 (nI k) (nI j) (nI r) z.2 (nI (i + 1))) 9 (fun i z => FR tF o z.1 ∧ (∃ ea aa, GP (tQ (o.1 1) j ea aa) z.1) ∧ z.2 = (it (tnO N (o.1 1) j r m) (0, -1) i).1 ∧ z.1.1 34 0 = (it (tnO N (o.1 1) j r m) (0, -1) i).2) (fun y => y.1 = (it (tnO N (o.1 1) j r m) (0, -1) 9).1 ∧ FR tF o y.2 ∧ y.2.1 34 0 = (it (tnO N (o.1 1) j r m) (0, -1) 9).2) (by
    rintro n ⟨z, c⟩ ⟨h1, -, h3, h4⟩
    refine ⟨(c, z), ?_, h3, h1, h4⟩
    show p_X10_layTurns_L48 fu (n + 1) z (nI k) (nI j) (nI r) c (nI (9 + 1)) = _
    rw [p_X10_layTurns_L48]
    simp (disch := omega) only [inb_nI, inb_lit, cl_nI, cl_lit, nI_add, add_nl, add_ln, mul_ln, pk_mul, le_nn, lt_nn, eq_nn, le_nl, lt_nl, eq_nl, le_ln, lt_ln, eq_ln, eq_ll, lt_ll, le_ll, eq_nm1, eq_nm2, eq_nm3, eq_nm4, Option.bind_some, ↓reduceIte, if_true, if_false, Nat.reduceEqDiff, Nat.reduceAdd, Nat.reduceMul, Nat.reduceLT, Nat.reduceLeDiff]) (by
    rintro n i ⟨z, c⟩ hi ⟨h1, h2, h3, h4⟩
    right
    show ∃ s' : Ob × Int32, p_X10_layTurns_L48 fu (n + 1) z (nI k) (nI j) (nI r) c (nI (i + 1)) = p_X10_layTurns_L48 fu n s'.1 (nI k) (nI j) (nI r) s'.2 (nI (i + 1 + 1)) ∧ _
    rw [p_X10_layTurns_L48]
    simp (disch := omega) only [inb_nI, inb_lit, cl_nI, cl_lit, nI_add, add_nl, add_ln, mul_ln, pk_mul, le_nn, lt_nn, eq_nn, le_nl, lt_nl, eq_nl, le_ln, lt_ln, eq_ln, eq_ll, lt_ll, le_ll, eq_nm1, eq_nm2, eq_nm3, eq_nm4, Option.bind_some, ↓reduceIte, if_true, if_false, Nat.reduceEqDiff, Nat.reduceAdd, Nat.reduceMul, Nat.reduceLT, Nat.reduceLeDiff, show ¬ 9 < i + 1 by omega]
    obtain ⟨t, et⟩ : ∃ t, t = it (tnO N (o.1 1) j r m) (0, -1) i := ⟨_, rfl⟩
    rw [← et] at h3 h4
    obtain ⟨s', g1, g2⟩ := loop_to (fun p a (z : Ob × Int32) => p_X10_layTurns_L58 fu (fun oz v1 v2 v3 v5 v6 => p_X10_layTurns_L48 fu n oz v1 v2 v3 v5 (v6 + 1)) p z.1 (nI k) (nI j) (nI r) z.2 (nI (i + 1)) (nI a)) (i + 1) (fun a z => FR tF o z.1 ∧ (∃ ea aa, GP (tQ (o.1 1) j ea aa) z.1) ∧ z.2 = (it (tnI N (o.1 1) j r m (i + 1)) t a).1 ∧ z.1.1 34 0 = (it (tnI N (o.1 1) j r m (i + 1)) t a).2) (fun z => p_X10_layTurns_L48 fu n z.1 (nI k) (nI j) (nI r) z.2 (nI (i + 1 + 1))) (by
      rintro p ⟨z, c⟩ -
      show p_X10_layTurns_L58 fu _ (p + 1) z (nI k) (nI j) (nI r) c (nI (i + 1)) (nI (i + 1)) = _
      rw [p_X10_layTurns_L58]
      simp (disch := omega) only [inb_nI, inb_lit, cl_nI, cl_lit, nI_add, add_nl, add_ln, mul_ln, pk_mul, le_nn, lt_nn, eq_nn, le_nl, lt_nl, eq_nl, le_ln, lt_ln, eq_ln, eq_ll, lt_ll, le_ll, eq_nm1, eq_nm2, eq_nm3, eq_nm4, Option.bind_some, ↓reduceIte, if_true, if_false, Nat.reduceEqDiff, Nat.reduceAdd, Nat.reduceMul, Nat.reduceLT, Nat.reduceLeDiff, Nat.le_refl]) (by
      rintro p a ⟨z, c⟩ ha ⟨h1, ⟨ea, aa, gp⟩, h3, h4⟩
      have h1 : FR tF o z := h1
      have gp : GP (tQ (o.1 1) j ea aa) z := gp
      have h3 : c = (it (tnI N (o.1 1) j r m (i + 1)) t a).1 := h3
      have h4 : z.1 34 0 = (it (tnI N (o.1 1) j r m (i + 1)) t a).2 := h4
      obtain ⟨B, eB⟩ : ∃ B, B = oA (oA z 18 (upd (z.1 18) j (nI (i + 1)))) 19 (upd (z.1 19) j (nI a)) := ⟨_, rfl⟩
      have FB : FR tF o B := by rw [eB]; exact (h1.A (by decide) _).A (by decide) _
      have dB : GP (tQ (o.1 1) j (nI (i + 1)) (nI a)) B := by rw [eB]; exact gp.tq _ _
      have B34 : B.1 34 0 = z.1 34 0 := by rw [eB]; rfl
      obtain ⟨u, eu, Fu, du⟩ := e_goStick fu hf _ (tQ_ok hw (j := j) (e := i + 1) (a := a) (by omega) (by omega) ha) hr (show 0 < 61 by omega) B dB
      have eu' : p_X10_goStick fu B (nI r) 0 = some u := eu
      have Gu : GP (tQ (o.1 1) j (nI (i + 1)) (nI a)) u := dB.kp Fu (by decide) (by decide) (by decide) (by decide) (by decide) (by decide)
      have FU : FR tF o u := FB.tr (Fu.mono (by decide))
      have u38 : u.1 38 k = nI (2 * m) := by rw [FU.f1 38 (by decide)]; exact T2
      have u40 : ∀ i, i < 60 → u.2 40 (60 * k + i) = N i := fun i _ => by rw [FU.f2 40 (by decide), eN]
      have u34 : u.1 34 0 = z.1 34 0 := by rw [Fu.f1 34 (by decide), B34]
      have ws : p_X10_isSeen fu u (nI k) = _ := e_isSeen fu (tQ (o.1 1) j (nI (i + 1)) (nI a)) du hm hR hk u38 u40 m 0 fu (by omega) (by omega) T4
      have ea1 : nI a + 1 = nI (a + 1) := nI_add a 1
      have i1 : inb (nI j) 5 = true := by simp (disch := omega) only [inb_nI]
      have i3 : (nI j).toNatClampNeg = j := by simp (disch := omega) only [cl_nI]
      show ∃ s' : Ob × Int32, p_X10_layTurns_L58 fu _ (p + 1) z (nI k) (nI j) (nI r) c (nI (i + 1)) (nI a) = p_X10_layTurns_L58 fu _ p s'.1 (nI k) (nI j) (nI r) s'.2 (nI (i + 1)) (nI (a + 1)) ∧ _
      rw [p_X10_layTurns_L58]
      simp (disch := omega) only [le_nn, show ¬ i + 1 ≤ a by omega, if_false, i1, i3, if_true]
      have u1 : (oA (oA z 18 (upd (z.1 18) j (nI (i + 1)))) 19 (upd ((oA z 18 (upd (z.1 18) j (nI (i + 1)))).1 19) j (nI a))) = B := by
        rw [eB]
        rfl
      rw [u1, eu', Option.bind_some, ws, Option.bind_some]
      unfold p_X10_layTurns_J119
      rw [it, tnI, u34, ← h3, ← h4]
      by_cases g : snF N (wh (tQ (o.1 1) j (nI (i + 1)) (nI a)) r 0) 0 m = true
      · rw [if_pos g, if_pos g, if_neg (show ¬ (1 : Int32) = 0 by decide), ea1]
        by_cases g2 : c = 0
        · rw [if_pos g2, if_pos g2]
          exact ⟨(oI u 34 (10 * nI (i + 1) + nI a), c + 1), rfl, FU.I (by decide) _, ⟨_, _, Gu⟩, rfl, rfl⟩
        · rw [if_neg g2, if_neg g2]
          exact ⟨(oI u 34 (z.1 34 0), c + 1), rfl, FU.I (by decide) _, ⟨_, _, Gu⟩, rfl, rfl⟩
      · rw [if_neg g, if_neg g, if_pos rfl, ea1]
        exact ⟨(u, c), rfl, FU, ⟨_, _, Gu⟩, h3, u34.trans h4⟩) fu 0 (z, c) (Nat.zero_le _) (by omega) ⟨h1, h2, h3, h4⟩
    refine ⟨s', g1, ?_⟩
    rw [it, ← et]
    exact g2) fu 0 (oI s0 34 (-1), 0) (Nat.zero_le _) (by omega) ⟨F0.I (by decide) _, ⟨wE (o.1 1) j, wB (o.1 1) j, by
      rw [← PW_tQ]
      exact G0⟩, rfl, rfl⟩
  have q1 : v = _ := q1
  subst q1
  exact ⟨y, ey, q2, q3⟩
theorem e_turnB (fu : Nat) (hf : 2000 ≤ fu) {x : Nat → Ob} {o : Ob} (h : Rel x o) (v1 v2 v3 : Int32) :
    (∃ r : Int32, (r = -2 ∨ r = -6) ∧ p_X9_refuseTurn fu x v1 v2 v3 = some r ∧ p_X10_layTurns fu o v1 v2 v3 = some (r, o)) ∨
    ∃ c y s, c ≤ 100 ∧ p_X9_refuseTurn fu x v1 v2 v3 = some 0 ∧ p_X9_searchTurns fu x v1 v2 v3 = some y ∧ p_X10_layTurns fu o v1 v2 v3 = some (nI c, s) ∧ Rel y s ∧ (y 18).1 0 0 = nI c ∧ (y 18).1 2 0 = s.1 34 0 := by
  have hR := h.w.2.1.1
  have hJ := h.w.2.1.2.1
  unfold p_X9_refuseTurn p_X10_layTurns p_X10_layTurns_J23 p_X10_layTurns_J24
  rw [e_cJoin fu h, e_isJoin fu o _ h.w, Option.bind_some, Option.bind_some, e_askSeen0 fu h.w, e_cReach fu h, e_isReach fu o _ h.w]
  have n2 : ¬ (0 : Int32) ≤ -2 := by decide
  have n6 : ¬ (0 : Int32) ≤ -6 := by decide
  have n1 : ¬ (1 : Int32) = 0 := by decide
  rcases ixq_of v2 (n := nJ (o.1 1)) (by omega) with ⟨e1, -⟩ | ⟨e1, j, hj, rfl⟩
  · left
    refine ⟨-2, Or.inl rfl, ?_, ?_⟩
    · rw [e1, if_pos rfl]
    · rw [e1, if_pos rfl, Option.bind_some]
      exact if_neg n2
  · rw [e1, if_neg n1, if_neg n1, Option.bind_some, Option.bind_some]
    rcases ixq_of v3 (n := nR (o.1 1)) (by omega) with ⟨e2, -⟩ | ⟨e2, r, hr, rfl⟩
    · left
      refine ⟨-2, Or.inl rfl, ?_, ?_⟩
      · rw [e2, if_pos rfl]
      · rw [e2, if_pos rfl, Option.bind_some]
        exact if_neg n2
    · rw [e2, if_neg n1, if_neg n1]
      rcases e_refuse fu hf h v1 with ⟨r', hr', g1, g2⟩ | ⟨k, m, rfl, T, g1, g2, g3, s, g4, g5⟩
      · left
        refine ⟨r', hr', ?_, ?_⟩
        · rw [g1, Option.bind_some]
        · rw [g2, Option.bind_some]
          rcases hr' with rfl | rfl
          · exact if_neg n2
          · exact if_neg n6
      · right
        obtain ⟨y, ey, ky, y0, y2⟩ := e_searchT fu hf h T g3 hj hr
        obtain ⟨t, et, Ft, t34⟩ := e_layT fu hf h.w T.1 T.2.1 T.2.2.2.1 T.2.2.2.2.2 hj hr g5.tf g5.gp
        obtain ⟨c, c1, c2⟩ := tnO_n (fun q => o.2 40 (60 * k + q)) (o.1 1) j r m (0, -1) rfl 9 (Nat.le_refl 9)
        rw [c2] at et y0
        refine ⟨c, y, t, by omega, ?_, ey, ?_, h.kp ky Ft, y0, y2.trans t34.symm⟩
        · rw [g1, Option.bind_some]
        · rw [g4, Option.bind_some]
          exact (if_pos (show (0 : Int32) ≤ 0 by decide)).trans et
theorem s_turn (fu : Nat) (hf : 2000 ≤ fu) {x : Nat → Ob} {o : Ob} (h : Rel x o) (v1 v2 v3 : Int32) : ∃ r y t, p_X9_turn fu x v1 v2 v3 = some (r, y) ∧ p_X10_turn fu o v1 v2 v3 = some (r, t) ∧ Rel y t := by
  unfold p_X9_turn p_X10_turn
  rcases e_turnB fu hf h v1 v2 v3 with ⟨r, hr, g1, g2⟩ | ⟨c, y, s, hc, g1, g2, g3, g4, g5, g6⟩
  · rw [g1, g2, Option.bind_some, Option.bind_some, if_neg (show ¬ r = 0 by rcases hr with rfl | rfl <;> decide)]
    exact ⟨_, _, _, rfl, rfl, h⟩
  · rw [g1, g3, Option.bind_some, Option.bind_some, if_pos rfl, g2, Option.bind_some, g5]
    exact ⟨_, _, _, rfl, rfl, g4⟩
theorem s_turned (fu : Nat) (hf : 2000 ≤ fu) {x : Nat → Ob} {o : Ob} (h : Rel x o) (v1 v2 v3 : Int32) : ∃ r y t, p_X9_turned fu x v1 v2 v3 = some (r, y) ∧ p_X10_turned fu o v1 v2 v3 = some (r, t) ∧ Rel y t := by
  unfold p_X9_turned p_X10_turned
  rcases e_turnB fu hf h v1 v2 v3 with ⟨r, hr, g1, g2⟩ | ⟨c, y, s, hc, g1, g2, g3, g4, g5, g6⟩
  · rw [g1, g2, Option.bind_some, Option.bind_some, if_neg (show ¬ r = 0 by rcases hr with rfl | rfl <;> decide), if_neg (show ¬ (0 : Int32) ≤ r by rcases hr with rfl | rfl <;> decide)]
    exact ⟨_, _, _, rfl, rfl, h⟩
  · rw [g1, g3, Option.bind_some, Option.bind_some, if_pos rfl, g2, Option.bind_some, g6, if_pos (show (0 : Int32) ≤ nI c by rw [le_ln (by decide) (by omega)]; omega)]
    exact ⟨_, _, _, rfl, rfl, g4⟩
