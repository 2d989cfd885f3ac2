theorem srA_ok (q : Nat → Nat → Bool) (R : Nat) : ∀ i, i ≤ R → pOk R (61 * i) (it (srO q) (0, fun _ => (0, 0)) i) := by
  intro i
  induction i with
  | zero => intro _; exact ⟨Nat.le_refl 0, fun i hi => absurd hi (Nat.not_lt_zero _)⟩
  | succ i ih =>
    intro hi
    have := srI_it (q := q) (ih (by omega)) (show i < R by omega) 61 (Nat.le_refl _)
    exact ⟨by have := this.1; show (it (srI q i) (it (srO q) (0, fun _ => (0, 0)) i) 61).1 ≤ _; omega, this.2⟩
theorem e_seenB (fu : Nat) (hf : 2000 ≤ fu) {x : Nat → Ob} {o : Ob} (h : Rel x o) (v : Int32) :
    (∃ r : Int32, (r = -2 ∨ r = -6) ∧ p_X9_refuseSeen fu x v = some r ∧ ∃ s, p_X10_layPairs fu o v = some (r, s) ∧ FR tF o s) ∨
    ∃ y s t, p_X9_refuseSeen fu x v = some 0 ∧ p_X9_search fu x v = some y ∧ p_X10_layPairs fu o v = some (0, s) ∧ KQ x y ∧ FR tF o s ∧ CI (PW (o.1 1)) (y 18) t ∧ RI (PW (o.1 1)) s t ∧ pOk (nR (o.1 1)) 610 t := by
  have hR := h.w.2.1.1
  have h3 := h.w.1.2.1
  unfold p_X10_layPairs
  rcases e_refuse fu hf h v with ⟨r, hr, g1, g2⟩ | ⟨k, m, rfl, T, g1, g2, g3, s, g4, g5⟩
  · left
    refine ⟨r, hr, g1, oI o 32 0, ?_, FR.rf.I (by decide) _⟩
    rw [g2, Option.bind_some]
    obtain ⟨f, rfl⟩ : ∃ f, fu = f + 1 := ⟨fu - 1, by omega⟩
    show p_X10_layPairs_L14 (f + 1) (f + 1) (oI o 32 0) v r 0 = _
    rw [p_X10_layPairs_L14]
    have i1 : inb (3 : Int32) 98 = true := by decide
    rw [i1, if_pos rfl, if_neg (show ¬ r = 0 by rcases hr with rfl | rfl <;> decide)]
    split <;> rfl
  · right
    obtain ⟨y, ey, ky, cy⟩ := e_search fu hf h T g3
    obtain ⟨t, et, Ft, Rt⟩ := e_layPairs fu hf h.w T.1 T.2.1 T.2.2.2.1 T.2.2.2.2.2 g5.tf g5.gp
    have pk := srA_ok (fun r s => snF (fun q => o.2 40 (60 * k + q)) (wh (PW (o.1 1)) r s) 0 m) (nR (o.1 1)) (nR (o.1 1)) (Nat.le_refl _)
    refine ⟨y, t, _, g1, ey, ?_, ky, Ft, cy, Rt, ⟨?_, pk.2⟩⟩
    · rw [g4, Option.bind_some]
      exact et
    · have := pk.1
      show (it (srO _) _ (nR (o.1 1))).1 ≤ 610
      omega
theorem n_0 {r : Int32} (h : r = -2 ∨ r = -6) : ¬ r = 0 := by rcases h with rfl | rfl <;> decide
theorem n_le {r : Int32} (h : r = -2 ∨ r = -6) : ¬ (0 : Int32) ≤ r := by rcases h with rfl | rfl <;> decide
theorem s_fits (fu : Nat) (hf : 2000 ≤ fu) {x : Nat → Ob} {o : Ob} (h : Rel x o) (v : Int32) : ∃ r y t, p_X9_fits fu x v = some (r, y) ∧ p_X10_fits fu o v = some (r, t) ∧ Rel y t := by
  unfold p_X9_fits p_X10_fits
  rcases e_seenB fu hf h v with ⟨r, hr, g1, s, g2, F⟩ | ⟨y, s, t, g1, g2, g3, K, F, c, ri, pk⟩
  · rw [g1, g2, Option.bind_some, Option.bind_some, if_neg (n_0 hr), if_neg (n_le hr)]
    exact ⟨_, _, _, rfl, rfl, h.kp KQ.rf F⟩
  · rw [g1, g2, g3, Option.bind_some, Option.bind_some, Option.bind_some, if_pos rfl, if_pos (show (0 : Int32) ≤ 0 by decide), c.1, ri.1]
    exact ⟨_, _, _, rfl, rfl, h.kp K F⟩
theorem s_source (fu : Nat) (hf : 2000 ≤ fu) {x : Nat → Ob} {o : Ob} (h : Rel x o) (v : Int32) : ∃ r y t, p_X9_source fu x v = some (r, y) ∧ p_X10_source fu o v = some (r, t) ∧ Rel y t := by
  unfold p_X9_source p_X10_source
  rcases e_seenB fu hf h v with ⟨r, hr, g1, s, g2, F⟩ | ⟨y, s, t, g1, g2, g3, K, F, c, ri, pk⟩
  · rw [g1, g2, Option.bind_some, Option.bind_some, if_neg (n_0 hr), if_neg (n_le hr)]
    exact ⟨_, _, _, rfl, rfl, h.kp KQ.rf F⟩
  · have p1 := pk.1
    have e0 : (nI t.1 = 0) = (t.1 = 0) := by simp (disch := omega) only [eq_nl]
    have i1 : inb (0 : Int32) 610 = true := by decide
    have i2 : (0 : Int32).toNatClampNeg = 0 := by decide
    rw [g1, g2, g3, Option.bind_some, Option.bind_some, Option.bind_some, if_pos rfl, if_pos (show (0 : Int32) ≤ 0 by decide), c.2.2.1, ri.1, i1, i2, if_pos rfl]
    simp only [e0]
    by_cases g : t.1 = 0
    · rw [if_pos g, if_pos g]
      exact ⟨_, _, _, rfl, rfl, h.kp K F⟩
    · rw [if_neg g, if_neg g, ri.2.1 0 (by omega)]
      exact ⟨_, _, _, rfl, rfl, h.kp K F⟩
theorem div100 : ∀ r : Fin 10, ∀ s : Fin 61, (100 * nI r.1 + nI s.1) / 100 = nI r.1 := by decide +kernel
theorem s_sources (fu : Nat) (hf : 2000 ≤ fu) {x : Nat → Ob} {o : Ob} (h : Rel x o) (v : Int32) : ∃ r y t, p_X9_sources fu x v = some (r, y) ∧ p_X10_sources fu o v = some (r, t) ∧ Rel y t := by
  have hR := h.w.2.1.1
  unfold p_X9_sources p_X10_sources
  rcases e_seenB fu hf h v with ⟨r, hr, g1, s, g2, F⟩ | ⟨y, s, t, g1, g2, g3, K, F, c, ri, pk⟩
  · rw [g1, g2, Option.bind_some, Option.bind_some, if_neg (n_0 hr), if_neg (n_le hr)]
    exact ⟨_, _, _, rfl, rfl, h.kp KQ.rf F⟩
  · have p1 := pk.1
    rw [g1, g2, g3, Option.bind_some, Option.bind_some, Option.bind_some, if_pos rfl, if_pos (show (0 : Int32) ≤ 0 by decide), c.2.1]
    have e := loop_it (fun n i u => p_X10_sources_L17 fu n s u (nI i)) (fun i u => u ||| b1 (t.2 i).1) 0 t.1 (some (it (fun i u => u ||| b1 (t.2 i).1) 0 t.1, s)) (by
      intro n
      show p_X10_sources_L17 fu (n + 1) s _ (nI t.1) = _
      rw [p_X10_sources_L17, ri.1, if_pos (by rw [le_nn (by omega) (by omega)]; omega)]) (by
      intro n i hi
      show p_X10_sources_L17 fu (n + 1) s _ (nI i) = p_X10_sources_L17 fu n s _ (nI (i + 1))
      have i1 : inb (nI i) 610 = true := by simp (disch := omega) only [inb_nI]
      have i3 : (nI i).toNatClampNeg = i := by simp (disch := omega) only [cl_nI]
      have hp := pk.2 i hi
      rw [p_X10_sources_L17, ri.1, if_neg (by rw [le_nn (by omega) (by omega)]; omega), i1, i3, if_pos rfl, if_neg (show ¬ (100 : Int32) = 0 by decide), ri.2.1 i hi, div100 ⟨(t.2 i).1, by omega⟩ ⟨(t.2 i).2, hp.2⟩, show nI i + 1 = nI (i + 1) from nI_add i 1]
      rfl) fu 0 (Nat.zero_le _) (by omega)
    have e' : p_X10_sources_L17 fu fu s 0 0 = _ := e
    exact ⟨_, y, s, rfl, e', h.kp K F⟩
