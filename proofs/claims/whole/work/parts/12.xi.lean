/-! ===== lines one behind the other ===== -/
/-- what both have read: L lines -/
def PV (v : Ob) (w : Nat → Int32) (c L nr nj nn : Nat) : Prop :=
  (w 3 = nI nr ∧ w 4 = nI nj ∧ w 5 = nI nn ∧ w 6 = 0 ∧ w 7 = nI c) ∧ (v.1 4 0 = nI nr ∧ v.1 8 0 = nI nj ∧ v.1 13 0 = nI nn ∧ v.1 16 0 = 0) ∧
  (nr ≤ 10 ∧ nj ≤ 5 ∧ nn ≤ 5 ∧ (L = 0 → nr = 0 ∧ nj = 0 ∧ nn = 0) ∧ (L ≠ 0 → L = 1 + nr + nj + nn)) ∧ (v.1 0 0 = if L = 0 then 0 else 1) ∧
  (∃ l d s, l ≤ 60 ∧ d ≤ 10 ∧ s ≤ 9 ∧ w 0 = nI l ∧ w 1 = nI d ∧ w 2 = nI s ∧ v.1 1 0 = nI l ∧ v.1 2 0 = nI d ∧ v.1 3 0 = nI s) ∧
  (∀ q, q < nr → okR (wT w q) (wK w q) (wL w q) ∧ v.1 5 q = wT w q ∧ v.1 6 q = wK w q ∧ v.1 7 q = wL w q) ∧
  (∀ j, j < nj → ∃ f g e b, (f < nr ∧ g < nr ∧ 1 ≤ e ∧ e ≤ 9 ∧ b < e) ∧ (wF w j = nI f ∧ wG w j = nI g ∧ wE w j = nI e ∧ wB w j = nI b) ∧ v.1 9 j = nI f ∧ v.1 10 j = nI g ∧ v.1 11 j = nI e ∧ v.1 12 j = nI b) ∧
  (∀ q, q < nn → ∃ m s, (1 ≤ m ∧ m ≤ 30 ∧ s ≤ 60) ∧ (wM w q = nI m ∧ wS w q = nI s) ∧ v.1 14 q = nI m ∧ v.1 15 q = nI s)
theorem PV.u7 {v : Ob} {w : Nat → Int32} {c L nr nj nn : Nat} (h : PV v w c L nr nj nn) (d : Nat) : PV v (upd w 7 (nI d)) d L nr nj nn := by
  obtain ⟨⟨a1, a2, a3, a4, a5⟩, hv, hb, h0, ⟨l, d', s, b1, b2, b3, b4, b5, b6, b7, b8, b9⟩, hr, hj, hn⟩ := h
  have k : ∀ x, x ≠ 7 → upd w 7 (nI d) x = w x := fun x hx => upd_n hx
  refine ⟨⟨(k _ (by decide)).trans a1, (k _ (by decide)).trans a2, (k _ (by decide)).trans a3, (k _ (by decide)).trans a4, upd_s⟩, hv, hb, h0, ⟨l, d', s, b1, b2, b3, (k _ (by decide)).trans b4, (k _ (by decide)).trans b5, (k _ (by decide)).trans b6, b7, b8, b9⟩, fun q hq => ?_, fun j hj' => ?_, fun q hq => ?_⟩
  · have := hr q hq
    unfold wT wK wL at *
    rw [k _ (by omega), k _ (by omega), k _ (by omega)]
    exact this
  · have := hj j hj'
    unfold wF wG wE wB at *
    rw [k _ (by omega), k _ (by omega), k _ (by omega), k _ (by omega)]
    exact this
  · have := hn q hq
    unfold wM wS at *
    rw [k _ (by omega), k _ (by omega)]
    exact this
theorem PV.first {v : Ob} {w : Nat → Int32} {nr nj nn : Nat} (h : PV v w 0 0 nr nj nn) {l d s : Nat} (h1 : l ≤ 60) (h2 : d ≤ 10) (h3 : s ≤ 9) : PV (oI (oI (oI (oI v 0 1) 1 (nI l)) 2 (nI d)) 3 (nI s)) (upd (upd (upd w 0 (nI l)) 1 (nI d)) 2 (nI s)) 0 1 nr nj nn := by
  obtain ⟨⟨a1, a2, a3, a4, a5⟩, hv, ⟨c1, c2, c3, c4, c5⟩, h0, -, hr, hj, hn⟩ := h
  obtain ⟨rfl, rfl, rfl⟩ := c4 rfl
  have k : ∀ x, 2 < x → upd (upd (upd w 0 (nI l)) 1 (nI d)) 2 (nI s) x = w x := fun x hx => by rw [upd_n (by omega), upd_n (by omega), upd_n (by omega)]
  exact ⟨⟨(k _ (by decide)).trans a1, (k _ (by decide)).trans a2, (k _ (by decide)).trans a3, (k _ (by decide)).trans a4, (k _ (by decide)).trans a5⟩, hv, ⟨c1, c2, c3, fun z => absurd z (by decide), fun _ => rfl⟩, rfl, ⟨l, d, s, h1, h2, h3, rfl, rfl, rfl, rfl, rfl, rfl⟩, fun q hq => absurd hq (Nat.not_lt_zero _), fun q hq => absurd hq (Nat.not_lt_zero _), fun q hq => absurd hq (Nat.not_lt_zero _)⟩
theorem PV.reach {v : Ob} {w : Nat → Int32} {c L nr nj nn : Nat} (h : PV v w c L nr nj nn) (hL : L ≠ 0) (hnr : nr < 10) {T K W : Int32} (ok : okR T K W) : PV (oI (oA (oA (oA v 5 (upd (v.1 5) nr T)) 6 (upd (v.1 6) nr K)) 7 (upd (v.1 7) nr W)) 4 (nI (nr + 1))) (upd (upd (upd (upd w (8 + 3 * nr) T) (8 + 3 * nr + 1) K) (8 + 3 * nr + 2) W) 3 (nI (nr + 1))) c (L + 1) (nr + 1) nj nn := by
  obtain ⟨⟨a1, a2, a3, a4, a5⟩, ⟨v1, v2, v3, v4⟩, ⟨c1, c2, c3, c4, c5⟩, h0, ⟨l, d', s, b1, b2, b3, b4, b5, b6, b7, b8, b9⟩, hr, hj, hn⟩ := h
  have cL := c5 hL
  obtain ⟨u, hu⟩ : ∃ u, u = upd (upd (upd (upd w (8 + 3 * nr) T) (8 + 3 * nr + 1) K) (8 + 3 * nr + 2) W) 3 (nI (nr + 1)) := ⟨_, rfl⟩
  have k : ∀ x, x ≠ 3 → (x < 8 + 3 * nr ∨ 8 + 3 * nr + 2 < x) → u x = w x := fun x h1 h2 => by rw [hu, upd_n (by omega), upd_n (by omega), upd_n (by omega), upd_n (by omega)]
  have u3 : u 3 = nI (nr + 1) := by rw [hu, upd_s]
  have uT : u (8 + 3 * nr) = T := by rw [hu, upd_n (by omega), upd_n (by omega), upd_n (by omega), upd_s]
  have uK : u (8 + 3 * nr + 1) = K := by rw [hu, upd_n (by omega), upd_n (by omega), upd_s]
  have uW : u (8 + 3 * nr + 2) = W := by rw [hu, upd_n (by omega), upd_s]
  rw [← hu]
  rw [if_neg hL] at h0
  refine ⟨⟨u3, (k _ (by decide) (by omega)).trans a2, (k _ (by decide) (by omega)).trans a3, (k _ (by decide) (by omega)).trans a4, (k _ (by decide) (by omega)).trans a5⟩, ⟨rfl, v2, v3, v4⟩, ⟨by omega, c2, c3, fun z => by omega, fun _ => by omega⟩, ?_, ⟨l, d', s, b1, b2, b3, (k _ (by decide) (by omega)).trans b4, (k _ (by decide) (by omega)).trans b5, (k _ (by decide) (by omega)).trans b6, b7, b8, b9⟩, fun q hq => ?_, fun j hj' => ?_, fun q hq => ?_⟩
  · rw [if_neg (by omega)]; exact h0
  · show okR (wT u q) (wK u q) (wL u q) ∧ upd (v.1 5) nr T q = wT u q ∧ upd (v.1 6) nr K q = wK u q ∧ upd (v.1 7) nr W q = wL u q
    by_cases e : q = nr
    · subst e
      have e1 : wT u q = T := uT
      have e2 : wK u q = K := uK
      have e3 : wL u q = W := uW
      rw [e1, e2, e3, upd_s, upd_s, upd_s]
      exact ⟨ok, rfl, rfl, rfl⟩
    · have e1 : wT u q = wT w q := k _ (by omega) (by omega)
      have e2 : wK u q = wK w q := k _ (by omega) (by omega)
      have e3 : wL u q = wL w q := k _ (by omega) (by omega)
      rw [e1, e2, e3, upd_n e, upd_n e, upd_n e]
      exact hr q (by omega)
  · obtain ⟨f, g, e, b, ⟨f1, f2, f3, f4, f5⟩, g1, g2⟩ := hj j hj'
    refine ⟨f, g, e, b, ⟨by omega, by omega, f3, f4, f5⟩, ?_, g2⟩
    unfold wF wG wE wB at *
    rw [k _ (by omega) (by omega), k _ (by omega) (by omega), k _ (by omega) (by omega), k _ (by omega) (by omega)]
    exact g1
  · obtain ⟨m, s', f1, g1, g2⟩ := hn q hq
    refine ⟨m, s', f1, ?_, g2⟩
    unfold wM wS at *
    rw [k _ (by omega) (by omega), k _ (by omega) (by omega)]
    exact g1
theorem PV.join {v : Ob} {w : Nat → Int32} {c L nr nj nn : Nat} (h : PV v w c L nr nj nn) (hL : L ≠ 0) (hnj : nj < 5) {f g e b : Nat} (o1 : f < nr) (o2 : g < nr) (o3 : 1 ≤ e) (o4 : e ≤ 9) (o5 : b < e) : PV (oI (oA (oA (oA (oA v 9 (upd (v.1 9) nj (nI f))) 10 (upd (v.1 10) nj (nI g))) 11 (upd (v.1 11) nj (nI e))) 12 (upd (v.1 12) nj (nI b))) 8 (nI (nj + 1))) (upd (upd (upd (upd (upd w (38 + 4 * nj) (nI f)) (38 + 4 * nj + 1) (nI g)) (38 + 4 * nj + 2) (nI e)) (38 + 4 * nj + 3) (nI b)) 4 (nI (nj + 1))) c (L + 1) nr (nj + 1) nn := by
  obtain ⟨⟨a1, a2, a3, a4, a5⟩, ⟨v1, v2, v3, v4⟩, ⟨c1, c2, c3, c4, c5⟩, h0, ⟨l, d', s, b1, b2, b3, b4, b5, b6, b7, b8, b9⟩, hr, hj, hn⟩ := h
  have cL := c5 hL
  obtain ⟨u, hu⟩ : ∃ u, u = upd (upd (upd (upd (upd w (38 + 4 * nj) (nI f)) (38 + 4 * nj + 1) (nI g)) (38 + 4 * nj + 2) (nI e)) (38 + 4 * nj + 3) (nI b)) 4 (nI (nj + 1)) := ⟨_, rfl⟩
  have k : ∀ x, x ≠ 4 → (x < 38 + 4 * nj ∨ 38 + 4 * nj + 3 < x) → u x = w x := fun x h1 h2 => by rw [hu, upd_n (by omega), upd_n (by omega), upd_n (by omega), upd_n (by omega), upd_n (by omega)]
  have u4 : u 4 = nI (nj + 1) := by rw [hu, upd_s]
  have uF : u (38 + 4 * nj) = nI f := by rw [hu, upd_n (by omega), upd_n (by omega), upd_n (by omega), upd_n (by omega), upd_s]
  have uG : u (38 + 4 * nj + 1) = nI g := by rw [hu, upd_n (by omega), upd_n (by omega), upd_n (by omega), upd_s]
  have uE : u (38 + 4 * nj + 2) = nI e := by rw [hu, upd_n (by omega), upd_n (by omega), upd_s]
  have uB : u (38 + 4 * nj + 3) = nI b := by rw [hu, upd_n (by omega), upd_s]
  rw [← hu]
  rw [if_neg hL] at h0
  refine ⟨⟨(k _ (by decide) (by omega)).trans a1, u4, (k _ (by decide) (by omega)).trans a3, (k _ (by decide) (by omega)).trans a4, (k _ (by decide) (by omega)).trans a5⟩, ⟨v1, rfl, v3, v4⟩, ⟨c1, by omega, c3, fun z => by omega, fun _ => by omega⟩, ?_, ⟨l, d', s, b1, b2, b3, (k _ (by decide) (by omega)).trans b4, (k _ (by decide) (by omega)).trans b5, (k _ (by decide) (by omega)).trans b6, b7, b8, b9⟩, fun q hq => ?_, fun j hj' => ?_, fun q hq => ?_⟩
  · rw [if_neg (by omega)]; exact h0
  · have := hr q hq
    unfold wT wK wL at *
    rw [k _ (by omega) (by omega), k _ (by omega) (by omega), k _ (by omega) (by omega)]
    exact this
  · show ∃ f' g' e' b', (f' < nr ∧ g' < nr ∧ 1 ≤ e' ∧ e' ≤ 9 ∧ b' < e') ∧ (wF u j = nI f' ∧ wG u j = nI g' ∧ wE u j = nI e' ∧ wB u j = nI b') ∧ upd (v.1 9) nj (nI f) j = nI f' ∧ upd (v.1 10) nj (nI g) j = nI g' ∧ upd (v.1 11) nj (nI e) j = nI e' ∧ upd (v.1 12) nj (nI b) j = nI b'
    by_cases ej : j = nj
    · subst ej
      exact ⟨f, g, e, b, ⟨o1, o2, o3, o4, o5⟩, ⟨uF, uG, uE, uB⟩, upd_s, upd_s, upd_s, upd_s⟩
    · obtain ⟨f', g', e', b', f1, g1, g2⟩ := hj j (by omega)
      refine ⟨f', g', e', b', f1, ?_, ?_⟩
      · unfold wF wG wE wB at *
        rw [k _ (by omega) (by omega), k _ (by omega) (by omega), k _ (by omega) (by omega), k _ (by omega) (by omega)]
        exact g1
      · rw [upd_n ej, upd_n ej, upd_n ej, upd_n ej]
        exact g2
  · obtain ⟨m, s', f1, g1, g2⟩ := hn q hq
    refine ⟨m, s', f1, ?_, g2⟩
    unfold wM wS at *
    rw [k _ (by omega) (by omega), k _ (by omega) (by omega)]
    exact g1
theorem PV.rain {v : Ob} {w : Nat → Int32} {c L nr nj nn : Nat} (h : PV v w c L nr nj nn) (hL : L ≠ 0) (hnn : nn < 5) {m b : Nat} (o1 : 1 ≤ m) (o2 : m ≤ 30) (o3 : b ≤ 60) : PV (oI (oA (oA v 14 (upd (v.1 14) nn (nI m))) 15 (upd (v.1 15) nn (nI b))) 13 (nI (nn + 1))) (upd (upd (upd w (58 + 2 * nn) (nI m)) (58 + 2 * nn + 1) (nI b)) 5 (nI (nn + 1))) c (L + 1) nr nj (nn + 1) := by
  obtain ⟨⟨a1, a2, a3, a4, a5⟩, ⟨v1, v2, v3, v4⟩, ⟨c1, c2, c3, c4, c5⟩, h0, ⟨l, d', s, b1, b2, b3, b4, b5, b6, b7, b8, b9⟩, hr, hj, hn⟩ := h
  have cL := c5 hL
  obtain ⟨u, hu⟩ : ∃ u, u = upd (upd (upd w (58 + 2 * nn) (nI m)) (58 + 2 * nn + 1) (nI b)) 5 (nI (nn + 1)) := ⟨_, rfl⟩
  have k : ∀ x, x ≠ 5 → (x < 58 + 2 * nn ∨ 58 + 2 * nn + 1 < x) → u x = w x := fun x h1 h2 => by rw [hu, upd_n (by omega), upd_n (by omega), upd_n (by omega)]
  have u5 : u 5 = nI (nn + 1) := by rw [hu, upd_s]
  have uM : u (58 + 2 * nn) = nI m := by rw [hu, upd_n (by omega), upd_n (by omega), upd_s]
  have uS : u (58 + 2 * nn + 1) = nI b := by rw [hu, upd_n (by omega), upd_s]
  rw [← hu]
  rw [if_neg hL] at h0
  refine ⟨⟨(k _ (by decide) (by omega)).trans a1, (k _ (by decide) (by omega)).trans a2, u5, (k _ (by decide) (by omega)).trans a4, (k _ (by decide) (by omega)).trans a5⟩, ⟨v1, v2, rfl, v4⟩, ⟨c1, c2, by omega, fun z => by omega, fun _ => by omega⟩, ?_, ⟨l, d', s, b1, b2, b3, (k _ (by decide) (by omega)).trans b4, (k _ (by decide) (by omega)).trans b5, (k _ (by decide) (by omega)).trans b6, b7, b8, b9⟩, fun q hq => ?_, fun j hj' => ?_, fun q hq => ?_⟩
  · rw [if_neg (by omega)]; exact h0
  · have := hr q hq
    unfold wT wK wL at *
    rw [k _ (by omega) (by omega), k _ (by omega) (by omega), k _ (by omega) (by omega)]
    exact this
  · obtain ⟨f, g, e, b', f1, g1, g2⟩ := hj j hj'
    refine ⟨f, g, e, b', f1, ?_, g2⟩
    unfold wF wG wE wB at *
    rw [k _ (by omega) (by omega), k _ (by omega) (by omega), k _ (by omega) (by omega), k _ (by omega) (by omega)]
    exact g1
  · show ∃ m' s', (1 ≤ m' ∧ m' ≤ 30 ∧ s' ≤ 60) ∧ (wM u q = nI m' ∧ wS u q = nI s') ∧ upd (v.1 14) nn (nI m) q = nI m' ∧ upd (v.1 15) nn (nI b) q = nI s'
    by_cases eq : q = nn
    · subst eq
      exact ⟨m, b, ⟨o1, o2, o3⟩, ⟨uM, uS⟩, upd_s, upd_s⟩
    · obtain ⟨m', s', f1, g1, g2⟩ := hn q (by omega)
      refine ⟨m', s', f1, ?_, ?_⟩
      · unfold wM wS at *
        rw [k _ (by omega) (by omega), k _ (by omega) (by omega)]
        exact g1
      · rw [upd_n eq, upd_n eq]
        exact g2
/-! the reference's next line -/
theorem is_k (fu : Nat) (hf : 2000 ≤ fu) {B : Nat → Nat} {n c i : Nat} {k o r : Ob} (E : EV B n k c) (h : GO B n k c i o r) {w : Nat} (hw : w < 13) : p_X10_is fu r w = some (if o.1 4 0 = kw w then 1 else 0) := by
  obtain ⟨hK, -, hc⟩ := h.p E
  obtain ⟨b, hb, eb⟩ := e_is fu hf h.2.2.2.2.2.2.1 h.2.2.2.2.2.2.2 h.2.2.2.2.1 hw
  have hbk := hb.trans (KD_w hK hw).symm
  rw [eb]
  cases b with
  | true => rw [if_pos rfl, if_pos (hbk.mp rfl)]
  | false => rw [if_neg (by decide), if_neg (fun z => by have := hbk.mpr z; cases this)]
theorem nx105 (fu : Nat) (t : Ob) (h : ¬ t.1 12 0 = 0) : p_X10_readNext_J105 fu t = some t := by
  unfold p_X10_readNext_J105
  rw [r_good, Option.bind_some, if_neg h, if_pos rfl]
theorem nx81 (fu : Nat) (hf : 2000 ≤ fu) (t : Ob) (h : ¬ t.1 12 0 = 0) : p_X10_readNext_J81 fu t = some t := by
  unfold p_X10_readNext_J81
  rw [e_isN fu hf t (by decide) h, Option.bind_some, if_pos rfl, nx105 fu t h]
theorem nx57 (fu : Nat) (hf : 2000 ≤ fu) (t : Ob) (h : ¬ t.1 12 0 = 0) : p_X10_readNext_J57 fu t = some t := by
  unfold p_X10_readNext_J57
  rw [e_isN fu hf t (by decide) h, Option.bind_some, if_pos rfl, nx81 fu hf t h]
theorem nx32 (fu : Nat) (hf : 2000 ≤ fu) (t : Ob) (h : ¬ t.1 12 0 = 0) : p_X10_readNext_J32 fu t = some t := by
  unfold p_X10_readNext_J32
  rw [e_isN fu hf t (by decide) h, Option.bind_some, if_pos rfl, nx57 fu hf t h]
