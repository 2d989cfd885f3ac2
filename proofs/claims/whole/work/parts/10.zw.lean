theorem selF_in (cut : Nat → Bool) (r q : Nat) : ∀ n, it (selF cut r q) (-1) n = -1 ∨ ∃ v, v < n ∧ it (selF cut r q) (-1) n = nI v := by
  intro n
  induction n with
  | zero => exact Or.inl rfl
  | succ n ih =>
    have key : it (selF cut r q) (-1) (n + 1) = it (selF cut r q) (-1) n ∨ it (selF cut r q) (-1) (n + 1) = nI n := by
      rw [it]
      generalize it (selF cut r q) (-1) n = b
      unfold selF
      by_cases c1 : bq (nI n) r = true
      · rw [if_pos c1]; exact Or.inl rfl
      · rw [if_neg c1]
        by_cases c2 : bq (nI n) q = true
        · rw [if_pos c2]; exact Or.inl rfl
        · rw [if_neg c2]
          by_cases c3 : cut n = true
          · rw [if_pos c3]
            by_cases c4 : b = -1
            · rw [if_pos c4]; exact Or.inr rfl
            · rw [if_neg c4]
              by_cases c5 : bN (nI n) < bN b
              · rw [if_pos c5]; exact Or.inr rfl
              · rw [if_neg c5]; exact Or.inl rfl
          · rw [if_neg c3]; exact Or.inl rfl
    rcases key with e | e
    · rw [e]
      rcases ih with g | ⟨v, hv, g⟩
      · exact Or.inl g
      · exact Or.inr ⟨v, by omega, g⟩
    · exact Or.inr ⟨n, by omega, e⟩
theorem noCUT (w : Nat → Int32) (r : Nat) (S : Int32) : ¬ CUT w r r S 61 := by
  intro h
  have p0 : (fun n => decide ((pth (PW w) r 0 (n - 0)).1 = nI r)) 0 = true := by
    show decide ((if bq 0 r = true then (-3 : Int32) else nI r) = nI r) = true
    rw [bq_0, if_neg (by decide), decide_eq_true_eq]
  have e : coF (PW w) r 0 (nI r) = nI 0 := by
    rcases ffr_or (fun n => decide ((pth (PW w) r 0 (n - 0)).1 = nI r)) (61 - 0) 0 with ⟨-, g⟩ | ⟨j, -, -, -, e, g⟩
    · have := g 0 (Nat.le_refl _) (by omega)
      exact absurd (p0.symm.trans this) (by decide)
    · by_cases c : j = 0
      · rw [c] at e; exact e
      · have := g 0 (Nat.le_refl _) (by omega)
        exact absurd (p0.symm.trans this) (by decide)
  refine h 0 0 (by omega) (Nat.le_refl _) (by omega) e ?_
  show (0 : Int32) &&& S = 0
  exact bq_ext (fun i hi => by rw [bq_and, bq_0, Bool.false_and])
theorem e_stopB (fu : Nat) (hf : 2000 ≤ fu) {x : Nat → Ob} {o t : Ob} (h : Rel x o) (F : FR tF o t) (G : GP (PW (o.1 1)) t) {r q : Nat} (hr : r < nR (o.1 1)) (hq : q < nR (o.1 1)) :
    ∃ b y z, p_X9_stoppingSet fu x (nI r) (nI q) = some (b, y) ∧ p_X10_stopsOf fu t (nI r) (nI q) = some (b, z) ∧ KQ x y ∧ FR tF o z ∧ (b = -1 ∨ ∃ v, v < 1024 ∧ b = nI v) := by
  have hR := h.w.2.1.1
  obtain ⟨cut, hcut⟩ : ∃ cut : Nat → Bool, ∀ v, cut v = true ↔ CUT (o.1 1) r q (nI v) 61 := ⟨fun v => @decide (CUT (o.1 1) r q (nI v) 61) (Classical.propDecidable _), fun v => by
    exact @decide_eq_true_iff _ (Classical.propDecidable _)⟩
  obtain ⟨z, ez, Fz⟩ := e_selR fu hf h.w F G hr hq (cut := cut) (fun v nq => (hcut v).trans (CUT.often h.w hr hq nq))
  have hin := selF_in cut r q (2 ^ nR (o.1 1))
  have hM := (pow_le ⟨nR (o.1 1), by omega⟩).1
  have hM : 2 ^ nR (o.1 1) ≤ 1024 := hM
  have hin' : it (selF cut r q) (-1) (2 ^ nR (o.1 1)) = -1 ∨ ∃ v, v < 1024 ∧ it (selF cut r q) (-1) (2 ^ nR (o.1 1)) = nI v := by
    rcases hin with g | ⟨v, hv, g⟩
    · exact Or.inl g
    · exact Or.inr ⟨v, by omega, g⟩
  unfold p_X9_stoppingSet
  by_cases c : r = q
  · subst c
    rw [if_pos rfl]
    have e1 : it (selF cut r r) (-1) (2 ^ nR (o.1 1)) = -1 := it_id _ (fun v _ b => by
      have : cut v = false := by
        cases k : cut v
        · rfl
        · exact absurd ((hcut v).mp k) (noCUT _ _ _)
      unfold selF
      rw [this, if_neg (show ¬ false = true by decide)]
      split
      · rfl
      · first | rfl | (split <;> rfl))
    rw [e1] at ez
    exact ⟨-1, x, z, rfl, ez, KQ.rf, Fz, Or.inl rfl⟩
  · rw [if_neg (by rw [eq_nn (by omega) (by omega)]; exact c)]
    obtain ⟨n, y, hn, ey, K, hy⟩ := e_noteWays fu hf h hr hq
    rw [ey, Option.bind_some, e_bit fu (by omega), Option.bind_some, e_bit fu (by omega), Option.bind_some]
    exact ⟨_, y, z, e_selC fu hf h K hr hq hn (fun v => (hcut v).trans (hy (nI v)).symm), ez, K, Fz, hin'⟩
theorem s_stops (fu : Nat) (hf : 2000 ≤ fu) {x : Nat → Ob} {o : Ob} (h : Rel x o) (v1 v2 : Int32) : ∃ r y t, p_X9_stops fu x v1 v2 = some (r, y) ∧ p_X10_stops fu o v1 v2 = some (r, t) ∧ Rel y t := by
  have n1 : ¬ (1 : Int32) = 0 := by decide
  unfold p_X9_stops p_X10_stops
  rcases e_areTwo fu hf h v1 v2 with ⟨t, e, F, g⟩ | ⟨r, q, t, hr, hq, rfl, rfl, e, F, G, g1, g2⟩
  · rw [e, Option.bind_some, if_pos rfl]
    refine ⟨-2, x, t, ?_, rfl, h.kp KQ.rf F⟩
    rcases g with g | ⟨g, g'⟩
    · rw [g, Option.bind_some, if_pos rfl]
    · rw [g, Option.bind_some, if_neg n1, g', Option.bind_some, if_pos rfl]
  · obtain ⟨b, y, z, e1, e2, K, Fz, -⟩ := e_stopB fu hf h F G hr hq
    rw [e, g1, g2, Option.bind_some, Option.bind_some, Option.bind_some, if_neg n1, if_neg n1, if_neg n1, e1, e2, Option.bind_some, Option.bind_some]
    exact ⟨b, y, z, rfl, rfl, h.kp K Fz⟩
theorem s_stop (fu : Nat) (hf : 2000 ≤ fu) {x : Nat → Ob} {o : Ob} (h : Rel x o) (v1 v2 : Int32) : ∃ r y t, p_X9_stop fu x v1 v2 = some (r, y) ∧ p_X10_stop fu o v1 v2 = some (r, t) ∧ Rel y t := by
  have n1 : ¬ (1 : Int32) = 0 := by decide
  unfold p_X9_stop p_X10_stop
  rcases e_areTwo fu hf h v1 v2 with ⟨t, e, F, g⟩ | ⟨r, q, t, hr, hq, rfl, rfl, e, F, G, g1, g2⟩
  · rw [e, Option.bind_some, if_pos rfl]
    refine ⟨-2, x, t, ?_, rfl, h.kp KQ.rf F⟩
    rcases g with g | ⟨g, g'⟩
    · rw [g, Option.bind_some, if_pos rfl]
    · rw [g, Option.bind_some, if_neg n1, g', Option.bind_some, if_pos rfl]
  · obtain ⟨b, y, z, e1, e2, K, Fz, hb⟩ := e_stopB fu hf h F G hr hq
    rw [e, g1, g2, Option.bind_some, Option.bind_some, Option.bind_some, if_neg n1, if_neg n1, if_neg n1, e1, e2, Option.bind_some, Option.bind_some]
    rcases hb with rfl | ⟨v, hv, rfl⟩
    · rw [if_pos rfl, if_pos rfl]
      exact ⟨-1, y, z, rfl, rfl, h.kp K Fz⟩
    · rw [if_neg (m1_ne (by omega)), if_neg (m1_ne (by omega)), e_bitCount fu hv, e_bits fu hf, Option.bind_some, Option.bind_some]
      exact ⟨_, y, z, rfl, rfl, h.kp K Fz⟩
