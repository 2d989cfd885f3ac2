theorem e_cuts (fu : Nat) (hf : 2000 ≤ fu) (y : Nat → Ob) (S : Int32) {c : Nat} (hc : c ≤ 61) : (p_X9_cutsAll fu y S (nI c) = some 1 ∧ ∀ n, n < c → ¬ ((y 0).1 13 n &&& S = 0)) ∨ (p_X9_cutsAll fu y S (nI c) = some 0 ∧ ¬ ∀ n, n < c → ¬ ((y 0).1 13 n &&& S = 0)) := by
  unfold p_X9_cutsAll
  obtain ⟨a, e, g⟩ := loop_inv (fun n i (_ : Unit) => p_X9_cutsAll_L2 fu y n S (nI c) (nI i)) c (fun i _ => ∀ n, n < i → ¬ ((y 0).1 13 n &&& S = 0)) (fun a => (a = 1 ∧ ∀ n, n < c → ¬ ((y 0).1 13 n &&& S = 0)) ∨ (a = 0 ∧ ¬ ∀ n, n < c → ¬ ((y 0).1 13 n &&& S = 0))) (by
    rintro n - h
    refine ⟨1, ?_, Or.inl ⟨rfl, h⟩⟩
    show p_X9_cutsAll_L2 fu y (n + 1) S (nI c) (nI c) = _
    rw [p_X9_cutsAll_L2, if_pos (Int32.le_refl _)]) (by
    rintro n i - hi h
    show (∃ r, p_X9_cutsAll_L2 fu y (n + 1) S (nI c) (nI i) = some r ∧ _) ∨ (∃ s' : Unit, p_X9_cutsAll_L2 fu y (n + 1) S (nI c) (nI i) = p_X9_cutsAll_L2 fu y n S (nI c) (nI (i + 1)) ∧ _)
    rw [p_X9_cutsAll_L2, if_neg (by rw [le_nn (by omega) (by omega)]; omega), e_pick fu ((y 0).1 13) (show i < 61 by omega) (by decide), Option.bind_some]
    by_cases g : (y 0).1 13 i &&& S = 0
    · left
      rw [if_pos g]
      exact ⟨0, rfl, Or.inr ⟨rfl, fun k => k i hi g⟩⟩
    · right
      rw [if_neg g, show nI i + 1 = nI (i + 1) from nI_add i 1]
      refine ⟨(), rfl, fun m hm => ?_⟩
      by_cases em : m = i
      · rw [em]; exact g
      · exact h m (by omega)) fu 0 () (Nat.zero_le _) (by omega) (fun n hn => absurd hn (Nat.not_lt_zero _))
  have e' : p_X9_cutsAll_L2 fu y fu S (nI c) 0 = some a := e
  rcases g with ⟨rfl, g⟩ | ⟨rfl, g⟩
  · exact Or.inl ⟨e', g⟩
  · exact Or.inr ⟨e', g⟩
def selF (cut : Nat → Bool) (r q v : Nat) (b : Int32) : Int32 := if bq (nI v) r = true then b else if bq (nI v) q = true then b else if cut v = true then (if b = -1 then nI v else if bN (nI v) < bN b then nI v else b) else b
def fwN (b : Int32) : Int32 := if b = -1 then 1000 else bN b
theorem pow_b1 : ∀ R : Fin 11, b1 R.1 = nI (2 ^ R.1) ∧ b1 R.1 - 1 = nI (2 ^ R.1 - 1) := by decide +kernel
theorem pow_le : ∀ R : Fin 11, 2 ^ R.1 ≤ 1024 ∧ 1 ≤ 2 ^ R.1 := by decide
theorem e_selC (fu : Nat) (hf : 2000 ≤ fu) {x y : Nat → Ob} {o : Ob} (h : Rel x o) (K : KQ x y) {r q c : Nat} (hr : r < nR (o.1 1)) (hq : q < nR (o.1 1)) (hc : c ≤ 61) {cut : Nat → Bool} (hcut : ∀ v, cut v = true ↔ ∀ n, n < c → ¬ ((y 0).1 13 n &&& nI v = 0)) :
    p_X9_stoppingSet_L36 fu fu y (nI c) (b1 r ||| b1 q) (-1) 1000 0 = some (it (selF cut r q) (-1) (2 ^ nR (o.1 1)), y) := by
  have hR := h.w.2.1.1
  obtain ⟨M, eM⟩ : ∃ M, M = 2 ^ nR (o.1 1) := ⟨_, rfl⟩
  have hM : M ≤ 1024 ∧ 1 ≤ M := by rw [eM]; exact pow_le ⟨nR (o.1 1), by omega⟩
  have eA : p_X9_allReaches fu y = some (nI (M - 1)) := by
    rw [e_allR fu (h.kp K FR.rf), eM]
    exact congrArg some (pow_b1 ⟨nR (o.1 1), by omega⟩).2
  rw [← eM]
  have e := loop_it (fun n v (b : Int32) => p_X9_stoppingSet_L36 fu n y (nI c) (b1 r ||| b1 q) b (fwN b) (nI v)) (selF cut r q) (-1) M (some (it (selF cut r q) (-1) M, y)) (by
    intro n
    show p_X9_stoppingSet_L36 fu (n + 1) y (nI c) (b1 r ||| b1 q) _ _ (nI M) = _
    rw [p_X9_stoppingSet_L36, eA, Option.bind_some, if_pos (by rw [lt_nn (by omega) (by omega)]; omega)]) (by
    intro n v hv
    show p_X9_stoppingSet_L36 fu (n + 1) y (nI c) (b1 r ||| b1 q) _ _ (nI v) = p_X9_stoppingSet_L36 fu n y (nI c) (b1 r ||| b1 q) _ (fwN _) (nI (v + 1))
    rw [p_X9_stoppingSet_L36, eA, Option.bind_some, if_neg (by rw [lt_nn (by omega) (by omega)]; omega), e_bitCount fu (by omega), Option.bind_some, show nI v + 1 = nI (v + 1) from nI_add v 1, it]
    generalize it (selF cut r q) (-1) v = b
    have ev : (nI v &&& (b1 r ||| b1 q) = 0) = (bq (nI v) r = false ∧ bq (nI v) q = false) := by
      rw [Int32.and_comm]
      exact propext ((or_and0 _ _ _).trans (and_congr (b1_and _ (by omega)) (b1_and _ (by omega))))
    unfold selF
    simp only [ev]
    by_cases c1 : bq (nI v) r = true
    · rw [if_neg (fun z => by rw [c1] at z; exact absurd z.1 (by decide)), if_pos c1]
    · by_cases c2 : bq (nI v) q = true
      · rw [if_neg (fun z => by rw [c2] at z; exact absurd z.2 (by decide)), if_neg c1, if_pos c2]
      · rw [if_pos ⟨by simpa using c1, by simpa using c2⟩, if_neg c1, if_neg c2]
        by_cases c3 : b = -1
        · have f1 : fwN b = 1000 := if_pos c3
          rw [f1, if_neg (Int32.not_le.mpr (bN_le ⟨v, by omega⟩))]
          rcases e_cuts fu hf y (nI v) hc with ⟨g1, g2⟩ | ⟨g1, g2⟩
          · rw [g1, Option.bind_some, if_neg (by decide), if_pos ((hcut v).mpr g2), if_pos c3]
            have : fwN (nI v) = bN (nI v) := if_neg (m1_ne (by omega))
            rw [this]
          · rw [g1, Option.bind_some, if_pos rfl, if_neg (fun z => g2 ((hcut v).mp z)), f1]
        · have f1 : fwN b = bN b := if_neg c3
          rw [f1]
          by_cases c4 : bN (nI v) < bN b
          · rw [if_neg (Int32.not_le.mpr c4)]
            rcases e_cuts fu hf y (nI v) hc with ⟨g1, g2⟩ | ⟨g1, g2⟩
            · rw [g1, Option.bind_some, if_neg (by decide), if_pos ((hcut v).mpr g2), if_neg c3, if_pos c4]
              have : fwN (nI v) = bN (nI v) := if_neg (m1_ne (by omega))
              rw [this]
            · rw [g1, Option.bind_some, if_pos rfl, if_neg (fun z => g2 ((hcut v).mp z)), f1]
          · rw [if_pos (Int32.not_lt.mp c4), if_neg c3, if_neg c4]
            split <;> rw [f1]) fu 0 (Nat.zero_le _) (by omega)
  exact e
