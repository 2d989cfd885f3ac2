/-- the reaches that it was in, in its first m steps -/
def hS (w : Nat → Int32) (r s m : Nat) : Int32 := it (fun i t => t ||| b1 (pth (PW w) r s i).1.toNatClampNeg) 0 m
theorem or_and0 (a b S : Int32) : ((a ||| b) &&& S = 0) ↔ (a &&& S = 0 ∧ b &&& S = 0) := by
  constructor
  · intro h
    refine ⟨bq_ext (fun i hi => ?_), bq_ext (fun i hi => ?_)⟩
    · have := congrArg (fun z => bq z i) h
      simp only [bq_and, bq_or, bq_0] at this ⊢
      cases h1 : bq a i
      · simp
      · rw [h1] at this; simpa using this
    · have := congrArg (fun z => bq z i) h
      simp only [bq_and, bq_or, bq_0] at this ⊢
      cases h1 : bq b i
      · simp
      · rw [h1] at this; simpa using this
  · rintro ⟨h1, h2⟩
    apply bq_ext
    intro i hi
    have g1 := congrArg (fun z => bq z i) h1
    have g2 := congrArg (fun z => bq z i) h2
    simp only [bq_and, bq_or, bq_0] at g1 g2 ⊢
    cases c : bq S i
    · simp
    · rw [c] at g1 g2
      simp only [Bool.and_true] at g1 g2
      rw [g1, g2]
      rfl
theorem b1_and (S : Int32) {k : Nat} (h : k < 32) : (b1 k &&& S = 0) ↔ bq S k = false := by
  rw [Int32.and_comm, and_b1 S h]
theorem hS_0 (w : Nat → Int32) (S : Int32) (r s : Nat) : ∀ m, (∀ i, i < m → ∃ k, k < 10 ∧ (pth (PW w) r s i).1 = nI k) → ((hS w r s m &&& S = 0) ↔ ∀ i, i < m → bq S (pth (PW w) r s i).1.toNatClampNeg = false) := by
  intro m
  induction m with
  | zero =>
    intro _
    refine ⟨fun _ i hi => absurd hi (Nat.not_lt_zero _), fun _ => ?_⟩
    show (0 : Int32) &&& S = 0
    exact bq_ext (fun i hi => by rw [bq_and, bq_0, Bool.false_and])
  | succ m ih =>
    intro h
    obtain ⟨k, hk, ek⟩ := h m (Nat.lt_succ_self m)
    have ek' : (pth (PW w) r s m).1.toNatClampNeg = k := by
      rw [ek]
      simp (disch := omega) only [cl_nI]
    show ((hS w r s m ||| b1 (pth (PW w) r s m).1.toNatClampNeg) &&& S = 0) ↔ _
    rw [or_and0, ih (fun i hi => h i (by omega)), ek', b1_and S (by omega)]
    constructor
    · rintro ⟨h1, h2⟩ i hi
      by_cases e : i = m
      · rw [e, ek']; exact h2
      · exact h1 i (by omega)
    · intro g
      exact ⟨fun i hi => g i (by omega), by have := g m (Nat.lt_succ_self m); rw [ek'] at this; exact this⟩
theorem e_ahead (fu : Nat) (hf : 2000 ≤ fu) {w : Nat → Int32} {r s j : Nat} {y : Ob} (d : DSt (PW w) r s y) (h1 : s ≤ j) (h2 : j < 61) (h : ∀ i, i < j - s → ∃ k, k < 10 ∧ (pth (PW w) r s i).1 = nI k) : p_X5_visitedAhead fu y (nI s) (nI j) = some (hS w r s (j - s)) := by
  unfold p_X5_visitedAhead
  have e := loop_it (fun n i t => p_X5_visitedAhead_L5 fu y n (nI j) t (nI (s + i))) (fun i t => t ||| b1 (pth (PW w) r s i).1.toNatClampNeg) 0 (j - s) (some (hS w r s (j - s))) (by
    intro n
    show p_X5_visitedAhead_L5 fu y (n + 1) (nI j) _ (nI (s + (j - s))) = _
    rw [p_X5_visitedAhead_L5, if_pos (by rw [le_nn (by omega) (by omega)]; omega)]
    rfl) (by
    intro n i hi
    obtain ⟨k, hk, ek⟩ := h i hi
    show p_X5_visitedAhead_L5 fu y (n + 1) (nI j) _ (nI (s + i)) = p_X5_visitedAhead_L5 fu y n (nI j) _ (nI (s + (i + 1)))
    have ei : nI (s + i) + 1 = nI (s + (i + 1)) := nI_add (s + i) 1
    rw [p_X5_visitedAhead_L5, if_neg (by rw [le_nn (by omega) (by omega)]; omega), e_spotAt fu y (by omega), Option.bind_some, d.at (by omega) (by omega), show s + i - s = i by omega, ek, e_bit fu (by omega), Option.bind_some, ei, it, ek, show (nI k).toNatClampNeg = k by simp (disch := omega) only [cl_nI]]) fu 0 (Nat.zero_le _) (by omega)
  exact e
theorem stopAt {w : Nat → Int32} (hw : OKW w) (S : Int32) {r s q : Nat} (hr : r < nR w) (hq : q < nR w) (hs : s < 61) (nq : bq S q = false) :
    (coF (PW w) r s (nI q) = -1 ∧ coF (PX w S) r s (nI q) = -1) ∨ ∃ j, s ≤ j ∧ j < 61 ∧ coF (PW w) r s (nI q) = nI j ∧ (∀ i, i < j - s → ∃ k, k < 10 ∧ (pth (PW w) r s i).1 = nI k) ∧ (coF (PX w S) r s (nI q) = -1 ↔ ¬ (hS w r s (j - s) &&& S = 0)) := by
  have hR := hw.2.1.1
  have px := px_at w S bq_0 (r := r) s (by omega)
  have n3 : ¬ (-3 : Int32) = nI q := fun e => by
    have := congrArg Int32.toInt e
    rw [nI_toInt (by omega)] at this
    have e2 : (-3 : Int32).toInt = -3 := rfl
    omega
  have eq' : (nI q).toNatClampNeg = q := by simp (disch := omega) only [cl_nI]
  rcases ffr_or (fun n => decide ((pth (PW w) r s (n - s)).1 = nI q)) (61 - s) s with ⟨e, g⟩ | ⟨j, j1, j2, j3, e, g⟩
  · left
    refine ⟨e, ?_⟩
    rcases ffr_or (fun n => decide ((pth (PX w S) r s (n - s)).1 = nI q)) (61 - s) s with ⟨e', -⟩ | ⟨j', k1, k2, k3, e', -⟩
    · exact e'
    · exfalso
      have k3 := of_decide_eq_true k3
      have gj := of_decide_eq_false (g j' k1 k2)
      by_cases c : clr w S r s (j' - s)
      · rw [(px _).1 c] at k3; exact gj k3
      · rw [(px _).2 c] at k3; exact n3 k3
  · right
    have j3 := of_decide_eq_true j3
    have rch : ∀ i, i < j - s → ∃ k, k < 10 ∧ (pth (PW w) r s i).1 = nI k := by
      intro i hi
      rcases pth_in hw.p rfl hr s i with c | ⟨k, hk, c⟩
      · exfalso
        have := pth_neg (PW w) r s (i := i) (by rw [c]; decide) (j - s - i)
        rw [show i + (j - s - i) = j - s by omega] at this
        rw [this, c] at j3
        exact m1_ne (by omega) j3.symm
      · exact ⟨k, hk, c⟩
    refine ⟨j, j1, by omega, e, rch, ?_⟩
    rw [hS_0 w S r s (j - s) rch]
    constructor
    · intro e' z
      have c : clr w S r s (j - s) := by
        intro i hi
        right
        by_cases ei : i = j - s
        · rw [ei, j3, eq']; exact nq
        · exact z i (by omega)
      have hx := (px (j - s)).1 c
      rcases ffr_or (fun n => decide ((pth (PX w S) r s (n - s)).1 = nI q)) (61 - s) s with ⟨-, g'⟩ | ⟨j', k1, k2, k3, e'', -⟩
      · have := of_decide_eq_false (g' j j1 j2)
        rw [hx] at this
        exact this j3
      · have e'' : coF (PX w S) r s (nI q) = nI j' := e''
        rw [e'] at e''
        exact m1_ne (by omega) e''.symm
    · intro z
      rcases ffr_or (fun n => decide ((pth (PX w S) r s (n - s)).1 = nI q)) (61 - s) s with ⟨e', -⟩ | ⟨j', k1, k2, k3, e', -⟩
      · exact e'
      · exfalso
        have k3 := of_decide_eq_true k3
        by_cases c : clr w S r s (j' - s)
        · rw [(px _).1 c] at k3
          by_cases cj : j' < j
          · have := of_decide_eq_false (g j' k1 cj)
            exact this k3
          · apply z
            intro i hi
            rcases c i (by omega) with c' | c'
            · obtain ⟨k, hk, ck⟩ := rch i hi
              rw [ck] at c'
              exact absurd c' (m1_ne (by omega))
            · exact c'
        · rw [(px _).2 c] at k3; exact n3 k3
