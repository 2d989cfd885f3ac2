/-! ===== stop, stops ===== -/
def bN (v : Int32) : Int32 := it (fun i t => t + ((v >>> (nI i &&& 31)) &&& 1)) 0 10
theorem e_bits (fu : Nat) (hf : 2000 ≤ fu) (v : Int32) : p_X10_bits fu v = some (bN v) := by
  have e := loop_it (fun n i t => p_X10_bits_L4 fu n v t (nI i)) (fun i t => t + ((v >>> (nI i &&& 31)) &&& 1)) 0 10 (some (bN v)) (by
    intro n
    show p_X10_bits_L4 fu (n + 1) v _ (nI 10) = _
    rw [p_X10_bits_L4, if_pos (by decide)]
    rfl) (by
    intro n i hi
    show p_X10_bits_L4 fu (n + 1) v _ (nI i) = p_X10_bits_L4 fu n v _ (nI (i + 1))
    rw [p_X10_bits_L4, if_neg (by rw [le_ln (by decide) (by omega)]; omega), show nI i + 1 = nI (i + 1) from nI_add i 1]
    rfl) fu 0 (Nat.zero_le _) (by omega)
  exact e
theorem bc_all : ∀ v : Fin 1024, p_J6_bitCount_0f7a4 0 (nI v.1) = some (bN (nI v.1)) := by decide +kernel
theorem e_bitCount (fu : Nat) {v : Nat} (h : v < 1024) : p_J6_bitCount_0f7a4 fu (nI v) = some (bN (nI v)) := bc_all ⟨v, h⟩
theorem bN_le : ∀ v : Fin 1024, bN (nI v.1) < 1000 := by decide +kernel
/-- with a set of reaches stopped -/
def PX (w : Nat → Int32) (S : Int32) : PP := (w, wE w, wB w, lvW w, shW w, S)
theorem OKW.px {w : Nat → Int32} (h : OKW w) (S : Int32) : OKP (PX w S) := ⟨h, h.t⟩
/-- no reach of the set on the way so far -/
def clr (w : Nat → Int32) (S : Int32) (r s n : Nat) : Prop := ∀ i, i ≤ n → (pth (PW w) r s i).1 = -1 ∨ bq S (pth (PW w) r s i).1.toNatClampNeg = false
theorem ent_0 (w : Nat → Int32) (h0 : ∀ q, bq 0 q = false) (d : Int32) : ent (PW w) d = d := by
  unfold ent
  by_cases c : d = -1
  · rw [if_pos c, c]
  · rw [if_neg c, if_neg (by rw [show (PW w).2.2.2.2.2 = 0 from rfl, h0]; decide)]
theorem stp_px (w : Nat → Int32) (S : Int32) (h0 : ∀ q, bq 0 q = false) (n : Nat) (p : Int32 × Int32) :
    ((stp (PW w) n p).1 = -1 ∨ bq S (stp (PW w) n p).1.toNatClampNeg = false → stp (PX w S) n p = stp (PW w) n p) ∧
    ((p.1 = -1 ∨ bq S p.1.toNatClampNeg = false) → ¬ ((stp (PW w) n p).1 = -1 ∨ bq S (stp (PW w) n p).1.toNatClampNeg = false) → (stp (PX w S) n p).1 = -3) := by
  have d1 : stds (PX w S) n p.1 = stds (PW w) n p.1 := rfl
  have d2 : dst (PX w S) p.1 n = dst (PW w) p.1 n := rfl
  have d3 : (p.2 + 1 < wK (PX w S).1 p.1.toNatClampNeg) = (p.2 + 1 < wK (PW w).1 p.1.toNatClampNeg) := rfl
  unfold stp
  rw [d1, d2]
  by_cases c1 : p.1 < 0
  · simp only [if_pos c1]
    exact ⟨fun _ => trivial, fun a b => absurd a b⟩
  · simp only [if_neg c1]
    by_cases c2 : stds (PW w) n p.1 = true
    · simp only [if_pos c2]
      exact ⟨fun _ => trivial, fun a b => absurd a b⟩
    · simp only [if_neg c2, d3]
      by_cases c3 : p.2 + 1 < wK (PW w).1 p.1.toNatClampNeg
      · simp only [if_pos c3]
        exact ⟨fun _ => trivial, fun a b => absurd a b⟩
      · simp only [if_neg c3]
        generalize dst (PW w) p.1 n = d
        rw [ent_0 w h0]
        unfold ent
        rw [show (PX w S).2.2.2.2.2 = S from rfl]
        by_cases c4 : d = -1
        · rw [if_pos c4, c4]
          exact ⟨fun _ => rfl, fun _ b => absurd (Or.inl rfl) b⟩
        · rw [if_neg c4]
          cases c5 : bq S d.toNatClampNeg
          · rw [if_neg (by decide)]
            exact ⟨fun _ => rfl, fun _ b => absurd (Or.inr rfl) b⟩
          · rw [if_pos rfl]
            exact ⟨fun z => by rcases z with z | z
                               · exact absurd z c4
                               · exact absurd z (by decide), fun _ _ => rfl⟩
theorem px_at (w : Nat → Int32) (S : Int32) (h0 : ∀ q, bq 0 q = false) {r : Nat} (s : Nat) (hr : r < 2147483648) : ∀ n, (clr w S r s n → pth (PX w S) r s n = pth (PW w) r s n) ∧ (¬ clr w S r s n → (pth (PX w S) r s n).1 = -3) := by
  intro n
  have e0 : pth (PW w) r s 0 = (nI r, 0) := by
    show (st0 (PW w) r, (0 : Int32)) = _
    unfold st0
    rw [if_neg (by rw [show (PW w).2.2.2.2.2 = 0 from rfl, h0]; decide)]
  have er : (nI r).toNatClampNeg = r := by simp (disch := omega) only [cl_nI]
  induction n with
  | zero =>
    have ex : pth (PX w S) r s 0 = (if bq S r = true then -3 else nI r, 0) := rfl
    rw [ex, e0]
    cases c : bq S r
    · refine ⟨fun _ => by rw [if_neg (by decide)], fun z => ?_⟩
      exfalso
      apply z
      intro i hi
      rw [show i = 0 by omega, e0]
      right
      show bq S (nI r).toNatClampNeg = false
      rw [er]; exact c
    · refine ⟨fun z => ?_, fun _ => by rw [if_pos rfl]⟩
      exfalso
      rcases z 0 (Nat.le_refl _) with g | g
      · rw [e0] at g; exact m1_ne hr g
      · rw [e0] at g
        have g : bq S (nI r).toNatClampNeg = false := g
        rw [er, c] at g
        exact absurd g (by decide)
  | succ n ih =>
    obtain ⟨i1, i2⟩ := ih
    obtain ⟨s1, s2⟩ := stp_px w S h0 (s + n) (pth (PW w) r s n)
    have ez : pth (PW w) r s (n + 1) = stp (PW w) (s + n) (pth (PW w) r s n) := rfl
    have ey : pth (PX w S) r s (n + 1) = stp (PX w S) (s + n) (pth (PX w S) r s n) := rfl
    by_cases c : clr w S r s n
    · rw [ey, ez, i1 c]
      refine ⟨fun z => s1 ?_, fun z => s2 (c n (Nat.le_refl _)) (fun g => z ?_)⟩
      · exact z (n + 1) (Nat.le_refl _)
      · intro i hi
        by_cases e : i = n + 1
        · rw [e, ez]; exact g
        · exact c i (by omega)
    · refine ⟨fun z => absurd (fun i hi => z i (by omega)) c, fun _ => ?_⟩
      have := i2 c
      rw [ey]
      unfold stp
      rw [if_pos (by rw [this]; decide)]
      exact this
