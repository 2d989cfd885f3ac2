/-! ===== the text: runs of bytes, tokens ===== -/
def rn (B : Nat → Nat) (n : Nat) (f : Nat → Bool) : Nat → Nat → Nat
  | 0, p => p
  | k + 1, p => if p < n ∧ f (B p) = true then rn B n f k (p + 1) else p
/-- the end of a run of bytes from p on -/
def run (B : Nat → Nat) (n : Nat) (f : Nat → Bool) (p : Nat) : Nat := rn B n f (n - p) p
theorem run_go {B : Nat → Nat} {n : Nat} {f : Nat → Bool} {p : Nat} (h1 : p < n) (h2 : f (B p) = true) : run B n f p = run B n f (p + 1) := by
  unfold run
  rw [show n - p = (n - (p + 1)) + 1 by omega, rn, if_pos ⟨h1, h2⟩]
theorem run_end {B : Nat → Nat} {n : Nat} {f : Nat → Bool} {p : Nat} (h : n ≤ p ∨ f (B p) = false) : run B n f p = p := by
  unfold run
  cases n - p with
  | zero => rfl
  | succ k =>
    rw [rn, if_neg]
    rintro ⟨a, b⟩
    rcases h with h | h
    · omega
    · rw [h] at b; cases b
theorem run_ind {B : Nat → Nat} {n : Nat} {f : Nat → Bool} (M : Nat → Prop) (h0 : ∀ p, (n ≤ p ∨ f (B p) = false) → M p) (h1 : ∀ p, p < n → f (B p) = true → M (p + 1) → M p) : ∀ p, M p := by
  intro p
  generalize hk : n - p = k
  induction k generalizing p with
  | zero => exact h0 p (Or.inl (by omega))
  | succ k ih =>
    cases hf : f (B p) with
    | true => exact h1 p (by omega) hf (ih (p + 1) (by omega))
    | false => exact h0 p (Or.inr hf)
theorem run_ge (B : Nat → Nat) (n : Nat) (f : Nat → Bool) (p : Nat) : p ≤ run B n f p :=
  run_ind (B := B) (n := n) (f := f) (fun p => p ≤ run B n f p) (fun p h => by rw [run_end h]; exact Nat.le_refl _) (fun p a b c => by rw [run_go a b]; omega) p
theorem run_le (B : Nat → Nat) (n : Nat) (f : Nat → Bool) (p : Nat) : p ≤ n → run B n f p ≤ n :=
  run_ind (B := B) (n := n) (f := f) (fun p => p ≤ n → run B n f p ≤ n) (fun p h q => by rw [run_end h]; exact q) (fun p a b c q => by rw [run_go a b]; exact c (by omega)) p
theorem run_in (B : Nat → Nat) (n : Nat) (f : Nat → Bool) (p : Nat) : ∀ q, p ≤ q → q < run B n f p → q < n ∧ f (B q) = true :=
  run_ind (B := B) (n := n) (f := f) (fun p => ∀ q, p ≤ q → q < run B n f p → q < n ∧ f (B q) = true) (fun p h q h1 h2 => by rw [run_end h] at h2; omega) (fun p a b c q h1 h2 => by
    rw [run_go a b] at h2
    by_cases e : q = p
    · rw [e]; exact ⟨a, b⟩
    · exact c q (by omega) h2) p
theorem run_stop (B : Nat → Nat) (n : Nat) (f : Nat → Bool) (p : Nat) : run B n f p < n → f (B (run B n f p)) = false :=
  run_ind (B := B) (n := n) (f := f) (fun p => run B n f p < n → f (B (run B n f p)) = false) (fun p h q => by
    rw [run_end h] at q ⊢
    rcases h with h | h
    · omega
    · exact h) (fun p a b c q => by
    rw [run_go a b] at q ⊢
    exact c q) p
def isBl (m : Nat) : Bool := decide (m = 32 ∨ m = 10)
def isLe (m : Nat) : Bool := decide (97 ≤ m ∧ m ≤ 122)
def isDi (m : Nat) : Bool := decide (48 ≤ m ∧ m ≤ 57)
/-- the place behind the token at p -/
def nxt (B : Nat → Nat) (n p : Nat) : Nat := if isLe (B p) = true then run B n isLe (p + 1) else if isDi (B p) = true then run B n isDi (p + 1) else p + 1
theorem nxt_gt (B : Nat → Nat) (n p : Nat) : p < nxt B n p := by
  unfold nxt
  have h1 := run_ge B n isLe (p + 1)
  have h2 := run_ge B n isDi (p + 1)
  split
  · omega
  · split <;> omega
theorem nxt_le (B : Nat → Nat) {n p : Nat} (h : p < n) : nxt B n p ≤ n := by
  unfold nxt
  have h1 := run_le B n isLe (p + 1) (by omega)
  have h2 := run_le B n isDi (p + 1) (by omega)
  split
  · omega
  · split <;> omega
/-- the place of the i-th token -/
def tkp (B : Nat → Nat) (n : Nat) : Nat → Nat
  | 0 => run B n isBl 0
  | i + 1 => run B n isBl (nxt B n (tkp B n i))
def cap (H x : Nat) : Nat := if x < H then x else H
def nuv (B : Nat → Nat) (H p : Nat) : Nat → Nat
  | 0 => 0
  | k + 1 => cap H (10 * nuv B H p k + B (p + k) - 48)
theorem nuv_b (B : Nat → Nat) (H p : Nat) : ∀ k, nuv B H p k ≤ H
  | 0 => Nat.zero_le _
  | k + 1 => by
    rw [nuv, cap]
    split <;> omega
theorem nuv_c (B : Nat → Nat) (p : Nat) : ∀ k, (∀ q, q < k → 48 ≤ B (p + q)) → nuv B 1000 p k = cap 1000 (nuv B 99999 p k)
  | 0, _ => rfl
  | k + 1, h => by
    have h0 := h k (by omega)
    have ih := nuv_c B p k (fun q hq => h q (by omega))
    rw [nuv, nuv, ih]
    unfold cap
    split <;> split <;> split <;> (try split) <;> omega
/-! words -/
def cw (w k : Nat) : Nat := (sc_c w k).toNatClampNeg
def lw (w : Nat) : Nat := lenS.getD w 0
theorem cw_ok : ∀ w, w < 13 → ∀ k, k < lw w → sc_c w k = nI (cw w k) ∧ 97 ≤ cw w k ∧ cw w k ≤ 122 := by decide +kernel
theorem lw_ok : ∀ w, w < 13 → 2 ≤ lw w ∧ lw w ≤ 6 := by decide +kernel
theorem cw_df : ∀ w, w < 13 → ∀ v, v < 13 → lw w = lw v → w = v ∨ ∃ k, k < lw w ∧ cw w k ≠ cw v k := by decide +kernel
/-- the word w stands at p -/
def sy (B : Nat → Nat) (p w : Nat) : Prop := ∀ k, k < lw w → B (p + k) = cw w k
theorem sy_df {B : Nat → Nat} {p w v : Nat} (hw : w < 13) (hv : v < 13) (e : lw w = lw v) (h1 : sy B p w) (h2 : sy B p v) : w = v := by
  rcases cw_df w hw v hv e with h | ⟨k, hk, h⟩
  · exact h
  · exact absurd ((h1 k hk).symm.trans (h2 k (e ▸ hk))) h
/-- the class' kinds of words -/
def kw (w : Nat) : Int32 := [9, 15, 10, 12, 13, 14, 16, 6, 8, 11, 5, 7, 4].getD w 3
theorem kw_df : ∀ w, w < 13 → kw w ≠ 3 ∧ kw w ≠ 2 ∧ kw w ≠ 1 ∧ kw w ≠ 0 ∧ ∀ v, v < 13 → kw w = kw v → w = v := by decide +kernel
def wkf (L : Nat) (s : Nat → Bool) : Int32 :=
  if L = 2 then (if s 0 = true then 9 else if s 1 = true then 15 else 3)
  else if L = 3 then (if s 2 = true then 10 else if s 3 = true then 12 else 3)
  else if L = 4 then (if s 4 = true then 13 else if s 5 = true then 14 else if s 6 = true then 16 else if s 7 = true then 6 else 3)
  else if L = 5 then (if s 8 = true then 8 else if s 9 = true then 11 else if s 10 = true then 5 else if s 11 = true then 7 else 3)
  else if L = 6 then (if s 12 = true then 4 else 3) else 3
theorem lw_v : lw 0 = 2 ∧ lw 1 = 2 ∧ lw 2 = 3 ∧ lw 3 = 3 ∧ lw 4 = 4 ∧ lw 5 = 4 ∧ lw 6 = 4 ∧ lw 7 = 4 ∧ lw 8 = 5 ∧ lw 9 = 5 ∧ lw 10 = 5 ∧ lw 11 = 5 ∧ lw 12 = 6 := by decide +kernel
theorem wkf_or (L : Nat) (s : Nat → Bool) : (wkf L s = 3 ∧ ∀ w, w < 13 → lw w = L → s w = false) ∨ ∃ w, w < 13 ∧ L = lw w ∧ s w = true ∧ wkf L s = kw w := by
  obtain ⟨l0, l1, l2, l3, l4, l5, l6, l7, l8, l9, l10, l11, l12⟩ := lw_v
  have fin : ∀ P : Nat → Prop, P 0 → P 1 → P 2 → P 3 → P 4 → P 5 → P 6 → P 7 → P 8 → P 9 → P 10 → P 11 → P 12 → ∀ w, w < 13 → P w := by
    intro P a0 a1 a2 a3 a4 a5 a6 a7 a8 a9 a10 a11 a12 w hw
    match w, hw with
    | 0, _ => exact a0
    | 1, _ => exact a1
    | 2, _ => exact a2
    | 3, _ => exact a3
    | 4, _ => exact a4
    | 5, _ => exact a5
    | 6, _ => exact a6
    | 7, _ => exact a7
    | 8, _ => exact a8
    | 9, _ => exact a9
    | 10, _ => exact a10
    | 11, _ => exact a11
    | 12, _ => exact a12
    | w + 13, h => exact absurd h (by omega)
  unfold wkf
  by_cases h2 : L = 2
  · subst h2
    rw [if_pos rfl]
    by_cases s0 : s 0 = true
    · exact Or.inr ⟨0, by decide, l0.symm, s0, by rw [if_pos s0]; rfl⟩
    · by_cases s1 : s 1 = true
      · exact Or.inr ⟨1, by decide, l1.symm, s1, by rw [if_neg s0, if_pos s1]; rfl⟩
      · exact Or.inl ⟨by rw [if_neg s0, if_neg s1], fin _ (fun _ => Bool.eq_false_iff.mpr s0) (fun _ => Bool.eq_false_iff.mpr s1) (by omega) (by omega) (by omega) (by omega) (by omega) (by omega) (by omega) (by omega) (by omega) (by omega) (by omega)⟩
  · rw [if_neg h2]
    by_cases h3 : L = 3
    · subst h3
      rw [if_pos rfl]
      by_cases s0 : s 2 = true
      · exact Or.inr ⟨2, by decide, l2.symm, s0, by rw [if_pos s0]; rfl⟩
      · by_cases s1 : s 3 = true
        · exact Or.inr ⟨3, by decide, l3.symm, s1, by rw [if_neg s0, if_pos s1]; rfl⟩
        · exact Or.inl ⟨by rw [if_neg s0, if_neg s1], fin _ (by omega) (by omega) (fun _ => Bool.eq_false_iff.mpr s0) (fun _ => Bool.eq_false_iff.mpr s1) (by omega) (by omega) (by omega) (by omega) (by omega) (by omega) (by omega) (by omega) (by omega)⟩
    · rw [if_neg h3]
      by_cases h4 : L = 4
      · subst h4
        rw [if_pos rfl]
        by_cases s0 : s 4 = true
        · exact Or.inr ⟨4, by decide, l4.symm, s0, by rw [if_pos s0]; rfl⟩
        · by_cases s1 : s 5 = true
          · exact Or.inr ⟨5, by decide, l5.symm, s1, by rw [if_neg s0, if_pos s1]; rfl⟩
          · by_cases s2 : s 6 = true
            · exact Or.inr ⟨6, by decide, l6.symm, s2, by rw [if_neg s0, if_neg s1, if_pos s2]; rfl⟩
            · by_cases s3 : s 7 = true
              · exact Or.inr ⟨7, by decide, l7.symm, s3, by rw [if_neg s0, if_neg s1, if_neg s2, if_pos s3]; rfl⟩
              · exact Or.inl ⟨by rw [if_neg s0, if_neg s1, if_neg s2, if_neg s3], fin _ (by omega) (by omega) (by omega) (by omega) (fun _ => Bool.eq_false_iff.mpr s0) (fun _ => Bool.eq_false_iff.mpr s1) (fun _ => Bool.eq_false_iff.mpr s2) (fun _ => Bool.eq_false_iff.mpr s3) (by omega) (by omega) (by omega) (by omega) (by omega)⟩
      · rw [if_neg h4]
        by_cases h5 : L = 5
        · subst h5
          rw [if_pos rfl]
          by_cases s0 : s 8 = true
          · exact Or.inr ⟨8, by decide, l8.symm, s0, by rw [if_pos s0]; rfl⟩
          · by_cases s1 : s 9 = true
            · exact Or.inr ⟨9, by decide, l9.symm, s1, by rw [if_neg s0, if_pos s1]; rfl⟩
            · by_cases s2 : s 10 = true
              · exact Or.inr ⟨10, by decide, l10.symm, s2, by rw [if_neg s0, if_neg s1, if_pos s2]; rfl⟩
              · by_cases s3 : s 11 = true
                · exact Or.inr ⟨11, by decide, l11.symm, s3, by rw [if_neg s0, if_neg s1, if_neg s2, if_pos s3]; rfl⟩
                · exact Or.inl ⟨by rw [if_neg s0, if_neg s1, if_neg s2, if_neg s3], fin _ (by omega) (by omega) (by omega) (by omega) (by omega) (by omega) (by omega) (by omega) (fun _ => Bool.eq_false_iff.mpr s0) (fun _ => Bool.eq_false_iff.mpr s1) (fun _ => Bool.eq_false_iff.mpr s2) (fun _ => Bool.eq_false_iff.mpr s3) (by omega)⟩
        · rw [if_neg h5]
          by_cases h6 : L = 6
          · subst h6
            rw [if_pos rfl]
            by_cases s0 : s 12 = true
            · exact Or.inr ⟨12, by decide, l12.symm, s0, by rw [if_pos s0]; rfl⟩
            · exact Or.inl ⟨by rw [if_neg s0], fin _ (by omega) (by omega) (by omega) (by omega) (by omega) (by omega) (by omega) (by omega) (by omega) (by omega) (by omega) (by omega) (fun _ => Bool.eq_false_iff.mpr s0)⟩
          · rw [if_neg h6]
            exact Or.inl ⟨rfl, fin _ (by omega) (by omega) (by omega) (by omega) (by omega) (by omega) (by omega) (by omega) (by omega) (by omega) (by omega) (by omega) (by omega)⟩
theorem wkf_iff {B : Nat → Nat} {p L : Nat} {s : Nat → Bool} (hs : ∀ w, w < 13 → lw w = L → (s w = true ↔ sy B p w)) {w : Nat} (hw : w < 13) : wkf L s = kw w ↔ L = lw w ∧ sy B p w := by
  rcases wkf_or L s with ⟨h3, h⟩ | ⟨v, hv, hL, hsv, e⟩
  · refine ⟨fun z => absurd (z.symm.trans h3) (kw_df w hw).1, fun ⟨z1, z2⟩ => ?_⟩
    have := h w hw z1.symm
    rw [(hs w hw z1.symm).mpr z2] at this
    cases this
  · refine ⟨fun z => ?_, fun ⟨z1, z2⟩ => ?_⟩
    · have := (kw_df v hv).2.2.2.2 w hw (e.symm.trans z)
      subst this
      exact ⟨hL, (hs v hv hL.symm).mp hsv⟩
    · have := sy_df hv hw (hL.symm.trans z1) ((hs v hv hL.symm).mp hsv) z2
      subst this
      exact e
