/-! ===== a stick's way ===== -/
/-- world, each, turn, level, shut, stopped -/
abbrev PP : Type := (Nat → Int32) × (Nat → Int32) × (Nat → Int32) × (Nat → Int32) × Int32 × Int32
def goJ (P : PP) (s : Int32) (n j : Nat) : Bool := decide (wF P.1 j = s) && ((!bq P.2.2.2.2.1 j) && decide (nI n - nI n / P.2.1 j * P.2.1 j = P.2.2.1 j))
def fJ (P : PP) (s : Int32) (n : Nat) : Int32 := ffr (goJ P s n) 0 (nJ P.1)
def dst (P : PP) (s : Int32) (n : Nat) : Int32 := if fJ P s n = -1 then wT P.1 s.toNatClampNeg else wG P.1 (fJ P s n).toNatClampNeg
def stds (P : PP) (n : Nat) (s : Int32) : Bool := decide (P.2.2.2.1 n < wL P.1 s.toNatClampNeg)
/-- it leaves at step n -/
def lvs (P : PP) (n : Nat) (p : Int32 × Int32) : Bool := (!decide (p.1 < 0)) && ((!stds P n p.1) && (!decide (p.2 + 1 < wK P.1 p.1.toNatClampNeg)))
def ent (P : PP) (t : Int32) : Int32 := if t = -1 then -1 else if bq P.2.2.2.2.2 t.toNatClampNeg = true then -3 else t
def stp (P : PP) (n : Nat) (p : Int32 × Int32) : Int32 × Int32 :=
  if p.1 < 0 then p else if stds P n p.1 = true then p else if p.2 + 1 < wK P.1 p.1.toNatClampNeg then (p.1, p.2 + 1) else (ent P (dst P p.1 n), 0)
def st0 (P : PP) (r : Nat) : Int32 := if bq P.2.2.2.2.2 r = true then -3 else nI r
/-- where it is, and how often it was carried there, k steps behind its start -/
def pth (P : PP) (r s : Nat) (k : Nat) : Int32 × Int32 := it (fun i p => stp P (s + i) p) (st0 P r, 0) k
/-- joins' turns: what is needed of them -/
def OKt (w je ja : Nat → Int32) : Prop := ∀ j, j < nJ w → ∃ e a, 1 ≤ e ∧ e ≤ 9 ∧ a < e ∧ je j = nI e ∧ ja j = nI a
def OKP (P : PP) : Prop := OKW P.1 ∧ OKt P.1 P.2.1 P.2.2.1
/-- a spot: out for good, the sea, a reach -/
def spo (P : PP) (s : Int32) : Prop := s = -3 ∨ s = -1 ∨ ∃ q, q < nR P.1 ∧ s = nI q
def pok (P : PP) (p : Int32 × Int32) : Prop := spo P p.1 ∧ ∃ c, c ≤ 5 ∧ p.2 = nI c
theorem spo_neg {P : PP} (h : OKP P) {s : Int32} (hs : spo P s) : (s < 0 ∧ (s = -1 ∨ s = -3)) ∨ ∃ q, q < nR P.1 ∧ q < 10 ∧ s = nI q := by
  have := h.1.2.1.1
  rcases hs with rfl | rfl | ⟨q, hq, rfl⟩
  · exact Or.inl ⟨by decide, Or.inr rfl⟩
  · exact Or.inl ⟨by decide, Or.inl rfl⟩
  · exact Or.inr ⟨q, hq, by omega, rfl⟩
theorem fJ_or (P : PP) (h : OKP P) (s : Int32) (n : Nat) : fJ P s n = -1 ∨ ∃ j, j < nJ P.1 ∧ j < 5 ∧ fJ P s n = nI j := by
  have := h.1.2.1.2.1
  rcases ffr_or (goJ P s n) (nJ P.1) 0 with ⟨e, -⟩ | ⟨j, -, hj, -, e, -⟩
  · exact Or.inl e
  · exact Or.inr ⟨j, by omega, by omega, e⟩
theorem dst_ok (P : PP) (h : OKP P) {q : Nat} (hq : q < nR P.1) (n : Nat) : dst P (nI q) n = -1 ∨ ∃ t, t < nR P.1 ∧ dst P (nI q) n = nI t := by
  have hR := h.1.2.1.1
  unfold dst
  rcases fJ_or P h (nI q) n with e | ⟨j, hj, hj5, e⟩
  · rw [e, if_pos rfl, cl_nI (by omega)]
    exact (h.1.2.2.2.1 q hq).1
  · rw [e, if_neg (by simp (disch := omega) only [eq_nm1, not_false_eq_true]), cl_nI (by omega)]
    obtain ⟨-, ⟨t, ht, e⟩, -⟩ := h.1.2.2.2.2.1 j hj
    exact Or.inr ⟨t, ht, e⟩
theorem ent_ok (P : PP) {t : Int32} (h : t = -1 ∨ ∃ q, q < nR P.1 ∧ t = nI q) : spo P (ent P t) := by
  unfold ent
  rcases h with rfl | ⟨q, hq, rfl⟩
  · exact Or.inr (Or.inl (if_pos rfl))
  · split
    · exact Or.inr (Or.inl rfl)
    · split
      · exact Or.inl rfl
      · exact Or.inr (Or.inr ⟨q, hq, rfl⟩)
theorem stp_ok (P : PP) (h : OKP P) (n : Nat) {p : Int32 × Int32} (hp : pok P p) : pok P (stp P n p) := by
  unfold stp
  obtain ⟨hs, c, hc, ec⟩ := hp
  split
  · exact ⟨hs, c, hc, ec⟩
  · rename_i hn
    rcases spo_neg h hs with ⟨hneg, -⟩ | ⟨q, hq, hq10, eq⟩
    · exact absurd hneg hn
    · split
      · exact ⟨hs, c, hc, ec⟩
      · split
        · rename_i hk
          refine ⟨hs, c + 1, ?_, by rw [ec, add_nl]⟩
          obtain ⟨-, ⟨t, ht1, ht5, et⟩, -⟩ := h.1.2.2.2.1 q hq
          rw [ec, eq, cl_nI (by omega), et, add_nl, lt_nn (by omega) (by omega)] at hk
          omega
        · exact ⟨ent_ok P (by rw [eq]; exact dst_ok P h hq n), 0, by omega, rfl⟩
theorem pth_ok (P : PP) (h : OKP P) {r : Nat} (hr : r < nR P.1) (s : Nat) : ∀ k, pok P (pth P r s k) := by
  intro k
  induction k with
  | zero =>
    refine ⟨?_, 0, by omega, rfl⟩
    show spo P (st0 P r)
    unfold st0
    split
    · exact Or.inl rfl
    · exact Or.inr (Or.inr ⟨r, hr, rfl⟩)
  | succ k ih => exact stp_ok P h _ ih
/-- with none stopped, nothing is out for good -/
theorem pth_np (P : PP) (h0 : P.2.2.2.2.2 = 0) {r : Nat} (s : Nat) : ∀ k, (pth P r s k).1 ≠ -3 ∨ ¬ OKP P ∨ ¬ r < nR P.1 := by
  intro k
  by_cases h : OKP P
  · by_cases hr : r < nR P.1
    · left
      have hR := h.1.2.1.1
      induction k with
      | zero =>
        show st0 P r ≠ -3
        unfold st0
        rw [h0, bq_0, if_neg (by decide)]
        simp (disch := omega) only [eq_nm3, ne_eq, not_false_eq_true]
      | succ k ih =>
        show (stp P (s + k) (pth P r s k)).1 ≠ -3
        have hp := pth_ok P h hr s k
        unfold stp
        split
        · exact ih
        · split
          · exact ih
          · split
            · exact ih
            · rename_i hn _ _
              rcases spo_neg h hp.1 with ⟨hneg, -⟩ | ⟨q, hq, hq10, eq⟩
              · exact absurd hneg hn
              · show ent P _ ≠ -3
                unfold ent
                rw [h0, bq_0]
                rcases dst_ok P h hq (s + k) with e | ⟨t, ht, e⟩
                · rw [eq, e, if_pos rfl]; decide
                · rw [eq, e, if_neg (by simp (disch := omega) only [eq_nm1, not_false_eq_true]), if_neg (by decide)]
                  simp (disch := omega) only [eq_nm3, ne_eq, not_false_eq_true]
    · exact Or.inr (Or.inr hr)
  · exact Or.inr (Or.inl h)
/-! what is counted on it: over the first k steps of it -/
def aDep (P : PP) (r s k : Nat) : Int32 := it (fun i t => if lvs P (s + i) (pth P r s i) = true then t + 1 else t) 0 k
def aJm (P : PP) (r s k : Nat) : Int32 := it (fun i t => if lvs P (s + i) (pth P r s i) = true then (if fJ P (pth P r s i).1 (s + i) = -1 then t else t + 1) else t) 0 k
def aJs (P : PP) (r s k : Nat) : Int32 := it (fun i t => if lvs P (s + i) (pth P r s i) = true then (if fJ P (pth P r s i).1 (s + i) = -1 then t else t ||| b1 (fJ P (pth P r s i).1 (s + i)).toNatClampNeg) else t) 0 k
def aStd (P : PP) (r s k : Nat) : Int32 := it (fun i t => if (pth P r s i).1 < 0 then t else if stds P (s + i) (pth P r s i).1 = true then t + 1 else t) 0 k
/-- the reaches it was in, and the newest of them -/
def aVis (P : PP) (r s k : Nat) : Int32 × Int32 := it (fun i t => if (pth P r s i).1 < 0 then t else if bq t.1 (pth P r s i).1.toNatClampNeg = true then t else (t.1 ||| b1 (pth P r s i).1.toNatClampNeg, (pth P r s i).1)) (0, nI r) k
/-- it comes where it is at the k-th step (from elsewhere or from there) -/
def arr (P : PP) (r s : Nat) : Nat → Bool
  | 0 => false
  | k + 1 => lvs P (s + k) (pth P r s k)
/-- it comes again at the k-th step -/
def agq (P : PP) (r s k : Nat) : Bool := arr P r s k && (!decide ((pth P r s k).1 < 0) && bq (aVis P r s k).1 (pth P r s k).1.toNatClampNeg)
