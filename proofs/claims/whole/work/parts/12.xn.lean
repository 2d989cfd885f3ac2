/-! ===== at the start ===== -/
theorem lv_z : ∀ k, lv 0 (fun _ => 0) k = 0 := by
  intro k
  induction k with
  | zero => rfl
  | succ k ih => rw [lv, ih]; rfl
theorem okw_0 : OKW (fun _ => 0) := by
  have R : nR (fun _ => 0) = 0 := rfl
  have J : nJ (fun _ => 0) = 0 := rfl
  have N : nN (fun _ => 0) = 0 := rfl
  have A : nA (fun _ => 0) = 0 := rfl
  refine ⟨⟨⟨0, 0, 0, by omega, by omega, by omega, rfl, rfl, rfl⟩, rfl, rfl, rfl, rfl, rfl⟩, ⟨by rw [R]; omega, by rw [J]; omega, by rw [N]; omega, by rw [A]; omega, by show 0 ≤ 21; omega⟩, ⟨fun _ => ⟨R, J, N, A⟩, fun h => absurd rfl h⟩, fun q hq => ?_, fun q hq => ?_, fun q hq => ?_, fun q hq => ?_⟩
  · rw [R] at hq; exact absurd hq (Nat.not_lt_zero _)
  · rw [J] at hq; exact absurd hq (Nat.not_lt_zero _)
  · rw [N] at hq; exact absurd hq (Nat.not_lt_zero _)
  · rw [A] at hq; exact absurd hq (Nat.not_lt_zero _)
theorem rw_0 {r : Ob} (h : ∀ f, r.1 f 0 = 0) : RW r (fun _ => 0) := by
  have R : nR (fun _ => 0) = 0 := rfl
  have J : nJ (fun _ => 0) = 0 := rfl
  have N : nN (fun _ => 0) = 0 := rfl
  have A : nA (fun _ => 0) = 0 := rfl
  refine ⟨okw_0, ⟨h 0, h 1, h 2, h 3, h 4, h 8, h 13, h 16⟩, fun q hq => ?_, fun q hq => ?_, fun q hq => ?_, fun q hq => ?_⟩
  · rw [R] at hq; exact absurd hq (Nat.not_lt_zero _)
  · rw [J] at hq; exact absurd hq (Nat.not_lt_zero _)
  · rw [N] at hq; exact absurd hq (Nat.not_lt_zero _)
  · rw [A] at hq; exact absurd hq (Nat.not_lt_zero _)
theorem wt_0 : WT i_X8 (fun _ => 0) := by
  have r0 : rnW (fun _ => 0) = fun _ => 0 := rfl
  refine ⟨fun k _ => by rw [r0]; rfl, fun k _ => ?_, rfl⟩
  show (0 : Int32) = lv 0 (rnW (fun _ => 0)) k
  rw [r0, lv_z]
theorem rel_0 : Rel i_Q i_X10 := by
  refine ⟨rw_0 (fun _ => rfl), wt_0, ⟨rfl, rfl⟩, ⟨0, by omega, rfl, rfl, fun i hi => absurd hi (Nat.not_lt_zero _)⟩, fun k hk => Or.inl ⟨bq_0 k, rfl⟩, fun j hj => Or.inl ?_⟩
  match j, hj with
  | 0, _ => exact ⟨rfl, rfl⟩
  | 1, _ => exact ⟨rfl, rfl⟩
  | 2, _ => exact ⟨rfl, rfl⟩
  | 3, _ => exact ⟨rfl, rfl⟩
  | j + 4, h => exact absurd h (by omega)
