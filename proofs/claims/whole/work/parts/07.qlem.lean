/-! ===== the whole class: its objects in its world ===== -/
section QL
variable {ct : Nat → ClassId} {A : Nat → Nat} {x : Nat → Ob} {D : va_G} {H H1 : Heap} {A0 : Nat → Prop} {G : GT}
theorem wA_mem {ws : va_W} {q : Nat} : wA ws q ↔ q ∈ ws.map Prod.fst := by
  constructor
  · rintro ⟨k, e, hk⟩
    exact List.mem_map.mpr ⟨(q, e), List.mem_of_getElem? hk, rfl⟩
  · intro h
    obtain ⟨p, hp, rfl⟩ := List.mem_map.mp h
    obtain ⟨k, hk⟩ := List.getElem?_of_mem hp
    exact ⟨k, p.2, hk⟩
def qfst (A : Nat → Nat) (o : Ob) : List Nat := [A 0, A 1, A 2, A 3, A 4, A 5, A 6, A 7, A 8, A 9, A 10, A 11, A 12, A 13, A 14, A 15, A 16, A 17, A 18, A 19, A 20, A 21, A 22, A 23, A 24, A 25, A 26, A 27, A 28, A 29, A 30, A 31, A 32, A 33, A 34, A 35, A 36, A 37, A 38, A 39, A 40, A 41, A 42, A 43, A 44, A 45, A 46, A 47, A 48, A 49, A 50, A 51, A 52, A 53, A 54, A 55, A 56, A 57, A 58, A 59, A 60, A 61, A 62, A 63, A 64, A 65, A 66, A 67, A 68, A 69, A 70, A 71, A 72, A 73, A 74, A 75, A 76, A 77, A 78, A 79, A 80, A 81, A 82, A 83, A 84, A 85, A 86, A 87, A 88, A 89, A 90, A 91, A 92, A 93, A 94, A 95, A 96, A 97, A 98, A 99, A 100, A 101, A 102, A 103, A 104, A 105, A 106, A 107, A 108, A (chp o 1), A (chp o 2), A 111]
set_option maxRecDepth 100000 in
theorem csQ_fst : (csQ ct A x).map Prod.fst = qfst A (x 19) := rfl
theorem wA_Q {ct : Nat → ClassId} {A : Nat → Nat} (x y : Nat → Ob) : ∀ q, wA (csQ ct A x) q → wA (csQ ct A y) q := by
  intro q h
  rw [wA_mem, csQ_fst] at h ⊢
  have e : ∀ o : Ob, q ∈ qfst A o ↔ (q ∈ [A 0, A 1, A 2, A 3, A 4, A 5, A 6, A 7, A 8, A 9, A 10, A 11, A 12, A 13, A 14, A 15, A 16, A 17, A 18, A 19, A 20, A 21, A 22, A 23, A 24, A 25, A 26, A 27, A 28, A 29, A 30, A 31, A 32, A 33, A 34, A 35, A 36, A 37, A 38, A 39, A 40, A 41, A 42, A 43, A 44, A 45, A 46, A 47, A 48, A 49, A 50, A 51, A 52, A 53, A 54, A 55, A 56, A 57, A 58, A 59, A 60, A 61, A 62, A 63, A 64, A 65, A 66, A 67, A 68, A 69, A 70, A 71, A 72, A 73, A 74, A 75, A 76, A 77, A 78, A 79, A 80, A 81, A 82, A 83, A 84, A 85, A 86, A 87, A 88, A 89, A 90, A 91, A 92, A 93, A 94, A 95, A 96, A 97, A 98, A 99, A 100, A 101, A 102, A 103, A 104, A 105, A 106, A 107, A 108] ∨ q = A 109 ∨ q = A 110 ∨ q = A 111) := by
    intro o
    have e2 : qfst A o = [A 0, A 1, A 2, A 3, A 4, A 5, A 6, A 7, A 8, A 9, A 10, A 11, A 12, A 13, A 14, A 15, A 16, A 17, A 18, A 19, A 20, A 21, A 22, A 23, A 24, A 25, A 26, A 27, A 28, A 29, A 30, A 31, A 32, A 33, A 34, A 35, A 36, A 37, A 38, A 39, A 40, A 41, A 42, A 43, A 44, A 45, A 46, A 47, A 48, A 49, A 50, A 51, A 52, A 53, A 54, A 55, A 56, A 57, A 58, A 59, A 60, A 61, A 62, A 63, A 64, A 65, A 66, A 67, A 68, A 69, A 70, A 71, A 72, A 73, A 74, A 75, A 76, A 77, A 78, A 79, A 80, A 81, A 82, A 83, A 84, A 85, A 86, A 87, A 88, A 89, A 90, A 91, A 92, A 93, A 94, A 95, A 96, A 97, A 98, A 99, A 100, A 101, A 102, A 103, A 104, A 105, A 106, A 107, A 108] ++ [A (chp o 1), A (chp o 2), A 111] := rfl
    rw [e2, List.mem_append]
    by_cases h0 : o.1 4 0 = 0
    · have e3 : chp o 1 = 109 := if_pos h0
      have e4 : chp o 2 = 110 := if_pos h0
      rw [e3, e4]
      simp only [List.mem_cons, List.not_mem_nil, or_false]
    · have e3 : chp o 1 = 110 := if_neg h0
      have e4 : chp o 2 = 109 := if_neg h0
      rw [e3, e4]
      simp only [List.mem_cons, List.not_mem_nil, or_false]
      constructor
      · rintro (h | h | h | h)
        · exact Or.inl h
        · exact Or.inr (Or.inr (Or.inl h))
        · exact Or.inr (Or.inl h)
        · exact Or.inr (Or.inr (Or.inr h))
      · rintro (h | h | h | h)
        · exact Or.inl h
        · exact Or.inr (Or.inr (Or.inl h))
        · exact Or.inr (Or.inl h)
        · exact Or.inr (Or.inr (Or.inr h))
  exact (e _).mpr ((e _).mp h)
set_option maxRecDepth 100000 in
theorem qs_1 (hP : va_P D vwCl (csQ ct A x) H) : va_P D vwCl (cs6 ct (fun i => A (1 + i)) (x 1)) H := hP.sub [1, 2] rfl
set_option maxRecDepth 100000 in
theorem qa_1 {y : Nat → Ob} {o1 : Ob} : ∀ q, wA (cs6 ct (fun i => A (1 + i)) o1) q → wA (csQ ct A y) q := fun q h => wA_Q (x := (va_up y 1 o1)) (y := y) q (wA_sub (w2 := csQ ct A (va_up y 1 o1)) [1, 2] rfl q h)
set_option maxRecDepth 100000 in
theorem qj_1 {o1 : Ob} (hP : va_P D vwCl (csQ ct A x) H) (hD : va_D A0 (csQ ct A x)) (hk : ∀ q : Nat, q < H.size → ¬ wA (cs6 ct (fun i => A (1 + i)) (x 1)) q → H1[q]? = H[q]?) (hB : va_P D vwCl (cs6 ct (fun i => A (1 + i)) o1) H1) : va_P D vwCl (csQ ct A (va_up x 1 o1)) H1 := P_join hP hD [1, 2] rfl rfl hk hB
set_option maxRecDepth 100000 in
theorem qs_2 (hP : va_P D vwCl (csQ ct A x) H) : va_P D vwCl (cs1 ct (fun i => A (3 + i)) (x 2) (x 3) (x 4)) H := hP.sub [3, 4, 5, 6, 7, 8, 9, 10, 11, 12, 13, 14, 15, 16, 17, 18, 19, 20] rfl
set_option maxRecDepth 100000 in
theorem qa_2 {y : Nat → Ob} {o1 o2 o3 : Ob} : ∀ q, wA (cs1 ct (fun i => A (3 + i)) o1 o2 o3) q → wA (csQ ct A y) q := fun q h => wA_Q (x := (va_up (va_up (va_up y 2 o1) 3 o2) 4 o3)) (y := y) q (wA_sub (w2 := csQ ct A (va_up (va_up (va_up y 2 o1) 3 o2) 4 o3)) [3, 4, 5, 6, 7, 8, 9, 10, 11, 12, 13, 14, 15, 16, 17, 18, 19, 20] rfl q h)
set_option maxRecDepth 100000 in
theorem qj_2 {o1 o2 o3 : Ob} (hP : va_P D vwCl (csQ ct A x) H) (hD : va_D A0 (csQ ct A x)) (hk : ∀ q : Nat, q < H.size → ¬ wA (cs1 ct (fun i => A (3 + i)) (x 2) (x 3) (x 4)) q → H1[q]? = H[q]?) (hB : va_P D vwCl (cs1 ct (fun i => A (3 + i)) o1 o2 o3) H1) : va_P D vwCl (csQ ct A (va_up (va_up (va_up x 2 o1) 3 o2) 4 o3)) H1 := P_join hP hD [3, 4, 5, 6, 7, 8, 9, 10, 11, 12, 13, 14, 15, 16, 17, 18, 19, 20] rfl rfl hk hB
set_option maxRecDepth 100000 in
theorem qs_4 (hP : va_P D vwCl (csQ ct A x) H) : va_P D vwCl (cs2 ct (fun i => A (8 + i)) (x 4)) H := hP.sub [8, 9, 10, 11, 12, 13, 14, 15, 16, 17, 18, 19, 20] rfl
set_option maxRecDepth 100000 in
theorem qs_5 (hP : va_P D vwCl (csQ ct A x) H) : va_P D vwCl (cs2 ct (fun i => A (21 + i)) (x 5)) H := hP.sub [21, 22, 23, 24, 25, 26, 27, 28, 29, 30, 31, 32, 33] rfl
set_option maxRecDepth 100000 in
theorem qa_5 {y : Nat → Ob} {o1 : Ob} : ∀ q, wA (cs2 ct (fun i => A (21 + i)) o1) q → wA (csQ ct A y) q := fun q h => wA_Q (x := (va_up y 5 o1)) (y := y) q (wA_sub (w2 := csQ ct A (va_up y 5 o1)) [21, 22, 23, 24, 25, 26, 27, 28, 29, 30, 31, 32, 33] rfl q h)
set_option maxRecDepth 100000 in
theorem qj_5 {o1 : Ob} (hP : va_P D vwCl (csQ ct A x) H) (hD : va_D A0 (csQ ct A x)) (hk : ∀ q : Nat, q < H.size → ¬ wA (cs2 ct (fun i => A (21 + i)) (x 5)) q → H1[q]? = H[q]?) (hB : va_P D vwCl (cs2 ct (fun i => A (21 + i)) o1) H1) : va_P D vwCl (csQ ct A (va_up x 5 o1)) H1 := P_join hP hD [21, 22, 23, 24, 25, 26, 27, 28, 29, 30, 31, 32, 33] rfl rfl hk hB
set_option maxRecDepth 100000 in
theorem qs_6 (hP : va_P D vwCl (csQ ct A x) H) : va_P D vwCl (cs2 ct (fun i => A (34 + i)) (x 6)) H := hP.sub [34, 35, 36, 37, 38, 39, 40, 41, 42, 43, 44, 45, 46] rfl
set_option maxRecDepth 100000 in
theorem qa_6 {y : Nat → Ob} {o1 : Ob} : ∀ q, wA (cs2 ct (fun i => A (34 + i)) o1) q → wA (csQ ct A y) q := fun q h => wA_Q (x := (va_up y 6 o1)) (y := y) q (wA_sub (w2 := csQ ct A (va_up y 6 o1)) [34, 35, 36, 37, 38, 39, 40, 41, 42, 43, 44, 45, 46] rfl q h)
set_option maxRecDepth 100000 in
theorem qj_6 {o1 : Ob} (hP : va_P D vwCl (csQ ct A x) H) (hD : va_D A0 (csQ ct A x)) (hk : ∀ q : Nat, q < H.size → ¬ wA (cs2 ct (fun i => A (34 + i)) (x 6)) q → H1[q]? = H[q]?) (hB : va_P D vwCl (cs2 ct (fun i => A (34 + i)) o1) H1) : va_P D vwCl (csQ ct A (va_up x 6 o1)) H1 := P_join hP hD [34, 35, 36, 37, 38, 39, 40, 41, 42, 43, 44, 45, 46] rfl rfl hk hB
set_option maxRecDepth 100000 in
theorem qs_7 (hP : va_P D vwCl (csQ ct A x) H) : va_P D vwCl (cs2 ct (fun i => A (48 + i)) (x 7)) H := hP.sub [48, 49, 50, 51, 52, 53, 54, 55, 56, 57, 58, 59, 60] rfl
set_option maxRecDepth 100000 in
theorem qa_7 {y : Nat → Ob} {o1 : Ob} : ∀ q, wA (cs2 ct (fun i => A (48 + i)) o1) q → wA (csQ ct A y) q := fun q h => wA_Q (x := (va_up y 7 o1)) (y := y) q (wA_sub (w2 := csQ ct A (va_up y 7 o1)) [48, 49, 50, 51, 52, 53, 54, 55, 56, 57, 58, 59, 60] rfl q h)
set_option maxRecDepth 100000 in
theorem qj_7 {o1 : Ob} (hP : va_P D vwCl (csQ ct A x) H) (hD : va_D A0 (csQ ct A x)) (hk : ∀ q : Nat, q < H.size → ¬ wA (cs2 ct (fun i => A (48 + i)) (x 7)) q → H1[q]? = H[q]?) (hB : va_P D vwCl (cs2 ct (fun i => A (48 + i)) o1) H1) : va_P D vwCl (csQ ct A (va_up x 7 o1)) H1 := P_join hP hD [48, 49, 50, 51, 52, 53, 54, 55, 56, 57, 58, 59, 60] rfl rfl hk hB
set_option maxRecDepth 100000 in
theorem qs_8 (hP : va_P D vwCl (csQ ct A x) H) : va_P D vwCl (cs2 ct (fun i => A (61 + i)) (x 8)) H := hP.sub [61, 62, 63, 64, 65, 66, 67, 68, 69, 70, 71, 72, 73] rfl
set_option maxRecDepth 100000 in
theorem qa_8 {y : Nat → Ob} {o1 : Ob} : ∀ q, wA (cs2 ct (fun i => A (61 + i)) o1) q → wA (csQ ct A y) q := fun q h => wA_Q (x := (va_up y 8 o1)) (y := y) q (wA_sub (w2 := csQ ct A (va_up y 8 o1)) [61, 62, 63, 64, 65, 66, 67, 68, 69, 70, 71, 72, 73] rfl q h)
set_option maxRecDepth 100000 in
theorem qj_8 {o1 : Ob} (hP : va_P D vwCl (csQ ct A x) H) (hD : va_D A0 (csQ ct A x)) (hk : ∀ q : Nat, q < H.size → ¬ wA (cs2 ct (fun i => A (61 + i)) (x 8)) q → H1[q]? = H[q]?) (hB : va_P D vwCl (cs2 ct (fun i => A (61 + i)) o1) H1) : va_P D vwCl (csQ ct A (va_up x 8 o1)) H1 := P_join hP hD [61, 62, 63, 64, 65, 66, 67, 68, 69, 70, 71, 72, 73] rfl rfl hk hB
set_option maxRecDepth 100000 in
theorem qs_9 (hP : va_P D vwCl (csQ ct A x) H) : va_P D vwCl (cs2 ct (fun i => A (74 + i)) (x 9)) H := hP.sub [74, 75, 76, 77, 78, 79, 80, 81, 82, 83, 84, 85, 86] rfl
set_option maxRecDepth 100000 in
theorem qa_9 {y : Nat → Ob} {o1 : Ob} : ∀ q, wA (cs2 ct (fun i => A (74 + i)) o1) q → wA (csQ ct A y) q := fun q h => wA_Q (x := (va_up y 9 o1)) (y := y) q (wA_sub (w2 := csQ ct A (va_up y 9 o1)) [74, 75, 76, 77, 78, 79, 80, 81, 82, 83, 84, 85, 86] rfl q h)
set_option maxRecDepth 100000 in
theorem qj_9 {o1 : Ob} (hP : va_P D vwCl (csQ ct A x) H) (hD : va_D A0 (csQ ct A x)) (hk : ∀ q : Nat, q < H.size → ¬ wA (cs2 ct (fun i => A (74 + i)) (x 9)) q → H1[q]? = H[q]?) (hB : va_P D vwCl (cs2 ct (fun i => A (74 + i)) o1) H1) : va_P D vwCl (csQ ct A (va_up x 9 o1)) H1 := P_join hP hD [74, 75, 76, 77, 78, 79, 80, 81, 82, 83, 84, 85, 86] rfl rfl hk hB
set_option maxRecDepth 100000 in
theorem qs_10 (hP : va_P D vwCl (csQ ct A x) H) : va_P D vwCl (cs8 ct (fun i => A (87 + i)) (x 10)) H := hP.sub [87, 88, 89] rfl
set_option maxRecDepth 100000 in
theorem qa_10 {y : Nat → Ob} {o1 : Ob} : ∀ q, wA (cs8 ct (fun i => A (87 + i)) o1) q → wA (csQ ct A y) q := fun q h => wA_Q (x := (va_up y 10 o1)) (y := y) q (wA_sub (w2 := csQ ct A (va_up y 10 o1)) [87, 88, 89] rfl q h)
set_option maxRecDepth 100000 in
theorem qj_10 {o1 : Ob} (hP : va_P D vwCl (csQ ct A x) H) (hD : va_D A0 (csQ ct A x)) (hk : ∀ q : Nat, q < H.size → ¬ wA (cs8 ct (fun i => A (87 + i)) (x 10)) q → H1[q]? = H[q]?) (hB : va_P D vwCl (cs8 ct (fun i => A (87 + i)) o1) H1) : va_P D vwCl (csQ ct A (va_up x 10 o1)) H1 := P_join hP hD [87, 88, 89] rfl rfl hk hB
set_option maxRecDepth 100000 in
theorem qs_11 (hP : va_P D vwCl (csQ ct A x) H) : va_P D vwCl (cs8 ct (fun i => A (90 + i)) (x 11)) H := hP.sub [90, 91, 92] rfl
set_option maxRecDepth 100000 in
theorem qa_11 {y : Nat → Ob} {o1 : Ob} : ∀ q, wA (cs8 ct (fun i => A (90 + i)) o1) q → wA (csQ ct A y) q := fun q h => wA_Q (x := (va_up y 11 o1)) (y := y) q (wA_sub (w2 := csQ ct A (va_up y 11 o1)) [90, 91, 92] rfl q h)
set_option maxRecDepth 100000 in
theorem qj_11 {o1 : Ob} (hP : va_P D vwCl (csQ ct A x) H) (hD : va_D A0 (csQ ct A x)) (hk : ∀ q : Nat, q < H.size → ¬ wA (cs8 ct (fun i => A (90 + i)) (x 11)) q → H1[q]? = H[q]?) (hB : va_P D vwCl (cs8 ct (fun i => A (90 + i)) o1) H1) : va_P D vwCl (csQ ct A (va_up x 11 o1)) H1 := P_join hP hD [90, 91, 92] rfl rfl hk hB
set_option maxRecDepth 100000 in
theorem qs_12 (hP : va_P D vwCl (csQ ct A x) H) : va_P D vwCl (cs5 ct (fun i => A (93 + i)) (x 12)) H := hP.sub [93, 94] rfl
set_option maxRecDepth 100000 in
theorem qa_12 {y : Nat → Ob} {o1 : Ob} : ∀ q, wA (cs5 ct (fun i => A (93 + i)) o1) q → wA (csQ ct A y) q := fun q h => wA_Q (x := (va_up y 12 o1)) (y := y) q (wA_sub (w2 := csQ ct A (va_up y 12 o1)) [93, 94] rfl q h)
set_option maxRecDepth 100000 in
theorem qj_12 {o1 : Ob} (hP : va_P D vwCl (csQ ct A x) H) (hD : va_D A0 (csQ ct A x)) (hk : ∀ q : Nat, q < H.size → ¬ wA (cs5 ct (fun i => A (93 + i)) (x 12)) q → H1[q]? = H[q]?) (hB : va_P D vwCl (cs5 ct (fun i => A (93 + i)) o1) H1) : va_P D vwCl (csQ ct A (va_up x 12 o1)) H1 := P_join hP hD [93, 94] rfl rfl hk hB
set_option maxRecDepth 100000 in
theorem qs_13 (hP : va_P D vwCl (csQ ct A x) H) : va_P D vwCl (cs5 ct (fun i => A (95 + i)) (x 13)) H := hP.sub [95, 96] rfl
set_option maxRecDepth 100000 in
theorem qa_13 {y : Nat → Ob} {o1 : Ob} : ∀ q, wA (cs5 ct (fun i => A (95 + i)) o1) q → wA (csQ ct A y) q := fun q h => wA_Q (x := (va_up y 13 o1)) (y := y) q (wA_sub (w2 := csQ ct A (va_up y 13 o1)) [95, 96] rfl q h)
set_option maxRecDepth 100000 in
theorem qj_13 {o1 : Ob} (hP : va_P D vwCl (csQ ct A x) H) (hD : va_D A0 (csQ ct A x)) (hk : ∀ q : Nat, q < H.size → ¬ wA (cs5 ct (fun i => A (95 + i)) (x 13)) q → H1[q]? = H[q]?) (hB : va_P D vwCl (cs5 ct (fun i => A (95 + i)) o1) H1) : va_P D vwCl (csQ ct A (va_up x 13 o1)) H1 := P_join hP hD [95, 96] rfl rfl hk hB
set_option maxRecDepth 100000 in
theorem qs_14 (hP : va_P D vwCl (csQ ct A x) H) : va_P D vwCl (cs3 ct (fun i => A (98 + i)) (x 14)) H := hP.sub [98, 99] rfl
set_option maxRecDepth 100000 in
theorem qa_14 {y : Nat → Ob} {o1 : Ob} : ∀ q, wA (cs3 ct (fun i => A (98 + i)) o1) q → wA (csQ ct A y) q := fun q h => wA_Q (x := (va_up y 14 o1)) (y := y) q (wA_sub (w2 := csQ ct A (va_up y 14 o1)) [98, 99] rfl q h)
set_option maxRecDepth 100000 in
theorem qj_14 {o1 : Ob} (hP : va_P D vwCl (csQ ct A x) H) (hD : va_D A0 (csQ ct A x)) (hk : ∀ q : Nat, q < H.size → ¬ wA (cs3 ct (fun i => A (98 + i)) (x 14)) q → H1[q]? = H[q]?) (hB : va_P D vwCl (cs3 ct (fun i => A (98 + i)) o1) H1) : va_P D vwCl (csQ ct A (va_up x 14 o1)) H1 := P_join hP hD [98, 99] rfl rfl hk hB
set_option maxRecDepth 100000 in
theorem qs_15 (hP : va_P D vwCl (csQ ct A x) H) : va_P D vwCl (cs3 ct (fun i => A (100 + i)) (x 15)) H := hP.sub [100, 101] rfl
set_option maxRecDepth 100000 in
theorem qa_15 {y : Nat → Ob} {o1 : Ob} : ∀ q, wA (cs3 ct (fun i => A (100 + i)) o1) q → wA (csQ ct A y) q := fun q h => wA_Q (x := (va_up y 15 o1)) (y := y) q (wA_sub (w2 := csQ ct A (va_up y 15 o1)) [100, 101] rfl q h)
set_option maxRecDepth 100000 in
theorem qj_15 {o1 : Ob} (hP : va_P D vwCl (csQ ct A x) H) (hD : va_D A0 (csQ ct A x)) (hk : ∀ q : Nat, q < H.size → ¬ wA (cs3 ct (fun i => A (100 + i)) (x 15)) q → H1[q]? = H[q]?) (hB : va_P D vwCl (cs3 ct (fun i => A (100 + i)) o1) H1) : va_P D vwCl (csQ ct A (va_up x 15 o1)) H1 := P_join hP hD [100, 101] rfl rfl hk hB
set_option maxRecDepth 100000 in
theorem qs_16 (hP : va_P D vwCl (csQ ct A x) H) : va_P D vwCl (cs3 ct (fun i => A (102 + i)) (x 16)) H := hP.sub [102, 103] rfl
set_option maxRecDepth 100000 in
theorem qa_16 {y : Nat → Ob} {o1 : Ob} : ∀ q, wA (cs3 ct (fun i => A (102 + i)) o1) q → wA (csQ ct A y) q := fun q h => wA_Q (x := (va_up y 16 o1)) (y := y) q (wA_sub (w2 := csQ ct A (va_up y 16 o1)) [102, 103] rfl q h)
set_option maxRecDepth 100000 in
theorem qj_16 {o1 : Ob} (hP : va_P D vwCl (csQ ct A x) H) (hD : va_D A0 (csQ ct A x)) (hk : ∀ q : Nat, q < H.size → ¬ wA (cs3 ct (fun i => A (102 + i)) (x 16)) q → H1[q]? = H[q]?) (hB : va_P D vwCl (cs3 ct (fun i => A (102 + i)) o1) H1) : va_P D vwCl (csQ ct A (va_up x 16 o1)) H1 := P_join hP hD [102, 103] rfl rfl hk hB
set_option maxRecDepth 100000 in
theorem qs_17 (hP : va_P D vwCl (csQ ct A x) H) : va_P D vwCl (cs3 ct (fun i => A (104 + i)) (x 17)) H := hP.sub [104, 105] rfl
set_option maxRecDepth 100000 in
theorem qa_17 {y : Nat → Ob} {o1 : Ob} : ∀ q, wA (cs3 ct (fun i => A (104 + i)) o1) q → wA (csQ ct A y) q := fun q h => wA_Q (x := (va_up y 17 o1)) (y := y) q (wA_sub (w2 := csQ ct A (va_up y 17 o1)) [104, 105] rfl q h)
set_option maxRecDepth 100000 in
theorem qj_17 {o1 : Ob} (hP : va_P D vwCl (csQ ct A x) H) (hD : va_D A0 (csQ ct A x)) (hk : ∀ q : Nat, q < H.size → ¬ wA (cs3 ct (fun i => A (104 + i)) (x 17)) q → H1[q]? = H[q]?) (hB : va_P D vwCl (cs3 ct (fun i => A (104 + i)) o1) H1) : va_P D vwCl (csQ ct A (va_up x 17 o1)) H1 := P_join hP hD [104, 105] rfl rfl hk hB
set_option maxRecDepth 100000 in
theorem qs_18 (hP : va_P D vwCl (csQ ct A x) H) : va_P D vwCl (cs4 ct (fun i => A (106 + i)) (x 18)) H := hP.sub [106, 107] rfl
set_option maxRecDepth 100000 in
theorem qa_18 {y : Nat → Ob} {o1 : Ob} : ∀ q, wA (cs4 ct (fun i => A (106 + i)) o1) q → wA (csQ ct A y) q := fun q h => wA_Q (x := (va_up y 18 o1)) (y := y) q (wA_sub (w2 := csQ ct A (va_up y 18 o1)) [106, 107] rfl q h)
set_option maxRecDepth 100000 in
theorem qj_18 {o1 : Ob} (hP : va_P D vwCl (csQ ct A x) H) (hD : va_D A0 (csQ ct A x)) (hk : ∀ q : Nat, q < H.size → ¬ wA (cs4 ct (fun i => A (106 + i)) (x 18)) q → H1[q]? = H[q]?) (hB : va_P D vwCl (cs4 ct (fun i => A (106 + i)) o1) H1) : va_P D vwCl (csQ ct A (va_up x 18 o1)) H1 := P_join hP hD [106, 107] rfl rfl hk hB
set_option maxRecDepth 100000 in
theorem qs_19 (hP : va_P D vwCl (csQ ct A x) H) : va_P D vwCl (cs0 ct (fun i => A (chp (x 19) i)) (x 19)) H := hP.sub [108, 109, 110] rfl
set_option maxRecDepth 100000 in
theorem qa_19 {y : Nat → Ob} : ∀ q, wA (cs0 ct (fun i => A (chp (x 19) i)) (x 19)) q → wA (csQ ct A y) q := fun q h => wA_Q x y q (wA_sub [108, 109, 110] rfl q h)
set_option maxRecDepth 100000 in
theorem qj_19a {o1 : Ob} (hP : va_P D vwCl (csQ ct A x) H) (hD : va_D A0 (csQ ct A x)) (hc : o1.1 4 0 = 0 ↔ (x 19).1 4 0 = 0) (hk : ∀ q : Nat, q < H.size → ¬ wA (cs0 ct (fun i => A (chp (x 19) i)) (x 19)) q → H1[q]? = H[q]?) (hB : va_P D vwCl (cs0 ct (fun i => A (chp (x 19) i)) o1) H1) : va_P D vwCl (csQ ct A (va_up x 19 o1)) H1 := by
  have e : (fun i => A (chp (x 19) i)) = (fun i => A (chp o1 i)) := by
    funext i
    match i with
    | 0 => rfl
    | 1 => by_cases h : (x 19).1 4 0 = 0 <;> simp [chp, h, hc]
    | 2 => by_cases h : (x 19).1 4 0 = 0 <;> simp [chp, h, hc]
    | i + 3 => rfl
  rw [e] at hB
  exact P_join hP hD [108, 109, 110] rfl rfl hk hB
set_option maxRecDepth 100000 in
theorem qj_19b {o1 : Ob} (hP : va_P D vwCl (csQ ct A x) H) (hD : va_D A0 (csQ ct A x)) (hc : o1.1 4 0 = 0 ↔ ¬ ((x 19).1 4 0 = 0)) (hk : ∀ q : Nat, q < H.size → ¬ wA (cs0 ct (fun i => A (chp (x 19) i)) (x 19)) q → H1[q]? = H[q]?) (hB : va_P D vwCl (cs0 ct (swp (fun i => A (chp (x 19) i))) o1) H1) : va_P D vwCl (csQ ct A (va_up x 19 o1)) H1 := by
  have e : (swp (fun i => A (chp (x 19) i))) = (fun i => A (chp o1 i)) := by
    funext i
    match i with
    | 0 => rfl
    | 1 => by_cases h : (x 19).1 4 0 = 0 <;> simp [swp, chp, h, hc]
    | 2 => by_cases h : (x 19).1 4 0 = 0 <;> simp [swp, chp, h, hc]
    | i + 3 => simp [swp, chp]
  rw [e] at hB
  exact P_join hP hD [108, 109, 110] rfl rfl hk hB
set_option maxRecDepth 100000 in
theorem qrow_s {j : Nat} (hj : j < 4) (hP : va_P D vwCl (csQ ct A x) H) : va_P D vwCl (cs3 ct (fun i => A (98 + 2 * j + i)) (x (14 + j))) H := by
  match j, hj with
  | 0, _ => exact hP.sub [98, 99] rfl
  | 1, _ => exact hP.sub [100, 101] rfl
  | 2, _ => exact hP.sub [102, 103] rfl
  | 3, _ => exact hP.sub [104, 105] rfl
  | j + 4, h => exact absurd h (by omega)
set_option maxRecDepth 100000 in
theorem qrow_d {j : Nat} (hj : j < 4) (hD : va_D A0 (csQ ct A x)) : va_D A0 (cs3 ct (fun i => A (98 + 2 * j + i)) (x (14 + j))) := by
  match j, hj with
  | 0, _ => exact hD.sub [98, 99] (by decide) rfl
  | 1, _ => exact hD.sub [100, 101] (by decide) rfl
  | 2, _ => exact hD.sub [102, 103] (by decide) rfl
  | 3, _ => exact hD.sub [104, 105] (by decide) rfl
  | j + 4, h => exact absurd h (by omega)
set_option maxRecDepth 100000 in
theorem qrow_a {j : Nat} (hj : j < 4) {y : Nat → Ob} {o1 : Ob} : ∀ q, wA (cs3 ct (fun i => A (98 + 2 * j + i)) o1) q → wA (csQ ct A y) q := by
  match j, hj with
  | 0, _ => exact fun q h => wA_Q (va_up y 14 o1) y q (wA_sub (w2 := csQ ct A (va_up y 14 o1)) [98, 99] rfl q h)
  | 1, _ => exact fun q h => wA_Q (va_up y 15 o1) y q (wA_sub (w2 := csQ ct A (va_up y 15 o1)) [100, 101] rfl q h)
  | 2, _ => exact fun q h => wA_Q (va_up y 16 o1) y q (wA_sub (w2 := csQ ct A (va_up y 16 o1)) [102, 103] rfl q h)
  | 3, _ => exact fun q h => wA_Q (va_up y 17 o1) y q (wA_sub (w2 := csQ ct A (va_up y 17 o1)) [104, 105] rfl q h)
  | j + 4, h => exact absurd h (by omega)
set_option maxRecDepth 100000 in
theorem qrow_j {j : Nat} (hj : j < 4) {o1 : Ob} (hP : va_P D vwCl (csQ ct A x) H) (hD : va_D A0 (csQ ct A x)) (hk : ∀ q : Nat, q < H.size → ¬ wA (cs3 ct (fun i => A (98 + 2 * j + i)) (x (14 + j))) q → H1[q]? = H[q]?) (hB : va_P D vwCl (cs3 ct (fun i => A (98 + 2 * j + i)) o1) H1) : va_P D vwCl (csQ ct A (va_up x (14 + j) o1)) H1 := by
  match j, hj with
  | 0, _ => exact P_join hP hD [98, 99] rfl rfl hk hB
  | 1, _ => exact P_join hP hD [100, 101] rfl rfl hk hB
  | 2, _ => exact P_join hP hD [102, 103] rfl rfl hk hB
  | 3, _ => exact P_join hP hD [104, 105] rfl rfl hk hB
  | j + 4, h => exact absurd h (by omega)
set_option maxRecDepth 100000 in
theorem qimg_s {j : Nat} (hj : j < 3) (hP : va_P D vwCl (csQ ct A x) H) : va_P D vwCl (cs2 ct (fun i => A (48 + 13 * j + i)) (x (7 + j))) H := by
  match j, hj with
  | 0, _ => exact hP.sub [48, 49, 50, 51, 52, 53, 54, 55, 56, 57, 58, 59, 60] rfl
  | 1, _ => exact hP.sub [61, 62, 63, 64, 65, 66, 67, 68, 69, 70, 71, 72, 73] rfl
  | 2, _ => exact hP.sub [74, 75, 76, 77, 78, 79, 80, 81, 82, 83, 84, 85, 86] rfl
  | j + 3, h => exact absurd h (by omega)
set_option maxRecDepth 100000 in
theorem qimg_d {j : Nat} (hj : j < 3) (hD : va_D A0 (csQ ct A x)) : va_D A0 (cs2 ct (fun i => A (48 + 13 * j + i)) (x (7 + j))) := by
  match j, hj with
  | 0, _ => exact hD.sub [48, 49, 50, 51, 52, 53, 54, 55, 56, 57, 58, 59, 60] (by decide) rfl
  | 1, _ => exact hD.sub [61, 62, 63, 64, 65, 66, 67, 68, 69, 70, 71, 72, 73] (by decide) rfl
  | 2, _ => exact hD.sub [74, 75, 76, 77, 78, 79, 80, 81, 82, 83, 84, 85, 86] (by decide) rfl
  | j + 3, h => exact absurd h (by omega)
set_option maxRecDepth 100000 in
theorem qimg_a {j : Nat} (hj : j < 3) {y : Nat → Ob} {o1 : Ob} : ∀ q, wA (cs2 ct (fun i => A (48 + 13 * j + i)) o1) q → wA (csQ ct A y) q := by
  match j, hj with
  | 0, _ => exact fun q h => wA_Q (va_up y 7 o1) y q (wA_sub (w2 := csQ ct A (va_up y 7 o1)) [48, 49, 50, 51, 52, 53, 54, 55, 56, 57, 58, 59, 60] rfl q h)
  | 1, _ => exact fun q h => wA_Q (va_up y 8 o1) y q (wA_sub (w2 := csQ ct A (va_up y 8 o1)) [61, 62, 63, 64, 65, 66, 67, 68, 69, 70, 71, 72, 73] rfl q h)
  | 2, _ => exact fun q h => wA_Q (va_up y 9 o1) y q (wA_sub (w2 := csQ ct A (va_up y 9 o1)) [74, 75, 76, 77, 78, 79, 80, 81, 82, 83, 84, 85, 86] rfl q h)
  | j + 3, h => exact absurd h (by omega)
set_option maxRecDepth 100000 in
theorem qimg_j {j : Nat} (hj : j < 3) {o1 : Ob} (hP : va_P D vwCl (csQ ct A x) H) (hD : va_D A0 (csQ ct A x)) (hk : ∀ q : Nat, q < H.size → ¬ wA (cs2 ct (fun i => A (48 + 13 * j + i)) (x (7 + j))) q → H1[q]? = H[q]?) (hB : va_P D vwCl (cs2 ct (fun i => A (48 + 13 * j + i)) o1) H1) : va_P D vwCl (csQ ct A (va_up x (7 + j) o1)) H1 := by
  match j, hj with
  | 0, _ => exact P_join hP hD [48, 49, 50, 51, 52, 53, 54, 55, 56, 57, 58, 59, 60] rfl rfl hk hB
  | 1, _ => exact P_join hP hD [61, 62, 63, 64, 65, 66, 67, 68, 69, 70, 71, 72, 73] rfl rfl hk hB
  | 2, _ => exact P_join hP hD [74, 75, 76, 77, 78, 79, 80, 81, 82, 83, 84, 85, 86] rfl rfl hk hB
  | j + 3, h => exact absurd h (by omega)
set_option maxRecDepth 100000 in
theorem qrow_at0 {j : Nat} (hj : j < 4) : (csQ ct A x)[98 + 2 * j]? = some (A (98 + 2 * j), .inr (3, [.int ((x (14 + j)).1 0 0), .int ((x (14 + j)).1 1 0), .int ((x (14 + j)).1 2 0), .ref (A (98 + 2 * j + 1))])) := by
  match j, hj with
  | 0, _ => exact rfl
  | 1, _ => exact rfl
  | 2, _ => exact rfl
  | 3, _ => exact rfl
  | j + 4, h => exact absurd h (by omega)
set_option maxRecDepth 100000 in
theorem qrow_at1 {j : Nat} (hj : j < 4) : (csQ ct A x)[98 + 2 * j + 1]? = some (A (98 + 2 * j + 1), .inl (ct 1, 60, .inr (.inl ((x (14 + j)).2 3)))) := by
  match j, hj with
  | 0, _ => exact rfl
  | 1, _ => exact rfl
  | 2, _ => exact rfl
  | 3, _ => exact rfl
  | j + 4, h => exact absurd h (by omega)
set_option maxRecDepth 100000 in
theorem qimg_d2 {j : Nat} (hj : j < 3) (hD : va_D A0 (csQ ct A x)) : va_D A0 (cs2 ct (fun i => A (48 + 13 * j + i)) (x (7 + j)) ++ (cs2 ct (fun i => A (21 + i)) (x 5))) := by
  match j, hj with
  | 0, _ => exact hD.sub [48, 49, 50, 51, 52, 53, 54, 55, 56, 57, 58, 59, 60, 21, 22, 23, 24, 25, 26, 27, 28, 29, 30, 31, 32, 33] (by decide) rfl
  | 1, _ => exact hD.sub [61, 62, 63, 64, 65, 66, 67, 68, 69, 70, 71, 72, 73, 21, 22, 23, 24, 25, 26, 27, 28, 29, 30, 31, 32, 33] (by decide) rfl
  | 2, _ => exact hD.sub [74, 75, 76, 77, 78, 79, 80, 81, 82, 83, 84, 85, 86, 21, 22, 23, 24, 25, 26, 27, 28, 29, 30, 31, 32, 33] (by decide) rfl
  | j + 3, h => exact absurd h (by omega)
set_option maxRecDepth 100000 in
theorem qimg_dr {j : Nat} (hj : j < 3) (hD : va_D A0 (csQ ct A x)) : va_D A0 (cs2 ct (fun i => A (21 + i)) (x 5) ++ (cs2 ct (fun i => A (48 + 13 * j + i)) (x (7 + j)))) := by
  match j, hj with
  | 0, _ => exact hD.sub [21, 22, 23, 24, 25, 26, 27, 28, 29, 30, 31, 32, 33, 48, 49, 50, 51, 52, 53, 54, 55, 56, 57, 58, 59, 60] (by decide) rfl
  | 1, _ => exact hD.sub [21, 22, 23, 24, 25, 26, 27, 28, 29, 30, 31, 32, 33, 61, 62, 63, 64, 65, 66, 67, 68, 69, 70, 71, 72, 73] (by decide) rfl
  | 2, _ => exact hD.sub [21, 22, 23, 24, 25, 26, 27, 28, 29, 30, 31, 32, 33, 74, 75, 76, 77, 78, 79, 80, 81, 82, 83, 84, 85, 86] (by decide) rfl
  | j + 3, h => exact absurd h (by omega)
end QL
