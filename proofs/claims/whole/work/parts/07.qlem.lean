/-! ===== the whole class: its objects in its world ===== -/
section QL
variable {ct : Nat → ClassId} {A : Nat → Nat} {x : Nat → Ob} {D : va_G} {H H1 : Heap} {A0 : Nat → Prop} {G : GT}
theorem wA_mem {ws : va_W} {q : Nat} : wA ws q ↔ q ∈ ws.map Prod.fst := by
  constructor
  · rintro ⟨k, e, hk⟩
    exact List.mem_map.mpr ⟨(q, e), List.mem_of_getElem? hk, rfl⟩
  · intro h
    obtain ⟨p, hp, rfl⟩ := List.mem_map.mp h
    obtain ⟨k, hk⟩ := List.getElem?_of_mem hp
    exact ⟨k, p.2, hk⟩
theorem D_perm {w1 w2 : va_W} {A0 : Nat → Prop} (h : va_D A0 w1) (is : List Nat) (hn : va_nd is = true) (hw : is.map (fun i => (w1.map Prod.fst)[i]?) = (w2.map Prod.fst).map some) : va_D A0 w2 := by
  have key : ∀ (k : Nat) (q : Nat × va_E), w2[k]? = some q → ∃ (i : Nat) (p : Nat × va_E), is[k]? = some i ∧ w1[i]? = some p ∧ p.1 = q.1 := by
    intro k q hk
    have h1 : ((w2.map Prod.fst).map some)[k]? = some (some q.1) := by rw [List.getElem?_map, List.getElem?_map, hk]; rfl
    rw [← hw, List.getElem?_map] at h1
    obtain ⟨i, hi, e⟩ := Option.map_eq_some_iff.mp h1
    rw [List.getElem?_map] at e
    obtain ⟨p, hp, ep⟩ := Option.map_eq_some_iff.mp e
    exact ⟨i, p, hi, hp, ep⟩
  refine ⟨fun i j p q hi hj he => ?_, fun k q hk => ?_⟩
  · obtain ⟨a1, p', ha, hp', ep⟩ := key i p hi
    obtain ⟨a2, q', hb, hq', eq⟩ := key j q hj
    have e := h.1 a1 a2 p' q' hp' hq' (by rw [ep, eq, he])
    subst e
    exact va_nd_inj is hn i j a1 ha hb
  · obtain ⟨i, p, -, hp, ep⟩ := key k q hk
    rw [← ep]
    exact h.2 i p hp
def qfst (A : Nat → Nat) (o : Ob) : List Nat := [A 0, A 1, A 2, A 3, A 4, A 5, A 6, A 7, A 8, A 9, A 10, A 11, A 12, A 13, A 14, A 15, A 16, A 17, A 18, A 19, A 20, A 21, A 22, A 23, A 24, A 25, A 26, A 27, A 28, A 29, A 30, A 31, A 32, A 33, A 34, A 35, A 36, A 37, A 38, A 39, A 40, A 41, A 42, A 43, A 44, A 45, A 46, A 47, A 48, A 49, A 50, A 51, A 52, A 53, A 54, A 55, A 56, A 57, A 58, A 59, A 60, A 61, A 62, A 63, A 64, A 65, A 66, A 67, A 68, A 69, A 70, A 71, A 72, A 73, A 74, A 75, A 76, A 77, A 78, A 79, A 80, A 81, A 82, A 83, A 84, A 85, A 86, A 87, A 88, A 89, A 90, A 91, A 92, A 93, A 94, A 95, A 96, A 97, A 98, A 99, A 100, A 101, A 102, A 103, A 104, A 105, A 106, A 107, A 108, A (chp o 1), A (chp o 2), A 111]
set_option maxRecDepth 100000 in
theorem csQ_fst : (csQ ct A x).map Prod.fst = qfst A (x 19) := rfl
theorem wA_Q {ct : Nat → ClassId} {A : Nat → Nat} (x y : Nat → Ob) : ∀ q, wA (csQ ct A x) q → wA (csQ ct A y) q := by
  intro q h
  rw [wA_mem, csQ_fst] at h ⊢
  have e : ∀ o : Ob, q ∈ qfst A o ↔ (q ∈ [A 0, A 1, A 2, A 3, A 4, A 5, A 6, A 7, A 8, A 9, A 10, A 11, A 12, A 13, A 14, A 15, A 16, A 17, A 18, A 19, A 20, A 21, A 22, A 23, A 24, A 25, A 26, A 27, A 28, A 29, A 30, A 31, A 32, A 33, A 34, A 35, A 36, A 37, A 38, A 39, A 40, A 41, A 42, A 43, A 44, A 45, A 46, A 47, A 48, A 49, A 50, A 51, A 52, A 53, A 54, A 55, A 56, A 57, A 58, A 59, A 60, A 61, A 62, A 63, A 64, A 65, A 66, A 67, A 68, A 69, A 70, A 71, A 72, A 73, A 74, A 75, A 76, A 77, A 78, A 79, A 80, A 81, A 82, A 83, A 84, A 85, A 86, A 87, A 88, A 89, A 90, A 91, A 92, A 93, A 94, A 95, A 96, A 97, A 98, A 99, A 100, A 101, A 102, A 103, A 104, A 105, A 106, A 107, A 108] ∨ q = A 109 ∨ q = A 110 ∨ q = A 111) := by
    intro o
    have e2 : qfst A o = [A 0, A 1, A 2, A 3, A 4, A 5, A 6, A 7, A 8, A 9, A 10, A 11, A 12, A 13, A 14, A 15, A 16, A 17, A 18, A 19, A 20, A 21, A 22, A 23, A 24, A 25, A 26, A 27, A 28, A 29, A 30, A 31, A 32, A 33, A 34, A 35, A 36, A 37, A 38, A 39, A 40, A 41, A 42, A 43, A 44, A 45, A 46, A 47, A 48, A 49, A 50, A 51, A 52, A 53, A 54, A 55, A 56, A 57, A 58, A 59, A 60, A 61, A 62, A 63, A 64, A 65, A 66, A 67, A 68, A 69, A 70, A 71, A 72, A 73, A 74, A 75, A 76, A 77, A 78, A 79, A 80, A 81, A 82, A 83, A 84, A 85, A 86, A 87, A 88, A 89, A 90, A 91, A 92, A 93, A 94, A 95, A 96, A 97, A 98, A 99, A 100, A 101, A 102, A 103, A 104, A 105, A 106, A 107, A 108] ++ [A (chp o 1), A (chp o 2), A 111] := rfl
    rw [e2, List.mem_append]
    by_cases h0 : o.1 4 0 = 0
    · have e3 : chp o 1 = 109 := if_pos h0
      have e4 : chp o 2 = 110 := if_pos h0
      rw [e3, e4]
      simp only [List.mem_cons, List.not_mem_nil, or_false]
    · have e3 : chp o 1 = 110 := if_neg h0
      have e4 : chp o 2 = 109 := if_neg h0
      rw [e3, e4]
      simp only [List.mem_cons, List.not_mem_nil, or_false]
      constructor
      · rintro (h | h | h | h)
        · exact Or.inl h
        · exact Or.inr (Or.inr (Or.inl h))
        · exact Or.inr (Or.inl h)
        · exact Or.inr (Or.inr (Or.inr h))
      · rintro (h | h | h | h)
        · exact Or.inl h
        · exact Or.inr (Or.inr (Or.inl h))
        · exact Or.inr (Or.inl h)
        · exact Or.inr (Or.inr (Or.inr h))
  exact (e _).mpr ((e _).mp h)
theorem P_seg {w1 w2 w3 w4 : va_W} {cl : List vw_C} (hP : va_P D cl (w1 ++ (w2 ++ w3)) H) (hD : va_D A0 (w1 ++ (w2 ++ w3))) (hk : ∀ q : Nat, q < H.size → ¬ wA w2 q → H1[q]? = H[q]?) (hB : va_P D cl w4 H1) : va_P D cl (w1 ++ (w4 ++ w3)) H1 := by
  have key : ∀ (k : Nat) (q : Nat × va_E), (w1 ++ (w2 ++ w3))[k]? = some q → (k < w1.length ∨ w1.length + w2.length ≤ k) → H1[q.1]? = H[q.1]? := by
    intro k q hq hkk
    refine hk q.1 (hP k q hq).lt ?_
    rintro ⟨j, e, hj⟩
    have hj1 := (List.getElem?_eq_some_iff.mp hj).1
    have := hD.1 k (w1.length + j) q (q.1, e) hq (by rw [List.getElem?_append_right (Nat.le_add_right _ _), Nat.add_sub_cancel_left, List.getElem?_append_left hj1]; exact hj) rfl
    omega
  refine va_P.app (fun k q hq => ?_) (va_P.app hB (fun k q hq => ?_))
  · have hl := (List.getElem?_eq_some_iff.mp hq).1
    have h1 : (w1 ++ (w2 ++ w3))[k]? = some q := by rw [List.getElem?_append_left hl]; exact hq
    exact (hP k q h1).kept (key k q h1 (Or.inl hl))
  · have h1 : (w1 ++ (w2 ++ w3))[w1.length + (w2.length + k)]? = some q := by
      rw [List.getElem?_append_right (Nat.le_add_right _ _), Nat.add_sub_cancel_left, List.getElem?_append_right (Nat.le_add_right _ _), Nat.add_sub_cancel_left]
      exact hq
    exact (hP _ q h1).kept (key _ q h1 (Or.inr (by omega)))
theorem D_mid {w1 w2 w3 : va_W} (hD : va_D A0 (w1 ++ (w2 ++ w3))) : va_D A0 w2 := by
  have key : ∀ (k : Nat) (q : Nat × va_E), w2[k]? = some q → (w1 ++ (w2 ++ w3))[w1.length + k]? = some q := by
    intro k q hk
    rw [List.getElem?_append_right (Nat.le_add_right _ _), Nat.add_sub_cancel_left, List.getElem?_append_left (List.getElem?_eq_some_iff.mp hk).1]
    exact hk
  refine ⟨fun i j p q hi hj he => ?_, fun k q hk => hD.2 _ q (key k q hk)⟩
  have := hD.1 _ _ p q (key i p hi) (key j q hj) he
  omega
theorem wA_seg {w1 w2 w3 : va_W} : ∀ q, wA w2 q → wA (w1 ++ (w2 ++ w3)) q := by
  rintro q ⟨k, e, hk⟩
  exact ⟨w1.length + k, e, by rw [List.getElem?_append_right (Nat.le_add_right _ _), Nat.add_sub_cancel_left, List.getElem?_append_left (List.getElem?_eq_some_iff.mp hk).1]; exact hk⟩
def qp_1 (ct : Nat → ClassId) (A : Nat → Nat) (x : Nat → Ob) : va_W := [(A 0, .inr (9, [.ref (A 1), .ref (A 3), .ref (A 21), .ref (A 34), .ref (A 47), .int ((x 0).1 5 0), .ref (A 87), .ref (A 90), .ref (A 93), .ref (A 95), .ref (A 97), .ref (A 106), .ref (A 108), .ref (A 111)]))]
def qu_1 (ct : Nat → ClassId) (A : Nat → Nat) (x : Nat → Ob) : va_W := cs1 ct (fun i => A (3 + i)) (x 2) (x 3) (x 4) ++ (cs2 ct (fun i => A (21 + i)) (x 5) ++ (cs2 ct (fun i => A (34 + i)) (x 6) ++ ([(A 47, .inl (ct 4, 3, .inr (.inr (.inr (.inr (fun j => some (A (48 + 13 * j))))))))] ++ (cs2 ct (fun i => A (48 + i)) (x 7) ++ (cs2 ct (fun i => A (61 + i)) (x 8) ++ (cs2 ct (fun i => A (74 + i)) (x 9) ++ (cs8 ct (fun i => A (87 + i)) (x 10) ++ (cs8 ct (fun i => A (90 + i)) (x 11) ++ (cs5 ct (fun i => A (93 + i)) (x 12) ++ (cs5 ct (fun i => A (95 + i)) (x 13) ++ ([(A 97, .inl (ct 5, 4, .inr (.inr (.inr (.inr (fun j => some (A (98 + 2 * j))))))))] ++ (cs3 ct (fun i => A (98 + i)) (x 14) ++ (cs3 ct (fun i => A (100 + i)) (x 15) ++ (cs3 ct (fun i => A (102 + i)) (x 16) ++ (cs3 ct (fun i => A (104 + i)) (x 17) ++ (cs4 ct (fun i => A (106 + i)) (x 18) ++ (cs0 ct (fun i => A (chp (x 19) i)) (x 19) ++ ([(A 111, .inl (ct 0, 61, .inl ((x 0).1 13)))]))))))))))))))))))
set_option maxRecDepth 100000 in
theorem qc_1 : csQ ct A x = qp_1 ct A x ++ (cs6 ct (fun i => A (1 + i)) (x 1) ++ qu_1 ct A x) := by
  unfold csQ qp_1 qu_1
  simp only [List.append_assoc, List.cons_append, List.nil_append]
theorem qs_1 (hP : va_P D vwCl (csQ ct A x) H) : va_P D vwCl (cs6 ct (fun i => A (1 + i)) (x 1)) H := by
  rw [qc_1] at hP
  exact P_left (P_right hP)
set_option maxRecDepth 100000 in
theorem qa_1 {y : Nat → Ob} {o1 : Ob} : ∀ q, wA (cs6 ct (fun i => A (1 + i)) o1) q → wA (csQ ct A y) q := fun q h => wA_Q (x := (va_up y 1 o1)) (y := y) q (by rw [qc_1]; exact wA_seg q h)
set_option maxRecDepth 100000 in
theorem qj_1 {o1 : Ob} (hP : va_P D vwCl (csQ ct A x) H) (hD : va_D A0 (csQ ct A x)) (hk : ∀ q : Nat, q < H.size → ¬ wA (cs6 ct (fun i => A (1 + i)) (x 1)) q → H1[q]? = H[q]?) (hB : va_P D vwCl (cs6 ct (fun i => A (1 + i)) o1) H1) : va_P D vwCl (csQ ct A (va_up x 1 o1)) H1 := by
  rw [qc_1] at hP hD ⊢
  exact P_seg (w4 := cs6 ct (fun i => A (1 + i)) o1) hP hD hk hB
def qp_2 (ct : Nat → ClassId) (A : Nat → Nat) (x : Nat → Ob) : va_W := ([(A 0, .inr (9, [.ref (A 1), .ref (A 3), .ref (A 21), .ref (A 34), .ref (A 47), .int ((x 0).1 5 0), .ref (A 87), .ref (A 90), .ref (A 93), .ref (A 95), .ref (A 97), .ref (A 106), .ref (A 108), .ref (A 111)]))] ++ cs6 ct (fun i => A (1 + i)) (x 1))
def qu_2 (ct : Nat → ClassId) (A : Nat → Nat) (x : Nat → Ob) : va_W := cs2 ct (fun i => A (21 + i)) (x 5) ++ (cs2 ct (fun i => A (34 + i)) (x 6) ++ ([(A 47, .inl (ct 4, 3, .inr (.inr (.inr (.inr (fun j => some (A (48 + 13 * j))))))))] ++ (cs2 ct (fun i => A (48 + i)) (x 7) ++ (cs2 ct (fun i => A (61 + i)) (x 8) ++ (cs2 ct (fun i => A (74 + i)) (x 9) ++ (cs8 ct (fun i => A (87 + i)) (x 10) ++ (cs8 ct (fun i => A (90 + i)) (x 11) ++ (cs5 ct (fun i => A (93 + i)) (x 12) ++ (cs5 ct (fun i => A (95 + i)) (x 13) ++ ([(A 97, .inl (ct 5, 4, .inr (.inr (.inr (.inr (fun j => some (A (98 + 2 * j))))))))] ++ (cs3 ct (fun i => A (98 + i)) (x 14) ++ (cs3 ct (fun i => A (100 + i)) (x 15) ++ (cs3 ct (fun i => A (102 + i)) (x 16) ++ (cs3 ct (fun i => A (104 + i)) (x 17) ++ (cs4 ct (fun i => A (106 + i)) (x 18) ++ (cs0 ct (fun i => A (chp (x 19) i)) (x 19) ++ ([(A 111, .inl (ct 0, 61, .inl ((x 0).1 13)))])))))))))))))))))
set_option maxRecDepth 100000 in
theorem qc_2 : csQ ct A x = qp_2 ct A x ++ (cs1 ct (fun i => A (3 + i)) (x 2) (x 3) (x 4) ++ qu_2 ct A x) := by
  unfold csQ qp_2 qu_2
  simp only [List.append_assoc, List.cons_append, List.nil_append]
theorem qs_2 (hP : va_P D vwCl (csQ ct A x) H) : va_P D vwCl (cs1 ct (fun i => A (3 + i)) (x 2) (x 3) (x 4)) H := by
  rw [qc_2] at hP
  exact P_left (P_right hP)
set_option maxRecDepth 100000 in
theorem qa_2 {y : Nat → Ob} {o1 o2 o3 : Ob} : ∀ q, wA (cs1 ct (fun i => A (3 + i)) o1 o2 o3) q → wA (csQ ct A y) q := fun q h => wA_Q (x := (va_up (va_up (va_up y 2 o1) 3 o2) 4 o3)) (y := y) q (by rw [qc_2]; exact wA_seg q h)
set_option maxRecDepth 100000 in
theorem qj_2 {o1 o2 o3 : Ob} (hP : va_P D vwCl (csQ ct A x) H) (hD : va_D A0 (csQ ct A x)) (hk : ∀ q : Nat, q < H.size → ¬ wA (cs1 ct (fun i => A (3 + i)) (x 2) (x 3) (x 4)) q → H1[q]? = H[q]?) (hB : va_P D vwCl (cs1 ct (fun i => A (3 + i)) o1 o2 o3) H1) : va_P D vwCl (csQ ct A (va_up (va_up (va_up x 2 o1) 3 o2) 4 o3)) H1 := by
  rw [qc_2] at hP hD ⊢
  exact P_seg (w4 := cs1 ct (fun i => A (3 + i)) o1 o2 o3) hP hD hk hB
set_option maxRecDepth 100000 in
theorem qs_4 (hP : va_P D vwCl (csQ ct A x) H) : va_P D vwCl (cs2 ct (fun i => A (8 + i)) (x 4)) H := hP.sub [8, 9, 10, 11, 12, 13, 14, 15, 16, 17, 18, 19, 20] rfl
def qp_5 (ct : Nat → ClassId) (A : Nat → Nat) (x : Nat → Ob) : va_W := (([(A 0, .inr (9, [.ref (A 1), .ref (A 3), .ref (A 21), .ref (A 34), .ref (A 47), .int ((x 0).1 5 0), .ref (A 87), .ref (A 90), .ref (A 93), .ref (A 95), .ref (A 97), .ref (A 106), .ref (A 108), .ref (A 111)]))] ++ cs6 ct (fun i => A (1 + i)) (x 1)) ++ cs1 ct (fun i => A (3 + i)) (x 2) (x 3) (x 4))
def qu_5 (ct : Nat → ClassId) (A : Nat → Nat) (x : Nat → Ob) : va_W := cs2 ct (fun i => A (34 + i)) (x 6) ++ ([(A 47, .inl (ct 4, 3, .inr (.inr (.inr (.inr (fun j => some (A (48 + 13 * j))))))))] ++ (cs2 ct (fun i => A (48 + i)) (x 7) ++ (cs2 ct (fun i => A (61 + i)) (x 8) ++ (cs2 ct (fun i => A (74 + i)) (x 9) ++ (cs8 ct (fun i => A (87 + i)) (x 10) ++ (cs8 ct (fun i => A (90 + i)) (x 11) ++ (cs5 ct (fun i => A (93 + i)) (x 12) ++ (cs5 ct (fun i => A (95 + i)) (x 13) ++ ([(A 97, .inl (ct 5, 4, .inr (.inr (.inr (.inr (fun j => some (A (98 + 2 * j))))))))] ++ (cs3 ct (fun i => A (98 + i)) (x 14) ++ (cs3 ct (fun i => A (100 + i)) (x 15) ++ (cs3 ct (fun i => A (102 + i)) (x 16) ++ (cs3 ct (fun i => A (104 + i)) (x 17) ++ (cs4 ct (fun i => A (106 + i)) (x 18) ++ (cs0 ct (fun i => A (chp (x 19) i)) (x 19) ++ ([(A 111, .inl (ct 0, 61, .inl ((x 0).1 13)))]))))))))))))))))
set_option maxRecDepth 100000 in
theorem qc_5 : csQ ct A x = qp_5 ct A x ++ (cs2 ct (fun i => A (21 + i)) (x 5) ++ qu_5 ct A x) := by
  unfold csQ qp_5 qu_5
  simp only [List.append_assoc, List.cons_append, List.nil_append]
theorem qs_5 (hP : va_P D vwCl (csQ ct A x) H) : va_P D vwCl (cs2 ct (fun i => A (21 + i)) (x 5)) H := by
  rw [qc_5] at hP
  exact P_left (P_right hP)
set_option maxRecDepth 100000 in
theorem qa_5 {y : Nat → Ob} {o1 : Ob} : ∀ q, wA (cs2 ct (fun i => A (21 + i)) o1) q → wA (csQ ct A y) q := fun q h => wA_Q (x := (va_up y 5 o1)) (y := y) q (by rw [qc_5]; exact wA_seg q h)
set_option maxRecDepth 100000 in
theorem qj_5 {o1 : Ob} (hP : va_P D vwCl (csQ ct A x) H) (hD : va_D A0 (csQ ct A x)) (hk : ∀ q : Nat, q < H.size → ¬ wA (cs2 ct (fun i => A (21 + i)) (x 5)) q → H1[q]? = H[q]?) (hB : va_P D vwCl (cs2 ct (fun i => A (21 + i)) o1) H1) : va_P D vwCl (csQ ct A (va_up x 5 o1)) H1 := by
  rw [qc_5] at hP hD ⊢
  exact P_seg (w4 := cs2 ct (fun i => A (21 + i)) o1) hP hD hk hB
def qp_6 (ct : Nat → ClassId) (A : Nat → Nat) (x : Nat → Ob) : va_W := ((([(A 0, .inr (9, [.ref (A 1), .ref (A 3), .ref (A 21), .ref (A 34), .ref (A 47), .int ((x 0).1 5 0), .ref (A 87), .ref (A 90), .ref (A 93), .ref (A 95), .ref (A 97), .ref (A 106), .ref (A 108), .ref (A 111)]))] ++ cs6 ct (fun i => A (1 + i)) (x 1)) ++ cs1 ct (fun i => A (3 + i)) (x 2) (x 3) (x 4)) ++ cs2 ct (fun i => A (21 + i)) (x 5))
def qu_6 (ct : Nat → ClassId) (A : Nat → Nat) (x : Nat → Ob) : va_W := [(A 47, .inl (ct 4, 3, .inr (.inr (.inr (.inr (fun j => some (A (48 + 13 * j))))))))] ++ (cs2 ct (fun i => A (48 + i)) (x 7) ++ (cs2 ct (fun i => A (61 + i)) (x 8) ++ (cs2 ct (fun i => A (74 + i)) (x 9) ++ (cs8 ct (fun i => A (87 + i)) (x 10) ++ (cs8 ct (fun i => A (90 + i)) (x 11) ++ (cs5 ct (fun i => A (93 + i)) (x 12) ++ (cs5 ct (fun i => A (95 + i)) (x 13) ++ ([(A 97, .inl (ct 5, 4, .inr (.inr (.inr (.inr (fun j => some (A (98 + 2 * j))))))))] ++ (cs3 ct (fun i => A (98 + i)) (x 14) ++ (cs3 ct (fun i => A (100 + i)) (x 15) ++ (cs3 ct (fun i => A (102 + i)) (x 16) ++ (cs3 ct (fun i => A (104 + i)) (x 17) ++ (cs4 ct (fun i => A (106 + i)) (x 18) ++ (cs0 ct (fun i => A (chp (x 19) i)) (x 19) ++ ([(A 111, .inl (ct 0, 61, .inl ((x 0).1 13)))])))))))))))))))
set_option maxRecDepth 100000 in
theorem qc_6 : csQ ct A x = qp_6 ct A x ++ (cs2 ct (fun i => A (34 + i)) (x 6) ++ qu_6 ct A x) := by
  unfold csQ qp_6 qu_6
  simp only [List.append_assoc, List.cons_append, List.nil_append]
theorem qs_6 (hP : va_P D vwCl (csQ ct A x) H) : va_P D vwCl (cs2 ct (fun i => A (34 + i)) (x 6)) H := by
  rw [qc_6] at hP
  exact P_left (P_right hP)
set_option maxRecDepth 100000 in
theorem qa_6 {y : Nat → Ob} {o1 : Ob} : ∀ q, wA (cs2 ct (fun i => A (34 + i)) o1) q → wA (csQ ct A y) q := fun q h => wA_Q (x := (va_up y 6 o1)) (y := y) q (by rw [qc_6]; exact wA_seg q h)
set_option maxRecDepth 100000 in
theorem qj_6 {o1 : Ob} (hP : va_P D vwCl (csQ ct A x) H) (hD : va_D A0 (csQ ct A x)) (hk : ∀ q : Nat, q < H.size → ¬ wA (cs2 ct (fun i => A (34 + i)) (x 6)) q → H1[q]? = H[q]?) (hB : va_P D vwCl (cs2 ct (fun i => A (34 + i)) o1) H1) : va_P D vwCl (csQ ct A (va_up x 6 o1)) H1 := by
  rw [qc_6] at hP hD ⊢
  exact P_seg (w4 := cs2 ct (fun i => A (34 + i)) o1) hP hD hk hB
def qp_7 (ct : Nat → ClassId) (A : Nat → Nat) (x : Nat → Ob) : va_W := ((((([(A 0, .inr (9, [.ref (A 1), .ref (A 3), .ref (A 21), .ref (A 34), .ref (A 47), .int ((x 0).1 5 0), .ref (A 87), .ref (A 90), .ref (A 93), .ref (A 95), .ref (A 97), .ref (A 106), .ref (A 108), .ref (A 111)]))] ++ cs6 ct (fun i => A (1 + i)) (x 1)) ++ cs1 ct (fun i => A (3 + i)) (x 2) (x 3) (x 4)) ++ cs2 ct (fun i => A (21 + i)) (x 5)) ++ cs2 ct (fun i => A (34 + i)) (x 6)) ++ [(A 47, .inl (ct 4, 3, .inr (.inr (.inr (.inr (fun j => some (A (48 + 13 * j))))))))])
def qu_7 (ct : Nat → ClassId) (A : Nat → Nat) (x : Nat → Ob) : va_W := cs2 ct (fun i => A (61 + i)) (x 8) ++ (cs2 ct (fun i => A (74 + i)) (x 9) ++ (cs8 ct (fun i => A (87 + i)) (x 10) ++ (cs8 ct (fun i => A (90 + i)) (x 11) ++ (cs5 ct (fun i => A (93 + i)) (x 12) ++ (cs5 ct (fun i => A (95 + i)) (x 13) ++ ([(A 97, .inl (ct 5, 4, .inr (.inr (.inr (.inr (fun j => some (A (98 + 2 * j))))))))] ++ (cs3 ct (fun i => A (98 + i)) (x 14) ++ (cs3 ct (fun i => A (100 + i)) (x 15) ++ (cs3 ct (fun i => A (102 + i)) (x 16) ++ (cs3 ct (fun i => A (104 + i)) (x 17) ++ (cs4 ct (fun i => A (106 + i)) (x 18) ++ (cs0 ct (fun i => A (chp (x 19) i)) (x 19) ++ ([(A 111, .inl (ct 0, 61, .inl ((x 0).1 13)))])))))))))))))
set_option maxRecDepth 100000 in
theorem qc_7 : csQ ct A x = qp_7 ct A x ++ (cs2 ct (fun i => A (48 + i)) (x 7) ++ qu_7 ct A x) := by
  unfold csQ qp_7 qu_7
  simp only [List.append_assoc, List.cons_append, List.nil_append]
theorem qs_7 (hP : va_P D vwCl (csQ ct A x) H) : va_P D vwCl (cs2 ct (fun i => A (48 + i)) (x 7)) H := by
  rw [qc_7] at hP
  exact P_left (P_right hP)
set_option maxRecDepth 100000 in
theorem qa_7 {y : Nat → Ob} {o1 : Ob} : ∀ q, wA (cs2 ct (fun i => A (48 + i)) o1) q → wA (csQ ct A y) q := fun q h => wA_Q (x := (va_up y 7 o1)) (y := y) q (by rw [qc_7]; exact wA_seg q h)
set_option maxRecDepth 100000 in
theorem qj_7 {o1 : Ob} (hP : va_P D vwCl (csQ ct A x) H) (hD : va_D A0 (csQ ct A x)) (hk : ∀ q : Nat, q < H.size → ¬ wA (cs2 ct (fun i => A (48 + i)) (x 7)) q → H1[q]? = H[q]?) (hB : va_P D vwCl (cs2 ct (fun i => A (48 + i)) o1) H1) : va_P D vwCl (csQ ct A (va_up x 7 o1)) H1 := by
  rw [qc_7] at hP hD ⊢
  exact P_seg (w4 := cs2 ct (fun i => A (48 + i)) o1) hP hD hk hB
def qp_8 (ct : Nat → ClassId) (A : Nat → Nat) (x : Nat → Ob) : va_W := (((((([(A 0, .inr (9, [.ref (A 1), .ref (A 3), .ref (A 21), .ref (A 34), .ref (A 47), .int ((x 0).1 5 0), .ref (A 87), .ref (A 90), .ref (A 93), .ref (A 95), .ref (A 97), .ref (A 106), .ref (A 108), .ref (A 111)]))] ++ cs6 ct (fun i => A (1 + i)) (x 1)) ++ cs1 ct (fun i => A (3 + i)) (x 2) (x 3) (x 4)) ++ cs2 ct (fun i => A (21 + i)) (x 5)) ++ cs2 ct (fun i => A (34 + i)) (x 6)) ++ [(A 47, .inl (ct 4, 3, .inr (.inr (.inr (.inr (fun j => some (A (48 + 13 * j))))))))]) ++ cs2 ct (fun i => A (48 + i)) (x 7))
def qu_8 (ct : Nat → ClassId) (A : Nat → Nat) (x : Nat → Ob) : va_W := cs2 ct (fun i => A (74 + i)) (x 9) ++ (cs8 ct (fun i => A (87 + i)) (x 10) ++ (cs8 ct (fun i => A (90 + i)) (x 11) ++ (cs5 ct (fun i => A (93 + i)) (x 12) ++ (cs5 ct (fun i => A (95 + i)) (x 13) ++ ([(A 97, .inl (ct 5, 4, .inr (.inr (.inr (.inr (fun j => some (A (98 + 2 * j))))))))] ++ (cs3 ct (fun i => A (98 + i)) (x 14) ++ (cs3 ct (fun i => A (100 + i)) (x 15) ++ (cs3 ct (fun i => A (102 + i)) (x 16) ++ (cs3 ct (fun i => A (104 + i)) (x 17) ++ (cs4 ct (fun i => A (106 + i)) (x 18) ++ (cs0 ct (fun i => A (chp (x 19) i)) (x 19) ++ ([(A 111, .inl (ct 0, 61, .inl ((x 0).1 13)))]))))))))))))
set_option maxRecDepth 100000 in
theorem qc_8 : csQ ct A x = qp_8 ct A x ++ (cs2 ct (fun i => A (61 + i)) (x 8) ++ qu_8 ct A x) := by
  unfold csQ qp_8 qu_8
  simp only [List.append_assoc, List.cons_append, List.nil_append]
theorem qs_8 (hP : va_P D vwCl (csQ ct A x) H) : va_P D vwCl (cs2 ct (fun i => A (61 + i)) (x 8)) H := by
  rw [qc_8] at hP
  exact P_left (P_right hP)
set_option maxRecDepth 100000 in
theorem qa_8 {y : Nat → Ob} {o1 : Ob} : ∀ q, wA (cs2 ct (fun i => A (61 + i)) o1) q → wA (csQ ct A y) q := fun q h => wA_Q (x := (va_up y 8 o1)) (y := y) q (by rw [qc_8]; exact wA_seg q h)
set_option maxRecDepth 100000 in
theorem qj_8 {o1 : Ob} (hP : va_P D vwCl (csQ ct A x) H) (hD : va_D A0 (csQ ct A x)) (hk : ∀ q : Nat, q < H.size → ¬ wA (cs2 ct (fun i => A (61 + i)) (x 8)) q → H1[q]? = H[q]?) (hB : va_P D vwCl (cs2 ct (fun i => A (61 + i)) o1) H1) : va_P D vwCl (csQ ct A (va_up x 8 o1)) H1 := by
  rw [qc_8] at hP hD ⊢
  exact P_seg (w4 := cs2 ct (fun i => A (61 + i)) o1) hP hD hk hB
def qp_9 (ct : Nat → ClassId) (A : Nat → Nat) (x : Nat → Ob) : va_W := ((((((([(A 0, .inr (9, [.ref (A 1), .ref (A 3), .ref (A 21), .ref (A 34), .ref (A 47), .int ((x 0).1 5 0), .ref (A 87), .ref (A 90), .ref (A 93), .ref (A 95), .ref (A 97), .ref (A 106), .ref (A 108), .ref (A 111)]))] ++ cs6 ct (fun i => A (1 + i)) (x 1)) ++ cs1 ct (fun i => A (3 + i)) (x 2) (x 3) (x 4)) ++ cs2 ct (fun i => A (21 + i)) (x 5)) ++ cs2 ct (fun i => A (34 + i)) (x 6)) ++ [(A 47, .inl (ct 4, 3, .inr (.inr (.inr (.inr (fun j => some (A (48 + 13 * j))))))))]) ++ cs2 ct (fun i => A (48 + i)) (x 7)) ++ cs2 ct (fun i => A (61 + i)) (x 8))
def qu_9 (ct : Nat → ClassId) (A : Nat → Nat) (x : Nat → Ob) : va_W := cs8 ct (fun i => A (87 + i)) (x 10) ++ (cs8 ct (fun i => A (90 + i)) (x 11) ++ (cs5 ct (fun i => A (93 + i)) (x 12) ++ (cs5 ct (fun i => A (95 + i)) (x 13) ++ ([(A 97, .inl (ct 5, 4, .inr (.inr (.inr (.inr (fun j => some (A (98 + 2 * j))))))))] ++ (cs3 ct (fun i => A (98 + i)) (x 14) ++ (cs3 ct (fun i => A (100 + i)) (x 15) ++ (cs3 ct (fun i => A (102 + i)) (x 16) ++ (cs3 ct (fun i => A (104 + i)) (x 17) ++ (cs4 ct (fun i => A (106 + i)) (x 18) ++ (cs0 ct (fun i => A (chp (x 19) i)) (x 19) ++ ([(A 111, .inl (ct 0, 61, .inl ((x 0).1 13)))])))))))))))
set_option maxRecDepth 100000 in
theorem qc_9 : csQ ct A x = qp_9 ct A x ++ (cs2 ct (fun i => A (74 + i)) (x 9) ++ qu_9 ct A x) := by
  unfold csQ qp_9 qu_9
  simp only [List.append_assoc, List.cons_append, List.nil_append]
theorem qs_9 (hP : va_P D vwCl (csQ ct A x) H) : va_P D vwCl (cs2 ct (fun i => A (74 + i)) (x 9)) H := by
  rw [qc_9] at hP
  exact P_left (P_right hP)
set_option maxRecDepth 100000 in
theorem qa_9 {y : Nat → Ob} {o1 : Ob} : ∀ q, wA (cs2 ct (fun i => A (74 + i)) o1) q → wA (csQ ct A y) q := fun q h => wA_Q (x := (va_up y 9 o1)) (y := y) q (by rw [qc_9]; exact wA_seg q h)
set_option maxRecDepth 100000 in
theorem qj_9 {o1 : Ob} (hP : va_P D vwCl (csQ ct A x) H) (hD : va_D A0 (csQ ct A x)) (hk : ∀ q : Nat, q < H.size → ¬ wA (cs2 ct (fun i => A (74 + i)) (x 9)) q → H1[q]? = H[q]?) (hB : va_P D vwCl (cs2 ct (fun i => A (74 + i)) o1) H1) : va_P D vwCl (csQ ct A (va_up x 9 o1)) H1 := by
  rw [qc_9] at hP hD ⊢
  exact P_seg (w4 := cs2 ct (fun i => A (74 + i)) o1) hP hD hk hB
def qp_10 (ct : Nat → ClassId) (A : Nat → Nat) (x : Nat → Ob) : va_W := (((((((([(A 0, .inr (9, [.ref (A 1), .ref (A 3), .ref (A 21), .ref (A 34), .ref (A 47), .int ((x 0).1 5 0), .ref (A 87), .ref (A 90), .ref (A 93), .ref (A 95), .ref (A 97), .ref (A 106), .ref (A 108), .ref (A 111)]))] ++ cs6 ct (fun i => A (1 + i)) (x 1)) ++ cs1 ct (fun i => A (3 + i)) (x 2) (x 3) (x 4)) ++ cs2 ct (fun i => A (21 + i)) (x 5)) ++ cs2 ct (fun i => A (34 + i)) (x 6)) ++ [(A 47, .inl (ct 4, 3, .inr (.inr (.inr (.inr (fun j => some (A (48 + 13 * j))))))))]) ++ cs2 ct (fun i => A (48 + i)) (x 7)) ++ cs2 ct (fun i => A (61 + i)) (x 8)) ++ cs2 ct (fun i => A (74 + i)) (x 9))
def qu_10 (ct : Nat → ClassId) (A : Nat → Nat) (x : Nat → Ob) : va_W := cs8 ct (fun i => A (90 + i)) (x 11) ++ (cs5 ct (fun i => A (93 + i)) (x 12) ++ (cs5 ct (fun i => A (95 + i)) (x 13) ++ ([(A 97, .inl (ct 5, 4, .inr (.inr (.inr (.inr (fun j => some (A (98 + 2 * j))))))))] ++ (cs3 ct (fun i => A (98 + i)) (x 14) ++ (cs3 ct (fun i => A (100 + i)) (x 15) ++ (cs3 ct (fun i => A (102 + i)) (x 16) ++ (cs3 ct (fun i => A (104 + i)) (x 17) ++ (cs4 ct (fun i => A (106 + i)) (x 18) ++ (cs0 ct (fun i => A (chp (x 19) i)) (x 19) ++ ([(A 111, .inl (ct 0, 61, .inl ((x 0).1 13)))]))))))))))
set_option maxRecDepth 100000 in
theorem qc_10 : csQ ct A x = qp_10 ct A x ++ (cs8 ct (fun i => A (87 + i)) (x 10) ++ qu_10 ct A x) := by
  unfold csQ qp_10 qu_10
  simp only [List.append_assoc, List.cons_append, List.nil_append]
theorem qs_10 (hP : va_P D vwCl (csQ ct A x) H) : va_P D vwCl (cs8 ct (fun i => A (87 + i)) (x 10)) H := by
  rw [qc_10] at hP
  exact P_left (P_right hP)
set_option maxRecDepth 100000 in
theorem qa_10 {y : Nat → Ob} {o1 : Ob} : ∀ q, wA (cs8 ct (fun i => A (87 + i)) o1) q → wA (csQ ct A y) q := fun q h => wA_Q (x := (va_up y 10 o1)) (y := y) q (by rw [qc_10]; exact wA_seg q h)
set_option maxRecDepth 100000 in
theorem qj_10 {o1 : Ob} (hP : va_P D vwCl (csQ ct A x) H) (hD : va_D A0 (csQ ct A x)) (hk : ∀ q : Nat, q < H.size → ¬ wA (cs8 ct (fun i => A (87 + i)) (x 10)) q → H1[q]? = H[q]?) (hB : va_P D vwCl (cs8 ct (fun i => A (87 + i)) o1) H1) : va_P D vwCl (csQ ct A (va_up x 10 o1)) H1 := by
  rw [qc_10] at hP hD ⊢
  exact P_seg (w4 := cs8 ct (fun i => A (87 + i)) o1) hP hD hk hB
def qp_11 (ct : Nat → ClassId) (A : Nat → Nat) (x : Nat → Ob) : va_W := ((((((((([(A 0, .inr (9, [.ref (A 1), .ref (A 3), .ref (A 21), .ref (A 34), .ref (A 47), .int ((x 0).1 5 0), .ref (A 87), .ref (A 90), .ref (A 93), .ref (A 95), .ref (A 97), .ref (A 106), .ref (A 108), .ref (A 111)]))] ++ cs6 ct (fun i => A (1 + i)) (x 1)) ++ cs1 ct (fun i => A (3 + i)) (x 2) (x 3) (x 4)) ++ cs2 ct (fun i => A (21 + i)) (x 5)) ++ cs2 ct (fun i => A (34 + i)) (x 6)) ++ [(A 47, .inl (ct 4, 3, .inr (.inr (.inr (.inr (fun j => some (A (48 + 13 * j))))))))]) ++ cs2 ct (fun i => A (48 + i)) (x 7)) ++ cs2 ct (fun i => A (61 + i)) (x 8)) ++ cs2 ct (fun i => A (74 + i)) (x 9)) ++ cs8 ct (fun i => A (87 + i)) (x 10))
def qu_11 (ct : Nat → ClassId) (A : Nat → Nat) (x : Nat → Ob) : va_W := cs5 ct (fun i => A (93 + i)) (x 12) ++ (cs5 ct (fun i => A (95 + i)) (x 13) ++ ([(A 97, .inl (ct 5, 4, .inr (.inr (.inr (.inr (fun j => some (A (98 + 2 * j))))))))] ++ (cs3 ct (fun i => A (98 + i)) (x 14) ++ (cs3 ct (fun i => A (100 + i)) (x 15) ++ (cs3 ct (fun i => A (102 + i)) (x 16) ++ (cs3 ct (fun i => A (104 + i)) (x 17) ++ (cs4 ct (fun i => A (106 + i)) (x 18) ++ (cs0 ct (fun i => A (chp (x 19) i)) (x 19) ++ ([(A 111, .inl (ct 0, 61, .inl ((x 0).1 13)))])))))))))
set_option maxRecDepth 100000 in
theorem qc_11 : csQ ct A x = qp_11 ct A x ++ (cs8 ct (fun i => A (90 + i)) (x 11) ++ qu_11 ct A x) := by
  unfold csQ qp_11 qu_11
  simp only [List.append_assoc, List.cons_append, List.nil_append]
theorem qs_11 (hP : va_P D vwCl (csQ ct A x) H) : va_P D vwCl (cs8 ct (fun i => A (90 + i)) (x 11)) H := by
  rw [qc_11] at hP
  exact P_left (P_right hP)
set_option maxRecDepth 100000 in
theorem qa_11 {y : Nat → Ob} {o1 : Ob} : ∀ q, wA (cs8 ct (fun i => A (90 + i)) o1) q → wA (csQ ct A y) q := fun q h => wA_Q (x := (va_up y 11 o1)) (y := y) q (by rw [qc_11]; exact wA_seg q h)
set_option maxRecDepth 100000 in
theorem qj_11 {o1 : Ob} (hP : va_P D vwCl (csQ ct A x) H) (hD : va_D A0 (csQ ct A x)) (hk : ∀ q : Nat, q < H.size → ¬ wA (cs8 ct (fun i => A (90 + i)) (x 11)) q → H1[q]? = H[q]?) (hB : va_P D vwCl (cs8 ct (fun i => A (90 + i)) o1) H1) : va_P D vwCl (csQ ct A (va_up x 11 o1)) H1 := by
  rw [qc_11] at hP hD ⊢
  exact P_seg (w4 := cs8 ct (fun i => A (90 + i)) o1) hP hD hk hB
def qp_12 (ct : Nat → ClassId) (A : Nat → Nat) (x : Nat → Ob) : va_W := (((((((((([(A 0, .inr (9, [.ref (A 1), .ref (A 3), .ref (A 21), .ref (A 34), .ref (A 47), .int ((x 0).1 5 0), .ref (A 87), .ref (A 90), .ref (A 93), .ref (A 95), .ref (A 97), .ref (A 106), .ref (A 108), .ref (A 111)]))] ++ cs6 ct (fun i => A (1 + i)) (x 1)) ++ cs1 ct (fun i => A (3 + i)) (x 2) (x 3) (x 4)) ++ cs2 ct (fun i => A (21 + i)) (x 5)) ++ cs2 ct (fun i => A (34 + i)) (x 6)) ++ [(A 47, .inl (ct 4, 3, .inr (.inr (.inr (.inr (fun j => some (A (48 + 13 * j))))))))]) ++ cs2 ct (fun i => A (48 + i)) (x 7)) ++ cs2 ct (fun i => A (61 + i)) (x 8)) ++ cs2 ct (fun i => A (74 + i)) (x 9)) ++ cs8 ct (fun i => A (87 + i)) (x 10)) ++ cs8 ct (fun i => A (90 + i)) (x 11))
def qu_12 (ct : Nat → ClassId) (A : Nat → Nat) (x : Nat → Ob) : va_W := cs5 ct (fun i => A (95 + i)) (x 13) ++ ([(A 97, .inl (ct 5, 4, .inr (.inr (.inr (.inr (fun j => some (A (98 + 2 * j))))))))] ++ (cs3 ct (fun i => A (98 + i)) (x 14) ++ (cs3 ct (fun i => A (100 + i)) (x 15) ++ (cs3 ct (fun i => A (102 + i)) (x 16) ++ (cs3 ct (fun i => A (104 + i)) (x 17) ++ (cs4 ct (fun i => A (106 + i)) (x 18) ++ (cs0 ct (fun i => A (chp (x 19) i)) (x 19) ++ ([(A 111, .inl (ct 0, 61, .inl ((x 0).1 13)))]))))))))
set_option maxRecDepth 100000 in
theorem qc_12 : csQ ct A x = qp_12 ct A x ++ (cs5 ct (fun i => A (93 + i)) (x 12) ++ qu_12 ct A x) := by
  unfold csQ qp_12 qu_12
  simp only [List.append_assoc, List.cons_append, List.nil_append]
theorem qs_12 (hP : va_P D vwCl (csQ ct A x) H) : va_P D vwCl (cs5 ct (fun i => A (93 + i)) (x 12)) H := by
  rw [qc_12] at hP
  exact P_left (P_right hP)
set_option maxRecDepth 100000 in
theorem qa_12 {y : Nat → Ob} {o1 : Ob} : ∀ q, wA (cs5 ct (fun i => A (93 + i)) o1) q → wA (csQ ct A y) q := fun q h => wA_Q (x := (va_up y 12 o1)) (y := y) q (by rw [qc_12]; exact wA_seg q h)
set_option maxRecDepth 100000 in
theorem qj_12 {o1 : Ob} (hP : va_P D vwCl (csQ ct A x) H) (hD : va_D A0 (csQ ct A x)) (hk : ∀ q : Nat, q < H.size → ¬ wA (cs5 ct (fun i => A (93 + i)) (x 12)) q → H1[q]? = H[q]?) (hB : va_P D vwCl (cs5 ct (fun i => A (93 + i)) o1) H1) : va_P D vwCl (csQ ct A (va_up x 12 o1)) H1 := by
  rw [qc_12] at hP hD ⊢
  exact P_seg (w4 := cs5 ct (fun i => A (93 + i)) o1) hP hD hk hB
def qp_13 (ct : Nat → ClassId) (A : Nat → Nat) (x : Nat → Ob) : va_W := ((((((((((([(A 0, .inr (9, [.ref (A 1), .ref (A 3), .ref (A 21), .ref (A 34), .ref (A 47), .int ((x 0).1 5 0), .ref (A 87), .ref (A 90), .ref (A 93), .ref (A 95), .ref (A 97), .ref (A 106), .ref (A 108), .ref (A 111)]))] ++ cs6 ct (fun i => A (1 + i)) (x 1)) ++ cs1 ct (fun i => A (3 + i)) (x 2) (x 3) (x 4)) ++ cs2 ct (fun i => A (21 + i)) (x 5)) ++ cs2 ct (fun i => A (34 + i)) (x 6)) ++ [(A 47, .inl (ct 4, 3, .inr (.inr (.inr (.inr (fun j => some (A (48 + 13 * j))))))))]) ++ cs2 ct (fun i => A (48 + i)) (x 7)) ++ cs2 ct (fun i => A (61 + i)) (x 8)) ++ cs2 ct (fun i => A (74 + i)) (x 9)) ++ cs8 ct (fun i => A (87 + i)) (x 10)) ++ cs8 ct (fun i => A (90 + i)) (x 11)) ++ cs5 ct (fun i => A (93 + i)) (x 12))
def qu_13 (ct : Nat → ClassId) (A : Nat → Nat) (x : Nat → Ob) : va_W := [(A 97, .inl (ct 5, 4, .inr (.inr (.inr (.inr (fun j => some (A (98 + 2 * j))))))))] ++ (cs3 ct (fun i => A (98 + i)) (x 14) ++ (cs3 ct (fun i => A (100 + i)) (x 15) ++ (cs3 ct (fun i => A (102 + i)) (x 16) ++ (cs3 ct (fun i => A (104 + i)) (x 17) ++ (cs4 ct (fun i => A (106 + i)) (x 18) ++ (cs0 ct (fun i => A (chp (x 19) i)) (x 19) ++ ([(A 111, .inl (ct 0, 61, .inl ((x 0).1 13)))])))))))
set_option maxRecDepth 100000 in
theorem qc_13 : csQ ct A x = qp_13 ct A x ++ (cs5 ct (fun i => A (95 + i)) (x 13) ++ qu_13 ct A x) := by
  unfold csQ qp_13 qu_13
  simp only [List.append_assoc, List.cons_append, List.nil_append]
theorem qs_13 (hP : va_P D vwCl (csQ ct A x) H) : va_P D vwCl (cs5 ct (fun i => A (95 + i)) (x 13)) H := by
  rw [qc_13] at hP
  exact P_left (P_right hP)
set_option maxRecDepth 100000 in
theorem qa_13 {y : Nat → Ob} {o1 : Ob} : ∀ q, wA (cs5 ct (fun i => A (95 + i)) o1) q → wA (csQ ct A y) q := fun q h => wA_Q (x := (va_up y 13 o1)) (y := y) q (by rw [qc_13]; exact wA_seg q h)
set_option maxRecDepth 100000 in
theorem qj_13 {o1 : Ob} (hP : va_P D vwCl (csQ ct A x) H) (hD : va_D A0 (csQ ct A x)) (hk : ∀ q : Nat, q < H.size → ¬ wA (cs5 ct (fun i => A (95 + i)) (x 13)) q → H1[q]? = H[q]?) (hB : va_P D vwCl (cs5 ct (fun i => A (95 + i)) o1) H1) : va_P D vwCl (csQ ct A (va_up x 13 o1)) H1 := by
  rw [qc_13] at hP hD ⊢
  exact P_seg (w4 := cs5 ct (fun i => A (95 + i)) o1) hP hD hk hB
def qp_14 (ct : Nat → ClassId) (A : Nat → Nat) (x : Nat → Ob) : va_W := ((((((((((((([(A 0, .inr (9, [.ref (A 1), .ref (A 3), .ref (A 21), .ref (A 34), .ref (A 47), .int ((x 0).1 5 0), .ref (A 87), .ref (A 90), .ref (A 93), .ref (A 95), .ref (A 97), .ref (A 106), .ref (A 108), .ref (A 111)]))] ++ cs6 ct (fun i => A (1 + i)) (x 1)) ++ cs1 ct (fun i => A (3 + i)) (x 2) (x 3) (x 4)) ++ cs2 ct (fun i => A (21 + i)) (x 5)) ++ cs2 ct (fun i => A (34 + i)) (x 6)) ++ [(A 47, .inl (ct 4, 3, .inr (.inr (.inr (.inr (fun j => some (A (48 + 13 * j))))))))]) ++ cs2 ct (fun i => A (48 + i)) (x 7)) ++ cs2 ct (fun i => A (61 + i)) (x 8)) ++ cs2 ct (fun i => A (74 + i)) (x 9)) ++ cs8 ct (fun i => A (87 + i)) (x 10)) ++ cs8 ct (fun i => A (90 + i)) (x 11)) ++ cs5 ct (fun i => A (93 + i)) (x 12)) ++ cs5 ct (fun i => A (95 + i)) (x 13)) ++ [(A 97, .inl (ct 5, 4, .inr (.inr (.inr (.inr (fun j => some (A (98 + 2 * j))))))))])
def qu_14 (ct : Nat → ClassId) (A : Nat → Nat) (x : Nat → Ob) : va_W := cs3 ct (fun i => A (100 + i)) (x 15) ++ (cs3 ct (fun i => A (102 + i)) (x 16) ++ (cs3 ct (fun i => A (104 + i)) (x 17) ++ (cs4 ct (fun i => A (106 + i)) (x 18) ++ (cs0 ct (fun i => A (chp (x 19) i)) (x 19) ++ ([(A 111, .inl (ct 0, 61, .inl ((x 0).1 13)))])))))
set_option maxRecDepth 100000 in
theorem qc_14 : csQ ct A x = qp_14 ct A x ++ (cs3 ct (fun i => A (98 + i)) (x 14) ++ qu_14 ct A x) := by
  unfold csQ qp_14 qu_14
  simp only [List.append_assoc, List.cons_append, List.nil_append]
theorem qs_14 (hP : va_P D vwCl (csQ ct A x) H) : va_P D vwCl (cs3 ct (fun i => A (98 + i)) (x 14)) H := by
  rw [qc_14] at hP
  exact P_left (P_right hP)
set_option maxRecDepth 100000 in
theorem qa_14 {y : Nat → Ob} {o1 : Ob} : ∀ q, wA (cs3 ct (fun i => A (98 + i)) o1) q → wA (csQ ct A y) q := fun q h => wA_Q (x := (va_up y 14 o1)) (y := y) q (by rw [qc_14]; exact wA_seg q h)
set_option maxRecDepth 100000 in
theorem qj_14 {o1 : Ob} (hP : va_P D vwCl (csQ ct A x) H) (hD : va_D A0 (csQ ct A x)) (hk : ∀ q : Nat, q < H.size → ¬ wA (cs3 ct (fun i => A (98 + i)) (x 14)) q → H1[q]? = H[q]?) (hB : va_P D vwCl (cs3 ct (fun i => A (98 + i)) o1) H1) : va_P D vwCl (csQ ct A (va_up x 14 o1)) H1 := by
  rw [qc_14] at hP hD ⊢
  exact P_seg (w4 := cs3 ct (fun i => A (98 + i)) o1) hP hD hk hB
def qp_15 (ct : Nat → ClassId) (A : Nat → Nat) (x : Nat → Ob) : va_W := (((((((((((((([(A 0, .inr (9, [.ref (A 1), .ref (A 3), .ref (A 21), .ref (A 34), .ref (A 47), .int ((x 0).1 5 0), .ref (A 87), .ref (A 90), .ref (A 93), .ref (A 95), .ref (A 97), .ref (A 106), .ref (A 108), .ref (A 111)]))] ++ cs6 ct (fun i => A (1 + i)) (x 1)) ++ cs1 ct (fun i => A (3 + i)) (x 2) (x 3) (x 4)) ++ cs2 ct (fun i => A (21 + i)) (x 5)) ++ cs2 ct (fun i => A (34 + i)) (x 6)) ++ [(A 47, .inl (ct 4, 3, .inr (.inr (.inr (.inr (fun j => some (A (48 + 13 * j))))))))]) ++ cs2 ct (fun i => A (48 + i)) (x 7)) ++ cs2 ct (fun i => A (61 + i)) (x 8)) ++ cs2 ct (fun i => A (74 + i)) (x 9)) ++ cs8 ct (fun i => A (87 + i)) (x 10)) ++ cs8 ct (fun i => A (90 + i)) (x 11)) ++ cs5 ct (fun i => A (93 + i)) (x 12)) ++ cs5 ct (fun i => A (95 + i)) (x 13)) ++ [(A 97, .inl (ct 5, 4, .inr (.inr (.inr (.inr (fun j => some (A (98 + 2 * j))))))))]) ++ cs3 ct (fun i => A (98 + i)) (x 14))
def qu_15 (ct : Nat → ClassId) (A : Nat → Nat) (x : Nat → Ob) : va_W := cs3 ct (fun i => A (102 + i)) (x 16) ++ (cs3 ct (fun i => A (104 + i)) (x 17) ++ (cs4 ct (fun i => A (106 + i)) (x 18) ++ (cs0 ct (fun i => A (chp (x 19) i)) (x 19) ++ ([(A 111, .inl (ct 0, 61, .inl ((x 0).1 13)))]))))
set_option maxRecDepth 100000 in
theorem qc_15 : csQ ct A x = qp_15 ct A x ++ (cs3 ct (fun i => A (100 + i)) (x 15) ++ qu_15 ct A x) := by
  unfold csQ qp_15 qu_15
  simp only [List.append_assoc, List.cons_append, List.nil_append]
theorem qs_15 (hP : va_P D vwCl (csQ ct A x) H) : va_P D vwCl (cs3 ct (fun i => A (100 + i)) (x 15)) H := by
  rw [qc_15] at hP
  exact P_left (P_right hP)
set_option maxRecDepth 100000 in
theorem qa_15 {y : Nat → Ob} {o1 : Ob} : ∀ q, wA (cs3 ct (fun i => A (100 + i)) o1) q → wA (csQ ct A y) q := fun q h => wA_Q (x := (va_up y 15 o1)) (y := y) q (by rw [qc_15]; exact wA_seg q h)
set_option maxRecDepth 100000 in
theorem qj_15 {o1 : Ob} (hP : va_P D vwCl (csQ ct A x) H) (hD : va_D A0 (csQ ct A x)) (hk : ∀ q : Nat, q < H.size → ¬ wA (cs3 ct (fun i => A (100 + i)) (x 15)) q → H1[q]? = H[q]?) (hB : va_P D vwCl (cs3 ct (fun i => A (100 + i)) o1) H1) : va_P D vwCl (csQ ct A (va_up x 15 o1)) H1 := by
  rw [qc_15] at hP hD ⊢
  exact P_seg (w4 := cs3 ct (fun i => A (100 + i)) o1) hP hD hk hB
def qp_16 (ct : Nat → ClassId) (A : Nat → Nat) (x : Nat → Ob) : va_W := ((((((((((((((([(A 0, .inr (9, [.ref (A 1), .ref (A 3), .ref (A 21), .ref (A 34), .ref (A 47), .int ((x 0).1 5 0), .ref (A 87), .ref (A 90), .ref (A 93), .ref (A 95), .ref (A 97), .ref (A 106), .ref (A 108), .ref (A 111)]))] ++ cs6 ct (fun i => A (1 + i)) (x 1)) ++ cs1 ct (fun i => A (3 + i)) (x 2) (x 3) (x 4)) ++ cs2 ct (fun i => A (21 + i)) (x 5)) ++ cs2 ct (fun i => A (34 + i)) (x 6)) ++ [(A 47, .inl (ct 4, 3, .inr (.inr (.inr (.inr (fun j => some (A (48 + 13 * j))))))))]) ++ cs2 ct (fun i => A (48 + i)) (x 7)) ++ cs2 ct (fun i => A (61 + i)) (x 8)) ++ cs2 ct (fun i => A (74 + i)) (x 9)) ++ cs8 ct (fun i => A (87 + i)) (x 10)) ++ cs8 ct (fun i => A (90 + i)) (x 11)) ++ cs5 ct (fun i => A (93 + i)) (x 12)) ++ cs5 ct (fun i => A (95 + i)) (x 13)) ++ [(A 97, .inl (ct 5, 4, .inr (.inr (.inr (.inr (fun j => some (A (98 + 2 * j))))))))]) ++ cs3 ct (fun i => A (98 + i)) (x 14)) ++ cs3 ct (fun i => A (100 + i)) (x 15))
def qu_16 (ct : Nat → ClassId) (A : Nat → Nat) (x : Nat → Ob) : va_W := cs3 ct (fun i => A (104 + i)) (x 17) ++ (cs4 ct (fun i => A (106 + i)) (x 18) ++ (cs0 ct (fun i => A (chp (x 19) i)) (x 19) ++ ([(A 111, .inl (ct 0, 61, .inl ((x 0).1 13)))])))
set_option maxRecDepth 100000 in
theorem qc_16 : csQ ct A x = qp_16 ct A x ++ (cs3 ct (fun i => A (102 + i)) (x 16) ++ qu_16 ct A x) := by
  unfold csQ qp_16 qu_16
  simp only [List.append_assoc, List.cons_append, List.nil_append]
theorem qs_16 (hP : va_P D vwCl (csQ ct A x) H) : va_P D vwCl (cs3 ct (fun i => A (102 + i)) (x 16)) H := by
  rw [qc_16] at hP
  exact P_left (P_right hP)
set_option maxRecDepth 100000 in
theorem qa_16 {y : Nat → Ob} {o1 : Ob} : ∀ q, wA (cs3 ct (fun i => A (102 + i)) o1) q → wA (csQ ct A y) q := fun q h => wA_Q (x := (va_up y 16 o1)) (y := y) q (by rw [qc_16]; exact wA_seg q h)
set_option maxRecDepth 100000 in
theorem qj_16 {o1 : Ob} (hP : va_P D vwCl (csQ ct A x) H) (hD : va_D A0 (csQ ct A x)) (hk : ∀ q : Nat, q < H.size → ¬ wA (cs3 ct (fun i => A (102 + i)) (x 16)) q → H1[q]? = H[q]?) (hB : va_P D vwCl (cs3 ct (fun i => A (102 + i)) o1) H1) : va_P D vwCl (csQ ct A (va_up x 16 o1)) H1 := by
  rw [qc_16] at hP hD ⊢
  exact P_seg (w4 := cs3 ct (fun i => A (102 + i)) o1) hP hD hk hB
def qp_17 (ct : Nat → ClassId) (A : Nat → Nat) (x : Nat → Ob) : va_W := (((((((((((((((([(A 0, .inr (9, [.ref (A 1), .ref (A 3), .ref (A 21), .ref (A 34), .ref (A 47), .int ((x 0).1 5 0), .ref (A 87), .ref (A 90), .ref (A 93), .ref (A 95), .ref (A 97), .ref (A 106), .ref (A 108), .ref (A 111)]))] ++ cs6 ct (fun i => A (1 + i)) (x 1)) ++ cs1 ct (fun i => A (3 + i)) (x 2) (x 3) (x 4)) ++ cs2 ct (fun i => A (21 + i)) (x 5)) ++ cs2 ct (fun i => A (34 + i)) (x 6)) ++ [(A 47, .inl (ct 4, 3, .inr (.inr (.inr (.inr (fun j => some (A (48 + 13 * j))))))))]) ++ cs2 ct (fun i => A (48 + i)) (x 7)) ++ cs2 ct (fun i => A (61 + i)) (x 8)) ++ cs2 ct (fun i => A (74 + i)) (x 9)) ++ cs8 ct (fun i => A (87 + i)) (x 10)) ++ cs8 ct (fun i => A (90 + i)) (x 11)) ++ cs5 ct (fun i => A (93 + i)) (x 12)) ++ cs5 ct (fun i => A (95 + i)) (x 13)) ++ [(A 97, .inl (ct 5, 4, .inr (.inr (.inr (.inr (fun j => some (A (98 + 2 * j))))))))]) ++ cs3 ct (fun i => A (98 + i)) (x 14)) ++ cs3 ct (fun i => A (100 + i)) (x 15)) ++ cs3 ct (fun i => A (102 + i)) (x 16))
def qu_17 (ct : Nat → ClassId) (A : Nat → Nat) (x : Nat → Ob) : va_W := cs4 ct (fun i => A (106 + i)) (x 18) ++ (cs0 ct (fun i => A (chp (x 19) i)) (x 19) ++ ([(A 111, .inl (ct 0, 61, .inl ((x 0).1 13)))]))
set_option maxRecDepth 100000 in
theorem qc_17 : csQ ct A x = qp_17 ct A x ++ (cs3 ct (fun i => A (104 + i)) (x 17) ++ qu_17 ct A x) := by
  unfold csQ qp_17 qu_17
  simp only [List.append_assoc, List.cons_append, List.nil_append]
theorem qs_17 (hP : va_P D vwCl (csQ ct A x) H) : va_P D vwCl (cs3 ct (fun i => A (104 + i)) (x 17)) H := by
  rw [qc_17] at hP
  exact P_left (P_right hP)
set_option maxRecDepth 100000 in
theorem qa_17 {y : Nat → Ob} {o1 : Ob} : ∀ q, wA (cs3 ct (fun i => A (104 + i)) o1) q → wA (csQ ct A y) q := fun q h => wA_Q (x := (va_up y 17 o1)) (y := y) q (by rw [qc_17]; exact wA_seg q h)
set_option maxRecDepth 100000 in
theorem qj_17 {o1 : Ob} (hP : va_P D vwCl (csQ ct A x) H) (hD : va_D A0 (csQ ct A x)) (hk : ∀ q : Nat, q < H.size → ¬ wA (cs3 ct (fun i => A (104 + i)) (x 17)) q → H1[q]? = H[q]?) (hB : va_P D vwCl (cs3 ct (fun i => A (104 + i)) o1) H1) : va_P D vwCl (csQ ct A (va_up x 17 o1)) H1 := by
  rw [qc_17] at hP hD ⊢
  exact P_seg (w4 := cs3 ct (fun i => A (104 + i)) o1) hP hD hk hB
def qp_18 (ct : Nat → ClassId) (A : Nat → Nat) (x : Nat → Ob) : va_W := ((((((((((((((((([(A 0, .inr (9, [.ref (A 1), .ref (A 3), .ref (A 21), .ref (A 34), .ref (A 47), .int ((x 0).1 5 0), .ref (A 87), .ref (A 90), .ref (A 93), .ref (A 95), .ref (A 97), .ref (A 106), .ref (A 108), .ref (A 111)]))] ++ cs6 ct (fun i => A (1 + i)) (x 1)) ++ cs1 ct (fun i => A (3 + i)) (x 2) (x 3) (x 4)) ++ cs2 ct (fun i => A (21 + i)) (x 5)) ++ cs2 ct (fun i => A (34 + i)) (x 6)) ++ [(A 47, .inl (ct 4, 3, .inr (.inr (.inr (.inr (fun j => some (A (48 + 13 * j))))))))]) ++ cs2 ct (fun i => A (48 + i)) (x 7)) ++ cs2 ct (fun i => A (61 + i)) (x 8)) ++ cs2 ct (fun i => A (74 + i)) (x 9)) ++ cs8 ct (fun i => A (87 + i)) (x 10)) ++ cs8 ct (fun i => A (90 + i)) (x 11)) ++ cs5 ct (fun i => A (93 + i)) (x 12)) ++ cs5 ct (fun i => A (95 + i)) (x 13)) ++ [(A 97, .inl (ct 5, 4, .inr (.inr (.inr (.inr (fun j => some (A (98 + 2 * j))))))))]) ++ cs3 ct (fun i => A (98 + i)) (x 14)) ++ cs3 ct (fun i => A (100 + i)) (x 15)) ++ cs3 ct (fun i => A (102 + i)) (x 16)) ++ cs3 ct (fun i => A (104 + i)) (x 17))
def qu_18 (ct : Nat → ClassId) (A : Nat → Nat) (x : Nat → Ob) : va_W := cs0 ct (fun i => A (chp (x 19) i)) (x 19) ++ ([(A 111, .inl (ct 0, 61, .inl ((x 0).1 13)))])
set_option maxRecDepth 100000 in
theorem qc_18 : csQ ct A x = qp_18 ct A x ++ (cs4 ct (fun i => A (106 + i)) (x 18) ++ qu_18 ct A x) := by
  unfold csQ qp_18 qu_18
  simp only [List.append_assoc, List.cons_append, List.nil_append]
theorem qs_18 (hP : va_P D vwCl (csQ ct A x) H) : va_P D vwCl (cs4 ct (fun i => A (106 + i)) (x 18)) H := by
  rw [qc_18] at hP
  exact P_left (P_right hP)
set_option maxRecDepth 100000 in
theorem qa_18 {y : Nat → Ob} {o1 : Ob} : ∀ q, wA (cs4 ct (fun i => A (106 + i)) o1) q → wA (csQ ct A y) q := fun q h => wA_Q (x := (va_up y 18 o1)) (y := y) q (by rw [qc_18]; exact wA_seg q h)
set_option maxRecDepth 100000 in
theorem qj_18 {o1 : Ob} (hP : va_P D vwCl (csQ ct A x) H) (hD : va_D A0 (csQ ct A x)) (hk : ∀ q : Nat, q < H.size → ¬ wA (cs4 ct (fun i => A (106 + i)) (x 18)) q → H1[q]? = H[q]?) (hB : va_P D vwCl (cs4 ct (fun i => A (106 + i)) o1) H1) : va_P D vwCl (csQ ct A (va_up x 18 o1)) H1 := by
  rw [qc_18] at hP hD ⊢
  exact P_seg (w4 := cs4 ct (fun i => A (106 + i)) o1) hP hD hk hB
def qp_19 (ct : Nat → ClassId) (A : Nat → Nat) (x : Nat → Ob) : va_W := (((((((((((((((((([(A 0, .inr (9, [.ref (A 1), .ref (A 3), .ref (A 21), .ref (A 34), .ref (A 47), .int ((x 0).1 5 0), .ref (A 87), .ref (A 90), .ref (A 93), .ref (A 95), .ref (A 97), .ref (A 106), .ref (A 108), .ref (A 111)]))] ++ cs6 ct (fun i => A (1 + i)) (x 1)) ++ cs1 ct (fun i => A (3 + i)) (x 2) (x 3) (x 4)) ++ cs2 ct (fun i => A (21 + i)) (x 5)) ++ cs2 ct (fun i => A (34 + i)) (x 6)) ++ [(A 47, .inl (ct 4, 3, .inr (.inr (.inr (.inr (fun j => some (A (48 + 13 * j))))))))]) ++ cs2 ct (fun i => A (48 + i)) (x 7)) ++ cs2 ct (fun i => A (61 + i)) (x 8)) ++ cs2 ct (fun i => A (74 + i)) (x 9)) ++ cs8 ct (fun i => A (87 + i)) (x 10)) ++ cs8 ct (fun i => A (90 + i)) (x 11)) ++ cs5 ct (fun i => A (93 + i)) (x 12)) ++ cs5 ct (fun i => A (95 + i)) (x 13)) ++ [(A 97, .inl (ct 5, 4, .inr (.inr (.inr (.inr (fun j => some (A (98 + 2 * j))))))))]) ++ cs3 ct (fun i => A (98 + i)) (x 14)) ++ cs3 ct (fun i => A (100 + i)) (x 15)) ++ cs3 ct (fun i => A (102 + i)) (x 16)) ++ cs3 ct (fun i => A (104 + i)) (x 17)) ++ cs4 ct (fun i => A (106 + i)) (x 18))
def qu_19 (ct : Nat → ClassId) (A : Nat → Nat) (x : Nat → Ob) : va_W := [(A 111, .inl (ct 0, 61, .inl ((x 0).1 13)))]
set_option maxRecDepth 100000 in
theorem qc_19 : csQ ct A x = qp_19 ct A x ++ (cs0 ct (fun i => A (chp (x 19) i)) (x 19) ++ qu_19 ct A x) := by
  unfold csQ qp_19 qu_19
  simp only [List.append_assoc, List.cons_append, List.nil_append]
theorem qs_19 (hP : va_P D vwCl (csQ ct A x) H) : va_P D vwCl (cs0 ct (fun i => A (chp (x 19) i)) (x 19)) H := by
  rw [qc_19] at hP
  exact P_left (P_right hP)
theorem qa_19 {y : Nat → Ob} : ∀ q, wA (cs0 ct (fun i => A (chp (x 19) i)) (x 19)) q → wA (csQ ct A y) q := fun q h => wA_Q x y q (by rw [qc_19]; exact wA_seg q h)
set_option maxRecDepth 100000 in
theorem qj_19a {o1 : Ob} (hP : va_P D vwCl (csQ ct A x) H) (hD : va_D A0 (csQ ct A x)) (hc : o1.1 4 0 = 0 ↔ (x 19).1 4 0 = 0) (hk : ∀ q : Nat, q < H.size → ¬ wA (cs0 ct (fun i => A (chp (x 19) i)) (x 19)) q → H1[q]? = H[q]?) (hB : va_P D vwCl (cs0 ct (fun i => A (chp (x 19) i)) o1) H1) : va_P D vwCl (csQ ct A (va_up x 19 o1)) H1 := by
  have e : (fun i => A (chp (x 19) i)) = (fun i => A (chp o1 i)) := by
    funext i
    match i with
    | 0 => rfl
    | 1 => by_cases h : (x 19).1 4 0 = 0 <;> simp [chp, h, hc]
    | 2 => by_cases h : (x 19).1 4 0 = 0 <;> simp [chp, h, hc]
    | i + 3 => rfl
  rw [e] at hB
  rw [qc_19] at hP hD ⊢
  exact P_seg (w4 := cs0 ct (fun i => A (chp o1 i)) o1) hP hD hk hB
set_option maxRecDepth 100000 in
theorem qj_19b {o1 : Ob} (hP : va_P D vwCl (csQ ct A x) H) (hD : va_D A0 (csQ ct A x)) (hc : o1.1 4 0 = 0 ↔ ¬ ((x 19).1 4 0 = 0)) (hk : ∀ q : Nat, q < H.size → ¬ wA (cs0 ct (fun i => A (chp (x 19) i)) (x 19)) q → H1[q]? = H[q]?) (hB : va_P D vwCl (cs0 ct (swp (fun i => A (chp (x 19) i))) o1) H1) : va_P D vwCl (csQ ct A (va_up x 19 o1)) H1 := by
  have e : (swp (fun i => A (chp (x 19) i))) = (fun i => A (chp o1 i)) := by
    funext i
    match i with
    | 0 => rfl
    | 1 => by_cases h : (x 19).1 4 0 = 0 <;> simp [swp, chp, h, hc]
    | 2 => by_cases h : (x 19).1 4 0 = 0 <;> simp [swp, chp, h, hc]
    | i + 3 => simp [swp, chp]
  rw [e] at hB
  rw [qc_19] at hP hD ⊢
  exact P_seg (w4 := cs0 ct (fun i => A (chp o1 i)) o1) hP hD hk hB
theorem qd_5 (hD : va_D A0 (csQ ct A x)) : va_D A0 (cs2 ct (fun i => A (21 + i)) (x 5)) := by
  rw [qc_5] at hD
  exact D_mid hD
theorem qd_6 (hD : va_D A0 (csQ ct A x)) : va_D A0 (cs2 ct (fun i => A (34 + i)) (x 6)) := by
  rw [qc_6] at hD
  exact D_mid hD
def qp_111 (ct : Nat → ClassId) (A : Nat → Nat) (x : Nat → Ob) : va_W := ((((((((((((((((((([(A 0, .inr (9, [.ref (A 1), .ref (A 3), .ref (A 21), .ref (A 34), .ref (A 47), .int ((x 0).1 5 0), .ref (A 87), .ref (A 90), .ref (A 93), .ref (A 95), .ref (A 97), .ref (A 106), .ref (A 108), .ref (A 111)]))] ++ cs6 ct (fun i => A (1 + i)) (x 1)) ++ cs1 ct (fun i => A (3 + i)) (x 2) (x 3) (x 4)) ++ cs2 ct (fun i => A (21 + i)) (x 5)) ++ cs2 ct (fun i => A (34 + i)) (x 6)) ++ [(A 47, .inl (ct 4, 3, .inr (.inr (.inr (.inr (fun j => some (A (48 + 13 * j))))))))]) ++ cs2 ct (fun i => A (48 + i)) (x 7)) ++ cs2 ct (fun i => A (61 + i)) (x 8)) ++ cs2 ct (fun i => A (74 + i)) (x 9)) ++ cs8 ct (fun i => A (87 + i)) (x 10)) ++ cs8 ct (fun i => A (90 + i)) (x 11)) ++ cs5 ct (fun i => A (93 + i)) (x 12)) ++ cs5 ct (fun i => A (95 + i)) (x 13)) ++ [(A 97, .inl (ct 5, 4, .inr (.inr (.inr (.inr (fun j => some (A (98 + 2 * j))))))))]) ++ cs3 ct (fun i => A (98 + i)) (x 14)) ++ cs3 ct (fun i => A (100 + i)) (x 15)) ++ cs3 ct (fun i => A (102 + i)) (x 16)) ++ cs3 ct (fun i => A (104 + i)) (x 17)) ++ cs4 ct (fun i => A (106 + i)) (x 18)) ++ cs0 ct (fun i => A (chp (x 19) i)) (x 19))
set_option maxRecDepth 100000 in
theorem qc_111 : csQ ct A x = qp_111 ct A x ++ ([(A 111, .inl (ct 0, 61, .inl ((x 0).1 13)))] ++ []) := by
  unfold csQ qp_111
  simp only [List.append_assoc, List.cons_append, List.nil_append]
set_option maxRecDepth 100000 in
theorem qrow_s {j : Nat} (hj : j < 4) (hP : va_P D vwCl (csQ ct A x) H) : va_P D vwCl (cs3 ct (fun i => A (98 + 2 * j + i)) (x (14 + j))) H := by
  match j, hj with
  | 0, _ => exact qs_14 hP
  | 1, _ => exact qs_15 hP
  | 2, _ => exact qs_16 hP
  | 3, _ => exact qs_17 hP
  | j + 4, h => exact absurd h (by omega)
set_option maxRecDepth 100000 in
theorem qrow_d {j : Nat} (hj : j < 4) (hD : va_D A0 (csQ ct A x)) : va_D A0 (cs3 ct (fun i => A (98 + 2 * j + i)) (x (14 + j))) := by
  match j, hj with
  | 0, _ => exact hD.sub [98, 99] (by decide) rfl
  | 1, _ => exact hD.sub [100, 101] (by decide) rfl
  | 2, _ => exact hD.sub [102, 103] (by decide) rfl
  | 3, _ => exact hD.sub [104, 105] (by decide) rfl
  | j + 4, h => exact absurd h (by omega)
set_option maxRecDepth 100000 in
theorem qrow_a {j : Nat} (hj : j < 4) {y : Nat → Ob} {o1 : Ob} : ∀ q, wA (cs3 ct (fun i => A (98 + 2 * j + i)) o1) q → wA (csQ ct A y) q := by
  match j, hj with
  | 0, _ => exact qa_14
  | 1, _ => exact qa_15
  | 2, _ => exact qa_16
  | 3, _ => exact qa_17
  | j + 4, h => exact absurd h (by omega)
set_option maxRecDepth 100000 in
theorem qrow_j {j : Nat} (hj : j < 4) {o1 : Ob} (hP : va_P D vwCl (csQ ct A x) H) (hD : va_D A0 (csQ ct A x)) (hk : ∀ q : Nat, q < H.size → ¬ wA (cs3 ct (fun i => A (98 + 2 * j + i)) (x (14 + j))) q → H1[q]? = H[q]?) (hB : va_P D vwCl (cs3 ct (fun i => A (98 + 2 * j + i)) o1) H1) : va_P D vwCl (csQ ct A (va_up x (14 + j) o1)) H1 := by
  match j, hj with
  | 0, _ => exact qj_14 hP hD hk hB
  | 1, _ => exact qj_15 hP hD hk hB
  | 2, _ => exact qj_16 hP hD hk hB
  | 3, _ => exact qj_17 hP hD hk hB
  | j + 4, h => exact absurd h (by omega)
set_option maxRecDepth 100000 in
theorem qimg_s {j : Nat} (hj : j < 3) (hP : va_P D vwCl (csQ ct A x) H) : va_P D vwCl (cs2 ct (fun i => A (48 + 13 * j + i)) (x (7 + j))) H := by
  match j, hj with
  | 0, _ => exact qs_7 hP
  | 1, _ => exact qs_8 hP
  | 2, _ => exact qs_9 hP
  | j + 3, h => exact absurd h (by omega)
set_option maxRecDepth 100000 in
theorem qimg_d {j : Nat} (hj : j < 3) (hD : va_D A0 (csQ ct A x)) : va_D A0 (cs2 ct (fun i => A (48 + 13 * j + i)) (x (7 + j))) := by
  match j, hj with
  | 0, _ => exact hD.sub [48, 49, 50, 51, 52, 53, 54, 55, 56, 57, 58, 59, 60] (by decide) rfl
  | 1, _ => exact hD.sub [61, 62, 63, 64, 65, 66, 67, 68, 69, 70, 71, 72, 73] (by decide) rfl
  | 2, _ => exact hD.sub [74, 75, 76, 77, 78, 79, 80, 81, 82, 83, 84, 85, 86] (by decide) rfl
  | j + 3, h => exact absurd h (by omega)
set_option maxRecDepth 100000 in
theorem qimg_a {j : Nat} (hj : j < 3) {y : Nat → Ob} {o1 : Ob} : ∀ q, wA (cs2 ct (fun i => A (48 + 13 * j + i)) o1) q → wA (csQ ct A y) q := by
  match j, hj with
  | 0, _ => exact qa_7
  | 1, _ => exact qa_8
  | 2, _ => exact qa_9
  | j + 3, h => exact absurd h (by omega)
set_option maxRecDepth 100000 in
theorem qimg_j {j : Nat} (hj : j < 3) {o1 : Ob} (hP : va_P D vwCl (csQ ct A x) H) (hD : va_D A0 (csQ ct A x)) (hk : ∀ q : Nat, q < H.size → ¬ wA (cs2 ct (fun i => A (48 + 13 * j + i)) (x (7 + j))) q → H1[q]? = H[q]?) (hB : va_P D vwCl (cs2 ct (fun i => A (48 + 13 * j + i)) o1) H1) : va_P D vwCl (csQ ct A (va_up x (7 + j) o1)) H1 := by
  match j, hj with
  | 0, _ => exact qj_7 hP hD hk hB
  | 1, _ => exact qj_8 hP hD hk hB
  | 2, _ => exact qj_9 hP hD hk hB
  | j + 3, h => exact absurd h (by omega)
set_option maxRecDepth 100000 in
theorem qrow_at0 {j : Nat} (hj : j < 4) : (csQ ct A x)[98 + 2 * j]? = some (A (98 + 2 * j), .inr (3, [.int ((x (14 + j)).1 0 0), .int ((x (14 + j)).1 1 0), .int ((x (14 + j)).1 2 0), .ref (A (98 + 2 * j + 1))])) := by
  match j, hj with
  | 0, _ => exact rfl
  | 1, _ => exact rfl
  | 2, _ => exact rfl
  | 3, _ => exact rfl
  | j + 4, h => exact absurd h (by omega)
set_option maxRecDepth 100000 in
theorem qrow_at1 {j : Nat} (hj : j < 4) : (csQ ct A x)[98 + 2 * j + 1]? = some (A (98 + 2 * j + 1), .inl (ct 1, 60, .inr (.inl ((x (14 + j)).2 3)))) := by
  match j, hj with
  | 0, _ => exact rfl
  | 1, _ => exact rfl
  | 2, _ => exact rfl
  | 3, _ => exact rfl
  | j + 4, h => exact absurd h (by omega)
set_option maxRecDepth 100000 in
theorem qimg_d2 {j : Nat} (hj : j < 3) (hD : va_D A0 (csQ ct A x)) : va_D A0 (cs2 ct (fun i => A (48 + 13 * j + i)) (x (7 + j)) ++ (cs2 ct (fun i => A (21 + i)) (x 5))) := by
  match j, hj with
  | 0, _ => exact hD.sub [48, 49, 50, 51, 52, 53, 54, 55, 56, 57, 58, 59, 60, 21, 22, 23, 24, 25, 26, 27, 28, 29, 30, 31, 32, 33] (by decide) rfl
  | 1, _ => exact hD.sub [61, 62, 63, 64, 65, 66, 67, 68, 69, 70, 71, 72, 73, 21, 22, 23, 24, 25, 26, 27, 28, 29, 30, 31, 32, 33] (by decide) rfl
  | 2, _ => exact hD.sub [74, 75, 76, 77, 78, 79, 80, 81, 82, 83, 84, 85, 86, 21, 22, 23, 24, 25, 26, 27, 28, 29, 30, 31, 32, 33] (by decide) rfl
  | j + 3, h => exact absurd h (by omega)
set_option maxRecDepth 100000 in
theorem qimg_dr {j : Nat} (hj : j < 3) (hD : va_D A0 (csQ ct A x)) : va_D A0 (cs2 ct (fun i => A (21 + i)) (x 5) ++ (cs2 ct (fun i => A (48 + 13 * j + i)) (x (7 + j)))) := by
  match j, hj with
  | 0, _ => exact hD.sub [21, 22, 23, 24, 25, 26, 27, 28, 29, 30, 31, 32, 33, 48, 49, 50, 51, 52, 53, 54, 55, 56, 57, 58, 59, 60] (by decide) rfl
  | 1, _ => exact hD.sub [21, 22, 23, 24, 25, 26, 27, 28, 29, 30, 31, 32, 33, 61, 62, 63, 64, 65, 66, 67, 68, 69, 70, 71, 72, 73] (by decide) rfl
  | 2, _ => exact hD.sub [21, 22, 23, 24, 25, 26, 27, 28, 29, 30, 31, 32, 33, 74, 75, 76, 77, 78, 79, 80, 81, 82, 83, 84, 85, 86] (by decide) rfl
  | j + 3, h => exact absurd h (by omega)
set_option maxRecDepth 100000 in
theorem qh_0 : (csQ ct A x)[0]? = some (A 0, .inr (9, [.ref (A 1), .ref (A 3), .ref (A 21), .ref (A 34), .ref (A 47), .int ((x 0).1 5 0), .ref (A 87), .ref (A 90), .ref (A 93), .ref (A 95), .ref (A 97), .ref (A 106), .ref (A 108), .ref (A 111)])) := rfl
set_option maxRecDepth 100000 in
theorem qh_1 : (csQ ct A x)[1]? = some (A 1, .inr (6, [.ref (A 2), .int ((x 1).1 1 0)])) := rfl
set_option maxRecDepth 100000 in
theorem qh_2 : (csQ ct A x)[3]? = some (A 3, .inr (1, [.ref (A 4), .ref (A 8), .int ((x 2).1 2 0), .int ((x 2).1 3 0), .int ((x 2).1 4 0), .int ((x 2).1 5 0)])) := rfl
set_option maxRecDepth 100000 in
theorem qh_3 : (csQ ct A x)[4]? = some (A 4, .inr (7, [.ref (A 5), .ref (A 6), .ref (A 7), .int ((x 3).1 3 0)])) := rfl
set_option maxRecDepth 100000 in
theorem qh_4 : (csQ ct A x)[8]? = some (A 8, .inr (2, [.int ((x 4).1 0 0), .int ((x 4).1 1 0), .int ((x 4).1 2 0), .int ((x 4).1 3 0), .int ((x 4).1 4 0), .ref (A 9), .ref (A 10), .ref (A 11), .int ((x 4).1 8 0), .ref (A 12), .ref (A 13), .ref (A 14), .ref (A 15), .int ((x 4).1 13 0), .ref (A 16), .ref (A 17), .int ((x 4).1 16 0), .ref (A 18), .ref (A 19), .ref (A 20)])) := rfl
set_option maxRecDepth 100000 in
theorem qh_5 : (csQ ct A x)[21]? = some (A 21, .inr (2, [.int ((x 5).1 0 0), .int ((x 5).1 1 0), .int ((x 5).1 2 0), .int ((x 5).1 3 0), .int ((x 5).1 4 0), .ref (A 22), .ref (A 23), .ref (A 24), .int ((x 5).1 8 0), .ref (A 25), .ref (A 26), .ref (A 27), .ref (A 28), .int ((x 5).1 13 0), .ref (A 29), .ref (A 30), .int ((x 5).1 16 0), .ref (A 31), .ref (A 32), .ref (A 33)])) := rfl
set_option maxRecDepth 100000 in
theorem qat_22 : (csQ ct A x)[22]? = some (A 22, .inl (ct 0, 10, .inl ((x 5).1 5))) := rfl
set_option maxRecDepth 100000 in
theorem qat_23 : (csQ ct A x)[23]? = some (A 23, .inl (ct 0, 10, .inl ((x 5).1 6))) := rfl
set_option maxRecDepth 100000 in
theorem qat_24 : (csQ ct A x)[24]? = some (A 24, .inl (ct 0, 10, .inl ((x 5).1 7))) := rfl
set_option maxRecDepth 100000 in
theorem qat_25 : (csQ ct A x)[25]? = some (A 25, .inl (ct 0, 5, .inl ((x 5).1 9))) := rfl
set_option maxRecDepth 100000 in
theorem qat_26 : (csQ ct A x)[26]? = some (A 26, .inl (ct 0, 5, .inl ((x 5).1 10))) := rfl
set_option maxRecDepth 100000 in
theorem qat_27 : (csQ ct A x)[27]? = some (A 27, .inl (ct 0, 5, .inl ((x 5).1 11))) := rfl
set_option maxRecDepth 100000 in
theorem qat_28 : (csQ ct A x)[28]? = some (A 28, .inl (ct 0, 5, .inl ((x 5).1 12))) := rfl
set_option maxRecDepth 100000 in
theorem qat_29 : (csQ ct A x)[29]? = some (A 29, .inl (ct 0, 5, .inl ((x 5).1 14))) := rfl
set_option maxRecDepth 100000 in
theorem qat_30 : (csQ ct A x)[30]? = some (A 30, .inl (ct 0, 5, .inl ((x 5).1 15))) := rfl
set_option maxRecDepth 100000 in
theorem qat_31 : (csQ ct A x)[31]? = some (A 31, .inl (ct 0, 30, .inl ((x 5).1 17))) := rfl
set_option maxRecDepth 100000 in
theorem qat_32 : (csQ ct A x)[32]? = some (A 32, .inl (ct 0, 30, .inl ((x 5).1 18))) := rfl
set_option maxRecDepth 100000 in
theorem qat_33 : (csQ ct A x)[33]? = some (A 33, .inl (ct 0, 30, .inl ((x 5).1 19))) := rfl
set_option maxRecDepth 100000 in
theorem qh_6 : (csQ ct A x)[34]? = some (A 34, .inr (2, [.int ((x 6).1 0 0), .int ((x 6).1 1 0), .int ((x 6).1 2 0), .int ((x 6).1 3 0), .int ((x 6).1 4 0), .ref (A 35), .ref (A 36), .ref (A 37), .int ((x 6).1 8 0), .ref (A 38), .ref (A 39), .ref (A 40), .ref (A 41), .int ((x 6).1 13 0), .ref (A 42), .ref (A 43), .int ((x 6).1 16 0), .ref (A 44), .ref (A 45), .ref (A 46)])) := rfl
set_option maxRecDepth 100000 in
theorem qat_35 : (csQ ct A x)[35]? = some (A 35, .inl (ct 0, 10, .inl ((x 6).1 5))) := rfl
set_option maxRecDepth 100000 in
theorem qat_36 : (csQ ct A x)[36]? = some (A 36, .inl (ct 0, 10, .inl ((x 6).1 6))) := rfl
set_option maxRecDepth 100000 in
theorem qat_37 : (csQ ct A x)[37]? = some (A 37, .inl (ct 0, 10, .inl ((x 6).1 7))) := rfl
set_option maxRecDepth 100000 in
theorem qat_38 : (csQ ct A x)[38]? = some (A 38, .inl (ct 0, 5, .inl ((x 6).1 9))) := rfl
set_option maxRecDepth 100000 in
theorem qat_39 : (csQ ct A x)[39]? = some (A 39, .inl (ct 0, 5, .inl ((x 6).1 10))) := rfl
set_option maxRecDepth 100000 in
theorem qat_40 : (csQ ct A x)[40]? = some (A 40, .inl (ct 0, 5, .inl ((x 6).1 11))) := rfl
set_option maxRecDepth 100000 in
theorem qat_41 : (csQ ct A x)[41]? = some (A 41, .inl (ct 0, 5, .inl ((x 6).1 12))) := rfl
set_option maxRecDepth 100000 in
theorem qat_42 : (csQ ct A x)[42]? = some (A 42, .inl (ct 0, 5, .inl ((x 6).1 14))) := rfl
set_option maxRecDepth 100000 in
theorem qat_43 : (csQ ct A x)[43]? = some (A 43, .inl (ct 0, 5, .inl ((x 6).1 15))) := rfl
set_option maxRecDepth 100000 in
theorem qat_44 : (csQ ct A x)[44]? = some (A 44, .inl (ct 0, 30, .inl ((x 6).1 17))) := rfl
set_option maxRecDepth 100000 in
theorem qat_45 : (csQ ct A x)[45]? = some (A 45, .inl (ct 0, 30, .inl ((x 6).1 18))) := rfl
set_option maxRecDepth 100000 in
theorem qat_46 : (csQ ct A x)[46]? = some (A 46, .inl (ct 0, 30, .inl ((x 6).1 19))) := rfl
set_option maxRecDepth 100000 in
theorem qh_7 : (csQ ct A x)[48]? = some (A 48, .inr (2, [.int ((x 7).1 0 0), .int ((x 7).1 1 0), .int ((x 7).1 2 0), .int ((x 7).1 3 0), .int ((x 7).1 4 0), .ref (A 49), .ref (A 50), .ref (A 51), .int ((x 7).1 8 0), .ref (A 52), .ref (A 53), .ref (A 54), .ref (A 55), .int ((x 7).1 13 0), .ref (A 56), .ref (A 57), .int ((x 7).1 16 0), .ref (A 58), .ref (A 59), .ref (A 60)])) := rfl
set_option maxRecDepth 100000 in
theorem qh_8 : (csQ ct A x)[61]? = some (A 61, .inr (2, [.int ((x 8).1 0 0), .int ((x 8).1 1 0), .int ((x 8).1 2 0), .int ((x 8).1 3 0), .int ((x 8).1 4 0), .ref (A 62), .ref (A 63), .ref (A 64), .int ((x 8).1 8 0), .ref (A 65), .ref (A 66), .ref (A 67), .ref (A 68), .int ((x 8).1 13 0), .ref (A 69), .ref (A 70), .int ((x 8).1 16 0), .ref (A 71), .ref (A 72), .ref (A 73)])) := rfl
set_option maxRecDepth 100000 in
theorem qh_9 : (csQ ct A x)[74]? = some (A 74, .inr (2, [.int ((x 9).1 0 0), .int ((x 9).1 1 0), .int ((x 9).1 2 0), .int ((x 9).1 3 0), .int ((x 9).1 4 0), .ref (A 75), .ref (A 76), .ref (A 77), .int ((x 9).1 8 0), .ref (A 78), .ref (A 79), .ref (A 80), .ref (A 81), .int ((x 9).1 13 0), .ref (A 82), .ref (A 83), .int ((x 9).1 16 0), .ref (A 84), .ref (A 85), .ref (A 86)])) := rfl
set_option maxRecDepth 100000 in
theorem qh_10 : (csQ ct A x)[87]? = some (A 87, .inr (8, [.ref (A 88), .ref (A 89), .int ((x 10).1 2 0)])) := rfl
set_option maxRecDepth 100000 in
theorem qh_11 : (csQ ct A x)[90]? = some (A 90, .inr (8, [.ref (A 91), .ref (A 92), .int ((x 11).1 2 0)])) := rfl
set_option maxRecDepth 100000 in
theorem qh_12 : (csQ ct A x)[93]? = some (A 93, .inr (5, [.ref (A 94), .int ((x 12).1 1 0), .int ((x 12).1 2 0), .int ((x 12).1 3 0), .int ((x 12).1 4 0), .int ((x 12).1 5 0), .int ((x 12).1 6 0), .int ((x 12).1 7 0), .int ((x 12).1 8 0)])) := rfl
set_option maxRecDepth 100000 in
theorem qh_13 : (csQ ct A x)[95]? = some (A 95, .inr (5, [.ref (A 96), .int ((x 13).1 1 0), .int ((x 13).1 2 0), .int ((x 13).1 3 0), .int ((x 13).1 4 0), .int ((x 13).1 5 0), .int ((x 13).1 6 0), .int ((x 13).1 7 0), .int ((x 13).1 8 0)])) := rfl
set_option maxRecDepth 100000 in
theorem qh_14 : (csQ ct A x)[98]? = some (A 98, .inr (3, [.int ((x 14).1 0 0), .int ((x 14).1 1 0), .int ((x 14).1 2 0), .ref (A 99)])) := rfl
set_option maxRecDepth 100000 in
theorem qh_15 : (csQ ct A x)[100]? = some (A 100, .inr (3, [.int ((x 15).1 0 0), .int ((x 15).1 1 0), .int ((x 15).1 2 0), .ref (A 101)])) := rfl
set_option maxRecDepth 100000 in
theorem qh_16 : (csQ ct A x)[102]? = some (A 102, .inr (3, [.int ((x 16).1 0 0), .int ((x 16).1 1 0), .int ((x 16).1 2 0), .ref (A 103)])) := rfl
set_option maxRecDepth 100000 in
theorem qh_17 : (csQ ct A x)[104]? = some (A 104, .inr (3, [.int ((x 17).1 0 0), .int ((x 17).1 1 0), .int ((x 17).1 2 0), .ref (A 105)])) := rfl
set_option maxRecDepth 100000 in
theorem qh_18 : (csQ ct A x)[106]? = some (A 106, .inr (4, [.int ((x 18).1 0 0), .int ((x 18).1 1 0), .int ((x 18).1 2 0), .ref (A 107)])) := rfl
set_option maxRecDepth 100000 in
theorem qh_19 : (csQ ct A x)[108]? = some (A 108, .inr (0, [.ref (A (chp (x 19) 1)), .ref (A (chp (x 19) 2)), .int ((x 19).1 2 0), .long ((x 19).2 3 0)])) := rfl
set_option maxRecDepth 100000 in
theorem qat_111 : (csQ ct A x)[111]? = some (A 111, .inl (ct 0, 61, .inl ((x 0).1 13))) := rfl
theorem qaA_24 {y : Nat → Ob} {e : va_E} : ∀ q, wA [(A 24, e)] q → wA (csQ ct A y) q := by
  intro q h
  rw [wA_mem] at h ⊢
  rw [csQ_fst]
  have h : q = A 24 := by simpa using h
  subst h
  simp [qfst]
theorem qdA_24 {e : va_E} (hD : va_D A0 (csQ ct A x)) : va_D A0 [(A 24, e)] := by
  refine ⟨fun i j p q hi hj _ => ?_, fun k q hk => ?_⟩
  · have h1 := (List.getElem?_eq_some_iff.mp hi).1
    have h2 := (List.getElem?_eq_some_iff.mp hj).1
    simp only [List.length_cons, List.length_nil] at h1 h2
    omega
  · match k, hk with
    | 0, hk =>
      cases hk
      have h9 : A0 (A 24) := hD.2 24 _ qat_24
      exact h9
    | k + 1, hk => simp at hk
set_option maxRecDepth 100000 in
theorem qjA_24 {f : Nat → Int32} (hP : va_P D vwCl (csQ ct A x) H) (hD : va_D A0 (csQ ct A x)) (hk : ∀ q : Nat, q < H.size → ¬ wA [(A 24, .inl (ct 0, 10, .inl ((x 5).1 7)))] q → H1[q]? = H[q]?) (hB : va_P D vwCl [(A 24, .inl (ct 0, 10, .inl f))] H1) : va_P D vwCl (csQ ct A (va_up x 5 (oA (x 5) 7 f))) H1 := by
  refine qj_5 hP hD (fun q h1 h2 => hk q h1 (fun z => h2 (wA_sub (w2 := cs2 ct (fun i => A (21 + i)) (x 5)) [3] rfl q z))) ?_
  exact sa2_7 (P_join (qs_5 hP) (D_left (w2 := []) (by rw [List.append_nil]; exact (qd_5 hD))) [3] rfl rfl hk hB)
theorem qaA_40 {y : Nat → Ob} {e : va_E} : ∀ q, wA [(A 40, e)] q → wA (csQ ct A y) q := by
  intro q h
  rw [wA_mem] at h ⊢
  rw [csQ_fst]
  have h : q = A 40 := by simpa using h
  subst h
  simp [qfst]
theorem qdA_40 {e : va_E} (hD : va_D A0 (csQ ct A x)) : va_D A0 [(A 40, e)] := by
  refine ⟨fun i j p q hi hj _ => ?_, fun k q hk => ?_⟩
  · have h1 := (List.getElem?_eq_some_iff.mp hi).1
    have h2 := (List.getElem?_eq_some_iff.mp hj).1
    simp only [List.length_cons, List.length_nil] at h1 h2
    omega
  · match k, hk with
    | 0, hk =>
      cases hk
      have h9 : A0 (A 40) := hD.2 40 _ qat_40
      exact h9
    | k + 1, hk => simp at hk
set_option maxRecDepth 100000 in
theorem qjA_40 {f : Nat → Int32} (hP : va_P D vwCl (csQ ct A x) H) (hD : va_D A0 (csQ ct A x)) (hk : ∀ q : Nat, q < H.size → ¬ wA [(A 40, .inl (ct 0, 5, .inl ((x 6).1 11)))] q → H1[q]? = H[q]?) (hB : va_P D vwCl [(A 40, .inl (ct 0, 5, .inl f))] H1) : va_P D vwCl (csQ ct A (va_up x 6 (oA (x 6) 11 f))) H1 := by
  refine qj_6 hP hD (fun q h1 h2 => hk q h1 (fun z => h2 (wA_sub (w2 := cs2 ct (fun i => A (34 + i)) (x 6)) [6] rfl q z))) ?_
  exact sa2_11 (P_join (qs_6 hP) (D_left (w2 := []) (by rw [List.append_nil]; exact (qd_6 hD))) [6] rfl rfl hk hB)
theorem qaA_41 {y : Nat → Ob} {e : va_E} : ∀ q, wA [(A 41, e)] q → wA (csQ ct A y) q := by
  intro q h
  rw [wA_mem] at h ⊢
  rw [csQ_fst]
  have h : q = A 41 := by simpa using h
  subst h
  simp [qfst]
theorem qdA_41 {e : va_E} (hD : va_D A0 (csQ ct A x)) : va_D A0 [(A 41, e)] := by
  refine ⟨fun i j p q hi hj _ => ?_, fun k q hk => ?_⟩
  · have h1 := (List.getElem?_eq_some_iff.mp hi).1
    have h2 := (List.getElem?_eq_some_iff.mp hj).1
    simp only [List.length_cons, List.length_nil] at h1 h2
    omega
  · match k, hk with
    | 0, hk =>
      cases hk
      have h9 : A0 (A 41) := hD.2 41 _ qat_41
      exact h9
    | k + 1, hk => simp at hk
set_option maxRecDepth 100000 in
theorem qjA_41 {f : Nat → Int32} (hP : va_P D vwCl (csQ ct A x) H) (hD : va_D A0 (csQ ct A x)) (hk : ∀ q : Nat, q < H.size → ¬ wA [(A 41, .inl (ct 0, 5, .inl ((x 6).1 12)))] q → H1[q]? = H[q]?) (hB : va_P D vwCl [(A 41, .inl (ct 0, 5, .inl f))] H1) : va_P D vwCl (csQ ct A (va_up x 6 (oA (x 6) 12 f))) H1 := by
  refine qj_6 hP hD (fun q h1 h2 => hk q h1 (fun z => h2 (wA_sub (w2 := cs2 ct (fun i => A (34 + i)) (x 6)) [7] rfl q z))) ?_
  exact sa2_12 (P_join (qs_6 hP) (D_left (w2 := []) (by rw [List.append_nil]; exact (qd_6 hD))) [7] rfl rfl hk hB)
theorem qaA_111 {y : Nat → Ob} {e : va_E} : ∀ q, wA [(A 111, e)] q → wA (csQ ct A y) q := by
  intro q h
  rw [wA_mem] at h ⊢
  rw [csQ_fst]
  have h : q = A 111 := by simpa using h
  subst h
  simp [qfst]
theorem qdA_111 {e : va_E} (hD : va_D A0 (csQ ct A x)) : va_D A0 [(A 111, e)] := by
  refine ⟨fun i j p q hi hj _ => ?_, fun k q hk => ?_⟩
  · have h1 := (List.getElem?_eq_some_iff.mp hi).1
    have h2 := (List.getElem?_eq_some_iff.mp hj).1
    simp only [List.length_cons, List.length_nil] at h1 h2
    omega
  · match k, hk with
    | 0, hk =>
      cases hk
      have h9 : A0 (A 111) := hD.2 111 _ qat_111
      exact h9
    | k + 1, hk => simp at hk
set_option maxRecDepth 100000 in
theorem qjA_111 {f : Nat → Int32} (hP : va_P D vwCl (csQ ct A x) H) (hD : va_D A0 (csQ ct A x)) (hk : ∀ q : Nat, q < H.size → ¬ wA [(A 111, .inl (ct 0, 61, .inl ((x 0).1 13)))] q → H1[q]? = H[q]?) (hB : va_P D vwCl [(A 111, .inl (ct 0, 61, .inl f))] H1) : va_P D vwCl (csQ ct A (va_up x 0 (oA (x 0) 13 f))) H1 := by
  rw [qc_111] at hP hD
  have h := P_seg (w4 := [(A 111, .inl (ct 0, 61, .inl f))]) hP hD hk hB
  rw [show csQ ct A (va_up x 0 (oA (x 0) 13 f)) = qp_111 ct A x ++ ([(A 111, .inl (ct 0, 61, .inl f))] ++ []) by rw [qc_111]; rfl]
  exact h
theorem D_Q {y : Nat → Ob} (h : va_D A0 (csQ ct A y)) (hy : (y 19).1 4 0 = 0) : ∀ x : Nat → Ob, va_D A0 (csQ ct A x) := by
  intro x
  have e1 : chp (y 19) 1 = 109 := if_pos hy
  have e2 : chp (y 19) 2 = 110 := if_pos hy
  by_cases hx : (x 19).1 4 0 = 0
  · refine D_cr h ?_
    rw [csQ_fst, csQ_fst]
    have e3 : chp (x 19) 1 = 109 := if_pos hx
    have e4 : chp (x 19) 2 = 110 := if_pos hx
    unfold qfst
    rw [e1, e2, e3, e4]
  · have e3 : chp (x 19) 1 = 110 := if_neg hx
    have e4 : chp (x 19) 2 = 109 := if_neg hx
    refine D_perm h ([0, 1, 2, 3, 4, 5, 6, 7, 8, 9, 10, 11, 12, 13, 14, 15, 16, 17, 18, 19, 20, 21, 22, 23, 24, 25, 26, 27, 28, 29, 30, 31, 32, 33, 34, 35, 36, 37, 38, 39, 40, 41, 42, 43, 44, 45, 46, 47, 48, 49, 50, 51, 52, 53, 54, 55, 56, 57, 58, 59, 60, 61, 62, 63, 64, 65, 66, 67, 68, 69, 70, 71, 72, 73, 74, 75, 76, 77, 78, 79, 80, 81, 82, 83, 84, 85, 86, 87, 88, 89, 90, 91, 92, 93, 94, 95, 96, 97, 98, 99, 100, 101, 102, 103, 104, 105, 106, 107, 108, 110, 109, 111]) (by decide) ?_
    rw [csQ_fst, csQ_fst]
    unfold qfst
    rw [e1, e2, e3, e4]
    rfl
end QL

