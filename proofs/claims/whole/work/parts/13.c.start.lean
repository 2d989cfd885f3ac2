/-! ===== the law's start ===== -/
theorem cwi_L_X9 {R : Room} {s : State} {args : Array Value} (ht : ∀ w ∈ wsL_law, w.before args s = true) (hR : rm_X9_init.frames + 1 ≤ R.frames ∧ 8 + (2 + 11) + rm_X9_init.locals ≤ R.locals) : CallB R s args RL 9 yX9_init cX9_init 2 none (.code yX9_init cX9_init 2 none :: wsL_law) rm_X9_init rm_X9_init.cells rm_X9_init.slots 0 ∧ yX9_init.name = "<init>" ∧ (Cond.instanceMethod yX9_init).before args s = true := cwI 0 ht (GL wq_1_9) rfl rfl rfl (ht _ wq_1_2) (ht _ wq_1_7) (ht _ wq_1_8) rfl (by decide +kernel) hR
theorem cwi_L_X10 {R : Room} {s : State} {args : Array Value} (ht : ∀ w ∈ wsL_law, w.before args s = true) (hR : rm_X10_init.frames + 1 ≤ R.frames ∧ 8 + (1 + 11) + rm_X10_init.locals ≤ R.locals) : CallB R s args RL 12 yX10_init cX10_init 1 none (.code yX10_init cX10_init 1 none :: wsL_law) rm_X10_init rm_X10_init.cells rm_X10_init.slots 0 ∧ yX10_init.name = "<init>" ∧ (Cond.instanceMethod yX10_init).before args s = true := cwI 0 ht (GL wq_6_22) rfl rfl rfl (ht _ wq_1_5) (ht _ wq_6_20) (ht _ wq_6_21) rfl (by decide +kernel) hR
def tmS : Nat → Term := fun i => match i with | 0 => .string "QuotedRiver$Tokens" 67 | 1 => .string "QuotedRiver$Tokens" 73 | 2 => .string "QuotedRiver$Tokens" 75 | 3 => .string "QuotedRiver$Tokens" 77 | 4 => .string "QuotedRiver$Tokens" 79 | 5 => .string "QuotedRiver$Tokens" 81 | 6 => .string "QuotedRiver$Tokens" 83 | 7 => .string "QuotedRiver$Tokens" 85 | 8 => .string "QuotedRiver$Tokens" 87 | 9 => .string "QuotedRiver$Tokens" 89 | 10 => .string "QuotedRiver$Tokens" 91 | 11 => .string "QuotedRiver$Tokens" 93 | _ => .string "QuotedRiver$Tokens" 95
theorem s_ex {b : Nat} {s : State} (hs : ∀ c ∈ flatC (Jvm.Cond.and given_1 narrow_1), c.before #[Value.ref b] s = true) : ∀ i : Nat, i < 13 → (Cond.exactly (tmS i) "java/lang/String").before #[Value.ref b] s = true := by
  intro i hi
  match i, hi with
  | 0, _ => exact hs _ (by decide +kernel)
  | 1, _ => exact hs _ (by decide +kernel)
  | 2, _ => exact hs _ (by decide +kernel)
  | 3, _ => exact hs _ (by decide +kernel)
  | 4, _ => exact hs _ (by decide +kernel)
  | 5, _ => exact hs _ (by decide +kernel)
  | 6, _ => exact hs _ (by decide +kernel)
  | 7, _ => exact hs _ (by decide +kernel)
  | 8, _ => exact hs _ (by decide +kernel)
  | 9, _ => exact hs _ (by decide +kernel)
  | 10, _ => exact hs _ (by decide +kernel)
  | 11, _ => exact hs _ (by decide +kernel)
  | 12, _ => exact hs _ (by decide +kernel)
  | i + 13, h => exact absurd h (by omega)
theorem s_co {b : Nat} {s : State} (hs : ∀ c ∈ flatC (Jvm.Cond.and given_1 narrow_1), c.before #[Value.ref b] s = true) : ∀ i : Nat, i < 13 → (Cond.eq (.field (tmS i) "java/lang/String" "coder" "B") (.int 0)).before #[Value.ref b] s = true := by
  intro i hi
  match i, hi with
  | 0, _ => exact hs _ (by decide +kernel)
  | 1, _ => exact hs _ (by decide +kernel)
  | 2, _ => exact hs _ (by decide +kernel)
  | 3, _ => exact hs _ (by decide +kernel)
  | 4, _ => exact hs _ (by decide +kernel)
  | 5, _ => exact hs _ (by decide +kernel)
  | 6, _ => exact hs _ (by decide +kernel)
  | 7, _ => exact hs _ (by decide +kernel)
  | 8, _ => exact hs _ (by decide +kernel)
  | 9, _ => exact hs _ (by decide +kernel)
  | 10, _ => exact hs _ (by decide +kernel)
  | 11, _ => exact hs _ (by decide +kernel)
  | 12, _ => exact hs _ (by decide +kernel)
  | i + 13, h => exact absurd h (by omega)
theorem s_ar {b : Nat} {s : State} (hs : ∀ c ∈ flatC (Jvm.Cond.and given_1 narrow_1), c.before #[Value.ref b] s = true) : ∀ i : Nat, i < 13 → (Cond.arrayOf (.field (tmS i) "java/lang/String" "value" "[B") .byte).before #[Value.ref b] s = true := by
  intro i hi
  match i, hi with
  | 0, _ => exact hs _ (by decide +kernel)
  | 1, _ => exact hs _ (by decide +kernel)
  | 2, _ => exact hs _ (by decide +kernel)
  | 3, _ => exact hs _ (by decide +kernel)
  | 4, _ => exact hs _ (by decide +kernel)
  | 5, _ => exact hs _ (by decide +kernel)
  | 6, _ => exact hs _ (by decide +kernel)
  | 7, _ => exact hs _ (by decide +kernel)
  | 8, _ => exact hs _ (by decide +kernel)
  | 9, _ => exact hs _ (by decide +kernel)
  | 10, _ => exact hs _ (by decide +kernel)
  | 11, _ => exact hs _ (by decide +kernel)
  | 12, _ => exact hs _ (by decide +kernel)
  | i + 13, h => exact absurd h (by omega)
theorem s_le {b : Nat} {s : State} (hs : ∀ c ∈ flatC (Jvm.Cond.and given_1 narrow_1), c.before #[Value.ref b] s = true) : ∀ i : Nat, i < 13 → (Cond.eq (.length (.field (tmS i) "java/lang/String" "value" "[B")) (.int (Int32.ofNat (lenS.getD i 0)))).before #[Value.ref b] s = true := by
  intro i hi
  match i, hi with
  | 0, _ => exact hs _ (by decide +kernel)
  | 1, _ => exact hs _ (by decide +kernel)
  | 2, _ => exact hs _ (by decide +kernel)
  | 3, _ => exact hs _ (by decide +kernel)
  | 4, _ => exact hs _ (by decide +kernel)
  | 5, _ => exact hs _ (by decide +kernel)
  | 6, _ => exact hs _ (by decide +kernel)
  | 7, _ => exact hs _ (by decide +kernel)
  | 8, _ => exact hs _ (by decide +kernel)
  | 9, _ => exact hs _ (by decide +kernel)
  | 10, _ => exact hs _ (by decide +kernel)
  | 11, _ => exact hs _ (by decide +kernel)
  | 12, _ => exact hs _ (by decide +kernel)
  | i + 13, h => exact absurd h (by omega)
theorem s_el {b : Nat} {s : State} (hs : ∀ c ∈ flatC (Jvm.Cond.and given_1 narrow_1), c.before #[Value.ref b] s = true) : ∀ i : Nat, i < 13 → ∀ j : Nat, j < lenS.getD i 0 → (Cond.eq (.elem (.field (tmS i) "java/lang/String" "value" "[B") (.int (Int32.ofNat j))) (.int ((bytS.getD i []).getD j 0))).before #[Value.ref b] s = true := by
  intro i hi
  match i, hi with
  | 0, _ =>
    intro j hj
    match j, hj with
    | 0, _ => exact hs _ (by decide +kernel)
    | 1, _ => exact hs _ (by decide +kernel)
    | j + 2, h => exact absurd h (Nat.not_lt.mpr (Nat.le_add_left _ _))
  | 1, _ =>
    intro j hj
    match j, hj with
    | 0, _ => exact hs _ (by decide +kernel)
    | 1, _ => exact hs _ (by decide +kernel)
    | j + 2, h => exact absurd h (Nat.not_lt.mpr (Nat.le_add_left _ _))
  | 2, _ =>
    intro j hj
    match j, hj with
    | 0, _ => exact hs _ (by decide +kernel)
    | 1, _ => exact hs _ (by decide +kernel)
    | 2, _ => exact hs _ (by decide +kernel)
    | j + 3, h => exact absurd h (Nat.not_lt.mpr (Nat.le_add_left _ _))
  | 3, _ =>
    intro j hj
    match j, hj with
    | 0, _ => exact hs _ (by decide +kernel)
    | 1, _ => exact hs _ (by decide +kernel)
    | 2, _ => exact hs _ (by decide +kernel)
    | j + 3, h => exact absurd h (Nat.not_lt.mpr (Nat.le_add_left _ _))
  | 4, _ =>
    intro j hj
    match j, hj with
    | 0, _ => exact hs _ (by decide +kernel)
    | 1, _ => exact hs _ (by decide +kernel)
    | 2, _ => exact hs _ (by decide +kernel)
    | 3, _ => exact hs _ (by decide +kernel)
    | j + 4, h => exact absurd h (Nat.not_lt.mpr (Nat.le_add_left _ _))
  | 5, _ =>
    intro j hj
    match j, hj with
    | 0, _ => exact hs _ (by decide +kernel)
    | 1, _ => exact hs _ (by decide +kernel)
    | 2, _ => exact hs _ (by decide +kernel)
    | 3, _ => exact hs _ (by decide +kernel)
    | j + 4, h => exact absurd h (Nat.not_lt.mpr (Nat.le_add_left _ _))
  | 6, _ =>
    intro j hj
    match j, hj with
    | 0, _ => exact hs _ (by decide +kernel)
    | 1, _ => exact hs _ (by decide +kernel)
    | 2, _ => exact hs _ (by decide +kernel)
    | 3, _ => exact hs _ (by decide +kernel)
    | j + 4, h => exact absurd h (Nat.not_lt.mpr (Nat.le_add_left _ _))
  | 7, _ =>
    intro j hj
    match j, hj with
    | 0, _ => exact hs _ (by decide +kernel)
    | 1, _ => exact hs _ (by decide +kernel)
    | 2, _ => exact hs _ (by decide +kernel)
    | 3, _ => exact hs _ (by decide +kernel)
    | j + 4, h => exact absurd h (Nat.not_lt.mpr (Nat.le_add_left _ _))
  | 8, _ =>
    intro j hj
    match j, hj with
    | 0, _ => exact hs _ (by decide +kernel)
    | 1, _ => exact hs _ (by decide +kernel)
    | 2, _ => exact hs _ (by decide +kernel)
    | 3, _ => exact hs _ (by decide +kernel)
    | 4, _ => exact hs _ (by decide +kernel)
    | j + 5, h => exact absurd h (Nat.not_lt.mpr (Nat.le_add_left _ _))
  | 9, _ =>
    intro j hj
    match j, hj with
    | 0, _ => exact hs _ (by decide +kernel)
    | 1, _ => exact hs _ (by decide +kernel)
    | 2, _ => exact hs _ (by decide +kernel)
    | 3, _ => exact hs _ (by decide +kernel)
    | 4, _ => exact hs _ (by decide +kernel)
    | j + 5, h => exact absurd h (Nat.not_lt.mpr (Nat.le_add_left _ _))
  | 10, _ =>
    intro j hj
    match j, hj with
    | 0, _ => exact hs _ (by decide +kernel)
    | 1, _ => exact hs _ (by decide +kernel)
    | 2, _ => exact hs _ (by decide +kernel)
    | 3, _ => exact hs _ (by decide +kernel)
    | 4, _ => exact hs _ (by decide +kernel)
    | j + 5, h => exact absurd h (Nat.not_lt.mpr (Nat.le_add_left _ _))
  | 11, _ =>
    intro j hj
    match j, hj with
    | 0, _ => exact hs _ (by decide +kernel)
    | 1, _ => exact hs _ (by decide +kernel)
    | 2, _ => exact hs _ (by decide +kernel)
    | 3, _ => exact hs _ (by decide +kernel)
    | 4, _ => exact hs _ (by decide +kernel)
    | j + 5, h => exact absurd h (Nat.not_lt.mpr (Nat.le_add_left _ _))
  | 12, _ =>
    intro j hj
    match j, hj with
    | 0, _ => exact hs _ (by decide +kernel)
    | 1, _ => exact hs _ (by decide +kernel)
    | 2, _ => exact hs _ (by decide +kernel)
    | 3, _ => exact hs _ (by decide +kernel)
    | 4, _ => exact hs _ (by decide +kernel)
    | 5, _ => exact hs _ (by decide +kernel)
    | j + 6, h => exact absurd h (Nat.not_lt.mpr (Nat.le_add_left _ _))
  | i + 13, h => exact absurd h (by omega)
theorem s_eq {b : Nat} {s : State} (hs : ∀ c ∈ flatC (Jvm.Cond.and given_1 narrow_1), c.before #[Value.ref b] s = true) : ∀ i : Nat, i < 13 → (Cond.eq (tmS i) ((fun i => match i with | 0 => Term.string "QuotedRiverModel" 185 | 1 => Term.string "QuotedRiverModel" 194 | 2 => Term.string "QuotedRiverModel" 187 | 3 => Term.string "QuotedRiverModel" 190 | 4 => Term.string "QuotedRiverModel" 197 | 5 => Term.string "QuotedRiverModel" 192 | 6 => Term.string "QuotedRiverModel" 199 | 7 => Term.string "QuotedRiverModel" 181 | 8 => Term.string "QuotedRiverModel" 195 | 9 => Term.string "QuotedRiverModel" 189 | 10 => Term.string "QuotedRiverModel" 175 | 11 => Term.string "QuotedRiverModel" 183 | _ => Term.string "QuotedRiverModel" 173 : Nat → Term) i)).before #[Value.ref b] s = true := by
  intro i hi
  match i, hi with
  | 0, _ => exact hs _ (by decide +kernel)
  | 1, _ => exact hs _ (by decide +kernel)
  | 2, _ => exact hs _ (by decide +kernel)
  | 3, _ => exact hs _ (by decide +kernel)
  | 4, _ => exact hs _ (by decide +kernel)
  | 5, _ => exact hs _ (by decide +kernel)
  | 6, _ => exact hs _ (by decide +kernel)
  | 7, _ => exact hs _ (by decide +kernel)
  | 8, _ => exact hs _ (by decide +kernel)
  | 9, _ => exact hs _ (by decide +kernel)
  | 10, _ => exact hs _ (by decide +kernel)
  | 11, _ => exact hs _ (by decide +kernel)
  | 12, _ => exact hs _ (by decide +kernel)
  | i + 13, h => exact absurd h (by omega)
theorem s_dist : ∀ i, i < 13 → ∀ j, j < 13 → i ≠ j → lenS.getD i 0 ≠ lenS.getD j 0 ∨ ∃ q, q < lenS.getD i 0 ∧ (bytS.getD i []).getD q 0 ≠ (bytS.getD j []).getD q 0 := by decide +kernel
set_option maxHeartbeats 4000000 in
/-- the texts, at the start -/
theorem start_S {b : Nat} {s : State} (hts : ∀ w ∈ lw_tbl, w.before #[Value.ref b] s = true) (hgv : (Jvm.Cond.and given_1 narrow_1).before #[Value.ref b] s = true) : ∃ adK adV : Nat → Nat, SX (s.heap.size, adK, adV) s s.heap := by
  have hs := flat_of_before _ hgv
  have hA : ∀ a : Nat, a < s.heap.size → ¬ s.heap.size ≤ a := fun a h => Nat.not_le.mpr h
  have h0 : ∀ i : Nat, ∃ q : Nat × Nat, i < 13 → (tmS i).eval #[Value.ref b] s none [] s = some (.ref q.1) ∧ va_O "java/lang/String" q.1 (fun z => s.heap.size ≤ z) s s.heap ∧ va_OF "java/lang/String" "coder" "B" (.int 0) q.1 (fun z => s.heap.size ≤ z) s s.heap ∧ va_OF "java/lang/String" "value" "[B" (.ref q.2) q.1 (fun z => s.heap.size ≤ z) s s.heap ∧ va_T .byte q.2 (lenS.getD i 0) (fun j => .int ((bytS.getD i []).getD j 0)) (fun z => s.heap.size ≤ z) s s.heap := by
    intro i
    by_cases hi : i < 13
    · obtain ⟨a, c, cA, kA, q1, q2, q3, q4, q5, q6, -⟩ := Cond.exactly_spec (args := #[Value.ref b]) (first := s) (o := none) (s := s) (idx := []) (t := tmS i) (cls := "java/lang/String") (s_ex hs i hi)
      obtain ⟨t, ht, hT⟩ := va_Tof (f := fun j => .int ((bytS.getD i []).getD j 0)) (A := fun z => s.heap.size ≤ z) (Nat.lt_of_lt_of_le (sc_len i hi) (by decide)) (s_ar hs i hi) (va_eqt (s_le hs i hi)) (fun j hj => va_eqt (s_el hs i hi j hj)) hA
      exact ⟨(a, t), fun _ => ⟨q1, ⟨cA, q3, q5, by rw [q6]; exact q2, hA a (Array.getElem?_eq_some_iff.mp q3).1⟩, vk_OFof q1 (va_eqt (s_co hs i hi)) hA, vk_OFof q1 ht hA, hT⟩⟩
    · exact ⟨(0, 0), fun h => absurd h hi⟩
  obtain ⟨ad, had⟩ := Classical.axiomOfChoice h0
  refine ⟨fun i => (ad i).1, fun i => (ad i).2, ⟨fun i hi => (had i hi).2, fun i j hi hj e => ?_⟩, ?_, ?_, ?_⟩
  · by_cases hij : i = j
    · exact hij
    · exfalso
      obtain ⟨-, -, -, ⟨cf, k, fi, f, cell, f1, f2, f3, f4, f5, f6⟩, ⟨cl, t1, t2, t3, t4, t5, t6, t7⟩⟩ := had i hi
      obtain ⟨-, -, -, ⟨cf', k', fi', f', cell', g1, g2, g3, g4, g5, g6⟩, ⟨cl', u1, u2, u3, u4, u5, u6, u7⟩⟩ := had j hj
      have e' : (ad i).1 = (ad j).1 := e
      rw [f1] at g1
      cases g1
      rw [e', g3] at f3
      cases f3
      rw [f5] at g5
      have e2 : (ad i).2 = (ad j).2 := by
        have h := Option.some.inj g5
        exact Value.ref.inj h
      rw [e2, u1] at t1
      cases t1
      rw [t5] at u5
      have e3 : lenS.getD i 0 = lenS.getD j 0 := by
        have h := congrArg Int32.toInt u5
        rw [show Int32.ofNat (lenS.getD i 0) = nI (lenS.getD i 0) from rfl, show Int32.ofNat (lenS.getD j 0) = nI (lenS.getD j 0) from rfl, nI_toInt (Nat.lt_of_lt_of_le (sc_len i hi) (by decide)), nI_toInt (Nat.lt_of_lt_of_le (sc_len j hj) (by decide))] at h
        exact Int.ofNat.inj h
      rcases s_dist i hi j hj hij with h | ⟨q, hq, h⟩
      · exact h e3
      · have h1 := t6 q hq
        have h2 := u6 q (by rw [← e3]; exact hq)
        rw [h1] at h2
        exact h (Value.int.inj (Option.some.inj h2))
  · intro w hw
    obtain ⟨k, hk⟩ := List.getElem?_of_mem hw
    match k, hk with
    | 0, hk => cases hk; exact vk_R.of (hts _ (List.mem_append_right _ (of_decide_eq_true (by decide +kernel)))) ((had 0 (by decide)).1)
    | 1, hk => cases hk; exact vk_R.of (hts _ (List.mem_append_right _ (of_decide_eq_true (by decide +kernel)))) ((had 1 (by decide)).1)
    | 2, hk => cases hk; exact vk_R.of (hts _ (List.mem_append_right _ (of_decide_eq_true (by decide +kernel)))) ((had 2 (by decide)).1)
    | 3, hk => cases hk; exact vk_R.of (hts _ (List.mem_append_right _ (of_decide_eq_true (by decide +kernel)))) ((had 3 (by decide)).1)
    | 4, hk => cases hk; exact vk_R.of (hts _ (List.mem_append_right _ (of_decide_eq_true (by decide +kernel)))) ((had 4 (by decide)).1)
    | 5, hk => cases hk; exact vk_R.of (hts _ (List.mem_append_right _ (of_decide_eq_true (by decide +kernel)))) ((had 5 (by decide)).1)
    | 6, hk => cases hk; exact vk_R.of (hts _ (List.mem_append_right _ (of_decide_eq_true (by decide +kernel)))) ((had 6 (by decide)).1)
    | 7, hk => cases hk; exact vk_R.of (hts _ (List.mem_append_right _ (of_decide_eq_true (by decide +kernel)))) ((had 7 (by decide)).1)
    | 8, hk => cases hk; exact vk_R.of (hts _ (List.mem_append_right _ (of_decide_eq_true (by decide +kernel)))) ((had 8 (by decide)).1)
    | 9, hk => cases hk; exact vk_R.of (hts _ (List.mem_append_right _ (of_decide_eq_true (by decide +kernel)))) ((had 9 (by decide)).1)
    | 10, hk => cases hk; exact vk_R.of (hts _ (List.mem_append_right _ (of_decide_eq_true (by decide +kernel)))) ((had 10 (by decide)).1)
    | 11, hk => cases hk; exact vk_R.of (hts _ (List.mem_append_right _ (of_decide_eq_true (by decide +kernel)))) ((had 11 (by decide)).1)
    | 12, hk => cases hk; exact vk_R.of (hts _ (List.mem_append_right _ (of_decide_eq_true (by decide +kernel)))) ((had 12 (by decide)).1)
    | 13, hk => cases hk; exact vk_R.of (hts _ (List.mem_append_right _ (of_decide_eq_true (by decide +kernel)))) (va_eqR (s_eq hs 12 (by decide)) (had 12 (by decide)).1)
    | 14, hk => cases hk; exact vk_R.of (hts _ (List.mem_append_right _ (of_decide_eq_true (by decide +kernel)))) (va_eqR (s_eq hs 10 (by decide)) (had 10 (by decide)).1)
    | 15, hk => cases hk; exact vk_R.of (hts _ (List.mem_append_right _ (of_decide_eq_true (by decide +kernel)))) (va_eqR (s_eq hs 7 (by decide)) (had 7 (by decide)).1)
    | 16, hk => cases hk; exact vk_R.of (hts _ (List.mem_append_right _ (of_decide_eq_true (by decide +kernel)))) (va_eqR (s_eq hs 11 (by decide)) (had 11 (by decide)).1)
    | 17, hk => cases hk; exact vk_R.of (hts _ (List.mem_append_right _ (of_decide_eq_true (by decide +kernel)))) (va_eqR (s_eq hs 0 (by decide)) (had 0 (by decide)).1)
    | 18, hk => cases hk; exact vk_R.of (hts _ (List.mem_append_right _ (of_decide_eq_true (by decide +kernel)))) (va_eqR (s_eq hs 2 (by decide)) (had 2 (by decide)).1)
    | 19, hk => cases hk; exact vk_R.of (hts _ (List.mem_append_right _ (of_decide_eq_true (by decide +kernel)))) (va_eqR (s_eq hs 9 (by decide)) (had 9 (by decide)).1)
    | 20, hk => cases hk; exact vk_R.of (hts _ (List.mem_append_right _ (of_decide_eq_true (by decide +kernel)))) (va_eqR (s_eq hs 3 (by decide)) (had 3 (by decide)).1)
    | 21, hk => cases hk; exact vk_R.of (hts _ (List.mem_append_right _ (of_decide_eq_true (by decide +kernel)))) (va_eqR (s_eq hs 5 (by decide)) (had 5 (by decide)).1)
    | 22, hk => cases hk; exact vk_R.of (hts _ (List.mem_append_right _ (of_decide_eq_true (by decide +kernel)))) (va_eqR (s_eq hs 1 (by decide)) (had 1 (by decide)).1)
    | 23, hk => cases hk; exact vk_R.of (hts _ (List.mem_append_right _ (of_decide_eq_true (by decide +kernel)))) (va_eqR (s_eq hs 8 (by decide)) (had 8 (by decide)).1)
    | 24, hk => cases hk; exact vk_R.of (hts _ (List.mem_append_right _ (of_decide_eq_true (by decide +kernel)))) (va_eqR (s_eq hs 4 (by decide)) (had 4 (by decide)).1)
    | 25, hk => cases hk; exact vk_R.of (hts _ (List.mem_append_right _ (of_decide_eq_true (by decide +kernel)))) (va_eqR (s_eq hs 6 (by decide)) (had 6 (by decide)).1)
    | k + 26, hk => simp at hk
  · exact va_Zof (hts _ (List.mem_append_right _ (of_decide_eq_true (by decide +kernel)))) (hts _ (List.mem_append_right _ (of_decide_eq_true (by decide +kernel)))) (va_eqi (hs _ (by decide +kernel))) hA
  · exact va_Zqof (hts _ (List.mem_append_right _ (of_decide_eq_true (by decide +kernel)))) (hts _ (List.mem_append_right _ (of_decide_eq_true (by decide +kernel)))) (hs _ (by decide +kernel)) hA
set_option maxHeartbeats 8000000 in
set_option maxRecDepth 100000 in
/-- THE LAW, from its entry -/
theorem whole_start {p : Program} {e : Env} {s : State} {m : MethodId} {below : List Frame} {meth : Method} {c : Code} (l : Launch) (hflags : l.flags = flags0) {b L : Nat} {xs : Nat → Int32} (hL : L ≤ 3072) (C0 : lw_At p s m meth c b L xs) : W p l e room_1 s m #[Value.ref b] below meth c s.heap [] 0 0 (lw_Z below #[Value.ref b] s) (entryFrame m ([Value.ref b] : List Value).toArray 4) := by
  obtain ⟨hx, hb, hr, hml, hown, hts, hX, hbl, hlocks, hgv⟩ := id C0
  have htl : ∀ w ∈ wsL_law, w.before #[Value.ref b] s = true := fun w h => hts w (wl_in w h)
  obtain ⟨D, ct, hK⟩ := start_K hts
  obtain ⟨adK, adV, hX0⟩ := start_S hts hgv
  obtain ⟨G, hG⟩ : ∃ G : GT, G = (s.heap.size, adK, adV) := ⟨_, rfl⟩
  rw [← hG] at hX0
  have hG1 : G.1 = s.heap.size := by rw [hG]
  have hGE : ∀ q, GE G q ↔ s.heap.size ≤ q := fun q => by unfold GE; rw [hG1]
  have hN : ∀ w ∈ NW, va_Nw w s := fun w h => va_Nw.of (nest_on (NW_nest w h)) (hts w (List.mem_append_right _ (NW_in w h)))
  have hbA : ¬ GE G b := fun h => Nat.not_le.mpr hbl ((hGE b).mp h)
  have hA : ∀ q : Nat, s.heap.size ≤ q → GE G q := fun q h => (hGE q).mpr h
  have hown : s.vm.findClass RL = some m.cls := hown
  have hS : va_S (GE G) s.heap s.heap [] := va_S.rf
  have hP : va_P D vwCl [] s.heap := fun k q h => by simp at h
  have hD : va_D (GE G) [] := ⟨fun i j p q h => by simp at h, fun k q h => by simp at h⟩
  have hl := lv_entry ([.ref b]) (n := 4) (Nat.le_of_ble_eq_true rfl)
  rw [lg_entry_eq]
  generalize (lg_sl ([.ref b]) ++ List.replicate (4 - (lg_sl ([.ref b])).length) Slot.unset).toArray = ls at hl ⊢
  have hl : lv_has ls 4 [(0, .ref b)] := hl
  refine va_new (D := D) (tys := tyl ct) (ci := 9) (fs := [.null, .null, .null, .null, .null, .int 0, .null, .null, .null, .null, .null, .null, .null, .null]) (C := RX9) (T := TX9) (N := 14) hx hb htl inlX9 tyX9 tyX9_ok hown (htl _ wq_1_0) (htl _ wq_1_1) (htl _ wq_1_2) hK hP hD hS hA rfl def_X9 (Nat.le_of_ble_eq_true rfl) (Nat.le_of_ble_eq_true rfl) dL_law_0 (fun q9 H_9 hP hD hS => ?_)
  have hP : va_P D vwCl [(q9, .inr (9, [.null, .null, .null, .null, .null, .int 0, .null, .null, .null, .null, .null, .null, .null, .null]))] H_9 := hP
  have hD : va_D (GE G) [(q9, .inr (9, [.null, .null, .null, .null, .null, .int 0, .null, .null, .null, .null, .null, .null, .null, .null]))] := hD
  refine lv_dup hx hb dL_law_3 rfl ?_
  have hFc := va_free (wc := [(q9, .inr (9, [.null, .null, .null, .null, .null, .int 0, .null, .null, .null, .null, .null, .null, .null, .null]))]) hD hS hA [0] rfl
  refine va_callv (va_runI (As := []) (rest := [.ref q9]) ⟨hx, hb, hml, hown, htl⟩ (ci_X9 l D ct G q9 H_9.size (hD.2 0 _ rfl) (by rw [hG1]; exact hS.1)) (cwi_L_X9 htl ⟨Nat.le_of_ble_eq_true rfl, Nat.le_of_ble_eq_true rfl⟩) ⟨Bi9_blind, Bi9_pre hP hK hN (hX0.stay hS (fun q h => h)) (va_AO.of (hts _ ao_2)) (va_AO.of (hts _ ao_3))⟩ rfl rfl hl.1 rfl (lv_room (Nat.le_of_ble_eq_true rfl)) dL_law_4 ⟨Nat.le_of_ble_eq_true rfl, Nat.le_of_ble_eq_true rfl⟩) hS (fun q _ h => hFc q h) hFc (fun A t H1 locs1 ht hvm hw hB hz1 hk1 hS => ?_)
  obtain ⟨eA, hP9, hD9⟩ := hB
  rw [ht] at hP9
  have hDx : ∀ x : Nat → Ob, va_D (GE G) (csQ ct A x) := fun x => D_any (hD9 x) hFc
  subst eA
  refine lv_astore_n (lv' := [(1, .ref (A 0)), (0, .ref b)]) hx hb dL_law_7 rfl hl (by decide) rfl (fun ls hl => ?_)
  have hP : va_P D vwCl (csQ ct A i_Q) H1 := hP9
  have hD := hDx i_Q
  refine va_new (D := D) (tys := tyl ct) (ci := 10) (fs := [.int 0, .null, .null, .null, .null, .int 0, .null, .int 0, .int 0, .int 0, .int 0, .int 0, .int 0, .int 0, .null, .null, .null, .null, .null, .null, .int 0, .int 0, .null, .null, .int 0, .int 0, .int 0, .null, .null, .int 0, .null, .null, .int 0, .int 0, .int 0, .null, .null, .int 0, .null, .null, .null, .null]) (C := RX10) (T := TX10) (N := 42) hx hb htl inlX10 tyX10 tyX10_ok hown (htl _ wq_1_3) (htl _ wq_1_4) (htl _ wq_1_5) hK hP hD hS hA rfl def_X10 (Nat.le_of_ble_eq_true rfl) (Nat.le_of_ble_eq_true rfl) dL_law_8 (fun q10 H_10 hP hD hS => ?_)
  have hP10 : va_P D vwCl [(q10, .inr (10, [.int 0, .null, .null, .null, .null, .int 0, .null, .int 0, .int 0, .int 0, .int 0, .int 0, .int 0, .int 0, .null, .null, .null, .null, .null, .null, .int 0, .int 0, .null, .null, .int 0, .int 0, .int 0, .null, .null, .int 0, .null, .null, .int 0, .int 0, .int 0, .null, .null, .int 0, .null, .null, .null, .null]))] H_10 := P_right hP
  have hP9 : va_P D vwCl (csQ ct A i_Q) H_10 := P_left hP
  have hD10 : va_D (GE G) [(q10, .inr (10, [.int 0, .null, .null, .null, .null, .int 0, .null, .int 0, .int 0, .int 0, .int 0, .int 0, .int 0, .int 0, .null, .null, .null, .null, .null, .null, .int 0, .int 0, .null, .null, .int 0, .int 0, .int 0, .null, .null, .int 0, .null, .null, .int 0, .int 0, .int 0, .null, .null, .int 0, .null, .null, .null, .null]))] := hD.sub (ws' := [(q10, .inr (10, [.int 0, .null, .null, .null, .null, .int 0, .null, .int 0, .int 0, .int 0, .int 0, .int 0, .int 0, .int 0, .null, .null, .null, .null, .null, .null, .int 0, .int 0, .null, .null, .int 0, .int 0, .int 0, .null, .null, .int 0, .null, .null, .int 0, .int 0, .int 0, .null, .null, .int 0, .null, .null, .null, .null]))]) [112] (by decide) rfl
  refine lv_dup hx hb dL_law_11 rfl ?_
  have hFc := va_free (wc := [(q10, .inr (10, [.int 0, .null, .null, .null, .null, .int 0, .null, .int 0, .int 0, .int 0, .int 0, .int 0, .int 0, .int 0, .null, .null, .null, .null, .null, .null, .int 0, .int 0, .null, .null, .int 0, .int 0, .int 0, .null, .null, .int 0, .null, .null, .int 0, .int 0, .int 0, .null, .null, .int 0, .null, .null, .null, .null]))]) hD10 hS hA [0] rfl
  refine va_callv (va_runI (As := []) (rest := [.ref q10]) ⟨hx, hb, hml, hown, htl⟩ (ci_X10 l D ct G q10 H_10.size (hD10.2 0 _ rfl) (by rw [hG1]; exact hS.1)) (cwi_L_X10 htl ⟨Nat.le_of_ble_eq_true rfl, Nat.le_of_ble_eq_true rfl⟩) ⟨Bi_blind, Bi_pre hP10 hK hN (hX0.stay hS (fun q h => h))⟩ rfl rfl hl.1 rfl (lv_room (Nat.le_of_ble_eq_true rfl)) dL_law_12 ⟨Nat.le_of_ble_eq_true rfl, Nat.le_of_ble_eq_true rfl⟩) hS (fun q _ h => hFc q h) hFc (fun B t H2 locs2 ht hvm hw hB hz2 hk2 hS => ?_)
  obtain ⟨eB, hQ, hDB⟩ := hB
  rw [ht] at hQ
  have hDy : ∀ o : Ob, va_D (GE G) (cs10 ct B o) := fun o => D_cr (D_any hDB hFc) rfl
  have hAB : ∀ (x : Nat → Ob) (o : Ob) (q : Nat), wA (csQ ct A x) q → wA (cs10 ct B o) q → False := by
    intro x o q h1 h2
    have h1 := wA_Q x i_Q q h1
    have h2 : wA (cs10 ct B i_X10) q := wA_cg (w1 := cs10 ct B o) (w2 := cs10 ct B i_X10) rfl q h2
    obtain ⟨k2, e2, h2⟩ := h2
    obtain ⟨k1, e1, h1⟩ := h1
    have hlt : q < H_10.size := (hP9 k1 (q, e1) h1).lt
    rcases hDB.2 k2 (q, e2) h2 with ⟨k, e, hk⟩ | h
    · have hk1' : k1 < (csQ ct A i_Q).length := (List.getElem?_eq_some_iff.mp h1).1
      match k, hk with
      | 0, hk =>
        have e0 := congrArg (fun z => z.1) (Option.some.inj hk)
        have := hD.1 k1 112 (q, e1) _ (by rw [List.getElem?_append_left hk1']; exact h1) rfl e0.symm
        subst this
        exact absurd hk1' (by rw [show (csQ ct A i_Q).length = 112 from rfl]; decide)
      | k + 1, hk => simp at hk
    · exact absurd hlt (Nat.not_lt.mpr h)
  have hPn : va_P D vwCl (csQ ct A i_Q) H2 := hP9.kept fun k q h => hk2 q.1 (hP9 k q h).lt (by
    rintro (⟨k', e', hk'⟩ | h')
    · have hk1' : k < (csQ ct A i_Q).length := (List.getElem?_eq_some_iff.mp h).1
      match k', hk' with
      | 0, hk' =>
        have e0 := congrArg (fun z => z.1) (Option.some.inj hk')
        have := hD.1 k 112 q _ (by rw [List.getElem?_append_left hk1']; exact h) rfl e0.symm
        subst this
        exact absurd hk1' (by rw [show (csQ ct A i_Q).length = 112 from rfl]; decide)
      | k' + 1, hk' => simp at hk'
    · exact absurd (hP9 k q h).lt (Nat.not_lt.mpr h'))
  subst eB
  refine lv_astore_n (lv' := [(2, .ref (B 0)), (1, .ref (A 0)), (0, .ref b)]) hx hb dL_law_15 rfl hl (by decide) rfl (fun ls hl => ?_)
  refine lv_iconst (v := 0) hx hb dL_law_16 (by decide) ?_
  refine lv_istore_n (lv' := [(3, .int 0), (2, .ref (B 0)), (1, .ref (A 0)), (0, .ref b)]) hx hb dL_law_17 rfl hl (by decide) rfl (fun ls hl => ?_)
  refine W.widen (k := LCn) (n := LSn) (Nat.le_of_ble_eq_true rfl) (Nat.le_of_ble_eq_true rfl) ?_
  exact law_loop (L := L) hG1 hr hlocks ⟨hx, hb, hml, hown, htl, hX, ⟨hbl, hbA⟩, hL, hK, hN, hX0, hDx, hDy, hAB⟩ (L + 7) 0 (Nat.zero_le _) (by omega) i_Q i_X10 rel_0 _ _ hPn hQ hS ls (lv_sub hl [3, 2, 1, 0] rfl)
