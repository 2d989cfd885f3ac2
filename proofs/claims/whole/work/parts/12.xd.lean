/-! ===== the class scans a text ===== -/
/-- a tape of the class -/
def TC (o : Ob) (B : Nat → Nat) (n : Nat) : Prop := o.1 1 0 = nI n ∧ n ≤ 700 ∧ ∀ k, k < n → o.1 0 k = nI (B k) ∧ B k < 256
theorem e_byteAt (fu : Nat) {o : Ob} {B : Nat → Nat} {n k : Nat} (h : TC o B n) (hk : k < n) : p_X6_byteAt fu o (nI k) = some (nI (B k)) := by
  have hn := h.2.1
  have ib : (inb (nI k) 700 = true) := by rw [inb_nI (by omega) (by omega)]; trivial
  unfold p_X6_byteAt
  rw [if_neg (show ¬ nI k < 0 by rw [lt_nl (by omega) (by decide)]; omega), if_neg (show ¬ (700 : Int32) ≤ nI k by rw [le_ln (by decide) (by omega)]; omega), if_pos ib, cl_nI (by omega), (h.2.2 k hk).1]
theorem e_isBl (fu : Nat) {m : Nat} (hm : m < 256) : p_X7_isBlank fu (nI m) = some (if isBl m = true then 1 else 0) := by
  unfold p_X7_isBlank isBl
  simp (disch := omega) only [inb_nI, inb_lit, cl_nI, cl_lit, nI_add, add_nl, add_ln, mul_ln, pk_mul, le_nn, lt_nn, eq_nn, le_nl, lt_nl, eq_nl, le_ln, lt_ln, eq_ln, eq_ll, lt_ll, le_ll, eq_nm1, eq_nm2, eq_nm3, eq_nm4]
  by_cases h : m = 32
  · rw [if_pos h, if_pos (decide_eq_true (Or.inl h))]
  · by_cases h1 : m = 10
    · rw [if_neg h, if_pos h1, if_pos (decide_eq_true (Or.inr h1))]
    · rw [if_neg h, if_neg h1, if_neg (by simp [h, h1])]
theorem e_isDi (fu : Nat) {m : Nat} (hm : m < 256) : p_X7_isDigit fu (nI m) = some (if isDi m = true then 1 else 0) := by
  unfold p_X7_isDigit isDi
  simp (disch := omega) only [inb_nI, inb_lit, cl_nI, cl_lit, nI_add, add_nl, add_ln, mul_ln, pk_mul, le_nn, lt_nn, eq_nn, le_nl, lt_nl, eq_nl, le_ln, lt_ln, eq_ln, eq_ll, lt_ll, le_ll, eq_nm1, eq_nm2, eq_nm3, eq_nm4]
  by_cases h : m < 48
  · rw [if_pos h, if_neg (by simp; omega)]
  · by_cases h1 : 57 < m
    · rw [if_neg h, if_pos h1, if_neg (by simp; omega)]
    · rw [if_neg h, if_neg h1, if_pos (by simp; omega)]
theorem e_isLe (fu : Nat) {m : Nat} (hm : m < 256) : p_X7_isLetter fu (nI m) = some (if isLe m = true then 1 else 0) := by
  unfold p_X7_isLetter isLe
  simp (disch := omega) only [inb_nI, inb_lit, cl_nI, cl_lit, nI_add, add_nl, add_ln, mul_ln, pk_mul, le_nn, lt_nn, eq_nn, le_nl, lt_nl, eq_nl, le_ln, lt_ln, eq_ln, eq_ll, lt_ll, le_ll, eq_nm1, eq_nm2, eq_nm3, eq_nm4]
  by_cases h : m < 97
  · rw [if_pos h, if_neg (by simp; omega)]
  · by_cases h1 : 122 < m
    · rw [if_neg h, if_pos h1, if_neg (by simp; omega)]
    · rw [if_neg h, if_neg h1, if_pos (by simp; omega)]
theorem if10 (b : Bool) : ((if b = true then (1 : Int32) else 0) = 0) = (b = false) := by cases b <;> decide
theorem e_L15 (fu : Nat) {o1 : Ob} {B : Nat → Nat} {n : Nat} (h : TC o1 B n) (c : Ob → Int32 → Int32 → Option (Int32 × Ob)) (z : Ob) (v : Int32) : ∀ (m q : Nat), q ≤ n → n - q < m → p_X7_scanToken_L15 fu o1 c m z v (nI q) = c z v (nI (run B n isLe q)) := by
  intro m
  have hn := h.2.1
  induction m with
  | zero => intro q _ h1; omega
  | succ m ih =>
    intro q hq hm
    rw [p_X7_scanToken_L15, h.1]
    by_cases e : q = n
    · subst e
      rw [if_pos (show nI q ≤ nI q by rw [le_nn (by omega) (by omega)]; exact Nat.le_refl _), run_end (Or.inl (Nat.le_refl _))]
    · rw [if_neg (show ¬ nI n ≤ nI q by rw [le_nn (by omega) (by omega)]; omega), e_byteAt fu h (by omega), Option.bind_some, e_isLe fu (h.2.2 q (by omega)).2, Option.bind_some]
      cases hb : isLe (B q) with
      | false =>
        rw [if_pos (show (if false = true then (1 : Int32) else 0) = 0 from rfl), run_end (Or.inr hb)]
      | true =>
        rw [if_neg (show ¬ (if true = true then (1 : Int32) else 0) = 0 by decide), add_nl, ih (q + 1) (by omega) (by omega), run_go (show q < n by omega) hb]
theorem e_L68 (fu : Nat) {o1 : Ob} {B : Nat → Nat} {n : Nat} (h : TC o1 B n) (c : Ob → Int32 → Int32 → Option (Int32 × Ob)) (z : Ob) (v : Int32) : ∀ (m q : Nat), q ≤ n → n - q < m → p_X7_scanToken_L68 fu o1 c m z v (nI q) = c z v (nI (run B n isDi q)) := by
  intro m
  have hn := h.2.1
  induction m with
  | zero => intro q _ h1; omega
  | succ m ih =>
    intro q hq hm
    rw [p_X7_scanToken_L68, h.1]
    by_cases e : q = n
    · subst e
      rw [if_pos (show nI q ≤ nI q by rw [le_nn (by omega) (by omega)]; exact Nat.le_refl _), run_end (Or.inl (Nat.le_refl _))]
    · rw [if_neg (show ¬ nI n ≤ nI q by rw [le_nn (by omega) (by omega)]; omega), e_byteAt fu h (by omega), Option.bind_some, e_isDi fu (h.2.2 q (by omega)).2, Option.bind_some]
      cases hb : isDi (B q) with
      | false =>
        rw [if_pos (show (if false = true then (1 : Int32) else 0) = 0 from rfl), run_end (Or.inr hb)]
      | true =>
        rw [if_neg (show ¬ (if true = true then (1 : Int32) else 0) = 0 by decide), add_nl, ih (q + 1) (by omega) (by omega), run_go (show q < n by omega) hb]
theorem cap_e {a H : Nat} (ha : a < 2147483648) (hH : H < 2147483648) : (if nI a < nI H then nI a else nI H) = nI (cap H a) := by
  simp only [lt_nn ha hH]
  unfold cap
  split <;> rfl
theorem e_valueOf (fu : Nat) (hf : 2000 ≤ fu) {o1 : Ob} {B : Nat → Nat} {n p q : Nat} (h : TC o1 B n) (hpq : p ≤ q) (hq : q ≤ n) (hd : ∀ k, p ≤ k → k < q → 48 ≤ B k) : p_X7_valueOf fu o1 (nI p) (nI q) = some (nI (nuv B 1000 p (q - p))) := by
  have hn := h.2.1
  unfold p_X7_valueOf
  obtain ⟨r, er, rfl⟩ := loop_inv (fun m i s => p_X7_valueOf_L5 fu o1 m (nI q) s (nI (p + i))) (q - p) (fun i (s : Int32) => s = nI (nuv B 1000 p i)) (fun r => r = nI (nuv B 1000 p (q - p))) (by
    rintro m s rfl
    refine ⟨_, ?_, rfl⟩
    show p_X7_valueOf_L5 fu o1 (m + 1) (nI q) _ (nI (p + (q - p))) = _
    rw [p_X7_valueOf_L5, if_pos (show nI q ≤ nI (p + (q - p)) by rw [le_nn (by omega) (by omega)]; omega)]) (by
    rintro m i s hi rfl
    right
    refine ⟨nI (nuv B 1000 p (i + 1)), ?_, rfl⟩
    show p_X7_valueOf_L5 fu o1 (m + 1) (nI q) _ (nI (p + i)) = p_X7_valueOf_L5 fu o1 m (nI q) _ (nI (p + (i + 1)))
    have hb := nuv_b B 1000 p i
    have h256 := (h.2.2 (p + i) (by omega)).2
    have h48 := hd (p + i) (by omega) (by omega)
    rw [p_X7_valueOf_L5, if_neg (show ¬ nI q ≤ nI (p + i) by rw [le_nn (by omega) (by omega)]; omega), e_byteAt fu h (by omega), Option.bind_some]
    have e : ((10 : Int32) * nI (nuv B 1000 p i)) + nI (B (p + i)) - 48 = nI (10 * nuv B 1000 p i + B (p + i) - 48) := by
      rw [show (48 : Int32) = nI 48 from rfl, mul_ln, nI_add]
      exact pk_sub (by omega)
    rw [e, show (1000 : Int32) = nI 1000 from rfl, cap_e (by omega) (by omega), add_nl, nuv, Nat.add_assoc]) fu 0 0 (Nat.zero_le _) (by omega) rfl
  exact er
theorem e_length {w : Nat} : p_J0_length w = some (nI (lw w)) := rfl
theorem e_charAt {w k : Nat} (hw : w < 13) (hk : k < lw w) : p_J0_charAt w (nI k) = some (nI (cw w k)) := by
  have h6 := (lw_ok w hw).2
  unfold p_J0_charAt
  have ib : (inb (nI k) (lenS.getD w 0) = true) := by rw [inb_nI (n := lenS.getD w 0) hk (by show lw w < _; omega)]; trivial
  rw [if_pos ib, cl_nI (by omega), (cw_ok w hw k hk).1]
theorem e_says (fu : Nat) (hf : 2000 ≤ fu) {o1 : Ob} {B : Nat → Nat} {n p w : Nat} (h : TC o1 B n) (hw : w < 13) (hp : p + lw w ≤ n) : ∃ b : Bool, (b = true ↔ sy B p w) ∧ p_X6_says fu o1 w (nI p) = some (if b = true then 1 else 0) := by
  have hn := h.2.1
  have h6 := (lw_ok w hw).2
  unfold p_X6_says
  obtain ⟨r, er, b, hb, rfl⟩ := loop_inv (fun m i (_ : Unit) => p_X6_says_L2 fu o1 w m (nI p) (nI i)) (lw w) (fun i _ => ∀ k, k < i → B (p + k) = cw w k) (fun r => ∃ b : Bool, (b = true ↔ sy B p w) ∧ r = (if b = true then 1 else 0)) (by
    rintro m - hk
    refine ⟨1, ?_, true, ⟨fun _ => hk, fun _ => rfl⟩, rfl⟩
    show p_X6_says_L2 fu o1 w (m + 1) (nI p) (nI (lw w)) = _
    rw [p_X6_says_L2, e_length, Option.bind_some, if_pos (show nI (lw w) ≤ nI (lw w) by rw [le_nn (by omega) (by omega)]; exact Nat.le_refl _)]) (by
    rintro m i - hi hk
    have h256 := (h.2.2 (p + i) (by omega)).2
    have hc := cw_ok w hw i hi
    show (∃ r, p_X6_says_L2 fu o1 w (m + 1) (nI p) (nI i) = some r ∧ _) ∨ (∃ s' : Unit, p_X6_says_L2 fu o1 w (m + 1) (nI p) (nI i) = p_X6_says_L2 fu o1 w m (nI p) (nI (i + 1)) ∧ _)
    rw [p_X6_says_L2, e_length, Option.bind_some, if_neg (show ¬ nI (lw w) ≤ nI i by rw [le_nn (by omega) (by omega)]; omega), nI_add, e_byteAt fu h (by omega), Option.bind_some, e_charAt hw hi, Option.bind_some, add_nl]
    simp only [eq_nn (show B (p + i) < 2147483648 by omega) (show cw w i < 2147483648 by omega)]
    by_cases e : B (p + i) = cw w i
    · right
      rw [if_pos e]
      refine ⟨(), rfl, fun k hk' => ?_⟩
      by_cases ek : k = i
      · rw [ek, e]
      · exact hk k (by omega)
    · left
      rw [if_neg e]
      exact ⟨0, rfl, false, ⟨fun z => (by cases z), fun z => absurd (z i hi) e⟩, rfl⟩) fu 0 () (Nat.zero_le _) (by omega) (fun k hk => by omega)
  exact ⟨b, hb, er⟩
theorem e_wordKind (fu : Nat) (hf : 2000 ≤ fu) {o1 : Ob} {B : Nat → Nat} {n p L : Nat} (h : TC o1 B n) (hp : p + L ≤ n) : ∃ s : Nat → Bool, (∀ w, w < 13 → lw w = L → (s w = true ↔ sy B p w)) ∧ p_X7_wordKind fu o1 (nI p) (nI L) = some (wkf L s) := by
  have hn := h.2.1
  obtain ⟨l0, l1, l2, l3, l4, l5, l6, l7, l8, l9, l10, l11, l12⟩ := lw_v
  have ch : ∀ w : Nat, ∃ b : Bool, w < 13 → lw w = L → ((b = true ↔ sy B p w) ∧ p_X6_says fu o1 w (nI p) = some (if b = true then 1 else 0)) := by
    intro w
    by_cases hw : w < 13 ∧ lw w = L
    · obtain ⟨b, h1, h2⟩ := e_says fu hf h hw.1 (p := p) (by omega)
      exact ⟨b, fun _ _ => ⟨h1, h2⟩⟩
    · exact ⟨false, fun a b => absurd ⟨a, b⟩ hw⟩
  obtain ⟨s, hs⟩ := Classical.axiomOfChoice ch
  refine ⟨s, fun w hw e => (hs w hw e).1, ?_⟩
  have hc : ∀ w, w < 13 → lw w = L → p_X6_says fu o1 w (nI p) = some (if s w = true then 1 else 0) := fun w hw e => (hs w hw e).2
  unfold p_X7_wordKind wkf
  have q : ∀ k : Nat, k < 100 → (nI L = nI k) = (L = k) := fun k hk => eq_nn (by omega) (by omega)
  have q2 : (nI L = (2 : Int32)) = (L = 2) := q 2 (by omega)
  have q3 : (nI L = (3 : Int32)) = (L = 3) := q 3 (by omega)
  have q4 : (nI L = (4 : Int32)) = (L = 4) := q 4 (by omega)
  have q5 : (nI L = (5 : Int32)) = (L = 5) := q 5 (by omega)
  have q6 : (nI L = (6 : Int32)) = (L = 6) := q 6 (by omega)
  simp only [q2, q3, q4, q5, q6]
  by_cases h2 : L = 2
  · rw [if_pos h2, if_pos h2, hc 0 (by decide) (by omega), hc 1 (by decide) (by omega)]
    cases s 0 <;> cases s 1 <;> rfl
  · rw [if_neg h2, if_neg h2]
    by_cases h3 : L = 3
    · rw [if_pos h3, if_pos h3, hc 2 (by decide) (by omega), hc 3 (by decide) (by omega)]
      cases s 2 <;> cases s 3 <;> rfl
    · rw [if_neg h3, if_neg h3]
      by_cases h4 : L = 4
      · rw [if_pos h4, if_pos h4, hc 4 (by decide) (by omega), hc 5 (by decide) (by omega), hc 6 (by decide) (by omega), hc 7 (by decide) (by omega)]
        cases s 4 <;> cases s 5 <;> cases s 6 <;> cases s 7 <;> rfl
      · rw [if_neg h4, if_neg h4]
        by_cases h5 : L = 5
        · rw [if_pos h5, if_pos h5, hc 8 (by decide) (by omega), hc 9 (by decide) (by omega), hc 10 (by decide) (by omega), hc 11 (by decide) (by omega)]
          cases s 8 <;> cases s 9 <;> cases s 10 <;> cases s 11 <;> rfl
        · rw [if_neg h5, if_neg h5]
          by_cases h6 : L = 6
          · rw [if_pos h6, if_pos h6, hc 12 (by decide) (by omega)]
            cases s 12 <;> rfl
          · rw [if_neg h6, if_neg h6]
/-- the kind of the token at p, as the class tells it -/
def KD (B : Nat → Nat) (n p : Nat) (k : Int32) : Prop :=
  (p = n ∧ k = 0) ∨ (p < n ∧ isLe (B p) = true ∧ (∃ s : Nat → Bool, (∀ w, w < 13 → lw w = nxt B n p - p → (s w = true ↔ sy B p w)) ∧ k = wkf (nxt B n p - p) s)) ∨ (p < n ∧ isLe (B p) = false ∧ isDi (B p) = true ∧ k = 2) ∨ (p < n ∧ isLe (B p) = false ∧ isDi (B p) = false ∧ k = if B p = 59 then 1 else 3)
/-- the number of the token at p -/
def NV (B : Nat → Nat) (n H p : Nat) : Nat := nuv B H p (nxt B n p - p)
theorem e_addT (fu : Nat) (o : Ob) (k p v : Int32) {t : Nat} (h : o.1 3 0 = nI t) (ht : t < 701) : p_X7_add fu o k p v = some (oI (oA (oA (oA o 0 (upd (o.1 0) t k)) 1 (upd (o.1 1) t p)) 2 (upd (o.1 2) t v)) 3 (nI (t + 1))) := by
  unfold p_X7_add
  rw [h, e_put fu _ _ ht (by omega), Option.bind_some]
  rw [show (oA o 0 (upd (o.1 0) t k)).1 3 0 = nI t from h, show (oA o 0 (upd (o.1 0) t k)).1 1 = o.1 1 from rfl, e_put fu _ _ ht (by omega), Option.bind_some]
  rw [show (oA (oA o 0 (upd (o.1 0) t k)) 1 (upd (o.1 1) t p)).1 3 0 = nI t from h, show (oA (oA o 0 (upd (o.1 0) t k)) 1 (upd (o.1 1) t p)).1 2 = o.1 2 from rfl, e_put fu _ _ ht (by omega), Option.bind_some]
  rw [show (oA (oA (oA o 0 (upd (o.1 0) t k)) 1 (upd (o.1 1) t p)) 2 (upd (o.1 2) t v)).1 3 0 = nI t from h, add_nl]
/-- tokens 0 .. t - 1 as they are kept -/
def TKs (o : Ob) (B : Nat → Nat) (n t : Nat) : Prop := ∀ j, j < t → KD B n (tkp B n j) (o.1 0 j) ∧ o.1 1 j = nI (tkp B n j) ∧ (o.1 0 j = 2 → o.1 2 j = nI (NV B n 1000 (tkp B n j)))
theorem TKs.add {o : Ob} {B : Nat → Nat} {n t : Nat} (h : TKs o B n t) {k v : Int32} (h1 : KD B n (tkp B n t) k) (h2 : k = 2 → v = nI (NV B n 1000 (tkp B n t))) : TKs (oI (oA (oA (oA o 0 (upd (o.1 0) t k)) 1 (upd (o.1 1) t (nI (tkp B n t)))) 2 (upd (o.1 2) t v)) 3 (nI (t + 1))) B n (t + 1) := by
  intro j hj
  show KD B n (tkp B n j) (upd (o.1 0) t k j) ∧ upd (o.1 1) t (nI (tkp B n t)) j = nI (tkp B n j) ∧ (upd (o.1 0) t k j = 2 → upd (o.1 2) t v j = nI (NV B n 1000 (tkp B n j)))
  rw [upd_v, upd_v, upd_v]
  by_cases e : j = t
  · rw [if_pos e, if_pos e, if_pos e, e]
    exact ⟨h1, rfl, h2⟩
  · rw [if_neg e, if_neg e, if_neg e]
    exact h j (by omega)
theorem e_scanToken (fu : Nat) (hf : 2000 ≤ fu) {o1 o : Ob} {B : Nat → Nat} {n t : Nat} (h : TC o1 B n) (hp : tkp B n t < n) (hT : TKs o B n t) (h3 : o.1 3 0 = nI t) (ht : t < 701) : ∃ s, p_X7_scanToken fu o o1 (nI (tkp B n t)) = some (nI (nxt B n (tkp B n t)), s) ∧ TKs s B n (t + 1) ∧ s.1 3 0 = nI (t + 1) := by
  have hn := h.2.1
  obtain ⟨p, hpe⟩ : ∃ p, p = tkp B n t := ⟨_, rfl⟩
  have hT' := hT
  rw [← hpe] at hp ⊢
  have h256 := (h.2.2 p hp).2
  have hB := e_byteAt fu h hp
  have hx := nxt_le B hp
  have hg := nxt_gt B n p
  unfold p_X7_scanToken
  rw [hB, Option.bind_some, e_isLe fu h256, Option.bind_some, Option.bind_some, Option.bind_some, e_isDi fu h256, Option.bind_some, add_nl]
  cases hl : isLe (B p) with
  | true =>
    have ex : nxt B n p = run B n isLe (p + 1) := by unfold nxt; rw [if_pos hl]
    rw [if_neg (show ¬ (if true = true then (1 : Int32) else 0) = 0 by decide), e_L15 fu h _ _ _ fu (p + 1) (by omega) (by omega), ← ex]
    obtain ⟨s, hs, es⟩ := e_wordKind fu hf h (p := p) (L := nxt B n p - p) (by omega)
    show ∃ s, ((p_X7_wordKind fu o1 (nI p) (nI (nxt B n p) - nI p)).bind fun r_46 => (p_X7_add fu o r_46 (nI p) (0 : Int32)).bind fun r_51 => some (nI (nxt B n p), r_51)) = some (nI (nxt B n p), s) ∧ _
    rw [pk_sub (by omega), es, Option.bind_some, e_addT fu o _ _ _ h3 ht, Option.bind_some]
    have k2 : wkf (nxt B n p - p) s ≠ 2 := by
      rcases wkf_or (nxt B n p - p) s with ⟨e, -⟩ | ⟨w, hw, -, -, e⟩
      · rw [e]; decide
      · rw [e]; exact (kw_df w hw).2.1
    refine ⟨_, rfl, ?_, rfl⟩
    rw [hpe]
    exact hT.add (Or.inr (Or.inl ⟨hpe ▸ hp, hpe ▸ hl, s, hpe ▸ hs, rfl⟩)) (fun z => absurd (by rw [hpe]; exact z) k2)
  | false =>
    rw [if_pos (show (if false = true then (1 : Int32) else 0) = 0 from rfl)]
    cases hd : isDi (B p) with
    | true =>
      have ex : nxt B n p = run B n isDi (p + 1) := by unfold nxt; rw [hl, if_neg (by decide), if_pos hd]
      rw [if_neg (show ¬ (if true = true then (1 : Int32) else 0) = 0 by decide), e_L68 fu h _ _ _ fu (p + 1) (by omega) (by omega), ← ex]
      have ev := e_valueOf fu hf h (p := p) (q := nxt B n p) (by omega) hx (fun k h1 h2 => by
        by_cases e : k = p
        · rw [e]
          have := of_decide_eq_true hd
          exact this.1
        · rw [ex] at h2
          have := of_decide_eq_true (run_in B n isDi (p + 1) k (by omega) h2).2
          exact this.1)
      show ∃ s, ((p_X7_valueOf fu o1 (nI p) (nI (nxt B n p))).bind fun r_99 => (p_X7_add fu o (2 : Int32) (nI p) r_99).bind fun r_102 => some (nI (nxt B n p), r_102)) = some (nI (nxt B n p), s) ∧ _
      rw [ev, Option.bind_some, e_addT fu o _ _ _ h3 ht, Option.bind_some]
      refine ⟨_, rfl, ?_, rfl⟩
      rw [hpe]
      exact hT.add (Or.inr (Or.inr (Or.inl ⟨hpe ▸ hp, hpe ▸ hl, hpe ▸ hd, rfl⟩))) (fun _ => rfl)
    | false =>
      have ex : nxt B n p = p + 1 := by unfold nxt; rw [hl, hd, if_neg (by decide), if_neg (by decide)]
      rw [if_pos (show (if false = true then (1 : Int32) else 0) = 0 from rfl), ex]
      have e59 : (nI (B p) = (59 : Int32)) = (B p = 59) := eq_nn (b := 59) (by omega) (by omega)
      simp only [e59]
      unfold p_X7_scanToken_J124
      by_cases e : B p = 59
      · rw [if_pos e, e_addT fu o _ _ _ h3 ht, Option.bind_some]
        refine ⟨_, rfl, ?_, rfl⟩
        rw [hpe]
        exact hT.add (Or.inr (Or.inr (Or.inr ⟨hpe ▸ hp, hpe ▸ hl, hpe ▸ hd, by rw [← hpe, if_pos e]⟩))) (fun z => absurd z (by decide))
      · rw [if_neg e, e_addT fu o _ _ _ h3 ht, Option.bind_some]
        refine ⟨_, rfl, ?_, rfl⟩
        rw [hpe]
        exact hT.add (Or.inr (Or.inr (Or.inr ⟨hpe ▸ hp, hpe ▸ hl, hpe ▸ hd, by rw [← hpe, if_neg e]⟩))) (fun z => absurd z (by decide))
/-- the text is scanned: token c is its end -/
theorem e_scan (fu : Nat) (hf : 2000 ≤ fu) {o1 : Ob} (o : Ob) {B : Nat → Nat} {n : Nat} (h : TC o1 B n) : ∃ s c, p_X7_scan fu o o1 = some s ∧ c ≤ n ∧ tkp B n c = n ∧ (∀ j, j < c → tkp B n j < n) ∧ TKs s B n (c + 1) := by
  have hn := h.2.1
  unfold p_X7_scan
  obtain ⟨s, es, c, h1, h2, h3, h4⟩ := loop_inv (fun m i (z : Ob × Nat) => p_X7_scan_L9 fu o1 (fun oz => (p_X7_add fu oz (0 : Int32) (o1.1 1 0) (0 : Int32)).bind fun r_53 => some r_53) m z.1 (nI z.2) (nI i)) n (fun i (z : Ob × Nat) => z.2 ≤ n ∧ ∃ t, t ≤ i ∧ z.1.1 3 0 = nI t ∧ TKs z.1 B n t ∧ (∀ j, j < t → tkp B n j < n) ∧ tkp B n t = run B n isBl (if i < z.2 then z.2 else i)) (fun s => ∃ c, c ≤ n ∧ tkp B n c = n ∧ (∀ j, j < c → tkp B n j < n) ∧ TKs s B n (c + 1)) (by
    rintro m ⟨z, v⟩ ⟨hv, t, ht, h3, hT, hj, hr⟩
    have hv : v ≤ n := hv
    have h3 : z.1 3 0 = nI t := h3
    have hT : TKs z B n t := hT
    have hr : tkp B n t = run B n isBl (if n < v then v else n) := hr
    rw [if_neg (by omega), run_end (Or.inl (Nat.le_refl _))] at hr
    refine ⟨_, ?_, t, ht, hr, hj, hT.add (k := 0) (v := 0) (Or.inl ⟨hr, rfl⟩) (fun z => absurd z (by decide))⟩
    show p_X7_scan_L9 fu o1 _ (m + 1) z (nI v) (nI n) = _
    rw [p_X7_scan_L9, h.1, if_pos (show nI n ≤ nI n by rw [le_nn (by omega) (by omega)]; exact Nat.le_refl _)]
    show (p_X7_add fu z (0 : Int32) (nI n) (0 : Int32)).bind _ = _
    rw [e_addT fu z _ _ _ h3 (by omega), Option.bind_some, hr]) (by
    rintro m i ⟨z, v⟩ hi ⟨hv, t, ht, h3, hT, hj, hr⟩
    have hv : v ≤ n := hv
    have h3 : z.1 3 0 = nI t := h3
    have hT : TKs z B n t := hT
    have hr : tkp B n t = run B n isBl (if i < v then v else i) := hr
    right
    show ∃ s' : Ob × Nat, p_X7_scan_L9 fu o1 _ (m + 1) z (nI v) (nI i) = p_X7_scan_L9 fu o1 _ m s'.1 (nI s'.2) (nI (i + 1)) ∧ _
    rw [p_X7_scan_L9, h.1, if_neg (show ¬ nI n ≤ nI i by rw [le_nn (by omega) (by omega)]; omega), add_nl]
    simp only [lt_nn (show i < 2147483648 by omega) (show v < 2147483648 by omega)]
    by_cases g : i < v
    · rw [if_pos g] at hr ⊢
      refine ⟨(z, v), rfl, hv, t, by omega, h3, hT, hj, ?_⟩
      rw [hr]
      show run B n isBl v = run B n isBl (if i + 1 < v then v else i + 1)
      by_cases g1 : i + 1 < v
      · rw [if_pos g1]
      · rw [if_neg g1, show v = i + 1 by omega]
    · rw [if_neg g] at hr ⊢
      rw [e_byteAt fu h hi, Option.bind_some, e_isBl fu (h.2.2 i hi).2, Option.bind_some]
      cases hb : isBl (B i) with
      | true =>
        rw [if_neg (show ¬ (if true = true then (1 : Int32) else 0) = 0 by decide)]
        refine ⟨(z, v), rfl, hv, t, by omega, h3, hT, hj, ?_⟩
        rw [hr, run_go hi hb]
        show _ = run B n isBl (if i + 1 < v then v else i + 1)
        rw [if_neg (by omega)]
      | false =>
        rw [run_end (Or.inr hb)] at hr
        rw [if_pos (show (if false = true then (1 : Int32) else 0) = 0 from rfl)]
        obtain ⟨s, es, hs, hs3⟩ := e_scanToken fu hf h (t := t) (o := z) (by omega) hT h3 (by omega)
        rw [hr] at es
        have hg := nxt_gt B n i
        have hx := nxt_le B hi
        refine ⟨(s, nxt B n i), by rw [es, Option.bind_some], hx, t + 1, by omega, hs3, hs, fun j hj' => ?_, ?_⟩
        · by_cases e : j = t
          · rw [e, hr]; exact hi
          · exact hj j (by omega)
        · show run B n isBl (nxt B n (tkp B n t)) = run B n isBl (if i + 1 < nxt B n i then nxt B n i else i + 1)
          rw [hr]
          by_cases g1 : i + 1 < nxt B n i
          · rw [if_pos g1]
          · rw [if_neg g1, show nxt B n i = i + 1 by omega]) fu 0 (oI o 3 0, 0) (Nat.zero_le _) (by omega) ⟨Nat.zero_le _, 0, Nat.le_refl _, rfl, fun j hj => by omega, fun j hj => by omega, rfl⟩
  exact ⟨s, c, es, h1, h2, h3, h4⟩
