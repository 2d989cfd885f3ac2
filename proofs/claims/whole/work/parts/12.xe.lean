/-! ===== the reference goes over the same text ===== -/
def RB (r : Ob) (B : Nat → Nat) (n : Nat) : Prop := r.1 7 0 = nI n ∧ n ≤ 700 ∧ ∀ k, k < n → r.1 4 k = (nI (B k)).toInt8.toInt32 ∧ B k < 256
theorem sx256 : ∀ m, m < 256 → ((nI m).toInt8.toInt32 &&& 255) = nI m := by decide +kernel
theorem sx128 : ∀ m, m < 128 → (nI m).toInt8.toInt32 = nI m := by decide +kernel
theorem RB.kp {r s : Ob} {B : Nat → Nat} {n : Nat} {fs : List Nat} (h : RB r B n) (F : FR fs r s) (h7 : 7 ∉ fs) (h4 : 4 ∉ fs) : RB s B n := by
  unfold RB at *
  rw [F.f1 7 h7, F.f1 4 h4]
  exact h
theorem e_see (fu : Nat) {r : Ob} {B : Nat → Nat} {n k : Nat} (h : RB r B n) (hk : k < n) : p_X10_see fu r (nI k) = some (nI (B k)) := by
  have hn := h.2.1
  have ib : (inb (nI k) 700 = true) := by rw [inb_nI (by omega) (by omega)]; trivial
  unfold p_X10_see
  rw [h.1, if_neg (show ¬ nI n ≤ nI k by rw [le_nn (by omega) (by omega)]; omega), if_pos ib, cl_nI (by omega), (h.2.2 k hk).1, sx256 _ (h.2.2 k hk).2]
theorem e_seeN (fu : Nat) {r : Ob} {B : Nat → Nat} {n k : Nat} (h : RB r B n) (hk : n ≤ k) (hk2 : k < 2147483648) : p_X10_see fu r (nI k) = some (-1) := by
  have hn := h.2.1
  unfold p_X10_see
  rw [h.1, if_pos (show nI n ≤ nI k by rw [le_nn (by omega) hk2]; exact hk)]
theorem e_inLe (fu : Nat) {m : Nat} (hm : m < 256) : p_X10_in fu (nI m).toInt64 (97 : Int64) (122 : Int64) = some (if isLe m = true then 1 else 0) := by
  have e : p_X10_in fu (nI m).toInt64 (97 : Int64) (122 : Int64) = some (if nI m < 97 then 0 else if (122 : Int32) < nI m then 0 else 1) := e_in fu (nI m) 97 122
  rw [e]
  unfold isLe
  simp (disch := omega) only [inb_nI, inb_lit, cl_nI, cl_lit, nI_add, add_nl, add_ln, mul_ln, pk_mul, le_nn, lt_nn, eq_nn, le_nl, lt_nl, eq_nl, le_ln, lt_ln, eq_ln, eq_ll, lt_ll, le_ll, eq_nm1, eq_nm2, eq_nm3, eq_nm4]
  by_cases h : m < 97
  · rw [if_pos h, if_neg (by simp; omega)]
  · by_cases h1 : 122 < m
    · rw [if_neg h, if_pos h1, if_neg (by simp; omega)]
    · rw [if_neg h, if_neg h1, if_pos (by simp; omega)]
theorem e_inDi (fu : Nat) {m : Nat} (hm : m < 256) : p_X10_in fu (nI m).toInt64 (48 : Int64) (57 : Int64) = some (if isDi m = true then 1 else 0) := by
  have e : p_X10_in fu (nI m).toInt64 (48 : Int64) (57 : Int64) = some (if nI m < 48 then 0 else if (57 : Int32) < nI m then 0 else 1) := e_in fu (nI m) 48 57
  rw [e]
  unfold isDi
  simp (disch := omega) only [inb_nI, inb_lit, cl_nI, cl_lit, nI_add, add_nl, add_ln, mul_ln, pk_mul, le_nn, lt_nn, eq_nn, le_nl, lt_nl, eq_nl, le_ln, lt_ln, eq_ln, eq_ll, lt_ll, le_ll, eq_nm1, eq_nm2, eq_nm3, eq_nm4]
  by_cases h : m < 48
  · rw [if_pos h, if_neg (by simp; omega)]
  · by_cases h1 : 57 < m
    · rw [if_neg h, if_pos h1, if_neg (by simp; omega)]
    · rw [if_neg h, if_neg h1, if_pos (by simp; omega)]
theorem e_inM (fu : Nat) : p_X10_in fu (-1 : Int32).toInt64 (97 : Int64) (122 : Int64) = some 0 ∧ p_X10_in fu (-1 : Int32).toInt64 (48 : Int64) (57 : Int64) = some 0 := by
  refine ⟨?_, ?_⟩
  · have e : p_X10_in fu (-1 : Int32).toInt64 (97 : Int64) (122 : Int64) = some (if (-1 : Int32) < 97 then 0 else if (122 : Int32) < -1 then 0 else 1) := e_in fu (-1) 97 122
    rw [e, if_pos (by decide)]
  · have e : p_X10_in fu (-1 : Int32).toInt64 (48 : Int64) (57 : Int64) = some (if (-1 : Int32) < 48 then 0 else if (57 : Int32) < -1 then 0 else 1) := e_in fu (-1) 48 57
    rw [e, if_pos (by decide)]
theorem e_L83 (fu : Nat) {B : Nat → Nat} {n : Nat} : ∀ (m q : Nat) (z : Ob), RB z B n → q ≤ n → n - q < m → z.1 8 0 = nI q → ∃ s, p_X10_advance_L83 fu m z = some s ∧ FR [8, 10] z s ∧ s.1 8 0 = nI (run B n isLe q) ∧ s.1 10 0 = 1 := by
  intro m
  induction m with
  | zero => intro q z _ _ h1; omega
  | succ m ih =>
    intro q z h hq hm h8
    have hn := h.2.1
    have fin : (n ≤ q ∨ isLe (B q) = false) → ∃ s, some (oI z 10 (1 : Int32)) = some s ∧ FR [8, 10] z s ∧ s.1 8 0 = nI (run B n isLe q) ∧ s.1 10 0 = 1 := fun he => ⟨_, rfl, FR.rf.I (by decide) _, by rw [run_end he]; exact h8, rfl⟩
    rw [p_X10_advance_L83, h8]
    by_cases e : q = n
    · rw [e_seeN fu h (by omega) (by omega), Option.bind_some, (e_inM fu).1, Option.bind_some, if_pos rfl]
      exact fin (Or.inl (by omega))
    · rw [e_see fu h (by omega), Option.bind_some, e_inLe fu (h.2.2 q (by omega)).2, Option.bind_some]
      cases hb : isLe (B q) with
      | false =>
        rw [if_pos (show (if false = true then (1 : Int32) else 0) = 0 from rfl)]
        exact fin (Or.inr hb)
      | true =>
        rw [if_neg (show ¬ (if true = true then (1 : Int32) else 0) = 0 by decide), add_nl]
        have F : FR [8, 10] z (oI z 8 (nI (q + 1))) := FR.rf.I (by decide) _
        obtain ⟨s, es, Fs, s8, s10⟩ := ih (q + 1) (oI z 8 (nI (q + 1))) (h.kp F (by decide) (by decide)) (by omega) (by omega) rfl
        exact ⟨s, es, F.tr Fs, by rw [run_go (show q < n by omega) hb]; exact s8, s10⟩
theorem e_L144 (fu : Nat) {B : Nat → Nat} {n p : Nat} : ∀ (m k : Nat) (z : Ob), RB z B n → p + k ≤ n → n - (p + k) < m → z.1 8 0 = nI (p + k) → z.1 11 0 = nI (nuv B 99999 p k) → ∃ s, p_X10_advance_L144 fu m z = some s ∧ FR [8, 10, 11] z s ∧ s.1 8 0 = nI (run B n isDi (p + k)) ∧ s.1 10 0 = 2 ∧ s.1 11 0 = nI (nuv B 99999 p (run B n isDi (p + k) - p)) := by
  intro m
  induction m with
  | zero => intro k z _ _ h1; omega
  | succ m ih =>
    intro k z h hq hm h8 h11
    have hn := h.2.1
    have fin : (n ≤ p + k ∨ isDi (B (p + k)) = false) → ∃ s, some (oI z 10 (2 : Int32)) = some s ∧ FR [8, 10, 11] z s ∧ s.1 8 0 = nI (run B n isDi (p + k)) ∧ s.1 10 0 = 2 ∧ s.1 11 0 = nI (nuv B 99999 p (run B n isDi (p + k) - p)) := fun he => ⟨_, rfl, FR.rf.I (by decide) _, by rw [run_end he]; exact h8, rfl, by rw [run_end he, Nat.add_sub_cancel_left]; exact h11⟩
    rw [p_X10_advance_L144, h8]
    by_cases e : p + k = n
    · rw [e_seeN fu h (by omega) (by omega), Option.bind_some, (e_inM fu).2, Option.bind_some, if_pos rfl]
      exact fin (Or.inl (by omega))
    · have h256 := (h.2.2 (p + k) (by omega)).2
      rw [e_see fu h (by omega), Option.bind_some, e_inDi fu h256, Option.bind_some]
      cases hb : isDi (B (p + k)) with
      | false =>
        rw [if_pos (show (if false = true then (1 : Int32) else 0) = 0 from rfl)]
        exact fin (Or.inr hb)
      | true =>
        have h48 := (of_decide_eq_true hb).1
        have hv := nuv_b B 99999 p k
        have ev : ((10 : Int32) * nI (nuv B 99999 p k)) + nI (B (p + k)) - 48 = nI (10 * nuv B 99999 p k + B (p + k) - 48) := by
          rw [show (48 : Int32) = nI 48 from rfl, mul_ln, nI_add]
          exact pk_sub (by omega)
        have ec : (if nI (10 * nuv B 99999 p k + B (p + k) - 48) < (99999 : Int32) then nI (10 * nuv B 99999 p k + B (p + k) - 48) else (99999 : Int32)) = nI (nuv B 99999 p (k + 1)) := by
          rw [show (99999 : Int32) = nI 99999 from rfl, cap_e (by omega) (by omega), nuv]
        rw [if_neg (show ¬ (if true = true then (1 : Int32) else 0) = 0 by decide), Option.bind_some, h11, ev, ec]
        obtain ⟨z1, hz1⟩ : ∃ z1, z1 = oI z 11 (nI (nuv B 99999 p (k + 1))) := ⟨_, rfl⟩
        have z18 : z1.1 8 0 = nI (p + k) := by rw [hz1]; exact h8
        have F1 : FR [8, 10, 11] z z1 := by rw [hz1]; exact FR.rf.I (by decide) _
        have z11 : z1.1 11 0 = nI (nuv B 99999 p (k + 1)) := by rw [hz1]; rfl
        rw [← hz1, z18, add_nl]
        have F : FR [8, 10, 11] z (oI z1 8 (nI (p + k + 1))) := F1.I (by decide) _
        obtain ⟨s, es, Fs, s8, s10, s11⟩ := ih (k + 1) (oI z1 8 (nI (p + k + 1))) (h.kp F (by decide) (by decide)) (by omega) (by omega) rfl z11
        refine ⟨s, es, F.tr Fs, ?_, s10, ?_⟩
        · rw [run_go (show p + k < n by omega) hb]; exact s8
        · rw [run_go (show p + k < n by omega) hb]; exact s11
theorem e_L0 (fu : Nat) {B : Nat → Nat} {n : Nat} (c : Ob → Option Ob) : ∀ (m q : Nat) (z : Ob), RB z B n → q ≤ n → n - q < m → z.1 8 0 = nI q → ∃ s, p_X10_advance_L0 fu c m z = c s ∧ FR [8] z s ∧ s.1 8 0 = nI (run B n isBl q) := by
  intro m
  induction m with
  | zero => intro q z _ _ h1; omega
  | succ m ih =>
    intro q z h hq hm h8
    have hn := h.2.1
    rw [p_X10_advance_L0, h8]
    by_cases e : q = n
    · rw [e_seeN fu h (by omega) (by omega), Option.bind_some, Option.bind_some, if_neg (by decide), if_neg (by decide)]
      exact ⟨z, rfl, FR.rf, by rw [run_end (Or.inl (by omega))]; exact h8⟩
    · have h256 := (h.2.2 q (by omega)).2
      have e32 : (nI (B q) = (32 : Int32)) = (B q = 32) := eq_nn (b := 32) (by omega) (by omega)
      have e10 : (nI (B q) = (10 : Int32)) = (B q = 10) := eq_nn (b := 10) (by omega) (by omega)
      rw [e_see fu h (by omega), Option.bind_some, Option.bind_some]
      simp only [e32, e10]
      have go : (B q = 32 ∨ B q = 10) → ∃ s, p_X10_advance_J26 fu (fun oz => p_X10_advance_L0 fu c m oz) z = c s ∧ FR [8] z s ∧ s.1 8 0 = nI (run B n isBl q) := by
        intro hb
        unfold p_X10_advance_J26
        rw [h8, add_nl]
        have F : FR [8] z (oI z 8 (nI (q + 1))) := FR.rf.I (by decide) _
        obtain ⟨s, es, Fs, s8⟩ := ih (q + 1) (oI z 8 (nI (q + 1))) (h.kp F (by decide) (by decide)) (by omega) (by omega) rfl
        exact ⟨s, es, F.tr Fs, by rw [run_go (show q < n by omega) (decide_eq_true hb)]; exact s8⟩
      by_cases c1 : B q = 32
      · rw [if_pos c1]; exact go (Or.inl c1)
      · by_cases c2 : B q = 10
        · rw [if_neg c1, if_pos c2]; exact go (Or.inr c2)
        · rw [if_neg c1, if_neg c2]
          exact ⟨z, rfl, FR.rf, by rw [run_end (Or.inr (by unfold isBl; simp [c1, c2]))]; exact h8⟩
/-- the reference stands at the token at p -/
def AT (B : Nat → Nat) (n p : Nat) (r : Ob) : Prop := p ≤ n ∧ r.1 9 0 = nI p ∧ r.1 8 0 = nI (if p < n then nxt B n p else n) ∧
  ((p = n ∧ r.1 10 0 = 0) ∨ (p < n ∧ isLe (B p) = true ∧ r.1 10 0 = 1) ∨ (p < n ∧ isLe (B p) = false ∧ isDi (B p) = true ∧ r.1 10 0 = 2 ∧ r.1 11 0 = nI (NV B n 99999 p)) ∨ (p < n ∧ isLe (B p) = false ∧ isDi (B p) = false ∧ r.1 10 0 = if B p = 59 then 3 else 4))
theorem e_adv (fu : Nat) (hf : 2000 ≤ fu) {B : Nat → Nat} {n a : Nat} (z : Ob) (h : RB z B n) (ha : a ≤ n) (h8 : z.1 8 0 = nI a) : ∃ s, p_X10_advance fu z = some s ∧ FR [8, 9, 10, 11] z s ∧ AT B n (run B n isBl a) s := by
  have hn := h.2.1
  unfold p_X10_advance
  obtain ⟨s, es, Fs, s8⟩ := e_L0 fu (fun oz => (p_X10_see fu (oI oz 9 (oz.1 8 0)) ((oI oz 9 (oz.1 8 0)).1 8 0)).bind fun r_52 => if r_52 = ((-1) : Int32) then some (oI (oI oz 9 (oz.1 8 0)) 10 (0 : Int32)) else (p_X10_in fu r_52.toInt64 (97 : Int64) (122 : Int64)).bind fun r_77 => if r_77 = 0 then (p_X10_in fu r_52.toInt64 (48 : Int64) (57 : Int64)).bind fun r_133 => if r_133 = 0 then if r_52 = (59 : Int32) then p_X10_advance_J226 fu (oI oz 9 (oz.1 8 0)) 3 else p_X10_advance_J226 fu (oI oz 9 (oz.1 8 0)) 4 else p_X10_advance_L144 fu fu (oI (oI oz 9 (oz.1 8 0)) 11 (0 : Int32)) else p_X10_advance_L83 fu fu (oI oz 9 (oz.1 8 0))) fu a z h ha (by omega) h8
  rw [es]
  have hp := run_le B n isBl a ha
  generalize run B n isBl a = p at s8 hp
  obtain ⟨t, ht⟩ : ∃ t, t = oI s 9 (s.1 8 0) := ⟨_, rfl⟩
  have t8 : t.1 8 0 = nI p := by rw [ht]; exact s8
  have t9 : t.1 9 0 = nI p := by rw [ht]; exact s8
  have Ft : FR [8, 9, 10, 11] z t := by rw [ht]; exact (Fs.mono (by decide)).I (by decide) _
  have hB : RB t B n := h.kp Ft (by decide) (by decide)
  show ∃ s_1, ((p_X10_see fu (oI s 9 (s.1 8 0)) ((oI s 9 (s.1 8 0)).1 8 0)).bind fun r_52 => if r_52 = ((-1) : Int32) then some (oI (oI s 9 (s.1 8 0)) 10 (0 : Int32)) else (p_X10_in fu r_52.toInt64 (97 : Int64) (122 : Int64)).bind fun r_77 => if r_77 = 0 then (p_X10_in fu r_52.toInt64 (48 : Int64) (57 : Int64)).bind fun r_133 => if r_133 = 0 then if r_52 = (59 : Int32) then p_X10_advance_J226 fu (oI s 9 (s.1 8 0)) 3 else p_X10_advance_J226 fu (oI s 9 (s.1 8 0)) 4 else p_X10_advance_L144 fu fu (oI (oI s 9 (s.1 8 0)) 11 (0 : Int32)) else p_X10_advance_L83 fu fu (oI s 9 (s.1 8 0))) = some s_1 ∧ _
  rw [← ht, t8]
  by_cases e : p = n
  · rw [e_seeN fu hB (by omega) (by omega), Option.bind_some, if_pos rfl]
    exact ⟨_, rfl, Ft.I (by decide) _, hp, t9, by rw [if_neg (by omega)]; exact (by rw [← e]; exact t8 : (t.1 8 0 = nI n)), Or.inl ⟨e, rfl⟩⟩
  · have hlt : p < n := by omega
    have h256 := (hB.2.2 p hlt).2
    have hx := nxt_le B hlt
    rw [e_see fu hB hlt, Option.bind_some, if_neg (show ¬ nI (B p) = (-1 : Int32) by rw [eq_nm1 (by omega)]; exact id), e_inLe fu h256, Option.bind_some, e_inDi fu h256, Option.bind_some]
    cases hl : isLe (B p) with
    | true =>
      rw [if_neg (show ¬ (if true = true then (1 : Int32) else 0) = 0 by decide)]
      obtain ⟨u, eu, Fu, u8, u10⟩ := e_L83 fu fu p t hB hp (by omega) t8
      have ex : nxt B n p = run B n isLe p := by unfold nxt; rw [if_pos hl, run_go hlt hl]
      exact ⟨u, eu, Ft.tr (Fu.mono (by decide)), hp, by rw [Fu.f1 9 (by decide)]; exact t9, by rw [if_pos hlt, ex]; exact u8, Or.inr (Or.inl ⟨hlt, hl, u10⟩)⟩
    | false =>
      rw [if_pos (show (if false = true then (1 : Int32) else 0) = 0 from rfl)]
      cases hd : isDi (B p) with
      | true =>
        rw [if_neg (show ¬ (if true = true then (1 : Int32) else 0) = 0 by decide)]
        have F1 : FR [8, 9, 10, 11] z (oI t 11 (0 : Int32)) := Ft.I (by decide) _
        obtain ⟨u, eu, Fu, u8, u10, u11⟩ := e_L144 fu (p := p) fu 0 (oI t 11 (0 : Int32)) (h.kp F1 (by decide) (by decide)) (by omega) (by omega) t8 rfl
        have ex : nxt B n p = run B n isDi (p + 0) := by unfold nxt; rw [hl, if_neg (by decide), if_pos hd]; exact (run_go hlt hd).symm
        exact ⟨u, eu, F1.tr (Fu.mono (by decide)), hp, by rw [Fu.f1 9 (by decide)]; exact t9, by rw [if_pos hlt, ex]; exact u8, Or.inr (Or.inr (Or.inl ⟨hlt, hl, hd, u10, by rw [NV, ex]; exact u11⟩))⟩
      | false =>
        have ex : nxt B n p = p + 1 := by unfold nxt; rw [hl, hd, if_neg (by decide), if_neg (by decide)]
        have e59 : (nI (B p) = (59 : Int32)) = (B p = 59) := eq_nn (b := 59) (by omega) (by omega)
        rw [if_pos (show (if false = true then (1 : Int32) else 0) = 0 from rfl)]
        simp only [e59]
        have go : ∀ v : Int32, v = (if B p = 59 then 3 else 4) → ∃ s, p_X10_advance_J226 fu t v = some s ∧ FR [8, 9, 10, 11] z s ∧ AT B n p s := by
          intro v hv
          unfold p_X10_advance_J226
          refine ⟨_, rfl, (Ft.I (by decide) _).I (by decide) _, hp, t9, ?_, Or.inr (Or.inr (Or.inr ⟨hlt, hl, hd, hv⟩))⟩
          show (oI t 10 v).1 8 0 + 1 = _
          rw [show (oI t 10 v).1 8 0 = nI p from t8, if_pos hlt, ex, add_nl]
        by_cases c : B p = 59
        · rw [if_pos c]; exact go 3 (by rw [if_pos c])
        · rw [if_neg c]; exact go 4 (by rw [if_neg c])
/-! kinds beside tokens -/
theorem KD_w {B : Nat → Nat} {n p : Nat} {k : Int32} (h : KD B n p k) {w : Nat} (hw : w < 13) : k = kw w ↔ p < n ∧ isLe (B p) = true ∧ nxt B n p - p = lw w ∧ sy B p w := by
  obtain ⟨k3, k2, k1, k0, -⟩ := kw_df w hw
  rcases h with ⟨h1, rfl⟩ | ⟨h1, h2, s, hs, rfl⟩ | ⟨h1, h2, h3, rfl⟩ | ⟨h1, h2, h3, rfl⟩
  · exact ⟨fun z => absurd z.symm k0, fun z => by omega⟩
  · rw [wkf_iff hs hw]
    exact ⟨fun z => ⟨h1, h2, z.1, z.2⟩, fun z => ⟨z.2.2.1, z.2.2.2⟩⟩
  · exact ⟨fun z => absurd z.symm k2, fun z => by rw [h2] at z; exact absurd z.2.1 (by decide)⟩
  · refine ⟨fun z => ?_, fun z => by rw [h2] at z; exact absurd z.2.1 (by decide)⟩
    split at z
    · exact absurd z.symm k1
    · exact absurd z.symm k3
theorem KD_s {B : Nat → Nat} {n p L : Nat} {s : Nat → Bool} : wkf L s ≠ 0 ∧ wkf L s ≠ 1 ∧ wkf L s ≠ 2 := by
  rcases wkf_or L s with ⟨e, -⟩ | ⟨w, hw, -, -, e⟩
  · rw [e]; decide
  · rw [e]
    obtain ⟨k3, k2, k1, k0, -⟩ := kw_df w hw
    exact ⟨k0, k1, k2⟩
theorem KD_2 {B : Nat → Nat} {n p : Nat} {k : Int32} (h : KD B n p k) : k = 2 ↔ p < n ∧ isLe (B p) = false ∧ isDi (B p) = true := by
  rcases h with ⟨h1, rfl⟩ | ⟨h1, h2, s, hs, rfl⟩ | ⟨h1, h2, h3, rfl⟩ | ⟨h1, h2, h3, rfl⟩
  · exact ⟨fun z => absurd z (by decide), fun z => by omega⟩
  · exact ⟨fun z => absurd z (KD_s (B := B) (n := n) (p := p)).2.2, fun z => by rw [h2] at z; exact absurd z.2.1 (by decide)⟩
  · exact ⟨fun _ => ⟨h1, h2, h3⟩, fun _ => rfl⟩
  · refine ⟨fun z => ?_, fun z => by rw [h3] at z; exact absurd z.2.2 (by decide)⟩
    split at z <;> exact absurd z (by decide)
theorem KD_1 {B : Nat → Nat} {n p : Nat} {k : Int32} (h : KD B n p k) : k = 1 ↔ p < n ∧ isLe (B p) = false ∧ isDi (B p) = false ∧ B p = 59 := by
  rcases h with ⟨h1, rfl⟩ | ⟨h1, h2, s, hs, rfl⟩ | ⟨h1, h2, h3, rfl⟩ | ⟨h1, h2, h3, rfl⟩
  · exact ⟨fun z => absurd z (by decide), fun z => by omega⟩
  · exact ⟨fun z => absurd z (KD_s (B := B) (n := n) (p := p)).2.1, fun z => by rw [h2] at z; exact absurd z.2.1 (by decide)⟩
  · exact ⟨fun z => absurd z (by decide), fun z => by rw [h3] at z; exact absurd z.2.2.1 (by decide)⟩
  · refine ⟨fun z => ?_, fun z => by rw [if_pos z.2.2.2]⟩
    split at z
    · rename_i e; exact ⟨h1, h2, h3, e⟩
    · exact absurd z (by decide)
theorem KD_0 {B : Nat → Nat} {n p : Nat} {k : Int32} (h : KD B n p k) : k = 0 ↔ p = n := by
  rcases h with ⟨h1, rfl⟩ | ⟨h1, h2, s, hs, rfl⟩ | ⟨h1, h2, h3, rfl⟩ | ⟨h1, h2, h3, rfl⟩
  · exact ⟨fun _ => h1, fun _ => rfl⟩
  · exact ⟨fun z => absurd z (KD_s (B := B) (n := n) (p := p)).1, fun z => by omega⟩
  · exact ⟨fun z => absurd z (by decide), fun z => by omega⟩
  · refine ⟨fun z => ?_, fun z => by omega⟩
    split at z <;> exact absurd z (by decide)
theorem AT_2 {B : Nat → Nat} {n p : Nat} {r : Ob} (h : AT B n p r) : r.1 10 0 = 2 ↔ p < n ∧ isLe (B p) = false ∧ isDi (B p) = true := by
  rcases h.2.2.2 with ⟨h1, e⟩ | ⟨h1, h2, e⟩ | ⟨h1, h2, h3, e, -⟩ | ⟨h1, h2, h3, e⟩ <;> rw [e]
  · exact ⟨fun z => absurd z (by decide), fun z => by omega⟩
  · exact ⟨fun z => absurd z (by decide), fun z => by rw [h2] at z; exact absurd z.2.1 (by decide)⟩
  · exact ⟨fun _ => ⟨h1, h2, h3⟩, fun _ => rfl⟩
  · refine ⟨fun z => ?_, fun z => by rw [h3] at z; exact absurd z.2.2 (by decide)⟩
    split at z <;> exact absurd z (by decide)
theorem AT_3 {B : Nat → Nat} {n p : Nat} {r : Ob} (h : AT B n p r) : r.1 10 0 = 3 ↔ p < n ∧ isLe (B p) = false ∧ isDi (B p) = false ∧ B p = 59 := by
  rcases h.2.2.2 with ⟨h1, e⟩ | ⟨h1, h2, e⟩ | ⟨h1, h2, h3, e, -⟩ | ⟨h1, h2, h3, e⟩ <;> rw [e]
  · exact ⟨fun z => absurd z (by decide), fun z => by omega⟩
  · exact ⟨fun z => absurd z (by decide), fun z => by rw [h2] at z; exact absurd z.2.1 (by decide)⟩
  · exact ⟨fun z => absurd z (by decide), fun z => by rw [h3] at z; exact absurd z.2.2.1 (by decide)⟩
  · refine ⟨fun z => ?_, fun z => by rw [if_pos z.2.2.2]⟩
    split at z
    · rename_i e; exact ⟨h1, h2, h3, e⟩
    · exact absurd z (by decide)
theorem AT_0 {B : Nat → Nat} {n p : Nat} {r : Ob} (h : AT B n p r) : r.1 10 0 = 0 ↔ p = n := by
  rcases h.2.2.2 with ⟨h1, e⟩ | ⟨h1, h2, e⟩ | ⟨h1, h2, h3, e, -⟩ | ⟨h1, h2, h3, e⟩ <;> rw [e]
  · exact ⟨fun _ => h1, fun _ => rfl⟩
  · exact ⟨fun z => absurd z (by decide), fun z => by omega⟩
  · exact ⟨fun z => absurd z (by decide), fun z => by omega⟩
  · refine ⟨fun z => ?_, fun z => by omega⟩
    split at z <;> exact absurd z (by decide)
theorem AT_1 {B : Nat → Nat} {n p : Nat} {r : Ob} (h : AT B n p r) : r.1 10 0 = 1 ↔ p < n ∧ isLe (B p) = true := by
  rcases h.2.2.2 with ⟨h1, e⟩ | ⟨h1, h2, e⟩ | ⟨h1, h2, h3, e, -⟩ | ⟨h1, h2, h3, e⟩ <;> rw [e]
  · exact ⟨fun z => absurd z (by decide), fun z => by omega⟩
  · exact ⟨fun _ => ⟨h1, h2⟩, fun _ => rfl⟩
  · exact ⟨fun z => absurd z (by decide), fun z => by rw [h2] at z; exact absurd z.2 (by decide)⟩
  · refine ⟨fun z => ?_, fun z => by rw [h2] at z; exact absurd z.2 (by decide)⟩
    split at z <;> exact absurd z (by decide)
/-- the reference asks for a word -/
theorem e_is0 (fu : Nat) (hf : 2000 ≤ fu) (r : Ob) {w : Nat} (hw : w < 13) : p_X10_is_L39 fu r w fu 0 0 = some 0 := by
  have hl := lw_ok w hw
  obtain ⟨m, rfl⟩ : ∃ m, fu = m + 1 := ⟨fu - 1, by omega⟩
  rw [p_X10_is_L39, e_length, Option.bind_some, if_neg (show ¬ nI (lw w) ≤ 0 by rw [le_nl (by omega) (by decide)]; omega), if_pos rfl, if_pos (Or.inl rfl)]
theorem e_isN (fu : Nat) (hf : 2000 ≤ fu) (r : Ob) {w : Nat} (hw : w < 13) (h : ¬ r.1 12 0 = 0) : p_X10_is fu r w = some 0 := by
  unfold p_X10_is p_X10_good
  rw [if_neg h, Option.bind_some, if_pos rfl, e_is0 fu hf r hw]
theorem e_is (fu : Nat) (hf : 2000 ≤ fu) {B : Nat → Nat} {n p : Nat} {r : Ob} (hB : RB r B n) (h : AT B n p r) (hg : r.1 12 0 = 0) {w : Nat} (hw : w < 13) : ∃ b : Bool, (b = true ↔ p < n ∧ isLe (B p) = true ∧ nxt B n p - p = lw w ∧ sy B p w) ∧ p_X10_is fu r w = some (if b = true then 1 else 0) := by
  have hn := hB.2.1
  have hl := lw_ok w hw
  unfold p_X10_is p_X10_good
  rw [if_pos hg, Option.bind_some, if_neg (show ¬ (1 : Int32) = 0 by decide), e_length, Option.bind_some, e_is0 fu hf r hw]
  by_cases h1 : r.1 10 0 = 1
  · obtain ⟨hp, hle⟩ := (AT_1 h).mp h1
    have hx := nxt_le B hp
    have hx1 := nxt_gt B n p
    rw [if_pos h1, h.2.1, h.2.2.1, if_pos hp, pk_sub (by omega)]
    simp only [eq_nn (show nxt B n p - p < 2147483648 by omega) (show lw w < 2147483648 by omega)]
    by_cases h2 : nxt B n p - p = lw w
    · rw [if_pos h2]
      have ex : nxt B n p = run B n isLe p := by unfold nxt; rw [if_pos hle, run_go hp hle]
      have hlet : ∀ k, k < lw w → 97 ≤ B (p + k) ∧ B (p + k) ≤ 122 := fun k hk => of_decide_eq_true (run_in B n isLe p (p + k) (by omega) (by omega)).2
      obtain ⟨v, ev, b, hb, rfl⟩ := loop_inv (fun m i (s : Int32) => p_X10_is_L39 fu r w m s (nI i)) (lw w) (fun i (s : Int32) => (s = 1 ∧ ∀ k, k < i → B (p + k) = cw w k) ∨ (s = 0 ∧ ¬ sy B p w)) (fun v => ∃ b : Bool, (b = true ↔ sy B p w) ∧ v = (if b = true then 1 else 0)) (by
        rintro m s hs
        refine ⟨s, ?_, ?_⟩
        · show p_X10_is_L39 fu r w (m + 1) s (nI (lw w)) = _
          rw [p_X10_is_L39, e_length, Option.bind_some, if_pos (show nI (lw w) ≤ nI (lw w) by rw [le_nn (by omega) (by omega)]; exact Nat.le_refl _)]
          rcases hs with ⟨rfl, -⟩ | ⟨rfl, -⟩
          · rw [if_pos (Or.inr rfl)]
          · rw [if_pos (Or.inl rfl)]
        · rcases hs with ⟨rfl, hk⟩ | ⟨rfl, hk⟩
          · exact ⟨true, ⟨fun _ => hk, fun _ => rfl⟩, rfl⟩
          · exact ⟨false, ⟨fun z => (by cases z), fun z => absurd z hk⟩, rfl⟩) (by
        rintro m i s hi hs
        show (∃ v, p_X10_is_L39 fu r w (m + 1) s (nI i) = some v ∧ _) ∨ (∃ s', p_X10_is_L39 fu r w (m + 1) s (nI i) = p_X10_is_L39 fu r w m s' (nI (i + 1)) ∧ _)
        rw [p_X10_is_L39, e_length, Option.bind_some, if_neg (show ¬ nI (lw w) ≤ nI i by rw [le_nn (by omega) (by omega)]; omega)]
        rcases hs with ⟨rfl, hk⟩ | ⟨rfl, hk⟩
        · right
          have hc := cw_ok w hw i hi
          have h97 := hlet i hi
          have ib : (inb (nI (p + i)) 700 = true) := by rw [inb_nI (by omega) (by omega)]; trivial
          rw [if_neg (show ¬ (1 : Int32) = 0 by decide), h.2.1, nI_add, if_pos ib, e_charAt hw hi, Option.bind_some, cl_nI (by omega), (hB.2.2 (p + i) (by omega)).1, sx128 _ (by omega), add_nl]
          simp only [eq_nn (show B (p + i) < 2147483648 by omega) (show cw w i < 2147483648 by omega)]
          by_cases e : B (p + i) = cw w i
          · rw [if_pos e]
            refine ⟨1, rfl, Or.inl ⟨rfl, fun k hk' => ?_⟩⟩
            by_cases ek : k = i
            · rw [ek, e]
            · exact hk k (by omega)
          · rw [if_neg e]
            exact ⟨0, rfl, Or.inr ⟨rfl, fun z => e (z i hi)⟩⟩
        · left
          rw [if_pos rfl, if_pos (Or.inl rfl)]
          exact ⟨0, rfl, false, ⟨fun z => (by cases z), fun z => absurd z hk⟩, rfl⟩) fu 0 1 (Nat.zero_le _) (by omega) (Or.inl ⟨rfl, fun k hk => by omega⟩)
      exact ⟨b, ⟨fun z => ⟨hp, hle, h2, hb.mp z⟩, fun z => hb.mpr z.2.2.2⟩, ev⟩
    · rw [if_neg h2]
      exact ⟨false, ⟨fun z => (by cases z), fun z => absurd z.2.2.1 h2⟩, rfl⟩
  · rw [if_neg h1]
    exact ⟨false, ⟨fun z => (by cases z), fun z => absurd ((AT_1 h).mpr ⟨z.1, z.2.1⟩) h1⟩, rfl⟩
