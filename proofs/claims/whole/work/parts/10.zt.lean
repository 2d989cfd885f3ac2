theorem r_oft (fu : Nat) (hf : 2000 ≤ fu) {o z0 : Ob} (hw : OKW (o.1 1)) (S : Int32) (F0 : FR tF o z0) (G0 : GP (PX (o.1 1) S) z0) {r q : Nat} (hr : r < nR (o.1 1)) (hq : q < nR (o.1 1)) :
    ∃ c z, c ≤ 61 ∧ p_X10_oftenOf fu z0 (nI r) (nI q) = some (nI c, z) ∧ FR tF o z ∧ GP (PX (o.1 1) S) z ∧ (c = 0 ↔ ∀ s, s < 61 → coF (PX (o.1 1) S) r s (nI q) = -1) := by
  have hR := hw.2.1.1
  unfold p_X10_oftenOf
  obtain ⟨⟨a, z⟩, e, ⟨c, hc, ea, hz⟩, F, G⟩ := loop_inv (fun n i (t : Ob × Int32) => p_X10_oftenOf_L5 fu n t.1 (nI r) (nI q) t.2 (nI i)) 61 (fun i t => (∃ c, c ≤ i ∧ t.2 = nI c ∧ (c = 0 ↔ ∀ s, s < i → coF (PX (o.1 1) S) r s (nI q) = -1)) ∧ FR tF o t.1 ∧ GP (PX (o.1 1) S) t.1) (fun y => (∃ c, c ≤ 61 ∧ y.1 = nI c ∧ (c = 0 ↔ ∀ s, s < 61 → coF (PX (o.1 1) S) r s (nI q) = -1)) ∧ FR tF o y.2 ∧ GP (PX (o.1 1) S) y.2) (by
    rintro n ⟨z, a⟩ ⟨h1, h2, h3⟩
    refine ⟨(a, z), ?_, h1, h2, h3⟩
    show p_X10_oftenOf_L5 fu (n + 1) z (nI r) (nI q) a (nI 61) = _
    rw [p_X10_oftenOf_L5, if_pos (by decide)]) (by
    rintro n i ⟨z, a⟩ hi ⟨⟨c, hc, ea, hz⟩, F, G⟩
    have F : FR tF o z := F
    have G : GP (PX (o.1 1) S) z := G
    have ea : a = nI c := ea
    right
    obtain ⟨u, eu, Fu, gu⟩ := e_goStick fu hf (PX (o.1 1) S) (hw.px S) hr hi z G
    have Gu : GP (PX (o.1 1) S) u := G.kp Fu (by decide) (by decide) (by decide) (by decide) (by decide) (by decide)
    show ∃ s' : Ob × Int32, p_X10_oftenOf_L5 fu (n + 1) z (nI r) (nI q) a (nI i) = p_X10_oftenOf_L5 fu n s'.1 (nI r) (nI q) s'.2 (nI (i + 1)) ∧ _
    rw [p_X10_oftenOf_L5, if_neg (by rw [lt_ln (by decide) (by omega)]; omega), eu, Option.bind_some, e_comesOf fu hf (PX (o.1 1) S) hi gu, Option.bind_some, show nI i + 1 = nI (i + 1) from nI_add i 1, ea]
    by_cases g : coF (PX (o.1 1) S) r i (nI q) = -1
    · rw [if_pos g, Int32.add_zero]
      refine ⟨(u, nI c), rfl, ⟨c, by omega, rfl, ?_⟩, F.tr (Fu.mono (by decide)), Gu⟩
      rw [hz]
      constructor
      · intro z s hs
        by_cases e : s = i
        · rw [e]; exact g
        · exact z s (by omega)
      · intro z s hs
        exact z s (by omega)
    · rw [if_neg g, show nI c + 1 = nI (c + 1) from nI_add c 1]
      refine ⟨(u, nI (c + 1)), rfl, ⟨c + 1, by omega, rfl, ?_⟩, F.tr (Fu.mono (by decide)), Gu⟩
      exact ⟨fun z => absurd z (Nat.succ_ne_zero c), fun z => absurd (z i (Nat.lt_succ_self i)) g⟩) fu 0 (z0, 0) (Nat.zero_le _) (by omega) ⟨⟨0, Nat.le_refl 0, rfl, ⟨fun _ s hs => absurd hs (Nat.not_lt_zero _), fun _ => rfl⟩⟩, F0, G0⟩
  have ea : a = nI c := ea
  rw [ea] at e
  exact ⟨c, z, hc, e, F, G, hz⟩
/-- the set meets each of the ways noted -/
def CUT (w : Nat → Int32) (r q : Nat) (S : Int32) (i : Nat) : Prop := ∀ s j, s < i → s ≤ j → j < 61 → coF (PW w) r s (nI q) = nI j → ¬ (hS w r s (j - s) &&& S = 0)
theorem CUT.often {w : Nat → Int32} (hw : OKW w) {S : Int32} {r q : Nat} (hr : r < nR w) (hq : q < nR w) (nq : bq S q = false) : CUT w r q S 61 ↔ ∀ s, s < 61 → coF (PX w S) r s (nI q) = -1 := by
  constructor
  · intro h s hs
    rcases stopAt hw S hr hq hs nq with ⟨-, e⟩ | ⟨j, j1, j2, e, -, g⟩
    · exact e
    · exact g.mpr (h s j hs j1 j2 e)
  · intro h s j hs j1 j2 e
    rcases stopAt hw S hr hq hs nq with ⟨e', -⟩ | ⟨j', k1, k2, e', -, g⟩
    · rw [e'] at e
      exact absurd e.symm (m1_ne (by omega))
    · have : j' = j := by
        rw [e'] at e
        have := congrArg Int32.toInt e
        rw [nI_toInt (by omega), nI_toInt (by omega)] at this
        omega
      rw [← this]
      exact g.mp (h s hs)
theorem e_noteWays (fu : Nat) (hf : 2000 ≤ fu) {x : Nat → Ob} {o : Ob} (h : Rel x o) {r q : Nat} (hr : r < nR (o.1 1)) (hq : q < nR (o.1 1)) :
    ∃ c y, c ≤ 61 ∧ p_X9_noteWays fu x (nI r) (nI q) = some (nI c, y) ∧ KQ x y ∧ ∀ S, (∀ n, n < c → ¬ ((y 0).1 13 n &&& S = 0)) ↔ CUT (o.1 1) r q S 61 := by
  have hR := h.w.2.1.1
  unfold p_X9_noteWays
  obtain ⟨⟨a, y⟩, e, ⟨c, hc, ea, hz⟩, K⟩ := loop_inv (fun n i (t : (Nat → Ob) × Int32) => p_X9_noteWays_L5 fu n t.1 (nI r) (nI q) t.2 (nI i)) 61 (fun i t => (∃ c, c ≤ i ∧ t.2 = nI c ∧ ∀ S, (∀ n, n < c → ¬ ((t.1 0).1 13 n &&& S = 0)) ↔ CUT (o.1 1) r q S i) ∧ KQ x t.1) (fun y => (∃ c, c ≤ 61 ∧ y.1 = nI c ∧ ∀ S, (∀ n, n < c → ¬ ((y.2 0).1 13 n &&& S = 0)) ↔ CUT (o.1 1) r q S 61) ∧ KQ x y.2) (by
    rintro n ⟨z, a⟩ ⟨h1, h2⟩
    refine ⟨(a, z), ?_, h1, h2⟩
    show p_X9_noteWays_L5 fu (n + 1) z (nI r) (nI q) a (nI 61) = _
    rw [p_X9_noteWays_L5, if_pos (by decide)]) (by
    rintro n i ⟨z, a⟩ hi ⟨⟨c, hc, ea, hz⟩, K⟩
    have K : KQ x z := K
    have ea : a = nI c := ea
    have hz : ∀ S, (∀ n, n < c → ¬ ((z 0).1 13 n &&& S = 0)) ↔ CUT (o.1 1) r q S i := hz
    right
    obtain ⟨y, ey, dy⟩ := e_dr fu hf h K (z 12) hr hi
    have v12 : va_up z 12 y 12 = y := rfl
    have v0 : va_up z 12 y 0 = z 0 := rfl
    have nq : nI q ≠ -2 := fun e => by
      have := congrArg Int32.toInt e
      rw [nI_toInt (by omega)] at this
      have e2 : (-2 : Int32).toInt = -2 := rfl
      omega
    show ∃ s' : (Nat → Ob) × Int32, p_X9_noteWays_L5 fu (n + 1) z (nI r) (nI q) a (nI i) = p_X9_noteWays_L5 fu n s'.1 (nI r) (nI q) s'.2 (nI (i + 1)) ∧ _
    rw [p_X9_noteWays_L5, if_neg (by rw [lt_ln (by decide) (by omega)]; omega), ey, Option.bind_some, v12, e_firstIn fu hf (PW (o.1 1)) hi dy (nI q) nq, Option.bind_some, show nI i + 1 = nI (i + 1) from nI_add i 1, ea]
    rcases stopAt h.w 0 hr hq hi (bq_0 q) with ⟨g, -⟩ | ⟨j, j1, j2, g, rch, -⟩
    · rw [if_pos g]
      refine ⟨(va_up z 12 y, nI c), rfl, ⟨c, by omega, rfl, fun S => ?_⟩, K.up (by decide) y⟩
      show (∀ n, n < c → ¬ ((z 0).1 13 n &&& S = 0)) ↔ _
      rw [hz S]
      constructor
      · intro k s j hs j1 j2 e
        by_cases ei : s = i
        · rw [ei, g] at e
          exact absurd e.symm (m1_ne (by omega))
        · exact k s j (by omega) j1 j2 e
      · intro k s j hs j1 j2 e
        exact k s j (by omega) j1 j2 e
    · rw [g, if_neg (m1_ne (by omega)), e_ahead fu hf dy j1 j2 rch, Option.bind_some, v0, e_put fu ((z 0).1 13) _ (show c < 61 by omega) (by decide), Option.bind_some, show nI c + 1 = nI (c + 1) from nI_add c 1]
      refine ⟨(va_up (va_up z 12 y) 0 (oA (z 0) 13 (upd ((z 0).1 13) c (hS (o.1 1) r i (j - i)))), nI (c + 1)), rfl, ⟨c + 1, by omega, rfl, fun S => ?_⟩, (K.up (by decide) y).up0 _⟩
      show (∀ n, n < c + 1 → ¬ (upd ((z 0).1 13) c (hS (o.1 1) r i (j - i)) n &&& S = 0)) ↔ _
      have hzS := hz S
      constructor
      · intro k s j' hs k1 k2 e
        by_cases ei : s = i
        · subst ei
          have ej : j' = j := by
            rw [g] at e
            have := congrArg Int32.toInt e
            rw [nI_toInt (by omega), nI_toInt (by omega)] at this
            omega
          have := k c (Nat.lt_succ_self c)
          rw [upd_v, if_pos rfl] at this
          rw [ej]; exact this
        · refine hzS.mp (fun n hn => ?_) s j' (by omega) k1 k2 e
          have := k n (by omega)
          rw [upd_v, if_neg (by omega)] at this
          exact this
      · intro k n hn
        rw [upd_v]
        by_cases en : n = c
        · rw [if_pos en]
          exact k i j (Nat.lt_succ_self i) j1 j2 g
        · rw [if_neg en]
          exact hzS.mpr (fun s j' hs k1 k2 e => k s j' (by omega) k1 k2 e) n (by omega)) fu 0 (x, 0) (Nat.zero_le _) (by omega) ⟨⟨0, Nat.le_refl 0, rfl, fun S => ⟨fun _ s j hs => absurd hs (Nat.not_lt_zero _), fun _ n hn => absurd hn (Nat.not_lt_zero _)⟩⟩, KQ.rf⟩
  have ea : a = nI c := ea
  rw [ea] at e
  exact ⟨c, y, hc, e, K, hz⟩
