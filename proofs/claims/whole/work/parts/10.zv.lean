theorem GP.px {w : Nat → Int32} {S : Int32} {z : Ob} (g : GP (PX w S) z) (T : Int32) : GP (PX w T) (oI z 21 T) := ⟨g.1, g.2.1, g.2.2.1, g.2.2.2.1, rfl⟩
theorem e_selR (fu : Nat) (hf : 2000 ≤ fu) {o z0 : Ob} (hw : OKW (o.1 1)) (F0 : FR tF o z0) (G0 : GP (PW (o.1 1)) z0) {r q : Nat} (hr : r < nR (o.1 1)) (hq : q < nR (o.1 1)) {cut : Nat → Bool} (hcut : ∀ v, bq (nI v) q = false → (cut v = true ↔ ∀ s, s < 61 → coF (PX (o.1 1) (nI v)) r s (nI q) = -1)) :
    ∃ z, p_X10_stopsOf fu z0 (nI r) (nI q) = some (it (selF cut r q) (-1) (2 ^ nR (o.1 1)), z) ∧ FR tF o z := by
  have hR := hw.2.1.1
  have h3 := hw.1.2.1
  obtain ⟨M, eM⟩ : ∃ M, M = 2 ^ nR (o.1 1) := ⟨_, rfl⟩
  have hM : M ≤ 1024 ∧ 1 ≤ M := by rw [eM]; exact pow_le ⟨nR (o.1 1), by omega⟩
  have eA : (1 : Int32) <<< (nI (nR (o.1 1)) &&& 31) = nI M := by
    rw [eM]
    exact (pow_b1 ⟨nR (o.1 1), by omega⟩).1
  have i1 : inb (3 : Int32) 98 = true := by decide
  have i3 : (3 : Int32).toNatClampNeg = 3 := by decide
  rw [← eM]
  unfold p_X10_stopsOf
  obtain ⟨⟨a, z⟩, e, ea, F⟩ := loop_inv (fun n v (t : Ob × Int32) => p_X10_stopsOf_L5 fu n t.1 (nI r) (nI q) t.2 (nI v)) M (fun v t => (FR tF o t.1 ∧ ∃ S, GP (PX (o.1 1) S) t.1) ∧ t.2 = it (selF cut r q) (-1) v) (fun y => y.1 = it (selF cut r q) (-1) M ∧ FR tF o y.2) (by
    rintro n ⟨z, b⟩ ⟨⟨F, S, G⟩, eb⟩
    have F : FR tF o z := F
    have g1 : z.1 1 = o.1 1 := G.1
    refine ⟨(b, oI z 21 0), ?_, eb, F.I (by decide) _⟩
    show p_X10_stopsOf_L5 fu (n + 1) z (nI r) (nI q) b (nI M) = _
    rw [p_X10_stopsOf_L5, i1, if_pos rfl, i3, g1, h3, eA, if_pos (Int32.le_refl _)]) (by
    rintro n v ⟨z, b⟩ hv ⟨⟨F, S, G⟩, eb⟩
    have F : FR tF o z := F
    have G : GP (PX (o.1 1) S) z := G
    have eb : b = it (selF cut r q) (-1) v := eb
    have g1 : z.1 1 = o.1 1 := G.1
    right
    show ∃ s' : Ob × Int32, p_X10_stopsOf_L5 fu (n + 1) z (nI r) (nI q) b (nI v) = p_X10_stopsOf_L5 fu n s'.1 (nI r) (nI q) s'.2 (nI (v + 1)) ∧ (FR tF o s'.1 ∧ ∃ S, GP (PX (o.1 1) S) s'.1) ∧ s'.2 = it (selF cut r q) (-1) (v + 1)
    have n1 : ¬ (0 : Int32) = 1 := by decide
    rw [p_X10_stopsOf_L5, i1, if_pos rfl, i3, g1, h3, eA, if_neg (by rw [le_nn (by omega) (by omega)]; omega), e_rbit fu _ (show r < 32 by omega), Option.bind_some, e_rbit fu _ (show q < 32 by omega), show nI v + 1 = nI (v + 1) from nI_add v 1, it, ← eb]
    unfold selF
    by_cases c1 : bq (nI v) r = true
    · rw [if_pos c1, if_pos rfl, if_pos c1]
      exact ⟨(z, b), rfl, ⟨F, S, G⟩, rfl⟩
    · rw [if_neg c1, if_neg n1, if_neg c1, Option.bind_some]
      by_cases c2 : bq (nI v) q = true
      · rw [if_pos c2, if_pos rfl, if_pos c2]
        exact ⟨(z, b), rfl, ⟨F, S, G⟩, rfl⟩
      · rw [if_neg c2, if_neg n1, if_neg c2]
        have hc := hcut v (by simpa using c2)
        obtain ⟨c, u, hcu, eu, Fu, Gu, zu⟩ := r_oft fu hf hw (nI v) (F.I (by decide) (nI v)) (G.px (nI v)) hr hq
        have J : p_X10_stopsOf_J58 fu (fun oz v1 v2 v3 v4 => p_X10_stopsOf_L5 fu n oz v1 v2 v3 v4) z (nI r) (nI q) b (nI v) = p_X10_stopsOf_L5 fu n u (nI r) (nI q) (if cut v = true then nI v else b) (nI (v + 1)) := by
          unfold p_X10_stopsOf_J58
          rw [eu, Option.bind_some, show nI v + 1 = nI (v + 1) from nI_add v 1]
          by_cases c0 : c = 0
          · rw [if_pos (hc.mpr (zu.mp c0)), if_pos (by rw [c0]; rfl)]
          · rw [if_neg (fun k => c0 (zu.mpr (hc.mp k))), if_neg (by rw [eq_nl (by omega) (by decide)]; exact c0)]
        rw [J]
        by_cases c3 : b = -1
        · rw [if_pos c3]
          refine ⟨(u, if cut v = true then nI v else b), rfl, ⟨Fu, _, Gu⟩, ?_⟩
          rw [if_pos c3]
        · rw [if_neg c3, e_bits fu hf, Option.bind_some, e_bits fu hf, Option.bind_some]
          by_cases c4 : bN (nI v) < bN b
          · rw [if_pos c4]
            refine ⟨(u, if cut v = true then nI v else b), rfl, ⟨Fu, _, Gu⟩, ?_⟩
            rw [if_neg c3, if_pos c4]
          · rw [if_neg c4]
            refine ⟨(z, b), rfl, ⟨F, S, G⟩, ?_⟩
            rw [if_neg c3, if_neg c4]
            split <;> rfl) fu 0 (z0, -1) (Nat.zero_le _) (by omega) ⟨⟨F0, 0, G0⟩, rfl⟩
  have ea : a = it (selF cut r q) (-1) M := ea
  rw [ea] at e
  exact ⟨z, e, F⟩
