/-! ===== the constructors ===== -/
abbrev wapp (a b : va_W) : va_W := a ++ b
def Bi (D : va_G) (ct : Nat → ClassId) (G : GT) (ws : va_W) (sz : Nat) (U : State) : Prop := Bx D ct G ws U ∧ U.heap.size = sz
theorem Bi_blind {D : va_G} {ct : Nat → ClassId} {G : GT} {ws : va_W} {sz : Nat} {av : List Value} : FrameBlind (va_Pc av (Bi D ct G ws sz)) := by
  intro a U g mk h
  obtain ⟨h1, h2, h3⟩ := h
  obtain ⟨e, h2⟩ := Bx_blind (av := av) a U g mk ⟨h1, h2⟩
  exact ⟨e, h2, h3⟩
theorem Bi_pre {D : va_G} {ct : Nat → ClassId} {G : GT} {ws : va_W} {av : List Value} {s : State} {H : Heap} (hP : va_P D vwCl ws H) (hK : va_K D vwCl (tyl ct) s) (hN : ∀ w ∈ NW, va_Nw w s) (hX : SX G s H) :
    ∀ U : State, U.heap = H → s.WarmedH U.vm → va_Pc av (Bi D ct G ws H.size) av.toArray U := by
  intro U hU hW
  obtain ⟨e, h⟩ := Bx_pre (av := av) hP hK hN hX U hU hW
  exact ⟨e, h, by rw [hU]⟩
def Bi9 (D : va_G) (ct : Nat → ClassId) (G : GT) (ws : va_W) (sz : Nat) (U : State) : Prop := Bi D ct G ws sz U ∧ va_AO "QuotedRiver$Rivers" U ∧ va_AO "QuotedRiver$Row" U
theorem Bi9_blind {D : va_G} {ct : Nat → ClassId} {G : GT} {ws : va_W} {sz : Nat} {av : List Value} : FrameBlind (va_Pc av (Bi9 D ct G ws sz)) := by
  intro a U g mk h
  obtain ⟨h1, h2, h3, h4⟩ := h
  obtain ⟨e, h2⟩ := Bi_blind (av := av) a U g mk ⟨h1, h2⟩
  exact ⟨e, h2, va_AO.moved (u := U) (U := U.calling g mk a) (Vm.Alike.refl U.vm) h3, va_AO.moved (u := U) (U := U.calling g mk a) (Vm.Alike.refl U.vm) h4⟩
theorem Bi9_pre {D : va_G} {ct : Nat → ClassId} {G : GT} {ws : va_W} {av : List Value} {s : State} {H : Heap} (hP : va_P D vwCl ws H) (hK : va_K D vwCl (tyl ct) s) (hN : ∀ w ∈ NW, va_Nw w s) (hX : SX G s H) (h2 : va_AO "QuotedRiver$Rivers" s) (h3 : va_AO "QuotedRiver$Row" s) :
    ∀ U : State, U.heap = H → s.WarmedH U.vm → va_Pc av (Bi9 D ct G ws H.size) av.toArray U := by
  intro U hU hW
  obtain ⟨e, h⟩ := Bi_pre (av := av) hP hK hN hX U hU hW
  exact ⟨e, h, h2.moved hW.alike, h3.moved hW.alike⟩
theorem P_arrq {D : va_G} {cl : List vw_C} {ws : va_W} {H : Heap} {a n : Nat} {cA : ClassId} {f g : Nat → Option Nat} (hP : va_P D cl ws H) (k : Nat) (hk : ws[k]? = some (a, .inl (cA, n, .inr (.inr (.inr (.inr f)))))) (h : ∀ j, j < n → f j = g j) : va_P D cl (ws.set k (a, .inl (cA, n, .inr (.inr (.inr (.inr g)))))) H := by
  have hl := (List.getElem?_eq_some_iff.mp hk).1
  intro j q hq
  by_cases hj : j = k
  · subst hj
    rw [List.getElem?_set_self hl] at hq
    cases hq
    have h1 : H[a]? = some (vp_cell cA (n, .inr (.inr (.inr (.inr f))))) := hP j _ hk
    show H[a]? = some (vp_cell cA (n, .inr (.inr (.inr (.inr g)))))
    rw [h1, vp_cell_q, vp_cell_q]
    unfold arrV
    congr 3
    funext i
    show va_rf (f i.val) = va_rf (g i.val)
    rw [h i.val i.isLt]
  · rw [List.getElem?_set_ne (fun e => hj e.symm)] at hq
    exact hP j q hq
theorem ct_in {D : va_G} {cl : List vw_C} {tys : List (ClassId × FieldType)} {s : State} {cA cB : ClassId} {ty : FieldType} {i j : Nat} (hK : va_K D cl tys s) (hi : tys[i]? = some (cA, ty)) (hj : tys[j]? = some (cB, ty)) : cA = cB := by
  have h1 := (hK.2 i _ hi).2
  have h2 := (hK.2 j _ hj).2
  unfold va_RA at h1 h2
  cases ty with
  | object C =>
    obtain ⟨-, -, -, -, -, e1⟩ := h1
    obtain ⟨-, -, -, -, -, e2⟩ := h2
    exact Option.some.inj (e1.symm.trans e2)
  | _ => exact Option.some.inj (h1.symm.trans h2)
theorem ct_eq0 {D : va_G} {ct : Nat → ClassId} {s : State} {cA : ClassId} (hK : va_K D vwCl (tyl ct ++ [(cA, .int)]) s) : ct 0 = cA := ct_in (i := 0) (j := 6) hK rfl rfl
theorem ct_eq1 {D : va_G} {ct : Nat → ClassId} {s : State} {cA : ClassId} (hK : va_K D vwCl (tyl ct ++ [(cA, .long)]) s) : ct 1 = cA := ct_in (i := 1) (j := 6) hK rfl rfl
theorem ct_eq2 {D : va_G} {ct : Nat → ClassId} {s : State} {cA : ClassId} (hK : va_K D vwCl (tyl ct ++ [(cA, .byte)]) s) : ct 2 = cA := ct_in (i := 2) (j := 6) hK rfl rfl
theorem ct_eq3 {D : va_G} {ct : Nat → ClassId} {s : State} {cA : ClassId} (hK : va_K D vwCl (tyl ct ++ [(cA, .boolean)]) s) : ct 3 = cA := ct_in (i := 3) (j := 6) hK rfl rfl
theorem ct_eq4 {D : va_G} {ct : Nat → ClassId} {s : State} {cA : ClassId} (hK : va_K D vwCl (tyl ct ++ [(cA, (.object "QuotedRiver$Rivers"))]) s) : ct 4 = cA := ct_in (i := 4) (j := 6) hK rfl rfl
theorem ct_eq5 {D : va_G} {ct : Nat → ClassId} {s : State} {cA : ClassId} (hK : va_K D vwCl (tyl ct ++ [(cA, (.object "QuotedRiver$Row"))]) s) : ct 5 = cA := ct_in (i := 5) (j := 6) hK rfl rfl
theorem def_X6 : ∀ j, j < 2 → defaultValue (tyX6 j) = vp_V [.null, .int 0] j := by
  intro j hj
  match j, hj with
  | 0, _ => rfl
  | 1, _ => rfl
  | j + 2, h => exact absurd h (by omega)
theorem def_X7 : ∀ j, j < 4 → defaultValue (tyX7 j) = vp_V [.null, .null, .null, .int 0] j := by
  intro j hj
  match j, hj with
  | 0, _ => rfl
  | 1, _ => rfl
  | 2, _ => rfl
  | 3, _ => rfl
  | j + 4, h => exact absurd h (by omega)
theorem def_X2 : ∀ j, j < 20 → defaultValue (tyX2 j) = vp_V [.int 0, .int 0, .int 0, .int 0, .int 0, .null, .null, .null, .int 0, .null, .null, .null, .null, .int 0, .null, .null, .int 0, .null, .null, .null] j := by
  intro j hj
  match j, hj with
  | 0, _ => rfl
  | 1, _ => rfl
  | 2, _ => rfl
  | 3, _ => rfl
  | 4, _ => rfl
  | 5, _ => rfl
  | 6, _ => rfl
  | 7, _ => rfl
  | 8, _ => rfl
  | 9, _ => rfl
  | 10, _ => rfl
  | 11, _ => rfl
  | 12, _ => rfl
  | 13, _ => rfl
  | 14, _ => rfl
  | 15, _ => rfl
  | 16, _ => rfl
  | 17, _ => rfl
  | 18, _ => rfl
  | 19, _ => rfl
  | j + 20, h => exact absurd h (by omega)
theorem def_X8 : ∀ j, j < 3 → defaultValue (tyX8 j) = vp_V [.null, .null, .int 0] j := by
  intro j hj
  match j, hj with
  | 0, _ => rfl
  | 1, _ => rfl
  | 2, _ => rfl
  | j + 3, h => exact absurd h (by omega)
theorem def_X5 : ∀ j, j < 9 → defaultValue (tyX5 j) = vp_V [.null, .int 0, .int 0, .int 0, .int 0, .int 0, .int 0, .int 0, .int 0] j := by
  intro j hj
  match j, hj with
  | 0, _ => rfl
  | 1, _ => rfl
  | 2, _ => rfl
  | 3, _ => rfl
  | 4, _ => rfl
  | 5, _ => rfl
  | 6, _ => rfl
  | 7, _ => rfl
  | 8, _ => rfl
  | j + 9, h => exact absurd h (by omega)
theorem def_X4 : ∀ j, j < 4 → defaultValue (tyX4 j) = vp_V [.int 0, .int 0, .int 0, .null] j := by
  intro j hj
  match j, hj with
  | 0, _ => rfl
  | 1, _ => rfl
  | 2, _ => rfl
  | 3, _ => rfl
  | j + 4, h => exact absurd h (by omega)
theorem def_X0 : ∀ j, j < 4 → defaultValue (tyX0 j) = vp_V [.null, .null, .int 0, .long 0] j := by
  intro j hj
  match j, hj with
  | 0, _ => rfl
  | 1, _ => rfl
  | 2, _ => rfl
  | 3, _ => rfl
  | j + 4, h => exact absurd h (by omega)
theorem def_X3 : ∀ j, j < 4 → defaultValue (tyX3 j) = vp_V [.int 0, .int 0, .int 0, .null] j := by
  intro j hj
  match j, hj with
  | 0, _ => rfl
  | 1, _ => rfl
  | 2, _ => rfl
  | 3, _ => rfl
  | j + 4, h => exact absurd h (by omega)
theorem def_X1 : ∀ j, j < 6 → defaultValue (tyX1 j) = vp_V [.null, .null, .int 0, .int 0, .int 0, .int 0] j := by
  intro j hj
  match j, hj with
  | 0, _ => rfl
  | 1, _ => rfl
  | 2, _ => rfl
  | 3, _ => rfl
  | 4, _ => rfl
  | 5, _ => rfl
  | j + 6, h => exact absurd h (by omega)
theorem def_X10 : ∀ j, j < 42 → defaultValue (tyX10 j) = vp_V [.int 0, .null, .null, .null, .null, .int 0, .null, .int 0, .int 0, .int 0, .int 0, .int 0, .int 0, .int 0, .null, .null, .null, .null, .null, .null, .int 0, .int 0, .null, .null, .int 0, .int 0, .int 0, .null, .null, .int 0, .null, .null, .int 0, .int 0, .int 0, .null, .null, .int 0, .null, .null, .null, .null] j := by
  intro j hj
  match j, hj with
  | 0, _ => rfl
  | 1, _ => rfl
  | 2, _ => rfl
  | 3, _ => rfl
  | 4, _ => rfl
  | 5, _ => rfl
  | 6, _ => rfl
  | 7, _ => rfl
  | 8, _ => rfl
  | 9, _ => rfl
  | 10, _ => rfl
  | 11, _ => rfl
  | 12, _ => rfl
  | 13, _ => rfl
  | 14, _ => rfl
  | 15, _ => rfl
  | 16, _ => rfl
  | 17, _ => rfl
  | 18, _ => rfl
  | 19, _ => rfl
  | 20, _ => rfl
  | 21, _ => rfl
  | 22, _ => rfl
  | 23, _ => rfl
  | 24, _ => rfl
  | 25, _ => rfl
  | 26, _ => rfl
  | 27, _ => rfl
  | 28, _ => rfl
  | 29, _ => rfl
  | 30, _ => rfl
  | 31, _ => rfl
  | 32, _ => rfl
  | 33, _ => rfl
  | 34, _ => rfl
  | 35, _ => rfl
  | 36, _ => rfl
  | 37, _ => rfl
  | 38, _ => rfl
  | 39, _ => rfl
  | 40, _ => rfl
  | 41, _ => rfl
  | j + 42, h => exact absurd h (by omega)
theorem def_X9 : ∀ j, j < 14 → defaultValue (tyX9 j) = vp_V [.null, .null, .null, .null, .null, .int 0, .null, .null, .null, .null, .null, .null, .null, .null] j := by
  intro j hj
  match j, hj with
  | 0, _ => rfl
  | 1, _ => rfl
  | 2, _ => rfl
  | 3, _ => rfl
  | 4, _ => rfl
  | 5, _ => rfl
  | 6, _ => rfl
  | 7, _ => rfl
  | 8, _ => rfl
  | 9, _ => rfl
  | 10, _ => rfl
  | 11, _ => rfl
  | 12, _ => rfl
  | 13, _ => rfl
  | j + 14, h => exact absurd h (by omega)
def i_X6 : Ob := (fun _ _ => 0, fun _ _ => 0)
abbrev rm_X6_init : Room := { frames := 1, cells := 1, slots := 700, locals := 12 }
set_option maxHeartbeats 8000000 in
set_option maxRecDepth 100000 in
theorem ci_X6 (l : Launch) (D : va_G) (ct : Nat → ClassId) (G : GT) (h0 sz : Nat) (hG0 : GE G h0) (hGs0 : G.1 ≤ sz) : Met l yX6_init (.code yX6_init cX6_init 1 none :: wsL_law) rm_X6_init (va_Pc [.ref h0] (Bi D ct G [(h0, .inr (6, [.null, .int 0]))] sz)) (va_Qv (fun _ : Nat → Nat => True) (fun (a : Nat → Nat) t => a 0 = h0 ∧ va_P D vwCl (cs6 ct a i_X6) t.heap ∧ va_D (va_A [(h0, .inr (6, [.null, .int 0]))] sz) (cs6 ct a i_X6)) (va_A [(h0, .inr (6, [.null, .int 0]))] sz)) 1 700 (va_A [(h0, .inr (6, [.null, .int 0]))] sz) := by
  refine Met.ofW (cc := cX6_init) (maxL := 1) (ret := none) (by decide) rfl ?_
  intro p e s m args below meth c s₁ B hml hv
  obtain ⟨rfl, ⟨hP, hK, hN, hX⟩, hsz⟩ := hv
  have hx := B.exec
  have hb := B.bytes
  have hr := B.returns
  have hts := atoms_spec (ws := .code yX6_init cX6_init 1 none :: wsL_law) B.pre
  have htl : ∀ w ∈ wsL_law, w.before _ s = true := fun w h => hts w (List.mem_cons_of_mem _ h)
  have hown : s.vm.findClass RX6 = some m.cls := findClass_of_methodNamed B.named
  have hlocks := B.notSynchronized
  have hin : meth.name = "<init>" := (name_of_methodNamed B.named B.method).1
  subst hsz
  have hD : va_D (va_A [(h0, .inr (6, [.null, .int 0]))] s.heap.size) [(h0, .inr (6, [.null, .int 0]))] := va_D.self (A := fun _ => True) ⟨fun i j p q hi hj _ => by
    have h1 := (List.getElem?_eq_some_iff.mp hi).1
    have h2 := (List.getElem?_eq_some_iff.mp hj).1
    simp only [List.length_cons, List.length_nil] at h1 h2
    omega, fun _ _ _ => trivial⟩
  generalize hAe : va_A [(h0, .inr (6, [.null, .int 0]))] s.heap.size = AA at hD ⊢
  have hA : ∀ q : Nat, s.heap.size ≤ q → AA q := fun q h => by rw [← hAe]; exact Or.inr h
  have hGs : G.1 ≤ s.heap.size := hGs0
  have hGE : ∀ q, AA q → GE G q := by
    intro q h
    rw [← hAe] at h
    rcases h with ⟨k, e, hk⟩ | h
    · match k, hk with
      | 0, hk => cases hk; exact hG0
      | k + 1, hk => simp at hk
    · exact Nat.le_trans hGs h
  have hS : va_S AA s.heap s.heap [] := va_S.rf
  have hl := lv_entry ([.ref h0]) (n := 1) (Nat.le_of_ble_eq_true rfl)
  rw [lg_entry_eq]
  generalize (lg_sl ([.ref h0]) ++ List.replicate (1 - (lg_sl ([.ref h0])).length) Slot.unset).toArray = ls at hl ⊢
  have hl : lv_has ls 1 [(0, .ref h0)] := hl
  refine lv_aload_n hx hb dX6_init_0 rfl (lv_at hl 0 rfl) ?_
  refine W.objInit hx hb hown (htl _ wq_3_6) (htl _ wq_1_11) (htl _ wq_1_12) rfl (by rw [hml]; exact hl.1) rfl dX6_init_1 (Nat.le_of_ble_eq_true rfl) (Nat.le_of_ble_eq_true rfl) ?_
  refine W.eq (g2 := F0 m 4 ls []) rfl ?_
  refine lv_aload_n hx hb dX6_init_4 rfl (lv_at hl 0 rfl) ?_
  refine lv_sipush (v := 700) hx hb dX6_init_5 (by decide) ?_
  refine va_newa (D := D) (tys := tyl ct) (atype := .int) (ty := .int) (N' := 700) (a0 := (700, .inl (fun _ => 0))) hx hb (htl _ wq_3_0) rfl hK hP hD hS hA (fun _ => rfl) (by decide) (by decide) (by decide) (Nat.le_of_ble_eq_true rfl) (Nat.le_of_ble_eq_true rfl) dX6_init_8 (fun q8_5 cA H_8_5 hK1 hP hD hS => ?_)
  obtain rfl := ct_eq0 hK1
  clear hK1
  have hP : va_P D vwCl [(h0, .inr (6, [.null, .int 0])), (q8_5, .inl (ct 0, 700, .inl (fun _ => 0)))] H_8_5 := hP
  have hD : va_D AA [(h0, .inr (6, [.null, .int 0])), (q8_5, .inl (ct 0, 700, .inl (fun _ => 0)))] := hD
  refine va_putF (D := D) (tys := tyl ct) (ci := 6) (v := .ref q8_5) (ty := (.array .int)) (C := RX6) (T := TX6) (N := 2) hx hb htl inlX6 tyX6 tyX6_ok nmX6 hown hK hP hD hS 0 rfl rfl 0 (by decide) (htl _ wq_3_7) (fun _ h9 => h9) rfl hin rfl (tyX6_ok 0 (by decide)) rfl rfl (Nat.le_of_ble_eq_true rfl) dX6_init_10 (fun H_10_6 locs_10_6 hP hD hS => ?_)
  have hP : va_P D vwCl [(h0, .inr (6, [.ref q8_5, .int 0])), (q8_5, .inl (ct 0, 700, .inl (fun _ => 0)))] H_10_6 := hP
  have hD : va_D AA [(h0, .inr (6, [.ref q8_5, .int 0])), (q8_5, .inl (ct 0, 700, .inl (fun _ => 0)))] := hD
  refine lv_aload_n hx hb dX6_init_13 rfl (lv_at hl 0 rfl) ?_
  refine lv_iconst (v := 0) hx hb dX6_init_14 (by decide) ?_
  refine va_put (D := D) (tys := tyl ct) (ci := 6) (v := .int 0) (ty := .int) (C := RX6) (T := TX6) (N := 2) hx hb htl inlX6 tyX6 tyX6_ok nmX6 hown hK hP hD hS 0 rfl rfl 1 (by decide) (htl _ wq_3_8) (fun _ h9 => h9) rfl (tyX6_ok 1 (by decide)) rfl rfl (Nat.le_of_ble_eq_true rfl) dX6_init_15 (fun H_15_9 locs_15_9 hP hD hS => ?_)
  have hP : va_P D vwCl [(h0, .inr (6, [.ref q8_5, .int 0])), (q8_5, .inl (ct 0, 700, .inl (fun _ => 0)))] H_15_9 := hP
  have hD : va_D AA [(h0, .inr (6, [.ref q8_5, .int 0])), (q8_5, .inl (ct 0, 700, .inl (fun _ => 0)))] := hD
  refine W.widen (k := 1) (n := 700) (Nat.le_of_ble_eq_true rfl) (Nat.le_of_ble_eq_true rfl) ?_
  exact W.vret hx hb hr (fun t ht hW => ⟨⟨fun i => ([h0, q8_5] : List Nat).getD i 0, rfl, trivial, rfl, by rw [ht]; exact hP, hD⟩, hS.F ht⟩) hS.2.2 dX6_init_18
def i_X7 : Ob := (fun _ _ => 0, fun _ _ => 0)
abbrev rm_X7_init : Room := { frames := 1, cells := 3, slots := 2103, locals := 12 }
set_option maxHeartbeats 8000000 in
set_option maxRecDepth 100000 in
theorem ci_X7 (l : Launch) (D : va_G) (ct : Nat → ClassId) (G : GT) (h0 sz : Nat) (hG0 : GE G h0) (hGs0 : G.1 ≤ sz) : Met l yX7_init (.code yX7_init cX7_init 1 none :: wsL_law) rm_X7_init (va_Pc [.ref h0] (Bi D ct G [(h0, .inr (7, [.null, .null, .null, .int 0]))] sz)) (va_Qv (fun _ : Nat → Nat => True) (fun (a : Nat → Nat) t => a 0 = h0 ∧ va_P D vwCl (cs7 ct a i_X7) t.heap ∧ va_D (va_A [(h0, .inr (7, [.null, .null, .null, .int 0]))] sz) (cs7 ct a i_X7)) (va_A [(h0, .inr (7, [.null, .null, .null, .int 0]))] sz)) 3 2103 (va_A [(h0, .inr (7, [.null, .null, .null, .int 0]))] sz) := by
  refine Met.ofW (cc := cX7_init) (maxL := 1) (ret := none) (by decide) rfl ?_
  intro p e s m args below meth c s₁ B hml hv
  obtain ⟨rfl, ⟨hP, hK, hN, hX⟩, hsz⟩ := hv
  have hx := B.exec
  have hb := B.bytes
  have hr := B.returns
  have hts := atoms_spec (ws := .code yX7_init cX7_init 1 none :: wsL_law) B.pre
  have htl : ∀ w ∈ wsL_law, w.before _ s = true := fun w h => hts w (List.mem_cons_of_mem _ h)
  have hown : s.vm.findClass RX7 = some m.cls := findClass_of_methodNamed B.named
  have hlocks := B.notSynchronized
  have hin : meth.name = "<init>" := (name_of_methodNamed B.named B.method).1
  subst hsz
  have hD : va_D (va_A [(h0, .inr (7, [.null, .null, .null, .int 0]))] s.heap.size) [(h0, .inr (7, [.null, .null, .null, .int 0]))] := va_D.self (A := fun _ => True) ⟨fun i j p q hi hj _ => by
    have h1 := (List.getElem?_eq_some_iff.mp hi).1
    have h2 := (List.getElem?_eq_some_iff.mp hj).1
    simp only [List.length_cons, List.length_nil] at h1 h2
    omega, fun _ _ _ => trivial⟩
  generalize hAe : va_A [(h0, .inr (7, [.null, .null, .null, .int 0]))] s.heap.size = AA at hD ⊢
  have hA : ∀ q : Nat, s.heap.size ≤ q → AA q := fun q h => by rw [← hAe]; exact Or.inr h
  have hGs : G.1 ≤ s.heap.size := hGs0
  have hGE : ∀ q, AA q → GE G q := by
    intro q h
    rw [← hAe] at h
    rcases h with ⟨k, e, hk⟩ | h
    · match k, hk with
      | 0, hk => cases hk; exact hG0
      | k + 1, hk => simp at hk
    · exact Nat.le_trans hGs h
  have hS : va_S AA s.heap s.heap [] := va_S.rf
  have hl := lv_entry ([.ref h0]) (n := 1) (Nat.le_of_ble_eq_true rfl)
  rw [lg_entry_eq]
  generalize (lg_sl ([.ref h0]) ++ List.replicate (1 - (lg_sl ([.ref h0])).length) Slot.unset).toArray = ls at hl ⊢
  have hl : lv_has ls 1 [(0, .ref h0)] := hl
  refine lv_aload_n hx hb dX7_init_0 rfl (lv_at hl 0 rfl) ?_
  refine W.objInit hx hb hown (htl _ wq_4_0) (htl _ wq_1_11) (htl _ wq_1_12) rfl (by rw [hml]; exact hl.1) rfl dX7_init_1 (Nat.le_of_ble_eq_true rfl) (Nat.le_of_ble_eq_true rfl) ?_
  refine W.eq (g2 := F0 m 4 ls []) rfl ?_
  refine lv_aload_n hx hb dX7_init_4 rfl (lv_at hl 0 rfl) ?_
  refine lv_sipush (v := 701) hx hb dX7_init_5 (by decide) ?_
  refine va_newa (D := D) (tys := tyl ct) (atype := .int) (ty := .int) (N' := 701) (a0 := (701, .inl (fun _ => 0))) hx hb (htl _ wq_3_0) rfl hK hP hD hS hA (fun _ => rfl) (by decide) (by decide) (by decide) (Nat.le_of_ble_eq_true rfl) (Nat.le_of_ble_eq_true rfl) dX7_init_8 (fun q8_5 cA H_8_5 hK1 hP hD hS => ?_)
  obtain rfl := ct_eq0 hK1
  clear hK1
  have hP : va_P D vwCl [(h0, .inr (7, [.null, .null, .null, .int 0])), (q8_5, .inl (ct 0, 701, .inl (fun _ => 0)))] H_8_5 := hP
  have hD : va_D AA [(h0, .inr (7, [.null, .null, .null, .int 0])), (q8_5, .inl (ct 0, 701, .inl (fun _ => 0)))] := hD
  refine va_putF (D := D) (tys := tyl ct) (ci := 7) (v := .ref q8_5) (ty := (.array .int)) (C := RX7) (T := TX7) (N := 4) hx hb htl inlX7 tyX7 tyX7_ok nmX7 hown hK hP hD hS 0 rfl rfl 0 (by decide) (htl _ wq_4_1) (fun _ h9 => h9) rfl hin rfl (tyX7_ok 0 (by decide)) rfl rfl (Nat.le_of_ble_eq_true rfl) dX7_init_10 (fun H_10_6 locs_10_6 hP hD hS => ?_)
  have hP : va_P D vwCl [(h0, .inr (7, [.ref q8_5, .null, .null, .int 0])), (q8_5, .inl (ct 0, 701, .inl (fun _ => 0)))] H_10_6 := hP
  have hD : va_D AA [(h0, .inr (7, [.ref q8_5, .null, .null, .int 0])), (q8_5, .inl (ct 0, 701, .inl (fun _ => 0)))] := hD
  refine lv_aload_n hx hb dX7_init_13 rfl (lv_at hl 0 rfl) ?_
  refine lv_sipush (v := 701) hx hb dX7_init_14 (by decide) ?_
  refine va_newa (D := D) (tys := tyl ct) (atype := .int) (ty := .int) (N' := 701) (a0 := (701, .inl (fun _ => 0))) hx hb (htl _ wq_3_0) rfl hK hP hD hS hA (fun _ => rfl) (by decide) (by decide) (by decide) (Nat.le_of_ble_eq_true rfl) (Nat.le_of_ble_eq_true rfl) dX7_init_17 (fun q17_9 cA H_17_9 hK1 hP hD hS => ?_)
  obtain rfl := ct_eq0 hK1
  clear hK1
  have hP : va_P D vwCl [(h0, .inr (7, [.ref q8_5, .null, .null, .int 0])), (q8_5, .inl (ct 0, 701, .inl (fun _ => 0))), (q17_9, .inl (ct 0, 701, .inl (fun _ => 0)))] H_17_9 := hP
  have hD : va_D AA [(h0, .inr (7, [.ref q8_5, .null, .null, .int 0])), (q8_5, .inl (ct 0, 701, .inl (fun _ => 0))), (q17_9, .inl (ct 0, 701, .inl (fun _ => 0)))] := hD
  refine va_putF (D := D) (tys := tyl ct) (ci := 7) (v := .ref q17_9) (ty := (.array .int)) (C := RX7) (T := TX7) (N := 4) hx hb htl inlX7 tyX7 tyX7_ok nmX7 hown hK hP hD hS 0 rfl rfl 1 (by decide) (htl _ wq_4_2) (fun _ h9 => h9) rfl hin rfl (tyX7_ok 1 (by decide)) rfl rfl (Nat.le_of_ble_eq_true rfl) dX7_init_19 (fun H_19_10 locs_19_10 hP hD hS => ?_)
  have hP : va_P D vwCl [(h0, .inr (7, [.ref q8_5, .ref q17_9, .null, .int 0])), (q8_5, .inl (ct 0, 701, .inl (fun _ => 0))), (q17_9, .inl (ct 0, 701, .inl (fun _ => 0)))] H_19_10 := hP
  have hD : va_D AA [(h0, .inr (7, [.ref q8_5, .ref q17_9, .null, .int 0])), (q8_5, .inl (ct 0, 701, .inl (fun _ => 0))), (q17_9, .inl (ct 0, 701, .inl (fun _ => 0)))] := hD
  refine lv_aload_n hx hb dX7_init_22 rfl (lv_at hl 0 rfl) ?_
  refine lv_sipush (v := 701) hx hb dX7_init_23 (by decide) ?_
  refine va_newa (D := D) (tys := tyl ct) (atype := .int) (ty := .int) (N' := 701) (a0 := (701, .inl (fun _ => 0))) hx hb (htl _ wq_3_0) rfl hK hP hD hS hA (fun _ => rfl) (by decide) (by decide) (by decide) (Nat.le_of_ble_eq_true rfl) (Nat.le_of_ble_eq_true rfl) dX7_init_26 (fun q26_13 cA H_26_13 hK1 hP hD hS => ?_)
  obtain rfl := ct_eq0 hK1
  clear hK1
  have hP : va_P D vwCl [(h0, .inr (7, [.ref q8_5, .ref q17_9, .null, .int 0])), (q8_5, .inl (ct 0, 701, .inl (fun _ => 0))), (q17_9, .inl (ct 0, 701, .inl (fun _ => 0))), (q26_13, .inl (ct 0, 701, .inl (fun _ => 0)))] H_26_13 := hP
  have hD : va_D AA [(h0, .inr (7, [.ref q8_5, .ref q17_9, .null, .int 0])), (q8_5, .inl (ct 0, 701, .inl (fun _ => 0))), (q17_9, .inl (ct 0, 701, .inl (fun _ => 0))), (q26_13, .inl (ct 0, 701, .inl (fun _ => 0)))] := hD
  refine va_putF (D := D) (tys := tyl ct) (ci := 7) (v := .ref q26_13) (ty := (.array .int)) (C := RX7) (T := TX7) (N := 4) hx hb htl inlX7 tyX7 tyX7_ok nmX7 hown hK hP hD hS 0 rfl rfl 2 (by decide) (htl _ wq_4_3) (fun _ h9 => h9) rfl hin rfl (tyX7_ok 2 (by decide)) rfl rfl (Nat.le_of_ble_eq_true rfl) dX7_init_28 (fun H_28_14 locs_28_14 hP hD hS => ?_)
  have hP : va_P D vwCl [(h0, .inr (7, [.ref q8_5, .ref q17_9, .ref q26_13, .int 0])), (q8_5, .inl (ct 0, 701, .inl (fun _ => 0))), (q17_9, .inl (ct 0, 701, .inl (fun _ => 0))), (q26_13, .inl (ct 0, 701, .inl (fun _ => 0)))] H_28_14 := hP
  have hD : va_D AA [(h0, .inr (7, [.ref q8_5, .ref q17_9, .ref q26_13, .int 0])), (q8_5, .inl (ct 0, 701, .inl (fun _ => 0))), (q17_9, .inl (ct 0, 701, .inl (fun _ => 0))), (q26_13, .inl (ct 0, 701, .inl (fun _ => 0)))] := hD
  refine lv_aload_n hx hb dX7_init_31 rfl (lv_at hl 0 rfl) ?_
  refine lv_iconst (v := 0) hx hb dX7_init_32 (by decide) ?_
  refine va_put (D := D) (tys := tyl ct) (ci := 7) (v := .int 0) (ty := .int) (C := RX7) (T := TX7) (N := 4) hx hb htl inlX7 tyX7 tyX7_ok nmX7 hown hK hP hD hS 0 rfl rfl 3 (by decide) (htl _ wq_4_4) (fun _ h9 => h9) rfl (tyX7_ok 3 (by decide)) rfl rfl (Nat.le_of_ble_eq_true rfl) dX7_init_33 (fun H_33_17 locs_33_17 hP hD hS => ?_)
  have hP : va_P D vwCl [(h0, .inr (7, [.ref q8_5, .ref q17_9, .ref q26_13, .int 0])), (q8_5, .inl (ct 0, 701, .inl (fun _ => 0))), (q17_9, .inl (ct 0, 701, .inl (fun _ => 0))), (q26_13, .inl (ct 0, 701, .inl (fun _ => 0)))] H_33_17 := hP
  have hD : va_D AA [(h0, .inr (7, [.ref q8_5, .ref q17_9, .ref q26_13, .int 0])), (q8_5, .inl (ct 0, 701, .inl (fun _ => 0))), (q17_9, .inl (ct 0, 701, .inl (fun _ => 0))), (q26_13, .inl (ct 0, 701, .inl (fun _ => 0)))] := hD
  refine W.widen (k := 3) (n := 2103) (Nat.le_of_ble_eq_true rfl) (Nat.le_of_ble_eq_true rfl) ?_
  exact W.vret hx hb hr (fun t ht hW => ⟨⟨fun i => ([h0, q8_5, q17_9, q26_13] : List Nat).getD i 0, rfl, trivial, rfl, by rw [ht]; exact hP, hD⟩, hS.F ht⟩) hS.2.2 dX7_init_36
def i_X2 : Ob := (fun _ _ => 0, fun _ _ => 0)
abbrev rm_X2_init : Room := { frames := 1, cells := 12, slots := 150, locals := 12 }
set_option maxHeartbeats 8000000 in
set_option maxRecDepth 100000 in
theorem ci_X2 (l : Launch) (D : va_G) (ct : Nat → ClassId) (G : GT) (h0 sz : Nat) (hG0 : GE G h0) (hGs0 : G.1 ≤ sz) : Met l yX2_init (.code yX2_init cX2_init 1 none :: wsL_law) rm_X2_init (va_Pc [.ref h0] (Bi D ct G [(h0, .inr (2, [.int 0, .int 0, .int 0, .int 0, .int 0, .null, .null, .null, .int 0, .null, .null, .null, .null, .int 0, .null, .null, .int 0, .null, .null, .null]))] sz)) (va_Qv (fun _ : Nat → Nat => True) (fun (a : Nat → Nat) t => a 0 = h0 ∧ va_P D vwCl (cs2 ct a i_X2) t.heap ∧ va_D (va_A [(h0, .inr (2, [.int 0, .int 0, .int 0, .int 0, .int 0, .null, .null, .null, .int 0, .null, .null, .null, .null, .int 0, .null, .null, .int 0, .null, .null, .null]))] sz) (cs2 ct a i_X2)) (va_A [(h0, .inr (2, [.int 0, .int 0, .int 0, .int 0, .int 0, .null, .null, .null, .int 0, .null, .null, .null, .null, .int 0, .null, .null, .int 0, .null, .null, .null]))] sz)) 12 150 (va_A [(h0, .inr (2, [.int 0, .int 0, .int 0, .int 0, .int 0, .null, .null, .null, .int 0, .null, .null, .null, .null, .int 0, .null, .null, .int 0, .null, .null, .null]))] sz) := by
  refine Met.ofW (cc := cX2_init) (maxL := 1) (ret := none) (by decide) rfl ?_
  intro p e s m args below meth c s₁ B hml hv
  obtain ⟨rfl, ⟨hP, hK, hN, hX⟩, hsz⟩ := hv
  have hx := B.exec
  have hb := B.bytes
  have hr := B.returns
  have hts := atoms_spec (ws := .code yX2_init cX2_init 1 none :: wsL_law) B.pre
  have htl : ∀ w ∈ wsL_law, w.before _ s = true := fun w h => hts w (List.mem_cons_of_mem _ h)
  have hown : s.vm.findClass RX2 = some m.cls := findClass_of_methodNamed B.named
  have hlocks := B.notSynchronized
  have hin : meth.name = "<init>" := (name_of_methodNamed B.named B.method).1
  subst hsz
  have hD : va_D (va_A [(h0, .inr (2, [.int 0, .int 0, .int 0, .int 0, .int 0, .null, .null, .null, .int 0, .null, .null, .null, .null, .int 0, .null, .null, .int 0, .null, .null, .null]))] s.heap.size) [(h0, .inr (2, [.int 0, .int 0, .int 0, .int 0, .int 0, .null, .null, .null, .int 0, .null, .null, .null, .null, .int 0, .null, .null, .int 0, .null, .null, .null]))] := va_D.self (A := fun _ => True) ⟨fun i j p q hi hj _ => by
    have h1 := (List.getElem?_eq_some_iff.mp hi).1
    have h2 := (List.getElem?_eq_some_iff.mp hj).1
    simp only [List.length_cons, List.length_nil] at h1 h2
    omega, fun _ _ _ => trivial⟩
  generalize hAe : va_A [(h0, .inr (2, [.int 0, .int 0, .int 0, .int 0, .int 0, .null, .null, .null, .int 0, .null, .null, .null, .null, .int 0, .null, .null, .int 0, .null, .null, .null]))] s.heap.size = AA at hD ⊢
  have hA : ∀ q : Nat, s.heap.size ≤ q → AA q := fun q h => by rw [← hAe]; exact Or.inr h
  have hGs : G.1 ≤ s.heap.size := hGs0
  have hGE : ∀ q, AA q → GE G q := by
    intro q h
    rw [← hAe] at h
    rcases h with ⟨k, e, hk⟩ | h
    · match k, hk with
      | 0, hk => cases hk; exact hG0
      | k + 1, hk => simp at hk
    · exact Nat.le_trans hGs h
  have hS : va_S AA s.heap s.heap [] := va_S.rf
  have hl := lv_entry ([.ref h0]) (n := 1) (Nat.le_of_ble_eq_true rfl)
  rw [lg_entry_eq]
  generalize (lg_sl ([.ref h0]) ++ List.replicate (1 - (lg_sl ([.ref h0])).length) Slot.unset).toArray = ls at hl ⊢
  have hl : lv_has ls 1 [(0, .ref h0)] := hl
  refine lv_aload_n hx hb dX2_init_0 rfl (lv_at hl 0 rfl) ?_
  refine W.objInit hx hb hown (htl _ wq_4_7) (htl _ wq_1_11) (htl _ wq_1_12) rfl (by rw [hml]; exact hl.1) rfl dX2_init_1 (Nat.le_of_ble_eq_true rfl) (Nat.le_of_ble_eq_true rfl) ?_
  refine W.eq (g2 := F0 m 4 ls []) rfl ?_
  refine lv_aload_n hx hb dX2_init_4 rfl (lv_at hl 0 rfl) ?_
  refine lv_iconst (v := 0) hx hb dX2_init_5 (by decide) ?_
  refine va_put (D := D) (tys := tyl ct) (ci := 2) (v := .int 0) (ty := .boolean) (C := RX2) (T := TX2) (N := 20) hx hb htl inlX2 tyX2 tyX2_ok nmX2 hown hK hP hD hS 0 rfl rfl 0 (by decide) (htl _ wq_4_8) (fun _ h9 => h9) rfl (tyX2_ok 0 (by decide)) rfl rfl (Nat.le_of_ble_eq_true rfl) dX2_init_6 (fun H_6_5 locs_6_5 hP hD hS => ?_)
  have hP : va_P D vwCl [(h0, .inr (2, [.int 0, .int 0, .int 0, .int 0, .int 0, .null, .null, .null, .int 0, .null, .null, .null, .null, .int 0, .null, .null, .int 0, .null, .null, .null]))] H_6_5 := hP
  have hD : va_D AA [(h0, .inr (2, [.int 0, .int 0, .int 0, .int 0, .int 0, .null, .null, .null, .int 0, .null, .null, .null, .null, .int 0, .null, .null, .int 0, .null, .null, .null]))] := hD
  refine lv_aload_n hx hb dX2_init_9 rfl (lv_at hl 0 rfl) ?_
  refine lv_iconst (v := 0) hx hb dX2_init_10 (by decide) ?_
  refine va_put (D := D) (tys := tyl ct) (ci := 2) (v := .int 0) (ty := .int) (C := RX2) (T := TX2) (N := 20) hx hb htl inlX2 tyX2 tyX2_ok nmX2 hown hK hP hD hS 0 rfl rfl 1 (by decide) (htl _ wq_4_9) (fun _ h9 => h9) rfl (tyX2_ok 1 (by decide)) rfl rfl (Nat.le_of_ble_eq_true rfl) dX2_init_11 (fun H_11_8 locs_11_8 hP hD hS => ?_)
  have hP : va_P D vwCl [(h0, .inr (2, [.int 0, .int 0, .int 0, .int 0, .int 0, .null, .null, .null, .int 0, .null, .null, .null, .null, .int 0, .null, .null, .int 0, .null, .null, .null]))] H_11_8 := hP
  have hD : va_D AA [(h0, .inr (2, [.int 0, .int 0, .int 0, .int 0, .int 0, .null, .null, .null, .int 0, .null, .null, .null, .null, .int 0, .null, .null, .int 0, .null, .null, .null]))] := hD
  refine lv_aload_n hx hb dX2_init_14 rfl (lv_at hl 0 rfl) ?_
  refine lv_iconst (v := 0) hx hb dX2_init_15 (by decide) ?_
  refine va_put (D := D) (tys := tyl ct) (ci := 2) (v := .int 0) (ty := .int) (C := RX2) (T := TX2) (N := 20) hx hb htl inlX2 tyX2 tyX2_ok nmX2 hown hK hP hD hS 0 rfl rfl 2 (by decide) (htl _ wq_4_10) (fun _ h9 => h9) rfl (tyX2_ok 2 (by decide)) rfl rfl (Nat.le_of_ble_eq_true rfl) dX2_init_16 (fun H_16_11 locs_16_11 hP hD hS => ?_)
  have hP : va_P D vwCl [(h0, .inr (2, [.int 0, .int 0, .int 0, .int 0, .int 0, .null, .null, .null, .int 0, .null, .null, .null, .null, .int 0, .null, .null, .int 0, .null, .null, .null]))] H_16_11 := hP
  have hD : va_D AA [(h0, .inr (2, [.int 0, .int 0, .int 0, .int 0, .int 0, .null, .null, .null, .int 0, .null, .null, .null, .null, .int 0, .null, .null, .int 0, .null, .null, .null]))] := hD
  refine lv_aload_n hx hb dX2_init_19 rfl (lv_at hl 0 rfl) ?_
  refine lv_iconst (v := 0) hx hb dX2_init_20 (by decide) ?_
  refine va_put (D := D) (tys := tyl ct) (ci := 2) (v := .int 0) (ty := .int) (C := RX2) (T := TX2) (N := 20) hx hb htl inlX2 tyX2 tyX2_ok nmX2 hown hK hP hD hS 0 rfl rfl 3 (by decide) (htl _ wq_4_11) (fun _ h9 => h9) rfl (tyX2_ok 3 (by decide)) rfl rfl (Nat.le_of_ble_eq_true rfl) dX2_init_21 (fun H_21_14 locs_21_14 hP hD hS => ?_)
  have hP : va_P D vwCl [(h0, .inr (2, [.int 0, .int 0, .int 0, .int 0, .int 0, .null, .null, .null, .int 0, .null, .null, .null, .null, .int 0, .null, .null, .int 0, .null, .null, .null]))] H_21_14 := hP
  have hD : va_D AA [(h0, .inr (2, [.int 0, .int 0, .int 0, .int 0, .int 0, .null, .null, .null, .int 0, .null, .null, .null, .null, .int 0, .null, .null, .int 0, .null, .null, .null]))] := hD
  refine lv_aload_n hx hb dX2_init_24 rfl (lv_at hl 0 rfl) ?_
  refine lv_iconst (v := 0) hx hb dX2_init_25 (by decide) ?_
  refine va_put (D := D) (tys := tyl ct) (ci := 2) (v := .int 0) (ty := .int) (C := RX2) (T := TX2) (N := 20) hx hb htl inlX2 tyX2 tyX2_ok nmX2 hown hK hP hD hS 0 rfl rfl 4 (by decide) (htl _ wq_4_12) (fun _ h9 => h9) rfl (tyX2_ok 4 (by decide)) rfl rfl (Nat.le_of_ble_eq_true rfl) dX2_init_26 (fun H_26_17 locs_26_17 hP hD hS => ?_)
  have hP : va_P D vwCl [(h0, .inr (2, [.int 0, .int 0, .int 0, .int 0, .int 0, .null, .null, .null, .int 0, .null, .null, .null, .null, .int 0, .null, .null, .int 0, .null, .null, .null]))] H_26_17 := hP
  have hD : va_D AA [(h0, .inr (2, [.int 0, .int 0, .int 0, .int 0, .int 0, .null, .null, .null, .int 0, .null, .null, .null, .null, .int 0, .null, .null, .int 0, .null, .null, .null]))] := hD
  refine lv_aload_n hx hb dX2_init_29 rfl (lv_at hl 0 rfl) ?_
  refine lv_bipush (v := 10) hx hb dX2_init_30 (by decide) ?_
  refine va_newa (D := D) (tys := tyl ct) (atype := .int) (ty := .int) (N' := 10) (a0 := (10, .inl (fun _ => 0))) hx hb (htl _ wq_3_0) rfl hK hP hD hS hA (fun _ => rfl) (by decide) (by decide) (by decide) (Nat.le_of_ble_eq_true rfl) (Nat.le_of_ble_eq_true rfl) dX2_init_32 (fun q32_20 cA H_32_20 hK1 hP hD hS => ?_)
  obtain rfl := ct_eq0 hK1
  clear hK1
  have hP : va_P D vwCl [(h0, .inr (2, [.int 0, .int 0, .int 0, .int 0, .int 0, .null, .null, .null, .int 0, .null, .null, .null, .null, .int 0, .null, .null, .int 0, .null, .null, .null])), (q32_20, .inl (ct 0, 10, .inl (fun _ => 0)))] H_32_20 := hP
  have hD : va_D AA [(h0, .inr (2, [.int 0, .int 0, .int 0, .int 0, .int 0, .null, .null, .null, .int 0, .null, .null, .null, .null, .int 0, .null, .null, .int 0, .null, .null, .null])), (q32_20, .inl (ct 0, 10, .inl (fun _ => 0)))] := hD
  refine va_putF (D := D) (tys := tyl ct) (ci := 2) (v := .ref q32_20) (ty := (.array .int)) (C := RX2) (T := TX2) (N := 20) hx hb htl inlX2 tyX2 tyX2_ok nmX2 hown hK hP hD hS 0 rfl rfl 5 (by decide) (htl _ wq_4_13) (fun _ h9 => h9) rfl hin rfl (tyX2_ok 5 (by decide)) rfl rfl (Nat.le_of_ble_eq_true rfl) dX2_init_34 (fun H_34_21 locs_34_21 hP hD hS => ?_)
  have hP : va_P D vwCl [(h0, .inr (2, [.int 0, .int 0, .int 0, .int 0, .int 0, .ref q32_20, .null, .null, .int 0, .null, .null, .null, .null, .int 0, .null, .null, .int 0, .null, .null, .null])), (q32_20, .inl (ct 0, 10, .inl (fun _ => 0)))] H_34_21 := hP
  have hD : va_D AA [(h0, .inr (2, [.int 0, .int 0, .int 0, .int 0, .int 0, .ref q32_20, .null, .null, .int 0, .null, .null, .null, .null, .int 0, .null, .null, .int 0, .null, .null, .null])), (q32_20, .inl (ct 0, 10, .inl (fun _ => 0)))] := hD
  refine lv_aload_n hx hb dX2_init_37 rfl (lv_at hl 0 rfl) ?_
  refine lv_bipush (v := 10) hx hb dX2_init_38 (by decide) ?_
  refine va_newa (D := D) (tys := tyl ct) (atype := .int) (ty := .int) (N' := 10) (a0 := (10, .inl (fun _ => 0))) hx hb (htl _ wq_3_0) rfl hK hP hD hS hA (fun _ => rfl) (by decide) (by decide) (by decide) (Nat.le_of_ble_eq_true rfl) (Nat.le_of_ble_eq_true rfl) dX2_init_40 (fun q40_24 cA H_40_24 hK1 hP hD hS => ?_)
  obtain rfl := ct_eq0 hK1
  clear hK1
  have hP : va_P D vwCl [(h0, .inr (2, [.int 0, .int 0, .int 0, .int 0, .int 0, .ref q32_20, .null, .null, .int 0, .null, .null, .null, .null, .int 0, .null, .null, .int 0, .null, .null, .null])), (q32_20, .inl (ct 0, 10, .inl (fun _ => 0))), (q40_24, .inl (ct 0, 10, .inl (fun _ => 0)))] H_40_24 := hP
  have hD : va_D AA [(h0, .inr (2, [.int 0, .int 0, .int 0, .int 0, .int 0, .ref q32_20, .null, .null, .int 0, .null, .null, .null, .null, .int 0, .null, .null, .int 0, .null, .null, .null])), (q32_20, .inl (ct 0, 10, .inl (fun _ => 0))), (q40_24, .inl (ct 0, 10, .inl (fun _ => 0)))] := hD
  refine va_putF (D := D) (tys := tyl ct) (ci := 2) (v := .ref q40_24) (ty := (.array .int)) (C := RX2) (T := TX2) (N := 20) hx hb htl inlX2 tyX2 tyX2_ok nmX2 hown hK hP hD hS 0 rfl rfl 6 (by decide) (htl _ wq_4_14) (fun _ h9 => h9) rfl hin rfl (tyX2_ok 6 (by decide)) rfl rfl (Nat.le_of_ble_eq_true rfl) dX2_init_42 (fun H_42_25 locs_42_25 hP hD hS => ?_)
  have hP : va_P D vwCl [(h0, .inr (2, [.int 0, .int 0, .int 0, .int 0, .int 0, .ref q32_20, .ref q40_24, .null, .int 0, .null, .null, .null, .null, .int 0, .null, .null, .int 0, .null, .null, .null])), (q32_20, .inl (ct 0, 10, .inl (fun _ => 0))), (q40_24, .inl (ct 0, 10, .inl (fun _ => 0)))] H_42_25 := hP
  have hD : va_D AA [(h0, .inr (2, [.int 0, .int 0, .int 0, .int 0, .int 0, .ref q32_20, .ref q40_24, .null, .int 0, .null, .null, .null, .null, .int 0, .null, .null, .int 0, .null, .null, .null])), (q32_20, .inl (ct 0, 10, .inl (fun _ => 0))), (q40_24, .inl (ct 0, 10, .inl (fun _ => 0)))] := hD
  refine lv_aload_n hx hb dX2_init_45 rfl (lv_at hl 0 rfl) ?_
  refine lv_bipush (v := 10) hx hb dX2_init_46 (by decide) ?_
  refine va_newa (D := D) (tys := tyl ct) (atype := .int) (ty := .int) (N' := 10) (a0 := (10, .inl (fun _ => 0))) hx hb (htl _ wq_3_0) rfl hK hP hD hS hA (fun _ => rfl) (by decide) (by decide) (by decide) (Nat.le_of_ble_eq_true rfl) (Nat.le_of_ble_eq_true rfl) dX2_init_48 (fun q48_28 cA H_48_28 hK1 hP hD hS => ?_)
  obtain rfl := ct_eq0 hK1
  clear hK1
  have hP : va_P D vwCl [(h0, .inr (2, [.int 0, .int 0, .int 0, .int 0, .int 0, .ref q32_20, .ref q40_24, .null, .int 0, .null, .null, .null, .null, .int 0, .null, .null, .int 0, .null, .null, .null])), (q32_20, .inl (ct 0, 10, .inl (fun _ => 0))), (q40_24, .inl (ct 0, 10, .inl (fun _ => 0))), (q48_28, .inl (ct 0, 10, .inl (fun _ => 0)))] H_48_28 := hP
  have hD : va_D AA [(h0, .inr (2, [.int 0, .int 0, .int 0, .int 0, .int 0, .ref q32_20, .ref q40_24, .null, .int 0, .null, .null, .null, .null, .int 0, .null, .null, .int 0, .null, .null, .null])), (q32_20, .inl (ct 0, 10, .inl (fun _ => 0))), (q40_24, .inl (ct 0, 10, .inl (fun _ => 0))), (q48_28, .inl (ct 0, 10, .inl (fun _ => 0)))] := hD
  refine va_putF (D := D) (tys := tyl ct) (ci := 2) (v := .ref q48_28) (ty := (.array .int)) (C := RX2) (T := TX2) (N := 20) hx hb htl inlX2 tyX2 tyX2_ok nmX2 hown hK hP hD hS 0 rfl rfl 7 (by decide) (htl _ wq_4_15) (fun _ h9 => h9) rfl hin rfl (tyX2_ok 7 (by decide)) rfl rfl (Nat.le_of_ble_eq_true rfl) dX2_init_50 (fun H_50_29 locs_50_29 hP hD hS => ?_)
  have hP : va_P D vwCl [(h0, .inr (2, [.int 0, .int 0, .int 0, .int 0, .int 0, .ref q32_20, .ref q40_24, .ref q48_28, .int 0, .null, .null, .null, .null, .int 0, .null, .null, .int 0, .null, .null, .null])), (q32_20, .inl (ct 0, 10, .inl (fun _ => 0))), (q40_24, .inl (ct 0, 10, .inl (fun _ => 0))), (q48_28, .inl (ct 0, 10, .inl (fun _ => 0)))] H_50_29 := hP
  have hD : va_D AA [(h0, .inr (2, [.int 0, .int 0, .int 0, .int 0, .int 0, .ref q32_20, .ref q40_24, .ref q48_28, .int 0, .null, .null, .null, .null, .int 0, .null, .null, .int 0, .null, .null, .null])), (q32_20, .inl (ct 0, 10, .inl (fun _ => 0))), (q40_24, .inl (ct 0, 10, .inl (fun _ => 0))), (q48_28, .inl (ct 0, 10, .inl (fun _ => 0)))] := hD
  refine lv_aload_n hx hb dX2_init_53 rfl (lv_at hl 0 rfl) ?_
  refine lv_iconst (v := 0) hx hb dX2_init_54 (by decide) ?_
  refine va_put (D := D) (tys := tyl ct) (ci := 2) (v := .int 0) (ty := .int) (C := RX2) (T := TX2) (N := 20) hx hb htl inlX2 tyX2 tyX2_ok nmX2 hown hK hP hD hS 0 rfl rfl 8 (by decide) (htl _ wq_4_16) (fun _ h9 => h9) rfl (tyX2_ok 8 (by decide)) rfl rfl (Nat.le_of_ble_eq_true rfl) dX2_init_55 (fun H_55_32 locs_55_32 hP hD hS => ?_)
  have hP : va_P D vwCl [(h0, .inr (2, [.int 0, .int 0, .int 0, .int 0, .int 0, .ref q32_20, .ref q40_24, .ref q48_28, .int 0, .null, .null, .null, .null, .int 0, .null, .null, .int 0, .null, .null, .null])), (q32_20, .inl (ct 0, 10, .inl (fun _ => 0))), (q40_24, .inl (ct 0, 10, .inl (fun _ => 0))), (q48_28, .inl (ct 0, 10, .inl (fun _ => 0)))] H_55_32 := hP
  have hD : va_D AA [(h0, .inr (2, [.int 0, .int 0, .int 0, .int 0, .int 0, .ref q32_20, .ref q40_24, .ref q48_28, .int 0, .null, .null, .null, .null, .int 0, .null, .null, .int 0, .null, .null, .null])), (q32_20, .inl (ct 0, 10, .inl (fun _ => 0))), (q40_24, .inl (ct 0, 10, .inl (fun _ => 0))), (q48_28, .inl (ct 0, 10, .inl (fun _ => 0)))] := hD
  refine lv_aload_n hx hb dX2_init_58 rfl (lv_at hl 0 rfl) ?_
  refine lv_iconst (v := 5) hx hb dX2_init_59 (by decide) ?_
  refine va_newa (D := D) (tys := tyl ct) (atype := .int) (ty := .int) (N' := 5) (a0 := (5, .inl (fun _ => 0))) hx hb (htl _ wq_3_0) rfl hK hP hD hS hA (fun _ => rfl) (by decide) (by decide) (by decide) (Nat.le_of_ble_eq_true rfl) (Nat.le_of_ble_eq_true rfl) dX2_init_60 (fun q60_35 cA H_60_35 hK1 hP hD hS => ?_)
  obtain rfl := ct_eq0 hK1
  clear hK1
  have hP : va_P D vwCl [(h0, .inr (2, [.int 0, .int 0, .int 0, .int 0, .int 0, .ref q32_20, .ref q40_24, .ref q48_28, .int 0, .null, .null, .null, .null, .int 0, .null, .null, .int 0, .null, .null, .null])), (q32_20, .inl (ct 0, 10, .inl (fun _ => 0))), (q40_24, .inl (ct 0, 10, .inl (fun _ => 0))), (q48_28, .inl (ct 0, 10, .inl (fun _ => 0))), (q60_35, .inl (ct 0, 5, .inl (fun _ => 0)))] H_60_35 := hP
  have hD : va_D AA [(h0, .inr (2, [.int 0, .int 0, .int 0, .int 0, .int 0, .ref q32_20, .ref q40_24, .ref q48_28, .int 0, .null, .null, .null, .null, .int 0, .null, .null, .int 0, .null, .null, .null])), (q32_20, .inl (ct 0, 10, .inl (fun _ => 0))), (q40_24, .inl (ct 0, 10, .inl (fun _ => 0))), (q48_28, .inl (ct 0, 10, .inl (fun _ => 0))), (q60_35, .inl (ct 0, 5, .inl (fun _ => 0)))] := hD
  refine va_putF (D := D) (tys := tyl ct) (ci := 2) (v := .ref q60_35) (ty := (.array .int)) (C := RX2) (T := TX2) (N := 20) hx hb htl inlX2 tyX2 tyX2_ok nmX2 hown hK hP hD hS 0 rfl rfl 9 (by decide) (htl _ wq_4_17) (fun _ h9 => h9) rfl hin rfl (tyX2_ok 9 (by decide)) rfl rfl (Nat.le_of_ble_eq_true rfl) dX2_init_62 (fun H_62_36 locs_62_36 hP hD hS => ?_)
  have hP : va_P D vwCl [(h0, .inr (2, [.int 0, .int 0, .int 0, .int 0, .int 0, .ref q32_20, .ref q40_24, .ref q48_28, .int 0, .ref q60_35, .null, .null, .null, .int 0, .null, .null, .int 0, .null, .null, .null])), (q32_20, .inl (ct 0, 10, .inl (fun _ => 0))), (q40_24, .inl (ct 0, 10, .inl (fun _ => 0))), (q48_28, .inl (ct 0, 10, .inl (fun _ => 0))), (q60_35, .inl (ct 0, 5, .inl (fun _ => 0)))] H_62_36 := hP
  have hD : va_D AA [(h0, .inr (2, [.int 0, .int 0, .int 0, .int 0, .int 0, .ref q32_20, .ref q40_24, .ref q48_28, .int 0, .ref q60_35, .null, .null, .null, .int 0, .null, .null, .int 0, .null, .null, .null])), (q32_20, .inl (ct 0, 10, .inl (fun _ => 0))), (q40_24, .inl (ct 0, 10, .inl (fun _ => 0))), (q48_28, .inl (ct 0, 10, .inl (fun _ => 0))), (q60_35, .inl (ct 0, 5, .inl (fun _ => 0)))] := hD
  refine lv_aload_n hx hb dX2_init_65 rfl (lv_at hl 0 rfl) ?_
  refine lv_iconst (v := 5) hx hb dX2_init_66 (by decide) ?_
  refine va_newa (D := D) (tys := tyl ct) (atype := .int) (ty := .int) (N' := 5) (a0 := (5, .inl (fun _ => 0))) hx hb (htl _ wq_3_0) rfl hK hP hD hS hA (fun _ => rfl) (by decide) (by decide) (by decide) (Nat.le_of_ble_eq_true rfl) (Nat.le_of_ble_eq_true rfl) dX2_init_67 (fun q67_39 cA H_67_39 hK1 hP hD hS => ?_)
  obtain rfl := ct_eq0 hK1
  clear hK1
  have hP : va_P D vwCl [(h0, .inr (2, [.int 0, .int 0, .int 0, .int 0, .int 0, .ref q32_20, .ref q40_24, .ref q48_28, .int 0, .ref q60_35, .null, .null, .null, .int 0, .null, .null, .int 0, .null, .null, .null])), (q32_20, .inl (ct 0, 10, .inl (fun _ => 0))), (q40_24, .inl (ct 0, 10, .inl (fun _ => 0))), (q48_28, .inl (ct 0, 10, .inl (fun _ => 0))), (q60_35, .inl (ct 0, 5, .inl (fun _ => 0))), (q67_39, .inl (ct 0, 5, .inl (fun _ => 0)))] H_67_39 := hP
  have hD : va_D AA [(h0, .inr (2, [.int 0, .int 0, .int 0, .int 0, .int 0, .ref q32_20, .ref q40_24, .ref q48_28, .int 0, .ref q60_35, .null, .null, .null, .int 0, .null, .null, .int 0, .null, .null, .null])), (q32_20, .inl (ct 0, 10, .inl (fun _ => 0))), (q40_24, .inl (ct 0, 10, .inl (fun _ => 0))), (q48_28, .inl (ct 0, 10, .inl (fun _ => 0))), (q60_35, .inl (ct 0, 5, .inl (fun _ => 0))), (q67_39, .inl (ct 0, 5, .inl (fun _ => 0)))] := hD
  refine va_putF (D := D) (tys := tyl ct) (ci := 2) (v := .ref q67_39) (ty := (.array .int)) (C := RX2) (T := TX2) (N := 20) hx hb htl inlX2 tyX2 tyX2_ok nmX2 hown hK hP hD hS 0 rfl rfl 10 (by decide) (htl _ wq_4_18) (fun _ h9 => h9) rfl hin rfl (tyX2_ok 10 (by decide)) rfl rfl (Nat.le_of_ble_eq_true rfl) dX2_init_69 (fun H_69_40 locs_69_40 hP hD hS => ?_)
  have hP : va_P D vwCl [(h0, .inr (2, [.int 0, .int 0, .int 0, .int 0, .int 0, .ref q32_20, .ref q40_24, .ref q48_28, .int 0, .ref q60_35, .ref q67_39, .null, .null, .int 0, .null, .null, .int 0, .null, .null, .null])), (q32_20, .inl (ct 0, 10, .inl (fun _ => 0))), (q40_24, .inl (ct 0, 10, .inl (fun _ => 0))), (q48_28, .inl (ct 0, 10, .inl (fun _ => 0))), (q60_35, .inl (ct 0, 5, .inl (fun _ => 0))), (q67_39, .inl (ct 0, 5, .inl (fun _ => 0)))] H_69_40 := hP
  have hD : va_D AA [(h0, .inr (2, [.int 0, .int 0, .int 0, .int 0, .int 0, .ref q32_20, .ref q40_24, .ref q48_28, .int 0, .ref q60_35, .ref q67_39, .null, .null, .int 0, .null, .null, .int 0, .null, .null, .null])), (q32_20, .inl (ct 0, 10, .inl (fun _ => 0))), (q40_24, .inl (ct 0, 10, .inl (fun _ => 0))), (q48_28, .inl (ct 0, 10, .inl (fun _ => 0))), (q60_35, .inl (ct 0, 5, .inl (fun _ => 0))), (q67_39, .inl (ct 0, 5, .inl (fun _ => 0)))] := hD
  refine lv_aload_n hx hb dX2_init_72 rfl (lv_at hl 0 rfl) ?_
  refine lv_iconst (v := 5) hx hb dX2_init_73 (by decide) ?_
  refine va_newa (D := D) (tys := tyl ct) (atype := .int) (ty := .int) (N' := 5) (a0 := (5, .inl (fun _ => 0))) hx hb (htl _ wq_3_0) rfl hK hP hD hS hA (fun _ => rfl) (by decide) (by decide) (by decide) (Nat.le_of_ble_eq_true rfl) (Nat.le_of_ble_eq_true rfl) dX2_init_74 (fun q74_43 cA H_74_43 hK1 hP hD hS => ?_)
  obtain rfl := ct_eq0 hK1
  clear hK1
  have hP : va_P D vwCl [(h0, .inr (2, [.int 0, .int 0, .int 0, .int 0, .int 0, .ref q32_20, .ref q40_24, .ref q48_28, .int 0, .ref q60_35, .ref q67_39, .null, .null, .int 0, .null, .null, .int 0, .null, .null, .null])), (q32_20, .inl (ct 0, 10, .inl (fun _ => 0))), (q40_24, .inl (ct 0, 10, .inl (fun _ => 0))), (q48_28, .inl (ct 0, 10, .inl (fun _ => 0))), (q60_35, .inl (ct 0, 5, .inl (fun _ => 0))), (q67_39, .inl (ct 0, 5, .inl (fun _ => 0))), (q74_43, .inl (ct 0, 5, .inl (fun _ => 0)))] H_74_43 := hP
  have hD : va_D AA [(h0, .inr (2, [.int 0, .int 0, .int 0, .int 0, .int 0, .ref q32_20, .ref q40_24, .ref q48_28, .int 0, .ref q60_35, .ref q67_39, .null, .null, .int 0, .null, .null, .int 0, .null, .null, .null])), (q32_20, .inl (ct 0, 10, .inl (fun _ => 0))), (q40_24, .inl (ct 0, 10, .inl (fun _ => 0))), (q48_28, .inl (ct 0, 10, .inl (fun _ => 0))), (q60_35, .inl (ct 0, 5, .inl (fun _ => 0))), (q67_39, .inl (ct 0, 5, .inl (fun _ => 0))), (q74_43, .inl (ct 0, 5, .inl (fun _ => 0)))] := hD
  refine va_putF (D := D) (tys := tyl ct) (ci := 2) (v := .ref q74_43) (ty := (.array .int)) (C := RX2) (T := TX2) (N := 20) hx hb htl inlX2 tyX2 tyX2_ok nmX2 hown hK hP hD hS 0 rfl rfl 11 (by decide) (htl _ wq_4_19) (fun _ h9 => h9) rfl hin rfl (tyX2_ok 11 (by decide)) rfl rfl (Nat.le_of_ble_eq_true rfl) dX2_init_76 (fun H_76_44 locs_76_44 hP hD hS => ?_)
  have hP : va_P D vwCl [(h0, .inr (2, [.int 0, .int 0, .int 0, .int 0, .int 0, .ref q32_20, .ref q40_24, .ref q48_28, .int 0, .ref q60_35, .ref q67_39, .ref q74_43, .null, .int 0, .null, .null, .int 0, .null, .null, .null])), (q32_20, .inl (ct 0, 10, .inl (fun _ => 0))), (q40_24, .inl (ct 0, 10, .inl (fun _ => 0))), (q48_28, .inl (ct 0, 10, .inl (fun _ => 0))), (q60_35, .inl (ct 0, 5, .inl (fun _ => 0))), (q67_39, .inl (ct 0, 5, .inl (fun _ => 0))), (q74_43, .inl (ct 0, 5, .inl (fun _ => 0)))] H_76_44 := hP
  have hD : va_D AA [(h0, .inr (2, [.int 0, .int 0, .int 0, .int 0, .int 0, .ref q32_20, .ref q40_24, .ref q48_28, .int 0, .ref q60_35, .ref q67_39, .ref q74_43, .null, .int 0, .null, .null, .int 0, .null, .null, .null])), (q32_20, .inl (ct 0, 10, .inl (fun _ => 0))), (q40_24, .inl (ct 0, 10, .inl (fun _ => 0))), (q48_28, .inl (ct 0, 10, .inl (fun _ => 0))), (q60_35, .inl (ct 0, 5, .inl (fun _ => 0))), (q67_39, .inl (ct 0, 5, .inl (fun _ => 0))), (q74_43, .inl (ct 0, 5, .inl (fun _ => 0)))] := hD
  refine lv_aload_n hx hb dX2_init_79 rfl (lv_at hl 0 rfl) ?_
  refine lv_iconst (v := 5) hx hb dX2_init_80 (by decide) ?_
  refine va_newa (D := D) (tys := tyl ct) (atype := .int) (ty := .int) (N' := 5) (a0 := (5, .inl (fun _ => 0))) hx hb (htl _ wq_3_0) rfl hK hP hD hS hA (fun _ => rfl) (by decide) (by decide) (by decide) (Nat.le_of_ble_eq_true rfl) (Nat.le_of_ble_eq_true rfl) dX2_init_81 (fun q81_47 cA H_81_47 hK1 hP hD hS => ?_)
  obtain rfl := ct_eq0 hK1
  clear hK1
  have hP : va_P D vwCl [(h0, .inr (2, [.int 0, .int 0, .int 0, .int 0, .int 0, .ref q32_20, .ref q40_24, .ref q48_28, .int 0, .ref q60_35, .ref q67_39, .ref q74_43, .null, .int 0, .null, .null, .int 0, .null, .null, .null])), (q32_20, .inl (ct 0, 10, .inl (fun _ => 0))), (q40_24, .inl (ct 0, 10, .inl (fun _ => 0))), (q48_28, .inl (ct 0, 10, .inl (fun _ => 0))), (q60_35, .inl (ct 0, 5, .inl (fun _ => 0))), (q67_39, .inl (ct 0, 5, .inl (fun _ => 0))), (q74_43, .inl (ct 0, 5, .inl (fun _ => 0))), (q81_47, .inl (ct 0, 5, .inl (fun _ => 0)))] H_81_47 := hP
  have hD : va_D AA [(h0, .inr (2, [.int 0, .int 0, .int 0, .int 0, .int 0, .ref q32_20, .ref q40_24, .ref q48_28, .int 0, .ref q60_35, .ref q67_39, .ref q74_43, .null, .int 0, .null, .null, .int 0, .null, .null, .null])), (q32_20, .inl (ct 0, 10, .inl (fun _ => 0))), (q40_24, .inl (ct 0, 10, .inl (fun _ => 0))), (q48_28, .inl (ct 0, 10, .inl (fun _ => 0))), (q60_35, .inl (ct 0, 5, .inl (fun _ => 0))), (q67_39, .inl (ct 0, 5, .inl (fun _ => 0))), (q74_43, .inl (ct 0, 5, .inl (fun _ => 0))), (q81_47, .inl (ct 0, 5, .inl (fun _ => 0)))] := hD
  refine va_putF (D := D) (tys := tyl ct) (ci := 2) (v := .ref q81_47) (ty := (.array .int)) (C := RX2) (T := TX2) (N := 20) hx hb htl inlX2 tyX2 tyX2_ok nmX2 hown hK hP hD hS 0 rfl rfl 12 (by decide) (htl _ wq_4_20) (fun _ h9 => h9) rfl hin rfl (tyX2_ok 12 (by decide)) rfl rfl (Nat.le_of_ble_eq_true rfl) dX2_init_83 (fun H_83_48 locs_83_48 hP hD hS => ?_)
  have hP : va_P D vwCl [(h0, .inr (2, [.int 0, .int 0, .int 0, .int 0, .int 0, .ref q32_20, .ref q40_24, .ref q48_28, .int 0, .ref q60_35, .ref q67_39, .ref q74_43, .ref q81_47, .int 0, .null, .null, .int 0, .null, .null, .null])), (q32_20, .inl (ct 0, 10, .inl (fun _ => 0))), (q40_24, .inl (ct 0, 10, .inl (fun _ => 0))), (q48_28, .inl (ct 0, 10, .inl (fun _ => 0))), (q60_35, .inl (ct 0, 5, .inl (fun _ => 0))), (q67_39, .inl (ct 0, 5, .inl (fun _ => 0))), (q74_43, .inl (ct 0, 5, .inl (fun _ => 0))), (q81_47, .inl (ct 0, 5, .inl (fun _ => 0)))] H_83_48 := hP
  have hD : va_D AA [(h0, .inr (2, [.int 0, .int 0, .int 0, .int 0, .int 0, .ref q32_20, .ref q40_24, .ref q48_28, .int 0, .ref q60_35, .ref q67_39, .ref q74_43, .ref q81_47, .int 0, .null, .null, .int 0, .null, .null, .null])), (q32_20, .inl (ct 0, 10, .inl (fun _ => 0))), (q40_24, .inl (ct 0, 10, .inl (fun _ => 0))), (q48_28, .inl (ct 0, 10, .inl (fun _ => 0))), (q60_35, .inl (ct 0, 5, .inl (fun _ => 0))), (q67_39, .inl (ct 0, 5, .inl (fun _ => 0))), (q74_43, .inl (ct 0, 5, .inl (fun _ => 0))), (q81_47, .inl (ct 0, 5, .inl (fun _ => 0)))] := hD
  refine lv_aload_n hx hb dX2_init_86 rfl (lv_at hl 0 rfl) ?_
  refine lv_iconst (v := 0) hx hb dX2_init_87 (by decide) ?_
  refine va_put (D := D) (tys := tyl ct) (ci := 2) (v := .int 0) (ty := .int) (C := RX2) (T := TX2) (N := 20) hx hb htl inlX2 tyX2 tyX2_ok nmX2 hown hK hP hD hS 0 rfl rfl 13 (by decide) (htl _ wq_4_21) (fun _ h9 => h9) rfl (tyX2_ok 13 (by decide)) rfl rfl (Nat.le_of_ble_eq_true rfl) dX2_init_88 (fun H_88_51 locs_88_51 hP hD hS => ?_)
  have hP : va_P D vwCl [(h0, .inr (2, [.int 0, .int 0, .int 0, .int 0, .int 0, .ref q32_20, .ref q40_24, .ref q48_28, .int 0, .ref q60_35, .ref q67_39, .ref q74_43, .ref q81_47, .int 0, .null, .null, .int 0, .null, .null, .null])), (q32_20, .inl (ct 0, 10, .inl (fun _ => 0))), (q40_24, .inl (ct 0, 10, .inl (fun _ => 0))), (q48_28, .inl (ct 0, 10, .inl (fun _ => 0))), (q60_35, .inl (ct 0, 5, .inl (fun _ => 0))), (q67_39, .inl (ct 0, 5, .inl (fun _ => 0))), (q74_43, .inl (ct 0, 5, .inl (fun _ => 0))), (q81_47, .inl (ct 0, 5, .inl (fun _ => 0)))] H_88_51 := hP
  have hD : va_D AA [(h0, .inr (2, [.int 0, .int 0, .int 0, .int 0, .int 0, .ref q32_20, .ref q40_24, .ref q48_28, .int 0, .ref q60_35, .ref q67_39, .ref q74_43, .ref q81_47, .int 0, .null, .null, .int 0, .null, .null, .null])), (q32_20, .inl (ct 0, 10, .inl (fun _ => 0))), (q40_24, .inl (ct 0, 10, .inl (fun _ => 0))), (q48_28, .inl (ct 0, 10, .inl (fun _ => 0))), (q60_35, .inl (ct 0, 5, .inl (fun _ => 0))), (q67_39, .inl (ct 0, 5, .inl (fun _ => 0))), (q74_43, .inl (ct 0, 5, .inl (fun _ => 0))), (q81_47, .inl (ct 0, 5, .inl (fun _ => 0)))] := hD
  refine lv_aload_n hx hb dX2_init_91 rfl (lv_at hl 0 rfl) ?_
  refine lv_iconst (v := 5) hx hb dX2_init_92 (by decide) ?_
  refine va_newa (D := D) (tys := tyl ct) (atype := .int) (ty := .int) (N' := 5) (a0 := (5, .inl (fun _ => 0))) hx hb (htl _ wq_3_0) rfl hK hP hD hS hA (fun _ => rfl) (by decide) (by decide) (by decide) (Nat.le_of_ble_eq_true rfl) (Nat.le_of_ble_eq_true rfl) dX2_init_93 (fun q93_54 cA H_93_54 hK1 hP hD hS => ?_)
  obtain rfl := ct_eq0 hK1
  clear hK1
  have hP : va_P D vwCl [(h0, .inr (2, [.int 0, .int 0, .int 0, .int 0, .int 0, .ref q32_20, .ref q40_24, .ref q48_28, .int 0, .ref q60_35, .ref q67_39, .ref q74_43, .ref q81_47, .int 0, .null, .null, .int 0, .null, .null, .null])), (q32_20, .inl (ct 0, 10, .inl (fun _ => 0))), (q40_24, .inl (ct 0, 10, .inl (fun _ => 0))), (q48_28, .inl (ct 0, 10, .inl (fun _ => 0))), (q60_35, .inl (ct 0, 5, .inl (fun _ => 0))), (q67_39, .inl (ct 0, 5, .inl (fun _ => 0))), (q74_43, .inl (ct 0, 5, .inl (fun _ => 0))), (q81_47, .inl (ct 0, 5, .inl (fun _ => 0))), (q93_54, .inl (ct 0, 5, .inl (fun _ => 0)))] H_93_54 := hP
  have hD : va_D AA [(h0, .inr (2, [.int 0, .int 0, .int 0, .int 0, .int 0, .ref q32_20, .ref q40_24, .ref q48_28, .int 0, .ref q60_35, .ref q67_39, .ref q74_43, .ref q81_47, .int 0, .null, .null, .int 0, .null, .null, .null])), (q32_20, .inl (ct 0, 10, .inl (fun _ => 0))), (q40_24, .inl (ct 0, 10, .inl (fun _ => 0))), (q48_28, .inl (ct 0, 10, .inl (fun _ => 0))), (q60_35, .inl (ct 0, 5, .inl (fun _ => 0))), (q67_39, .inl (ct 0, 5, .inl (fun _ => 0))), (q74_43, .inl (ct 0, 5, .inl (fun _ => 0))), (q81_47, .inl (ct 0, 5, .inl (fun _ => 0))), (q93_54, .inl (ct 0, 5, .inl (fun _ => 0)))] := hD
  refine va_putF (D := D) (tys := tyl ct) (ci := 2) (v := .ref q93_54) (ty := (.array .int)) (C := RX2) (T := TX2) (N := 20) hx hb htl inlX2 tyX2 tyX2_ok nmX2 hown hK hP hD hS 0 rfl rfl 14 (by decide) (htl _ wq_4_22) (fun _ h9 => h9) rfl hin rfl (tyX2_ok 14 (by decide)) rfl rfl (Nat.le_of_ble_eq_true rfl) dX2_init_95 (fun H_95_55 locs_95_55 hP hD hS => ?_)
  have hP : va_P D vwCl [(h0, .inr (2, [.int 0, .int 0, .int 0, .int 0, .int 0, .ref q32_20, .ref q40_24, .ref q48_28, .int 0, .ref q60_35, .ref q67_39, .ref q74_43, .ref q81_47, .int 0, .ref q93_54, .null, .int 0, .null, .null, .null])), (q32_20, .inl (ct 0, 10, .inl (fun _ => 0))), (q40_24, .inl (ct 0, 10, .inl (fun _ => 0))), (q48_28, .inl (ct 0, 10, .inl (fun _ => 0))), (q60_35, .inl (ct 0, 5, .inl (fun _ => 0))), (q67_39, .inl (ct 0, 5, .inl (fun _ => 0))), (q74_43, .inl (ct 0, 5, .inl (fun _ => 0))), (q81_47, .inl (ct 0, 5, .inl (fun _ => 0))), (q93_54, .inl (ct 0, 5, .inl (fun _ => 0)))] H_95_55 := hP
  have hD : va_D AA [(h0, .inr (2, [.int 0, .int 0, .int 0, .int 0, .int 0, .ref q32_20, .ref q40_24, .ref q48_28, .int 0, .ref q60_35, .ref q67_39, .ref q74_43, .ref q81_47, .int 0, .ref q93_54, .null, .int 0, .null, .null, .null])), (q32_20, .inl (ct 0, 10, .inl (fun _ => 0))), (q40_24, .inl (ct 0, 10, .inl (fun _ => 0))), (q48_28, .inl (ct 0, 10, .inl (fun _ => 0))), (q60_35, .inl (ct 0, 5, .inl (fun _ => 0))), (q67_39, .inl (ct 0, 5, .inl (fun _ => 0))), (q74_43, .inl (ct 0, 5, .inl (fun _ => 0))), (q81_47, .inl (ct 0, 5, .inl (fun _ => 0))), (q93_54, .inl (ct 0, 5, .inl (fun _ => 0)))] := hD
  refine lv_aload_n hx hb dX2_init_98 rfl (lv_at hl 0 rfl) ?_
  refine lv_iconst (v := 5) hx hb dX2_init_99 (by decide) ?_
  refine va_newa (D := D) (tys := tyl ct) (atype := .int) (ty := .int) (N' := 5) (a0 := (5, .inl (fun _ => 0))) hx hb (htl _ wq_3_0) rfl hK hP hD hS hA (fun _ => rfl) (by decide) (by decide) (by decide) (Nat.le_of_ble_eq_true rfl) (Nat.le_of_ble_eq_true rfl) dX2_init_100 (fun q100_58 cA H_100_58 hK1 hP hD hS => ?_)
  obtain rfl := ct_eq0 hK1
  clear hK1
  have hP : va_P D vwCl [(h0, .inr (2, [.int 0, .int 0, .int 0, .int 0, .int 0, .ref q32_20, .ref q40_24, .ref q48_28, .int 0, .ref q60_35, .ref q67_39, .ref q74_43, .ref q81_47, .int 0, .ref q93_54, .null, .int 0, .null, .null, .null])), (q32_20, .inl (ct 0, 10, .inl (fun _ => 0))), (q40_24, .inl (ct 0, 10, .inl (fun _ => 0))), (q48_28, .inl (ct 0, 10, .inl (fun _ => 0))), (q60_35, .inl (ct 0, 5, .inl (fun _ => 0))), (q67_39, .inl (ct 0, 5, .inl (fun _ => 0))), (q74_43, .inl (ct 0, 5, .inl (fun _ => 0))), (q81_47, .inl (ct 0, 5, .inl (fun _ => 0))), (q93_54, .inl (ct 0, 5, .inl (fun _ => 0))), (q100_58, .inl (ct 0, 5, .inl (fun _ => 0)))] H_100_58 := hP
  have hD : va_D AA [(h0, .inr (2, [.int 0, .int 0, .int 0, .int 0, .int 0, .ref q32_20, .ref q40_24, .ref q48_28, .int 0, .ref q60_35, .ref q67_39, .ref q74_43, .ref q81_47, .int 0, .ref q93_54, .null, .int 0, .null, .null, .null])), (q32_20, .inl (ct 0, 10, .inl (fun _ => 0))), (q40_24, .inl (ct 0, 10, .inl (fun _ => 0))), (q48_28, .inl (ct 0, 10, .inl (fun _ => 0))), (q60_35, .inl (ct 0, 5, .inl (fun _ => 0))), (q67_39, .inl (ct 0, 5, .inl (fun _ => 0))), (q74_43, .inl (ct 0, 5, .inl (fun _ => 0))), (q81_47, .inl (ct 0, 5, .inl (fun _ => 0))), (q93_54, .inl (ct 0, 5, .inl (fun _ => 0))), (q100_58, .inl (ct 0, 5, .inl (fun _ => 0)))] := hD
  refine va_putF (D := D) (tys := tyl ct) (ci := 2) (v := .ref q100_58) (ty := (.array .int)) (C := RX2) (T := TX2) (N := 20) hx hb htl inlX2 tyX2 tyX2_ok nmX2 hown hK hP hD hS 0 rfl rfl 15 (by decide) (htl _ wq_4_23) (fun _ h9 => h9) rfl hin rfl (tyX2_ok 15 (by decide)) rfl rfl (Nat.le_of_ble_eq_true rfl) dX2_init_102 (fun H_102_59 locs_102_59 hP hD hS => ?_)
  have hP : va_P D vwCl [(h0, .inr (2, [.int 0, .int 0, .int 0, .int 0, .int 0, .ref q32_20, .ref q40_24, .ref q48_28, .int 0, .ref q60_35, .ref q67_39, .ref q74_43, .ref q81_47, .int 0, .ref q93_54, .ref q100_58, .int 0, .null, .null, .null])), (q32_20, .inl (ct 0, 10, .inl (fun _ => 0))), (q40_24, .inl (ct 0, 10, .inl (fun _ => 0))), (q48_28, .inl (ct 0, 10, .inl (fun _ => 0))), (q60_35, .inl (ct 0, 5, .inl (fun _ => 0))), (q67_39, .inl (ct 0, 5, .inl (fun _ => 0))), (q74_43, .inl (ct 0, 5, .inl (fun _ => 0))), (q81_47, .inl (ct 0, 5, .inl (fun _ => 0))), (q93_54, .inl (ct 0, 5, .inl (fun _ => 0))), (q100_58, .inl (ct 0, 5, .inl (fun _ => 0)))] H_102_59 := hP
  have hD : va_D AA [(h0, .inr (2, [.int 0, .int 0, .int 0, .int 0, .int 0, .ref q32_20, .ref q40_24, .ref q48_28, .int 0, .ref q60_35, .ref q67_39, .ref q74_43, .ref q81_47, .int 0, .ref q93_54, .ref q100_58, .int 0, .null, .null, .null])), (q32_20, .inl (ct 0, 10, .inl (fun _ => 0))), (q40_24, .inl (ct 0, 10, .inl (fun _ => 0))), (q48_28, .inl (ct 0, 10, .inl (fun _ => 0))), (q60_35, .inl (ct 0, 5, .inl (fun _ => 0))), (q67_39, .inl (ct 0, 5, .inl (fun _ => 0))), (q74_43, .inl (ct 0, 5, .inl (fun _ => 0))), (q81_47, .inl (ct 0, 5, .inl (fun _ => 0))), (q93_54, .inl (ct 0, 5, .inl (fun _ => 0))), (q100_58, .inl (ct 0, 5, .inl (fun _ => 0)))] := hD
  refine lv_aload_n hx hb dX2_init_105 rfl (lv_at hl 0 rfl) ?_
  refine lv_iconst (v := 0) hx hb dX2_init_106 (by decide) ?_
  refine va_put (D := D) (tys := tyl ct) (ci := 2) (v := .int 0) (ty := .int) (C := RX2) (T := TX2) (N := 20) hx hb htl inlX2 tyX2 tyX2_ok nmX2 hown hK hP hD hS 0 rfl rfl 16 (by decide) (htl _ wq_5_0) (fun _ h9 => h9) rfl (tyX2_ok 16 (by decide)) rfl rfl (Nat.le_of_ble_eq_true rfl) dX2_init_107 (fun H_107_62 locs_107_62 hP hD hS => ?_)
  have hP : va_P D vwCl [(h0, .inr (2, [.int 0, .int 0, .int 0, .int 0, .int 0, .ref q32_20, .ref q40_24, .ref q48_28, .int 0, .ref q60_35, .ref q67_39, .ref q74_43, .ref q81_47, .int 0, .ref q93_54, .ref q100_58, .int 0, .null, .null, .null])), (q32_20, .inl (ct 0, 10, .inl (fun _ => 0))), (q40_24, .inl (ct 0, 10, .inl (fun _ => 0))), (q48_28, .inl (ct 0, 10, .inl (fun _ => 0))), (q60_35, .inl (ct 0, 5, .inl (fun _ => 0))), (q67_39, .inl (ct 0, 5, .inl (fun _ => 0))), (q74_43, .inl (ct 0, 5, .inl (fun _ => 0))), (q81_47, .inl (ct 0, 5, .inl (fun _ => 0))), (q93_54, .inl (ct 0, 5, .inl (fun _ => 0))), (q100_58, .inl (ct 0, 5, .inl (fun _ => 0)))] H_107_62 := hP
  have hD : va_D AA [(h0, .inr (2, [.int 0, .int 0, .int 0, .int 0, .int 0, .ref q32_20, .ref q40_24, .ref q48_28, .int 0, .ref q60_35, .ref q67_39, .ref q74_43, .ref q81_47, .int 0, .ref q93_54, .ref q100_58, .int 0, .null, .null, .null])), (q32_20, .inl (ct 0, 10, .inl (fun _ => 0))), (q40_24, .inl (ct 0, 10, .inl (fun _ => 0))), (q48_28, .inl (ct 0, 10, .inl (fun _ => 0))), (q60_35, .inl (ct 0, 5, .inl (fun _ => 0))), (q67_39, .inl (ct 0, 5, .inl (fun _ => 0))), (q74_43, .inl (ct 0, 5, .inl (fun _ => 0))), (q81_47, .inl (ct 0, 5, .inl (fun _ => 0))), (q93_54, .inl (ct 0, 5, .inl (fun _ => 0))), (q100_58, .inl (ct 0, 5, .inl (fun _ => 0)))] := hD
  refine lv_aload_n hx hb dX2_init_110 rfl (lv_at hl 0 rfl) ?_
  refine lv_bipush (v := 30) hx hb dX2_init_111 (by decide) ?_
  refine va_newa (D := D) (tys := tyl ct) (atype := .int) (ty := .int) (N' := 30) (a0 := (30, .inl (fun _ => 0))) hx hb (htl _ wq_3_0) rfl hK hP hD hS hA (fun _ => rfl) (by decide) (by decide) (by decide) (Nat.le_of_ble_eq_true rfl) (Nat.le_of_ble_eq_true rfl) dX2_init_113 (fun q113_65 cA H_113_65 hK1 hP hD hS => ?_)
  obtain rfl := ct_eq0 hK1
  clear hK1
  have hP : va_P D vwCl [(h0, .inr (2, [.int 0, .int 0, .int 0, .int 0, .int 0, .ref q32_20, .ref q40_24, .ref q48_28, .int 0, .ref q60_35, .ref q67_39, .ref q74_43, .ref q81_47, .int 0, .ref q93_54, .ref q100_58, .int 0, .null, .null, .null])), (q32_20, .inl (ct 0, 10, .inl (fun _ => 0))), (q40_24, .inl (ct 0, 10, .inl (fun _ => 0))), (q48_28, .inl (ct 0, 10, .inl (fun _ => 0))), (q60_35, .inl (ct 0, 5, .inl (fun _ => 0))), (q67_39, .inl (ct 0, 5, .inl (fun _ => 0))), (q74_43, .inl (ct 0, 5, .inl (fun _ => 0))), (q81_47, .inl (ct 0, 5, .inl (fun _ => 0))), (q93_54, .inl (ct 0, 5, .inl (fun _ => 0))), (q100_58, .inl (ct 0, 5, .inl (fun _ => 0))), (q113_65, .inl (ct 0, 30, .inl (fun _ => 0)))] H_113_65 := hP
  have hD : va_D AA [(h0, .inr (2, [.int 0, .int 0, .int 0, .int 0, .int 0, .ref q32_20, .ref q40_24, .ref q48_28, .int 0, .ref q60_35, .ref q67_39, .ref q74_43, .ref q81_47, .int 0, .ref q93_54, .ref q100_58, .int 0, .null, .null, .null])), (q32_20, .inl (ct 0, 10, .inl (fun _ => 0))), (q40_24, .inl (ct 0, 10, .inl (fun _ => 0))), (q48_28, .inl (ct 0, 10, .inl (fun _ => 0))), (q60_35, .inl (ct 0, 5, .inl (fun _ => 0))), (q67_39, .inl (ct 0, 5, .inl (fun _ => 0))), (q74_43, .inl (ct 0, 5, .inl (fun _ => 0))), (q81_47, .inl (ct 0, 5, .inl (fun _ => 0))), (q93_54, .inl (ct 0, 5, .inl (fun _ => 0))), (q100_58, .inl (ct 0, 5, .inl (fun _ => 0))), (q113_65, .inl (ct 0, 30, .inl (fun _ => 0)))] := hD
  refine va_putF (D := D) (tys := tyl ct) (ci := 2) (v := .ref q113_65) (ty := (.array .int)) (C := RX2) (T := TX2) (N := 20) hx hb htl inlX2 tyX2 tyX2_ok nmX2 hown hK hP hD hS 0 rfl rfl 17 (by decide) (htl _ wq_5_1) (fun _ h9 => h9) rfl hin rfl (tyX2_ok 17 (by decide)) rfl rfl (Nat.le_of_ble_eq_true rfl) dX2_init_115 (fun H_115_66 locs_115_66 hP hD hS => ?_)
  have hP : va_P D vwCl [(h0, .inr (2, [.int 0, .int 0, .int 0, .int 0, .int 0, .ref q32_20, .ref q40_24, .ref q48_28, .int 0, .ref q60_35, .ref q67_39, .ref q74_43, .ref q81_47, .int 0, .ref q93_54, .ref q100_58, .int 0, .ref q113_65, .null, .null])), (q32_20, .inl (ct 0, 10, .inl (fun _ => 0))), (q40_24, .inl (ct 0, 10, .inl (fun _ => 0))), (q48_28, .inl (ct 0, 10, .inl (fun _ => 0))), (q60_35, .inl (ct 0, 5, .inl (fun _ => 0))), (q67_39, .inl (ct 0, 5, .inl (fun _ => 0))), (q74_43, .inl (ct 0, 5, .inl (fun _ => 0))), (q81_47, .inl (ct 0, 5, .inl (fun _ => 0))), (q93_54, .inl (ct 0, 5, .inl (fun _ => 0))), (q100_58, .inl (ct 0, 5, .inl (fun _ => 0))), (q113_65, .inl (ct 0, 30, .inl (fun _ => 0)))] H_115_66 := hP
  have hD : va_D AA [(h0, .inr (2, [.int 0, .int 0, .int 0, .int 0, .int 0, .ref q32_20, .ref q40_24, .ref q48_28, .int 0, .ref q60_35, .ref q67_39, .ref q74_43, .ref q81_47, .int 0, .ref q93_54, .ref q100_58, .int 0, .ref q113_65, .null, .null])), (q32_20, .inl (ct 0, 10, .inl (fun _ => 0))), (q40_24, .inl (ct 0, 10, .inl (fun _ => 0))), (q48_28, .inl (ct 0, 10, .inl (fun _ => 0))), (q60_35, .inl (ct 0, 5, .inl (fun _ => 0))), (q67_39, .inl (ct 0, 5, .inl (fun _ => 0))), (q74_43, .inl (ct 0, 5, .inl (fun _ => 0))), (q81_47, .inl (ct 0, 5, .inl (fun _ => 0))), (q93_54, .inl (ct 0, 5, .inl (fun _ => 0))), (q100_58, .inl (ct 0, 5, .inl (fun _ => 0))), (q113_65, .inl (ct 0, 30, .inl (fun _ => 0)))] := hD
  refine lv_aload_n hx hb dX2_init_118 rfl (lv_at hl 0 rfl) ?_
  refine lv_bipush (v := 30) hx hb dX2_init_119 (by decide) ?_
  refine va_newa (D := D) (tys := tyl ct) (atype := .int) (ty := .int) (N' := 30) (a0 := (30, .inl (fun _ => 0))) hx hb (htl _ wq_3_0) rfl hK hP hD hS hA (fun _ => rfl) (by decide) (by decide) (by decide) (Nat.le_of_ble_eq_true rfl) (Nat.le_of_ble_eq_true rfl) dX2_init_121 (fun q121_69 cA H_121_69 hK1 hP hD hS => ?_)
  obtain rfl := ct_eq0 hK1
  clear hK1
  have hP : va_P D vwCl [(h0, .inr (2, [.int 0, .int 0, .int 0, .int 0, .int 0, .ref q32_20, .ref q40_24, .ref q48_28, .int 0, .ref q60_35, .ref q67_39, .ref q74_43, .ref q81_47, .int 0, .ref q93_54, .ref q100_58, .int 0, .ref q113_65, .null, .null])), (q32_20, .inl (ct 0, 10, .inl (fun _ => 0))), (q40_24, .inl (ct 0, 10, .inl (fun _ => 0))), (q48_28, .inl (ct 0, 10, .inl (fun _ => 0))), (q60_35, .inl (ct 0, 5, .inl (fun _ => 0))), (q67_39, .inl (ct 0, 5, .inl (fun _ => 0))), (q74_43, .inl (ct 0, 5, .inl (fun _ => 0))), (q81_47, .inl (ct 0, 5, .inl (fun _ => 0))), (q93_54, .inl (ct 0, 5, .inl (fun _ => 0))), (q100_58, .inl (ct 0, 5, .inl (fun _ => 0))), (q113_65, .inl (ct 0, 30, .inl (fun _ => 0))), (q121_69, .inl (ct 0, 30, .inl (fun _ => 0)))] H_121_69 := hP
  have hD : va_D AA [(h0, .inr (2, [.int 0, .int 0, .int 0, .int 0, .int 0, .ref q32_20, .ref q40_24, .ref q48_28, .int 0, .ref q60_35, .ref q67_39, .ref q74_43, .ref q81_47, .int 0, .ref q93_54, .ref q100_58, .int 0, .ref q113_65, .null, .null])), (q32_20, .inl (ct 0, 10, .inl (fun _ => 0))), (q40_24, .inl (ct 0, 10, .inl (fun _ => 0))), (q48_28, .inl (ct 0, 10, .inl (fun _ => 0))), (q60_35, .inl (ct 0, 5, .inl (fun _ => 0))), (q67_39, .inl (ct 0, 5, .inl (fun _ => 0))), (q74_43, .inl (ct 0, 5, .inl (fun _ => 0))), (q81_47, .inl (ct 0, 5, .inl (fun _ => 0))), (q93_54, .inl (ct 0, 5, .inl (fun _ => 0))), (q100_58, .inl (ct 0, 5, .inl (fun _ => 0))), (q113_65, .inl (ct 0, 30, .inl (fun _ => 0))), (q121_69, .inl (ct 0, 30, .inl (fun _ => 0)))] := hD
  refine va_putF (D := D) (tys := tyl ct) (ci := 2) (v := .ref q121_69) (ty := (.array .int)) (C := RX2) (T := TX2) (N := 20) hx hb htl inlX2 tyX2 tyX2_ok nmX2 hown hK hP hD hS 0 rfl rfl 18 (by decide) (htl _ wq_5_2) (fun _ h9 => h9) rfl hin rfl (tyX2_ok 18 (by decide)) rfl rfl (Nat.le_of_ble_eq_true rfl) dX2_init_123 (fun H_123_70 locs_123_70 hP hD hS => ?_)
  have hP : va_P D vwCl [(h0, .inr (2, [.int 0, .int 0, .int 0, .int 0, .int 0, .ref q32_20, .ref q40_24, .ref q48_28, .int 0, .ref q60_35, .ref q67_39, .ref q74_43, .ref q81_47, .int 0, .ref q93_54, .ref q100_58, .int 0, .ref q113_65, .ref q121_69, .null])), (q32_20, .inl (ct 0, 10, .inl (fun _ => 0))), (q40_24, .inl (ct 0, 10, .inl (fun _ => 0))), (q48_28, .inl (ct 0, 10, .inl (fun _ => 0))), (q60_35, .inl (ct 0, 5, .inl (fun _ => 0))), (q67_39, .inl (ct 0, 5, .inl (fun _ => 0))), (q74_43, .inl (ct 0, 5, .inl (fun _ => 0))), (q81_47, .inl (ct 0, 5, .inl (fun _ => 0))), (q93_54, .inl (ct 0, 5, .inl (fun _ => 0))), (q100_58, .inl (ct 0, 5, .inl (fun _ => 0))), (q113_65, .inl (ct 0, 30, .inl (fun _ => 0))), (q121_69, .inl (ct 0, 30, .inl (fun _ => 0)))] H_123_70 := hP
  have hD : va_D AA [(h0, .inr (2, [.int 0, .int 0, .int 0, .int 0, .int 0, .ref q32_20, .ref q40_24, .ref q48_28, .int 0, .ref q60_35, .ref q67_39, .ref q74_43, .ref q81_47, .int 0, .ref q93_54, .ref q100_58, .int 0, .ref q113_65, .ref q121_69, .null])), (q32_20, .inl (ct 0, 10, .inl (fun _ => 0))), (q40_24, .inl (ct 0, 10, .inl (fun _ => 0))), (q48_28, .inl (ct 0, 10, .inl (fun _ => 0))), (q60_35, .inl (ct 0, 5, .inl (fun _ => 0))), (q67_39, .inl (ct 0, 5, .inl (fun _ => 0))), (q74_43, .inl (ct 0, 5, .inl (fun _ => 0))), (q81_47, .inl (ct 0, 5, .inl (fun _ => 0))), (q93_54, .inl (ct 0, 5, .inl (fun _ => 0))), (q100_58, .inl (ct 0, 5, .inl (fun _ => 0))), (q113_65, .inl (ct 0, 30, .inl (fun _ => 0))), (q121_69, .inl (ct 0, 30, .inl (fun _ => 0)))] := hD
  refine lv_aload_n hx hb dX2_init_126 rfl (lv_at hl 0 rfl) ?_
  refine lv_bipush (v := 30) hx hb dX2_init_127 (by decide) ?_
  refine va_newa (D := D) (tys := tyl ct) (atype := .int) (ty := .int) (N' := 30) (a0 := (30, .inl (fun _ => 0))) hx hb (htl _ wq_3_0) rfl hK hP hD hS hA (fun _ => rfl) (by decide) (by decide) (by decide) (Nat.le_of_ble_eq_true rfl) (Nat.le_of_ble_eq_true rfl) dX2_init_129 (fun q129_73 cA H_129_73 hK1 hP hD hS => ?_)
  obtain rfl := ct_eq0 hK1
  clear hK1
  have hP : va_P D vwCl [(h0, .inr (2, [.int 0, .int 0, .int 0, .int 0, .int 0, .ref q32_20, .ref q40_24, .ref q48_28, .int 0, .ref q60_35, .ref q67_39, .ref q74_43, .ref q81_47, .int 0, .ref q93_54, .ref q100_58, .int 0, .ref q113_65, .ref q121_69, .null])), (q32_20, .inl (ct 0, 10, .inl (fun _ => 0))), (q40_24, .inl (ct 0, 10, .inl (fun _ => 0))), (q48_28, .inl (ct 0, 10, .inl (fun _ => 0))), (q60_35, .inl (ct 0, 5, .inl (fun _ => 0))), (q67_39, .inl (ct 0, 5, .inl (fun _ => 0))), (q74_43, .inl (ct 0, 5, .inl (fun _ => 0))), (q81_47, .inl (ct 0, 5, .inl (fun _ => 0))), (q93_54, .inl (ct 0, 5, .inl (fun _ => 0))), (q100_58, .inl (ct 0, 5, .inl (fun _ => 0))), (q113_65, .inl (ct 0, 30, .inl (fun _ => 0))), (q121_69, .inl (ct 0, 30, .inl (fun _ => 0))), (q129_73, .inl (ct 0, 30, .inl (fun _ => 0)))] H_129_73 := hP
  have hD : va_D AA [(h0, .inr (2, [.int 0, .int 0, .int 0, .int 0, .int 0, .ref q32_20, .ref q40_24, .ref q48_28, .int 0, .ref q60_35, .ref q67_39, .ref q74_43, .ref q81_47, .int 0, .ref q93_54, .ref q100_58, .int 0, .ref q113_65, .ref q121_69, .null])), (q32_20, .inl (ct 0, 10, .inl (fun _ => 0))), (q40_24, .inl (ct 0, 10, .inl (fun _ => 0))), (q48_28, .inl (ct 0, 10, .inl (fun _ => 0))), (q60_35, .inl (ct 0, 5, .inl (fun _ => 0))), (q67_39, .inl (ct 0, 5, .inl (fun _ => 0))), (q74_43, .inl (ct 0, 5, .inl (fun _ => 0))), (q81_47, .inl (ct 0, 5, .inl (fun _ => 0))), (q93_54, .inl (ct 0, 5, .inl (fun _ => 0))), (q100_58, .inl (ct 0, 5, .inl (fun _ => 0))), (q113_65, .inl (ct 0, 30, .inl (fun _ => 0))), (q121_69, .inl (ct 0, 30, .inl (fun _ => 0))), (q129_73, .inl (ct 0, 30, .inl (fun _ => 0)))] := hD
  refine va_putF (D := D) (tys := tyl ct) (ci := 2) (v := .ref q129_73) (ty := (.array .int)) (C := RX2) (T := TX2) (N := 20) hx hb htl inlX2 tyX2 tyX2_ok nmX2 hown hK hP hD hS 0 rfl rfl 19 (by decide) (htl _ wq_5_3) (fun _ h9 => h9) rfl hin rfl (tyX2_ok 19 (by decide)) rfl rfl (Nat.le_of_ble_eq_true rfl) dX2_init_131 (fun H_131_74 locs_131_74 hP hD hS => ?_)
  have hP : va_P D vwCl [(h0, .inr (2, [.int 0, .int 0, .int 0, .int 0, .int 0, .ref q32_20, .ref q40_24, .ref q48_28, .int 0, .ref q60_35, .ref q67_39, .ref q74_43, .ref q81_47, .int 0, .ref q93_54, .ref q100_58, .int 0, .ref q113_65, .ref q121_69, .ref q129_73])), (q32_20, .inl (ct 0, 10, .inl (fun _ => 0))), (q40_24, .inl (ct 0, 10, .inl (fun _ => 0))), (q48_28, .inl (ct 0, 10, .inl (fun _ => 0))), (q60_35, .inl (ct 0, 5, .inl (fun _ => 0))), (q67_39, .inl (ct 0, 5, .inl (fun _ => 0))), (q74_43, .inl (ct 0, 5, .inl (fun _ => 0))), (q81_47, .inl (ct 0, 5, .inl (fun _ => 0))), (q93_54, .inl (ct 0, 5, .inl (fun _ => 0))), (q100_58, .inl (ct 0, 5, .inl (fun _ => 0))), (q113_65, .inl (ct 0, 30, .inl (fun _ => 0))), (q121_69, .inl (ct 0, 30, .inl (fun _ => 0))), (q129_73, .inl (ct 0, 30, .inl (fun _ => 0)))] H_131_74 := hP
  have hD : va_D AA [(h0, .inr (2, [.int 0, .int 0, .int 0, .int 0, .int 0, .ref q32_20, .ref q40_24, .ref q48_28, .int 0, .ref q60_35, .ref q67_39, .ref q74_43, .ref q81_47, .int 0, .ref q93_54, .ref q100_58, .int 0, .ref q113_65, .ref q121_69, .ref q129_73])), (q32_20, .inl (ct 0, 10, .inl (fun _ => 0))), (q40_24, .inl (ct 0, 10, .inl (fun _ => 0))), (q48_28, .inl (ct 0, 10, .inl (fun _ => 0))), (q60_35, .inl (ct 0, 5, .inl (fun _ => 0))), (q67_39, .inl (ct 0, 5, .inl (fun _ => 0))), (q74_43, .inl (ct 0, 5, .inl (fun _ => 0))), (q81_47, .inl (ct 0, 5, .inl (fun _ => 0))), (q93_54, .inl (ct 0, 5, .inl (fun _ => 0))), (q100_58, .inl (ct 0, 5, .inl (fun _ => 0))), (q113_65, .inl (ct 0, 30, .inl (fun _ => 0))), (q121_69, .inl (ct 0, 30, .inl (fun _ => 0))), (q129_73, .inl (ct 0, 30, .inl (fun _ => 0)))] := hD
  refine W.widen (k := 12) (n := 150) (Nat.le_of_ble_eq_true rfl) (Nat.le_of_ble_eq_true rfl) ?_
  exact W.vret hx hb hr (fun t ht hW => ⟨⟨fun i => ([h0, q32_20, q40_24, q48_28, q60_35, q67_39, q74_43, q81_47, q93_54, q100_58, q113_65, q121_69, q129_73] : List Nat).getD i 0, rfl, trivial, rfl, by rw [ht]; exact hP, hD⟩, hS.F ht⟩) hS.2.2 dX2_init_134
def i_X8 : Ob := (fun _ _ => 0, fun _ _ => 0)
abbrev rm_X8_init : Room := { frames := 1, cells := 2, slots := 122, locals := 12 }
set_option maxHeartbeats 8000000 in
set_option maxRecDepth 100000 in
theorem ci_X8 (l : Launch) (D : va_G) (ct : Nat → ClassId) (G : GT) (h0 sz : Nat) (hG0 : GE G h0) (hGs0 : G.1 ≤ sz) : Met l yX8_init (.code yX8_init cX8_init 1 none :: wsL_law) rm_X8_init (va_Pc [.ref h0] (Bi D ct G [(h0, .inr (8, [.null, .null, .int 0]))] sz)) (va_Qv (fun _ : Nat → Nat => True) (fun (a : Nat → Nat) t => a 0 = h0 ∧ va_P D vwCl (cs8 ct a i_X8) t.heap ∧ va_D (va_A [(h0, .inr (8, [.null, .null, .int 0]))] sz) (cs8 ct a i_X8)) (va_A [(h0, .inr (8, [.null, .null, .int 0]))] sz)) 2 122 (va_A [(h0, .inr (8, [.null, .null, .int 0]))] sz) := by
  refine Met.ofW (cc := cX8_init) (maxL := 1) (ret := none) (by decide) rfl ?_
  intro p e s m args below meth c s₁ B hml hv
  obtain ⟨rfl, ⟨hP, hK, hN, hX⟩, hsz⟩ := hv
  have hx := B.exec
  have hb := B.bytes
  have hr := B.returns
  have hts := atoms_spec (ws := .code yX8_init cX8_init 1 none :: wsL_law) B.pre
  have htl : ∀ w ∈ wsL_law, w.before _ s = true := fun w h => hts w (List.mem_cons_of_mem _ h)
  have hown : s.vm.findClass RX8 = some m.cls := findClass_of_methodNamed B.named
  have hlocks := B.notSynchronized
  have hin : meth.name = "<init>" := (name_of_methodNamed B.named B.method).1
  subst hsz
  have hD : va_D (va_A [(h0, .inr (8, [.null, .null, .int 0]))] s.heap.size) [(h0, .inr (8, [.null, .null, .int 0]))] := va_D.self (A := fun _ => True) ⟨fun i j p q hi hj _ => by
    have h1 := (List.getElem?_eq_some_iff.mp hi).1
    have h2 := (List.getElem?_eq_some_iff.mp hj).1
    simp only [List.length_cons, List.length_nil] at h1 h2
    omega, fun _ _ _ => trivial⟩
  generalize hAe : va_A [(h0, .inr (8, [.null, .null, .int 0]))] s.heap.size = AA at hD ⊢
  have hA : ∀ q : Nat, s.heap.size ≤ q → AA q := fun q h => by rw [← hAe]; exact Or.inr h
  have hGs : G.1 ≤ s.heap.size := hGs0
  have hGE : ∀ q, AA q → GE G q := by
    intro q h
    rw [← hAe] at h
    rcases h with ⟨k, e, hk⟩ | h
    · match k, hk with
      | 0, hk => cases hk; exact hG0
      | k + 1, hk => simp at hk
    · exact Nat.le_trans hGs h
  have hS : va_S AA s.heap s.heap [] := va_S.rf
  have hl := lv_entry ([.ref h0]) (n := 1) (Nat.le_of_ble_eq_true rfl)
  rw [lg_entry_eq]
  generalize (lg_sl ([.ref h0]) ++ List.replicate (1 - (lg_sl ([.ref h0])).length) Slot.unset).toArray = ls at hl ⊢
  have hl : lv_has ls 1 [(0, .ref h0)] := hl
  refine lv_aload_n hx hb dX8_init_0 rfl (lv_at hl 0 rfl) ?_
  refine W.objInit hx hb hown (htl _ wq_5_6) (htl _ wq_1_11) (htl _ wq_1_12) rfl (by rw [hml]; exact hl.1) rfl dX8_init_1 (Nat.le_of_ble_eq_true rfl) (Nat.le_of_ble_eq_true rfl) ?_
  refine W.eq (g2 := F0 m 4 ls []) rfl ?_
  refine lv_aload_n hx hb dX8_init_4 rfl (lv_at hl 0 rfl) ?_
  refine lv_bipush (v := 61) hx hb dX8_init_5 (by decide) ?_
  refine va_newa (D := D) (tys := tyl ct) (atype := .int) (ty := .int) (N' := 61) (a0 := (61, .inl (fun _ => 0))) hx hb (htl _ wq_3_0) rfl hK hP hD hS hA (fun _ => rfl) (by decide) (by decide) (by decide) (Nat.le_of_ble_eq_true rfl) (Nat.le_of_ble_eq_true rfl) dX8_init_7 (fun q7_5 cA H_7_5 hK1 hP hD hS => ?_)
  obtain rfl := ct_eq0 hK1
  clear hK1
  have hP : va_P D vwCl [(h0, .inr (8, [.null, .null, .int 0])), (q7_5, .inl (ct 0, 61, .inl (fun _ => 0)))] H_7_5 := hP
  have hD : va_D AA [(h0, .inr (8, [.null, .null, .int 0])), (q7_5, .inl (ct 0, 61, .inl (fun _ => 0)))] := hD
  refine va_putF (D := D) (tys := tyl ct) (ci := 8) (v := .ref q7_5) (ty := (.array .int)) (C := RX8) (T := TX8) (N := 3) hx hb htl inlX8 tyX8 tyX8_ok nmX8 hown hK hP hD hS 0 rfl rfl 0 (by decide) (htl _ wq_5_7) (fun _ h9 => h9) rfl hin rfl (tyX8_ok 0 (by decide)) rfl rfl (Nat.le_of_ble_eq_true rfl) dX8_init_9 (fun H_9_6 locs_9_6 hP hD hS => ?_)
  have hP : va_P D vwCl [(h0, .inr (8, [.ref q7_5, .null, .int 0])), (q7_5, .inl (ct 0, 61, .inl (fun _ => 0)))] H_9_6 := hP
  have hD : va_D AA [(h0, .inr (8, [.ref q7_5, .null, .int 0])), (q7_5, .inl (ct 0, 61, .inl (fun _ => 0)))] := hD
  refine lv_aload_n hx hb dX8_init_12 rfl (lv_at hl 0 rfl) ?_
  refine lv_bipush (v := 61) hx hb dX8_init_13 (by decide) ?_
  refine va_newa (D := D) (tys := tyl ct) (atype := .int) (ty := .int) (N' := 61) (a0 := (61, .inl (fun _ => 0))) hx hb (htl _ wq_3_0) rfl hK hP hD hS hA (fun _ => rfl) (by decide) (by decide) (by decide) (Nat.le_of_ble_eq_true rfl) (Nat.le_of_ble_eq_true rfl) dX8_init_15 (fun q15_9 cA H_15_9 hK1 hP hD hS => ?_)
  obtain rfl := ct_eq0 hK1
  clear hK1
  have hP : va_P D vwCl [(h0, .inr (8, [.ref q7_5, .null, .int 0])), (q7_5, .inl (ct 0, 61, .inl (fun _ => 0))), (q15_9, .inl (ct 0, 61, .inl (fun _ => 0)))] H_15_9 := hP
  have hD : va_D AA [(h0, .inr (8, [.ref q7_5, .null, .int 0])), (q7_5, .inl (ct 0, 61, .inl (fun _ => 0))), (q15_9, .inl (ct 0, 61, .inl (fun _ => 0)))] := hD
  refine va_putF (D := D) (tys := tyl ct) (ci := 8) (v := .ref q15_9) (ty := (.array .int)) (C := RX8) (T := TX8) (N := 3) hx hb htl inlX8 tyX8 tyX8_ok nmX8 hown hK hP hD hS 0 rfl rfl 1 (by decide) (htl _ wq_5_8) (fun _ h9 => h9) rfl hin rfl (tyX8_ok 1 (by decide)) rfl rfl (Nat.le_of_ble_eq_true rfl) dX8_init_17 (fun H_17_10 locs_17_10 hP hD hS => ?_)
  have hP : va_P D vwCl [(h0, .inr (8, [.ref q7_5, .ref q15_9, .int 0])), (q7_5, .inl (ct 0, 61, .inl (fun _ => 0))), (q15_9, .inl (ct 0, 61, .inl (fun _ => 0)))] H_17_10 := hP
  have hD : va_D AA [(h0, .inr (8, [.ref q7_5, .ref q15_9, .int 0])), (q7_5, .inl (ct 0, 61, .inl (fun _ => 0))), (q15_9, .inl (ct 0, 61, .inl (fun _ => 0)))] := hD
  refine lv_aload_n hx hb dX8_init_20 rfl (lv_at hl 0 rfl) ?_
  refine lv_iconst (v := 0) hx hb dX8_init_21 (by decide) ?_
  refine va_put (D := D) (tys := tyl ct) (ci := 8) (v := .int 0) (ty := .int) (C := RX8) (T := TX8) (N := 3) hx hb htl inlX8 tyX8 tyX8_ok nmX8 hown hK hP hD hS 0 rfl rfl 2 (by decide) (htl _ wq_5_9) (fun _ h9 => h9) rfl (tyX8_ok 2 (by decide)) rfl rfl (Nat.le_of_ble_eq_true rfl) dX8_init_22 (fun H_22_13 locs_22_13 hP hD hS => ?_)
  have hP : va_P D vwCl [(h0, .inr (8, [.ref q7_5, .ref q15_9, .int 0])), (q7_5, .inl (ct 0, 61, .inl (fun _ => 0))), (q15_9, .inl (ct 0, 61, .inl (fun _ => 0)))] H_22_13 := hP
  have hD : va_D AA [(h0, .inr (8, [.ref q7_5, .ref q15_9, .int 0])), (q7_5, .inl (ct 0, 61, .inl (fun _ => 0))), (q15_9, .inl (ct 0, 61, .inl (fun _ => 0)))] := hD
  refine W.widen (k := 2) (n := 122) (Nat.le_of_ble_eq_true rfl) (Nat.le_of_ble_eq_true rfl) ?_
  exact W.vret hx hb hr (fun t ht hW => ⟨⟨fun i => ([h0, q7_5, q15_9] : List Nat).getD i 0, rfl, trivial, rfl, by rw [ht]; exact hP, hD⟩, hS.F ht⟩) hS.2.2 dX8_init_25
def i_X5 : Ob := (fun f _ => match f with | 2 => (-1) | 3 => (-1) | 4 => (-1) | _ => 0, fun _ _ => 0)
abbrev rm_X5_init : Room := { frames := 1, cells := 1, slots := 61, locals := 12 }
set_option maxHeartbeats 8000000 in
set_option maxRecDepth 100000 in
theorem ci_X5 (l : Launch) (D : va_G) (ct : Nat → ClassId) (G : GT) (h0 sz : Nat) (hG0 : GE G h0) (hGs0 : G.1 ≤ sz) : Met l yX5_init (.code yX5_init cX5_init 1 none :: wsL_law) rm_X5_init (va_Pc [.ref h0] (Bi D ct G [(h0, .inr (5, [.null, .int 0, .int 0, .int 0, .int 0, .int 0, .int 0, .int 0, .int 0]))] sz)) (va_Qv (fun _ : Nat → Nat => True) (fun (a : Nat → Nat) t => a 0 = h0 ∧ va_P D vwCl (cs5 ct a i_X5) t.heap ∧ va_D (va_A [(h0, .inr (5, [.null, .int 0, .int 0, .int 0, .int 0, .int 0, .int 0, .int 0, .int 0]))] sz) (cs5 ct a i_X5)) (va_A [(h0, .inr (5, [.null, .int 0, .int 0, .int 0, .int 0, .int 0, .int 0, .int 0, .int 0]))] sz)) 1 61 (va_A [(h0, .inr (5, [.null, .int 0, .int 0, .int 0, .int 0, .int 0, .int 0, .int 0, .int 0]))] sz) := by
  refine Met.ofW (cc := cX5_init) (maxL := 1) (ret := none) (by decide) rfl ?_
  intro p e s m args below meth c s₁ B hml hv
  obtain ⟨rfl, ⟨hP, hK, hN, hX⟩, hsz⟩ := hv
  have hx := B.exec
  have hb := B.bytes
  have hr := B.returns
  have hts := atoms_spec (ws := .code yX5_init cX5_init 1 none :: wsL_law) B.pre
  have htl : ∀ w ∈ wsL_law, w.before _ s = true := fun w h => hts w (List.mem_cons_of_mem _ h)
  have hown : s.vm.findClass RX5 = some m.cls := findClass_of_methodNamed B.named
  have hlocks := B.notSynchronized
  have hin : meth.name = "<init>" := (name_of_methodNamed B.named B.method).1
  subst hsz
  have hD : va_D (va_A [(h0, .inr (5, [.null, .int 0, .int 0, .int 0, .int 0, .int 0, .int 0, .int 0, .int 0]))] s.heap.size) [(h0, .inr (5, [.null, .int 0, .int 0, .int 0, .int 0, .int 0, .int 0, .int 0, .int 0]))] := va_D.self (A := fun _ => True) ⟨fun i j p q hi hj _ => by
    have h1 := (List.getElem?_eq_some_iff.mp hi).1
    have h2 := (List.getElem?_eq_some_iff.mp hj).1
    simp only [List.length_cons, List.length_nil] at h1 h2
    omega, fun _ _ _ => trivial⟩
  generalize hAe : va_A [(h0, .inr (5, [.null, .int 0, .int 0, .int 0, .int 0, .int 0, .int 0, .int 0, .int 0]))] s.heap.size = AA at hD ⊢
  have hA : ∀ q : Nat, s.heap.size ≤ q → AA q := fun q h => by rw [← hAe]; exact Or.inr h
  have hGs : G.1 ≤ s.heap.size := hGs0
  have hGE : ∀ q, AA q → GE G q := by
    intro q h
    rw [← hAe] at h
    rcases h with ⟨k, e, hk⟩ | h
    · match k, hk with
      | 0, hk => cases hk; exact hG0
      | k + 1, hk => simp at hk
    · exact Nat.le_trans hGs h
  have hS : va_S AA s.heap s.heap [] := va_S.rf
  have hl := lv_entry ([.ref h0]) (n := 1) (Nat.le_of_ble_eq_true rfl)
  rw [lg_entry_eq]
  generalize (lg_sl ([.ref h0]) ++ List.replicate (1 - (lg_sl ([.ref h0])).length) Slot.unset).toArray = ls at hl ⊢
  have hl : lv_has ls 1 [(0, .ref h0)] := hl
  refine lv_aload_n hx hb dX5_init_0 rfl (lv_at hl 0 rfl) ?_
  refine W.objInit hx hb hown (htl _ wq_5_12) (htl _ wq_1_11) (htl _ wq_1_12) rfl (by rw [hml]; exact hl.1) rfl dX5_init_1 (Nat.le_of_ble_eq_true rfl) (Nat.le_of_ble_eq_true rfl) ?_
  refine W.eq (g2 := F0 m 4 ls []) rfl ?_
  refine lv_aload_n hx hb dX5_init_4 rfl (lv_at hl 0 rfl) ?_
  refine lv_bipush (v := 61) hx hb dX5_init_5 (by decide) ?_
  refine va_newa (D := D) (tys := tyl ct) (atype := .int) (ty := .int) (N' := 61) (a0 := (61, .inl (fun _ => 0))) hx hb (htl _ wq_3_0) rfl hK hP hD hS hA (fun _ => rfl) (by decide) (by decide) (by decide) (Nat.le_of_ble_eq_true rfl) (Nat.le_of_ble_eq_true rfl) dX5_init_7 (fun q7_5 cA H_7_5 hK1 hP hD hS => ?_)
  obtain rfl := ct_eq0 hK1
  clear hK1
  have hP : va_P D vwCl [(h0, .inr (5, [.null, .int 0, .int 0, .int 0, .int 0, .int 0, .int 0, .int 0, .int 0])), (q7_5, .inl (ct 0, 61, .inl (fun _ => 0)))] H_7_5 := hP
  have hD : va_D AA [(h0, .inr (5, [.null, .int 0, .int 0, .int 0, .int 0, .int 0, .int 0, .int 0, .int 0])), (q7_5, .inl (ct 0, 61, .inl (fun _ => 0)))] := hD
  refine va_putF (D := D) (tys := tyl ct) (ci := 5) (v := .ref q7_5) (ty := (.array .int)) (C := RX5) (T := TX5) (N := 9) hx hb htl inlX5 tyX5 tyX5_ok nmX5 hown hK hP hD hS 0 rfl rfl 0 (by decide) (htl _ wq_5_13) (fun _ h9 => h9) rfl hin rfl (tyX5_ok 0 (by decide)) rfl rfl (Nat.le_of_ble_eq_true rfl) dX5_init_9 (fun H_9_6 locs_9_6 hP hD hS => ?_)
  have hP : va_P D vwCl [(h0, .inr (5, [.ref q7_5, .int 0, .int 0, .int 0, .int 0, .int 0, .int 0, .int 0, .int 0])), (q7_5, .inl (ct 0, 61, .inl (fun _ => 0)))] H_9_6 := hP
  have hD : va_D AA [(h0, .inr (5, [.ref q7_5, .int 0, .int 0, .int 0, .int 0, .int 0, .int 0, .int 0, .int 0])), (q7_5, .inl (ct 0, 61, .inl (fun _ => 0)))] := hD
  refine lv_aload_n hx hb dX5_init_12 rfl (lv_at hl 0 rfl) ?_
  refine lv_iconst (v := 0) hx hb dX5_init_13 (by decide) ?_
  refine va_put (D := D) (tys := tyl ct) (ci := 5) (v := .int 0) (ty := .int) (C := RX5) (T := TX5) (N := 9) hx hb htl inlX5 tyX5 tyX5_ok nmX5 hown hK hP hD hS 0 rfl rfl 1 (by decide) (htl _ wq_5_14) (fun _ h9 => h9) rfl (tyX5_ok 1 (by decide)) rfl rfl (Nat.le_of_ble_eq_true rfl) dX5_init_14 (fun H_14_9 locs_14_9 hP hD hS => ?_)
  have hP : va_P D vwCl [(h0, .inr (5, [.ref q7_5, .int 0, .int 0, .int 0, .int 0, .int 0, .int 0, .int 0, .int 0])), (q7_5, .inl (ct 0, 61, .inl (fun _ => 0)))] H_14_9 := hP
  have hD : va_D AA [(h0, .inr (5, [.ref q7_5, .int 0, .int 0, .int 0, .int 0, .int 0, .int 0, .int 0, .int 0])), (q7_5, .inl (ct 0, 61, .inl (fun _ => 0)))] := hD
  refine lv_aload_n hx hb dX5_init_17 rfl (lv_at hl 0 rfl) ?_
  refine lv_iconst (v := (-1)) hx hb dX5_init_18 (by decide) ?_
  refine va_put (D := D) (tys := tyl ct) (ci := 5) (v := .int (-1)) (ty := .int) (C := RX5) (T := TX5) (N := 9) hx hb htl inlX5 tyX5 tyX5_ok nmX5 hown hK hP hD hS 0 rfl rfl 2 (by decide) (htl _ wq_5_15) (fun _ h9 => h9) rfl (tyX5_ok 2 (by decide)) rfl rfl (Nat.le_of_ble_eq_true rfl) dX5_init_19 (fun H_19_12 locs_19_12 hP hD hS => ?_)
  have hP : va_P D vwCl [(h0, .inr (5, [.ref q7_5, .int 0, .int (-1), .int 0, .int 0, .int 0, .int 0, .int 0, .int 0])), (q7_5, .inl (ct 0, 61, .inl (fun _ => 0)))] H_19_12 := hP
  have hD : va_D AA [(h0, .inr (5, [.ref q7_5, .int 0, .int (-1), .int 0, .int 0, .int 0, .int 0, .int 0, .int 0])), (q7_5, .inl (ct 0, 61, .inl (fun _ => 0)))] := hD
  refine lv_aload_n hx hb dX5_init_22 rfl (lv_at hl 0 rfl) ?_
  refine lv_iconst (v := (-1)) hx hb dX5_init_23 (by decide) ?_
  refine va_put (D := D) (tys := tyl ct) (ci := 5) (v := .int (-1)) (ty := .int) (C := RX5) (T := TX5) (N := 9) hx hb htl inlX5 tyX5 tyX5_ok nmX5 hown hK hP hD hS 0 rfl rfl 3 (by decide) (htl _ wq_5_16) (fun _ h9 => h9) rfl (tyX5_ok 3 (by decide)) rfl rfl (Nat.le_of_ble_eq_true rfl) dX5_init_24 (fun H_24_15 locs_24_15 hP hD hS => ?_)
  have hP : va_P D vwCl [(h0, .inr (5, [.ref q7_5, .int 0, .int (-1), .int (-1), .int 0, .int 0, .int 0, .int 0, .int 0])), (q7_5, .inl (ct 0, 61, .inl (fun _ => 0)))] H_24_15 := hP
  have hD : va_D AA [(h0, .inr (5, [.ref q7_5, .int 0, .int (-1), .int (-1), .int 0, .int 0, .int 0, .int 0, .int 0])), (q7_5, .inl (ct 0, 61, .inl (fun _ => 0)))] := hD
  refine lv_aload_n hx hb dX5_init_27 rfl (lv_at hl 0 rfl) ?_
  refine lv_iconst (v := (-1)) hx hb dX5_init_28 (by decide) ?_
  refine va_put (D := D) (tys := tyl ct) (ci := 5) (v := .int (-1)) (ty := .int) (C := RX5) (T := TX5) (N := 9) hx hb htl inlX5 tyX5 tyX5_ok nmX5 hown hK hP hD hS 0 rfl rfl 4 (by decide) (htl _ wq_5_17) (fun _ h9 => h9) rfl (tyX5_ok 4 (by decide)) rfl rfl (Nat.le_of_ble_eq_true rfl) dX5_init_29 (fun H_29_18 locs_29_18 hP hD hS => ?_)
  have hP : va_P D vwCl [(h0, .inr (5, [.ref q7_5, .int 0, .int (-1), .int (-1), .int (-1), .int 0, .int 0, .int 0, .int 0])), (q7_5, .inl (ct 0, 61, .inl (fun _ => 0)))] H_29_18 := hP
  have hD : va_D AA [(h0, .inr (5, [.ref q7_5, .int 0, .int (-1), .int (-1), .int (-1), .int 0, .int 0, .int 0, .int 0])), (q7_5, .inl (ct 0, 61, .inl (fun _ => 0)))] := hD
  refine lv_aload_n hx hb dX5_init_32 rfl (lv_at hl 0 rfl) ?_
  refine lv_iconst (v := 0) hx hb dX5_init_33 (by decide) ?_
  refine va_put (D := D) (tys := tyl ct) (ci := 5) (v := .int 0) (ty := .int) (C := RX5) (T := TX5) (N := 9) hx hb htl inlX5 tyX5 tyX5_ok nmX5 hown hK hP hD hS 0 rfl rfl 5 (by decide) (htl _ wq_5_18) (fun _ h9 => h9) rfl (tyX5_ok 5 (by decide)) rfl rfl (Nat.le_of_ble_eq_true rfl) dX5_init_34 (fun H_34_21 locs_34_21 hP hD hS => ?_)
  have hP : va_P D vwCl [(h0, .inr (5, [.ref q7_5, .int 0, .int (-1), .int (-1), .int (-1), .int 0, .int 0, .int 0, .int 0])), (q7_5, .inl (ct 0, 61, .inl (fun _ => 0)))] H_34_21 := hP
  have hD : va_D AA [(h0, .inr (5, [.ref q7_5, .int 0, .int (-1), .int (-1), .int (-1), .int 0, .int 0, .int 0, .int 0])), (q7_5, .inl (ct 0, 61, .inl (fun _ => 0)))] := hD
  refine lv_aload_n hx hb dX5_init_37 rfl (lv_at hl 0 rfl) ?_
  refine lv_iconst (v := 0) hx hb dX5_init_38 (by decide) ?_
  refine va_put (D := D) (tys := tyl ct) (ci := 5) (v := .int 0) (ty := .int) (C := RX5) (T := TX5) (N := 9) hx hb htl inlX5 tyX5 tyX5_ok nmX5 hown hK hP hD hS 0 rfl rfl 6 (by decide) (htl _ wq_5_19) (fun _ h9 => h9) rfl (tyX5_ok 6 (by decide)) rfl rfl (Nat.le_of_ble_eq_true rfl) dX5_init_39 (fun H_39_24 locs_39_24 hP hD hS => ?_)
  have hP : va_P D vwCl [(h0, .inr (5, [.ref q7_5, .int 0, .int (-1), .int (-1), .int (-1), .int 0, .int 0, .int 0, .int 0])), (q7_5, .inl (ct 0, 61, .inl (fun _ => 0)))] H_39_24 := hP
  have hD : va_D AA [(h0, .inr (5, [.ref q7_5, .int 0, .int (-1), .int (-1), .int (-1), .int 0, .int 0, .int 0, .int 0])), (q7_5, .inl (ct 0, 61, .inl (fun _ => 0)))] := hD
  refine lv_aload_n hx hb dX5_init_42 rfl (lv_at hl 0 rfl) ?_
  refine lv_iconst (v := 0) hx hb dX5_init_43 (by decide) ?_
  refine va_put (D := D) (tys := tyl ct) (ci := 5) (v := .int 0) (ty := .int) (C := RX5) (T := TX5) (N := 9) hx hb htl inlX5 tyX5 tyX5_ok nmX5 hown hK hP hD hS 0 rfl rfl 7 (by decide) (htl _ wq_5_20) (fun _ h9 => h9) rfl (tyX5_ok 7 (by decide)) rfl rfl (Nat.le_of_ble_eq_true rfl) dX5_init_44 (fun H_44_27 locs_44_27 hP hD hS => ?_)
  have hP : va_P D vwCl [(h0, .inr (5, [.ref q7_5, .int 0, .int (-1), .int (-1), .int (-1), .int 0, .int 0, .int 0, .int 0])), (q7_5, .inl (ct 0, 61, .inl (fun _ => 0)))] H_44_27 := hP
  have hD : va_D AA [(h0, .inr (5, [.ref q7_5, .int 0, .int (-1), .int (-1), .int (-1), .int 0, .int 0, .int 0, .int 0])), (q7_5, .inl (ct 0, 61, .inl (fun _ => 0)))] := hD
  refine lv_aload_n hx hb dX5_init_47 rfl (lv_at hl 0 rfl) ?_
  refine lv_iconst (v := 0) hx hb dX5_init_48 (by decide) ?_
  refine va_put (D := D) (tys := tyl ct) (ci := 5) (v := .int 0) (ty := .int) (C := RX5) (T := TX5) (N := 9) hx hb htl inlX5 tyX5 tyX5_ok nmX5 hown hK hP hD hS 0 rfl rfl 8 (by decide) (htl _ wq_5_21) (fun _ h9 => h9) rfl (tyX5_ok 8 (by decide)) rfl rfl (Nat.le_of_ble_eq_true rfl) dX5_init_49 (fun H_49_30 locs_49_30 hP hD hS => ?_)
  have hP : va_P D vwCl [(h0, .inr (5, [.ref q7_5, .int 0, .int (-1), .int (-1), .int (-1), .int 0, .int 0, .int 0, .int 0])), (q7_5, .inl (ct 0, 61, .inl (fun _ => 0)))] H_49_30 := hP
  have hD : va_D AA [(h0, .inr (5, [.ref q7_5, .int 0, .int (-1), .int (-1), .int (-1), .int 0, .int 0, .int 0, .int 0])), (q7_5, .inl (ct 0, 61, .inl (fun _ => 0)))] := hD
  refine W.widen (k := 1) (n := 61) (Nat.le_of_ble_eq_true rfl) (Nat.le_of_ble_eq_true rfl) ?_
  exact W.vret hx hb hr (fun t ht hW => ⟨⟨fun i => ([h0, q7_5] : List Nat).getD i 0, rfl, trivial, rfl, by rw [ht]; exact hP, hD⟩, hS.F ht⟩) hS.2.2 dX5_init_52
def i_X4 : Ob := (fun f _ => match f with | 2 => (-1) | _ => 0, fun _ _ => 0)
abbrev rm_X4_init : Room := { frames := 1, cells := 1, slots := 732, locals := 12 }
set_option maxHeartbeats 8000000 in
set_option maxRecDepth 100000 in
theorem ci_X4 (l : Launch) (D : va_G) (ct : Nat → ClassId) (G : GT) (h0 sz : Nat) (hG0 : GE G h0) (hGs0 : G.1 ≤ sz) : Met l yX4_init (.code yX4_init cX4_init 1 none :: wsL_law) rm_X4_init (va_Pc [.ref h0] (Bi D ct G [(h0, .inr (4, [.int 0, .int 0, .int 0, .null]))] sz)) (va_Qv (fun _ : Nat → Nat => True) (fun (a : Nat → Nat) t => a 0 = h0 ∧ va_P D vwCl (cs4 ct a i_X4) t.heap ∧ va_D (va_A [(h0, .inr (4, [.int 0, .int 0, .int 0, .null]))] sz) (cs4 ct a i_X4)) (va_A [(h0, .inr (4, [.int 0, .int 0, .int 0, .null]))] sz)) 1 732 (va_A [(h0, .inr (4, [.int 0, .int 0, .int 0, .null]))] sz) := by
  refine Met.ofW (cc := cX4_init) (maxL := 1) (ret := none) (by decide) rfl ?_
  intro p e s m args below meth c s₁ B hml hv
  obtain ⟨rfl, ⟨hP, hK, hN, hX⟩, hsz⟩ := hv
  have hx := B.exec
  have hb := B.bytes
  have hr := B.returns
  have hts := atoms_spec (ws := .code yX4_init cX4_init 1 none :: wsL_law) B.pre
  have htl : ∀ w ∈ wsL_law, w.before _ s = true := fun w h => hts w (List.mem_cons_of_mem _ h)
  have hown : s.vm.findClass RX4 = some m.cls := findClass_of_methodNamed B.named
  have hlocks := B.notSynchronized
  have hin : meth.name = "<init>" := (name_of_methodNamed B.named B.method).1
  subst hsz
  have hD : va_D (va_A [(h0, .inr (4, [.int 0, .int 0, .int 0, .null]))] s.heap.size) [(h0, .inr (4, [.int 0, .int 0, .int 0, .null]))] := va_D.self (A := fun _ => True) ⟨fun i j p q hi hj _ => by
    have h1 := (List.getElem?_eq_some_iff.mp hi).1
    have h2 := (List.getElem?_eq_some_iff.mp hj).1
    simp only [List.length_cons, List.length_nil] at h1 h2
    omega, fun _ _ _ => trivial⟩
  generalize hAe : va_A [(h0, .inr (4, [.int 0, .int 0, .int 0, .null]))] s.heap.size = AA at hD ⊢
  have hA : ∀ q : Nat, s.heap.size ≤ q → AA q := fun q h => by rw [← hAe]; exact Or.inr h
  have hGs : G.1 ≤ s.heap.size := hGs0
  have hGE : ∀ q, AA q → GE G q := by
    intro q h
    rw [← hAe] at h
    rcases h with ⟨k, e, hk⟩ | h
    · match k, hk with
      | 0, hk => cases hk; exact hG0
      | k + 1, hk => simp at hk
    · exact Nat.le_trans hGs h
  have hS : va_S AA s.heap s.heap [] := va_S.rf
  have hl := lv_entry ([.ref h0]) (n := 1) (Nat.le_of_ble_eq_true rfl)
  rw [lg_entry_eq]
  generalize (lg_sl ([.ref h0]) ++ List.replicate (1 - (lg_sl ([.ref h0])).length) Slot.unset).toArray = ls at hl ⊢
  have hl : lv_has ls 1 [(0, .ref h0)] := hl
  refine lv_aload_n hx hb dX4_init_0 rfl (lv_at hl 0 rfl) ?_
  refine W.objInit hx hb hown (htl _ wq_6_0) (htl _ wq_1_11) (htl _ wq_1_12) rfl (by rw [hml]; exact hl.1) rfl dX4_init_1 (Nat.le_of_ble_eq_true rfl) (Nat.le_of_ble_eq_true rfl) ?_
  refine W.eq (g2 := F0 m 4 ls []) rfl ?_
  refine lv_aload_n hx hb dX4_init_4 rfl (lv_at hl 0 rfl) ?_
  refine lv_iconst (v := 0) hx hb dX4_init_5 (by decide) ?_
  refine va_put (D := D) (tys := tyl ct) (ci := 4) (v := .int 0) (ty := .int) (C := RX4) (T := TX4) (N := 4) hx hb htl inlX4 tyX4 tyX4_ok nmX4 hown hK hP hD hS 0 rfl rfl 0 (by decide) (htl _ wq_6_1) (fun _ h9 => h9) rfl (tyX4_ok 0 (by decide)) rfl rfl (Nat.le_of_ble_eq_true rfl) dX4_init_6 (fun H_6_5 locs_6_5 hP hD hS => ?_)
  have hP : va_P D vwCl [(h0, .inr (4, [.int 0, .int 0, .int 0, .null]))] H_6_5 := hP
  have hD : va_D AA [(h0, .inr (4, [.int 0, .int 0, .int 0, .null]))] := hD
  refine lv_aload_n hx hb dX4_init_9 rfl (lv_at hl 0 rfl) ?_
  refine lv_iconst (v := 0) hx hb dX4_init_10 (by decide) ?_
  refine va_put (D := D) (tys := tyl ct) (ci := 4) (v := .int 0) (ty := .int) (C := RX4) (T := TX4) (N := 4) hx hb htl inlX4 tyX4 tyX4_ok nmX4 hown hK hP hD hS 0 rfl rfl 1 (by decide) (htl _ wq_6_2) (fun _ h9 => h9) rfl (tyX4_ok 1 (by decide)) rfl rfl (Nat.le_of_ble_eq_true rfl) dX4_init_11 (fun H_11_8 locs_11_8 hP hD hS => ?_)
  have hP : va_P D vwCl [(h0, .inr (4, [.int 0, .int 0, .int 0, .null]))] H_11_8 := hP
  have hD : va_D AA [(h0, .inr (4, [.int 0, .int 0, .int 0, .null]))] := hD
  refine lv_aload_n hx hb dX4_init_14 rfl (lv_at hl 0 rfl) ?_
  refine lv_iconst (v := (-1)) hx hb dX4_init_15 (by decide) ?_
  refine va_put (D := D) (tys := tyl ct) (ci := 4) (v := .int (-1)) (ty := .int) (C := RX4) (T := TX4) (N := 4) hx hb htl inlX4 tyX4 tyX4_ok nmX4 hown hK hP hD hS 0 rfl rfl 2 (by decide) (htl _ wq_6_3) (fun _ h9 => h9) rfl (tyX4_ok 2 (by decide)) rfl rfl (Nat.le_of_ble_eq_true rfl) dX4_init_16 (fun H_16_11 locs_16_11 hP hD hS => ?_)
  have hP : va_P D vwCl [(h0, .inr (4, [.int 0, .int 0, .int (-1), .null]))] H_16_11 := hP
  have hD : va_D AA [(h0, .inr (4, [.int 0, .int 0, .int (-1), .null]))] := hD
  refine lv_aload_n hx hb dX4_init_19 rfl (lv_at hl 0 rfl) ?_
  refine lv_sipush (v := 732) hx hb dX4_init_20 (by decide) ?_
  refine va_newa (D := D) (tys := tyl ct) (atype := .int) (ty := .int) (N' := 732) (a0 := (732, .inl (fun _ => 0))) hx hb (htl _ wq_3_0) rfl hK hP hD hS hA (fun _ => rfl) (by decide) (by decide) (by decide) (Nat.le_of_ble_eq_true rfl) (Nat.le_of_ble_eq_true rfl) dX4_init_23 (fun q23_14 cA H_23_14 hK1 hP hD hS => ?_)
  obtain rfl := ct_eq0 hK1
  clear hK1
  have hP : va_P D vwCl [(h0, .inr (4, [.int 0, .int 0, .int (-1), .null])), (q23_14, .inl (ct 0, 732, .inl (fun _ => 0)))] H_23_14 := hP
  have hD : va_D AA [(h0, .inr (4, [.int 0, .int 0, .int (-1), .null])), (q23_14, .inl (ct 0, 732, .inl (fun _ => 0)))] := hD
  refine va_putF (D := D) (tys := tyl ct) (ci := 4) (v := .ref q23_14) (ty := (.array .int)) (C := RX4) (T := TX4) (N := 4) hx hb htl inlX4 tyX4 tyX4_ok nmX4 hown hK hP hD hS 0 rfl rfl 3 (by decide) (htl _ wq_6_4) (fun _ h9 => h9) rfl hin rfl (tyX4_ok 3 (by decide)) rfl rfl (Nat.le_of_ble_eq_true rfl) dX4_init_25 (fun H_25_15 locs_25_15 hP hD hS => ?_)
  have hP : va_P D vwCl [(h0, .inr (4, [.int 0, .int 0, .int (-1), .ref q23_14])), (q23_14, .inl (ct 0, 732, .inl (fun _ => 0)))] H_25_15 := hP
  have hD : va_D AA [(h0, .inr (4, [.int 0, .int 0, .int (-1), .ref q23_14])), (q23_14, .inl (ct 0, 732, .inl (fun _ => 0)))] := hD
  refine W.widen (k := 1) (n := 732) (Nat.le_of_ble_eq_true rfl) (Nat.le_of_ble_eq_true rfl) ?_
  exact W.vret hx hb hr (fun t ht hW => ⟨⟨fun i => ([h0, q23_14] : List Nat).getD i 0, rfl, trivial, rfl, by rw [ht]; exact hP, hD⟩, hS.F ht⟩) hS.2.2 dX4_init_28
def i_X0 : Ob := (fun _ _ => 0, fun f _ => match f with | 3 => 1 | _ => 0)
abbrev rm_X0_init : Room := { frames := 1, cells := 2, slots := 2480, locals := 12 }
set_option maxHeartbeats 8000000 in
set_option maxRecDepth 100000 in
theorem ci_X0 (l : Launch) (D : va_G) (ct : Nat → ClassId) (G : GT) (h0 sz : Nat) (hG0 : GE G h0) (hGs0 : G.1 ≤ sz) : Met l yX0_init (.code yX0_init cX0_init 1 none :: wsL_law) rm_X0_init (va_Pc [.ref h0] (Bi D ct G [(h0, .inr (0, [.null, .null, .int 0, .long 0]))] sz)) (va_Qv (fun _ : Nat → Nat => True) (fun (a : Nat → Nat) t => a 0 = h0 ∧ va_P D vwCl (cs0 ct a i_X0) t.heap ∧ va_D (va_A [(h0, .inr (0, [.null, .null, .int 0, .long 0]))] sz) (cs0 ct a i_X0)) (va_A [(h0, .inr (0, [.null, .null, .int 0, .long 0]))] sz)) 2 2480 (va_A [(h0, .inr (0, [.null, .null, .int 0, .long 0]))] sz) := by
  refine Met.ofW (cc := cX0_init) (maxL := 1) (ret := none) (by decide) rfl ?_
  intro p e s m args below meth c s₁ B hml hv
  obtain ⟨rfl, ⟨hP, hK, hN, hX⟩, hsz⟩ := hv
  have hx := B.exec
  have hb := B.bytes
  have hr := B.returns
  have hts := atoms_spec (ws := .code yX0_init cX0_init 1 none :: wsL_law) B.pre
  have htl : ∀ w ∈ wsL_law, w.before _ s = true := fun w h => hts w (List.mem_cons_of_mem _ h)
  have hown : s.vm.findClass RX0 = some m.cls := findClass_of_methodNamed B.named
  have hlocks := B.notSynchronized
  have hin : meth.name = "<init>" := (name_of_methodNamed B.named B.method).1
  subst hsz
  have hD : va_D (va_A [(h0, .inr (0, [.null, .null, .int 0, .long 0]))] s.heap.size) [(h0, .inr (0, [.null, .null, .int 0, .long 0]))] := va_D.self (A := fun _ => True) ⟨fun i j p q hi hj _ => by
    have h1 := (List.getElem?_eq_some_iff.mp hi).1
    have h2 := (List.getElem?_eq_some_iff.mp hj).1
    simp only [List.length_cons, List.length_nil] at h1 h2
    omega, fun _ _ _ => trivial⟩
  generalize hAe : va_A [(h0, .inr (0, [.null, .null, .int 0, .long 0]))] s.heap.size = AA at hD ⊢
  have hA : ∀ q : Nat, s.heap.size ≤ q → AA q := fun q h => by rw [← hAe]; exact Or.inr h
  have hGs : G.1 ≤ s.heap.size := hGs0
  have hGE : ∀ q, AA q → GE G q := by
    intro q h
    rw [← hAe] at h
    rcases h with ⟨k, e, hk⟩ | h
    · match k, hk with
      | 0, hk => cases hk; exact hG0
      | k + 1, hk => simp at hk
    · exact Nat.le_trans hGs h
  have hS : va_S AA s.heap s.heap [] := va_S.rf
  have hl := lv_entry ([.ref h0]) (n := 1) (Nat.le_of_ble_eq_true rfl)
  rw [lg_entry_eq]
  generalize (lg_sl ([.ref h0]) ++ List.replicate (1 - (lg_sl ([.ref h0])).length) Slot.unset).toArray = ls at hl ⊢
  have hl : lv_has ls 1 [(0, .ref h0)] := hl
  refine lv_aload_n hx hb dX0_init_0 rfl (lv_at hl 0 rfl) ?_
  refine W.objInit hx hb hown (htl _ wq_6_7) (htl _ wq_1_11) (htl _ wq_1_12) rfl (by rw [hml]; exact hl.1) rfl dX0_init_1 (Nat.le_of_ble_eq_true rfl) (Nat.le_of_ble_eq_true rfl) ?_
  refine W.eq (g2 := F0 m 4 ls []) rfl ?_
  refine lv_aload_n hx hb dX0_init_4 rfl (lv_at hl 0 rfl) ?_
  refine lv_sipush (v := 1240) hx hb dX0_init_5 (by decide) ?_
  refine va_newa (D := D) (tys := tyl ct) (atype := .long) (ty := .long) (N' := 1240) (a0 := (1240, .inr (.inl (fun _ => 0)))) hx hb (htl _ wq_6_8) rfl hK hP hD hS hA (fun _ => rfl) (by decide) (by decide) (by decide) (Nat.le_of_ble_eq_true rfl) (Nat.le_of_ble_eq_true rfl) dX0_init_8 (fun q8_5 cA H_8_5 hK1 hP hD hS => ?_)
  obtain rfl := ct_eq1 hK1
  clear hK1
  have hP : va_P D vwCl [(h0, .inr (0, [.null, .null, .int 0, .long 0])), (q8_5, .inl (ct 1, 1240, .inr (.inl (fun _ => 0))))] H_8_5 := hP
  have hD : va_D AA [(h0, .inr (0, [.null, .null, .int 0, .long 0])), (q8_5, .inl (ct 1, 1240, .inr (.inl (fun _ => 0))))] := hD
  refine va_put (D := D) (tys := tyl ct) (ci := 0) (v := .ref q8_5) (ty := (.array .long)) (C := RX0) (T := TX0) (N := 4) hx hb htl inlX0 tyX0 tyX0_ok nmX0 hown hK hP hD hS 0 rfl rfl 0 (by decide) (htl _ wq_6_9) (fun _ h9 => h9) rfl (tyX0_ok 0 (by decide)) rfl rfl (Nat.le_of_ble_eq_true rfl) dX0_init_10 (fun H_10_6 locs_10_6 hP hD hS => ?_)
  have hP : va_P D vwCl [(h0, .inr (0, [.ref q8_5, .null, .int 0, .long 0])), (q8_5, .inl (ct 1, 1240, .inr (.inl (fun _ => 0))))] H_10_6 := hP
  have hD : va_D AA [(h0, .inr (0, [.ref q8_5, .null, .int 0, .long 0])), (q8_5, .inl (ct 1, 1240, .inr (.inl (fun _ => 0))))] := hD
  refine lv_aload_n hx hb dX0_init_13 rfl (lv_at hl 0 rfl) ?_
  refine lv_sipush (v := 1240) hx hb dX0_init_14 (by decide) ?_
  refine va_newa (D := D) (tys := tyl ct) (atype := .long) (ty := .long) (N' := 1240) (a0 := (1240, .inr (.inl (fun _ => 0)))) hx hb (htl _ wq_6_8) rfl hK hP hD hS hA (fun _ => rfl) (by decide) (by decide) (by decide) (Nat.le_of_ble_eq_true rfl) (Nat.le_of_ble_eq_true rfl) dX0_init_17 (fun q17_9 cA H_17_9 hK1 hP hD hS => ?_)
  obtain rfl := ct_eq1 hK1
  clear hK1
  have hP : va_P D vwCl [(h0, .inr (0, [.ref q8_5, .null, .int 0, .long 0])), (q8_5, .inl (ct 1, 1240, .inr (.inl (fun _ => 0)))), (q17_9, .inl (ct 1, 1240, .inr (.inl (fun _ => 0))))] H_17_9 := hP
  have hD : va_D AA [(h0, .inr (0, [.ref q8_5, .null, .int 0, .long 0])), (q8_5, .inl (ct 1, 1240, .inr (.inl (fun _ => 0)))), (q17_9, .inl (ct 1, 1240, .inr (.inl (fun _ => 0))))] := hD
  refine va_put (D := D) (tys := tyl ct) (ci := 0) (v := .ref q17_9) (ty := (.array .long)) (C := RX0) (T := TX0) (N := 4) hx hb htl inlX0 tyX0 tyX0_ok nmX0 hown hK hP hD hS 0 rfl rfl 1 (by decide) (htl _ wq_6_10) (fun _ h9 => h9) rfl (tyX0_ok 1 (by decide)) rfl rfl (Nat.le_of_ble_eq_true rfl) dX0_init_19 (fun H_19_10 locs_19_10 hP hD hS => ?_)
  have hP : va_P D vwCl [(h0, .inr (0, [.ref q8_5, .ref q17_9, .int 0, .long 0])), (q8_5, .inl (ct 1, 1240, .inr (.inl (fun _ => 0)))), (q17_9, .inl (ct 1, 1240, .inr (.inl (fun _ => 0))))] H_19_10 := hP
  have hD : va_D AA [(h0, .inr (0, [.ref q8_5, .ref q17_9, .int 0, .long 0])), (q8_5, .inl (ct 1, 1240, .inr (.inl (fun _ => 0)))), (q17_9, .inl (ct 1, 1240, .inr (.inl (fun _ => 0))))] := hD
  refine lv_aload_n hx hb dX0_init_22 rfl (lv_at hl 0 rfl) ?_
  refine lv_iconst (v := 0) hx hb dX0_init_23 (by decide) ?_
  refine va_put (D := D) (tys := tyl ct) (ci := 0) (v := .int 0) (ty := .int) (C := RX0) (T := TX0) (N := 4) hx hb htl inlX0 tyX0 tyX0_ok nmX0 hown hK hP hD hS 0 rfl rfl 2 (by decide) (htl _ wq_6_11) (fun _ h9 => h9) rfl (tyX0_ok 2 (by decide)) rfl rfl (Nat.le_of_ble_eq_true rfl) dX0_init_24 (fun H_24_13 locs_24_13 hP hD hS => ?_)
  have hP : va_P D vwCl [(h0, .inr (0, [.ref q8_5, .ref q17_9, .int 0, .long 0])), (q8_5, .inl (ct 1, 1240, .inr (.inl (fun _ => 0)))), (q17_9, .inl (ct 1, 1240, .inr (.inl (fun _ => 0))))] H_24_13 := hP
  have hD : va_D AA [(h0, .inr (0, [.ref q8_5, .ref q17_9, .int 0, .long 0])), (q8_5, .inl (ct 1, 1240, .inr (.inl (fun _ => 0)))), (q17_9, .inl (ct 1, 1240, .inr (.inl (fun _ => 0))))] := hD
  refine lv_aload_n hx hb dX0_init_27 rfl (lv_at hl 0 rfl) ?_
  refine lv_lconst (v := 1) hx hb dX0_init_28 (by decide) ?_
  refine va_put (D := D) (tys := tyl ct) (ci := 0) (v := .long 1) (ty := .long) (C := RX0) (T := TX0) (N := 4) hx hb htl inlX0 tyX0 tyX0_ok nmX0 hown hK hP hD hS 0 rfl rfl 3 (by decide) (htl _ wq_6_12) (fun _ h9 => h9) rfl (tyX0_ok 3 (by decide)) rfl rfl (Nat.le_of_ble_eq_true rfl) dX0_init_29 (fun H_29_16 locs_29_16 hP hD hS => ?_)
  have hP : va_P D vwCl [(h0, .inr (0, [.ref q8_5, .ref q17_9, .int 0, .long 1])), (q8_5, .inl (ct 1, 1240, .inr (.inl (fun _ => 0)))), (q17_9, .inl (ct 1, 1240, .inr (.inl (fun _ => 0))))] H_29_16 := hP
  have hD : va_D AA [(h0, .inr (0, [.ref q8_5, .ref q17_9, .int 0, .long 1])), (q8_5, .inl (ct 1, 1240, .inr (.inl (fun _ => 0)))), (q17_9, .inl (ct 1, 1240, .inr (.inl (fun _ => 0))))] := hD
  refine W.widen (k := 2) (n := 2480) (Nat.le_of_ble_eq_true rfl) (Nat.le_of_ble_eq_true rfl) ?_
  exact W.vret hx hb hr (fun t ht hW => ⟨⟨fun i => ([h0, q8_5, q17_9] : List Nat).getD i 0, rfl, trivial, rfl, by rw [ht]; exact hP, hD⟩, hS.F ht⟩) hS.2.2 dX0_init_32
def i_X3 : Ob := (fun _ _ => 0, fun _ _ => 0)
abbrev rm_X3_init : Room := { frames := 1, cells := 1, slots := 60, locals := 12 }
set_option maxHeartbeats 8000000 in
set_option maxRecDepth 100000 in
theorem ci_X3 (l : Launch) (D : va_G) (ct : Nat → ClassId) (G : GT) (h0 sz : Nat) (hG0 : GE G h0) (hGs0 : G.1 ≤ sz) : Met l yX3_init (.code yX3_init cX3_init 1 none :: wsL_law) rm_X3_init (va_Pc [.ref h0] (Bi D ct G [(h0, .inr (3, [.int 0, .int 0, .int 0, .null]))] sz)) (va_Qv (fun _ : Nat → Nat => True) (fun (a : Nat → Nat) t => a 0 = h0 ∧ va_P D vwCl (cs3 ct a i_X3) t.heap ∧ va_D (va_A [(h0, .inr (3, [.int 0, .int 0, .int 0, .null]))] sz) (cs3 ct a i_X3)) (va_A [(h0, .inr (3, [.int 0, .int 0, .int 0, .null]))] sz)) 1 60 (va_A [(h0, .inr (3, [.int 0, .int 0, .int 0, .null]))] sz) := by
  refine Met.ofW (cc := cX3_init) (maxL := 1) (ret := none) (by decide) rfl ?_
  intro p e s m args below meth c s₁ B hml hv
  obtain ⟨rfl, ⟨hP, hK, hN, hX⟩, hsz⟩ := hv
  have hx := B.exec
  have hb := B.bytes
  have hr := B.returns
  have hts := atoms_spec (ws := .code yX3_init cX3_init 1 none :: wsL_law) B.pre
  have htl : ∀ w ∈ wsL_law, w.before _ s = true := fun w h => hts w (List.mem_cons_of_mem _ h)
  have hown : s.vm.findClass RX3 = some m.cls := findClass_of_methodNamed B.named
  have hlocks := B.notSynchronized
  have hin : meth.name = "<init>" := (name_of_methodNamed B.named B.method).1
  subst hsz
  have hD : va_D (va_A [(h0, .inr (3, [.int 0, .int 0, .int 0, .null]))] s.heap.size) [(h0, .inr (3, [.int 0, .int 0, .int 0, .null]))] := va_D.self (A := fun _ => True) ⟨fun i j p q hi hj _ => by
    have h1 := (List.getElem?_eq_some_iff.mp hi).1
    have h2 := (List.getElem?_eq_some_iff.mp hj).1
    simp only [List.length_cons, List.length_nil] at h1 h2
    omega, fun _ _ _ => trivial⟩
  generalize hAe : va_A [(h0, .inr (3, [.int 0, .int 0, .int 0, .null]))] s.heap.size = AA at hD ⊢
  have hA : ∀ q : Nat, s.heap.size ≤ q → AA q := fun q h => by rw [← hAe]; exact Or.inr h
  have hGs : G.1 ≤ s.heap.size := hGs0
  have hGE : ∀ q, AA q → GE G q := by
    intro q h
    rw [← hAe] at h
    rcases h with ⟨k, e, hk⟩ | h
    · match k, hk with
      | 0, hk => cases hk; exact hG0
      | k + 1, hk => simp at hk
    · exact Nat.le_trans hGs h
  have hS : va_S AA s.heap s.heap [] := va_S.rf
  have hl := lv_entry ([.ref h0]) (n := 1) (Nat.le_of_ble_eq_true rfl)
  rw [lg_entry_eq]
  generalize (lg_sl ([.ref h0]) ++ List.replicate (1 - (lg_sl ([.ref h0])).length) Slot.unset).toArray = ls at hl ⊢
  have hl : lv_has ls 1 [(0, .ref h0)] := hl
  refine lv_aload_n hx hb dX3_init_0 rfl (lv_at hl 0 rfl) ?_
  refine W.objInit hx hb hown (htl _ wq_6_15) (htl _ wq_1_11) (htl _ wq_1_12) rfl (by rw [hml]; exact hl.1) rfl dX3_init_1 (Nat.le_of_ble_eq_true rfl) (Nat.le_of_ble_eq_true rfl) ?_
  refine W.eq (g2 := F0 m 4 ls []) rfl ?_
  refine lv_aload_n hx hb dX3_init_4 rfl (lv_at hl 0 rfl) ?_
  refine lv_iconst (v := 0) hx hb dX3_init_5 (by decide) ?_
  refine va_put (D := D) (tys := tyl ct) (ci := 3) (v := .int 0) (ty := .boolean) (C := RX3) (T := TX3) (N := 4) hx hb htl inlX3 tyX3 tyX3_ok nmX3 hown hK hP hD hS 0 rfl rfl 0 (by decide) (htl _ wq_6_16) (fun _ h9 => h9) rfl (tyX3_ok 0 (by decide)) rfl rfl (Nat.le_of_ble_eq_true rfl) dX3_init_6 (fun H_6_5 locs_6_5 hP hD hS => ?_)
  have hP : va_P D vwCl [(h0, .inr (3, [.int 0, .int 0, .int 0, .null]))] H_6_5 := hP
  have hD : va_D AA [(h0, .inr (3, [.int 0, .int 0, .int 0, .null]))] := hD
  refine lv_aload_n hx hb dX3_init_9 rfl (lv_at hl 0 rfl) ?_
  refine lv_iconst (v := 0) hx hb dX3_init_10 (by decide) ?_
  refine va_put (D := D) (tys := tyl ct) (ci := 3) (v := .int 0) (ty := .int) (C := RX3) (T := TX3) (N := 4) hx hb htl inlX3 tyX3 tyX3_ok nmX3 hown hK hP hD hS 0 rfl rfl 1 (by decide) (htl _ wq_6_17) (fun _ h9 => h9) rfl (tyX3_ok 1 (by decide)) rfl rfl (Nat.le_of_ble_eq_true rfl) dX3_init_11 (fun H_11_8 locs_11_8 hP hD hS => ?_)
  have hP : va_P D vwCl [(h0, .inr (3, [.int 0, .int 0, .int 0, .null]))] H_11_8 := hP
  have hD : va_D AA [(h0, .inr (3, [.int 0, .int 0, .int 0, .null]))] := hD
  refine lv_aload_n hx hb dX3_init_14 rfl (lv_at hl 0 rfl) ?_
  refine lv_iconst (v := 0) hx hb dX3_init_15 (by decide) ?_
  refine va_put (D := D) (tys := tyl ct) (ci := 3) (v := .int 0) (ty := .int) (C := RX3) (T := TX3) (N := 4) hx hb htl inlX3 tyX3 tyX3_ok nmX3 hown hK hP hD hS 0 rfl rfl 2 (by decide) (htl _ wq_6_18) (fun _ h9 => h9) rfl (tyX3_ok 2 (by decide)) rfl rfl (Nat.le_of_ble_eq_true rfl) dX3_init_16 (fun H_16_11 locs_16_11 hP hD hS => ?_)
  have hP : va_P D vwCl [(h0, .inr (3, [.int 0, .int 0, .int 0, .null]))] H_16_11 := hP
  have hD : va_D AA [(h0, .inr (3, [.int 0, .int 0, .int 0, .null]))] := hD
  refine lv_aload_n hx hb dX3_init_19 rfl (lv_at hl 0 rfl) ?_
  refine lv_bipush (v := 60) hx hb dX3_init_20 (by decide) ?_
  refine va_newa (D := D) (tys := tyl ct) (atype := .long) (ty := .long) (N' := 60) (a0 := (60, .inr (.inl (fun _ => 0)))) hx hb (htl _ wq_6_8) rfl hK hP hD hS hA (fun _ => rfl) (by decide) (by decide) (by decide) (Nat.le_of_ble_eq_true rfl) (Nat.le_of_ble_eq_true rfl) dX3_init_22 (fun q22_14 cA H_22_14 hK1 hP hD hS => ?_)
  obtain rfl := ct_eq1 hK1
  clear hK1
  have hP : va_P D vwCl [(h0, .inr (3, [.int 0, .int 0, .int 0, .null])), (q22_14, .inl (ct 1, 60, .inr (.inl (fun _ => 0))))] H_22_14 := hP
  have hD : va_D AA [(h0, .inr (3, [.int 0, .int 0, .int 0, .null])), (q22_14, .inl (ct 1, 60, .inr (.inl (fun _ => 0))))] := hD
  refine va_putF (D := D) (tys := tyl ct) (ci := 3) (v := .ref q22_14) (ty := (.array .long)) (C := RX3) (T := TX3) (N := 4) hx hb htl inlX3 tyX3 tyX3_ok nmX3 hown hK hP hD hS 0 rfl rfl 3 (by decide) (htl _ wq_6_19) (fun _ h9 => h9) rfl hin rfl (tyX3_ok 3 (by decide)) rfl rfl (Nat.le_of_ble_eq_true rfl) dX3_init_24 (fun H_24_15 locs_24_15 hP hD hS => ?_)
  have hP : va_P D vwCl [(h0, .inr (3, [.int 0, .int 0, .int 0, .ref q22_14])), (q22_14, .inl (ct 1, 60, .inr (.inl (fun _ => 0))))] H_24_15 := hP
  have hD : va_D AA [(h0, .inr (3, [.int 0, .int 0, .int 0, .ref q22_14])), (q22_14, .inl (ct 1, 60, .inr (.inl (fun _ => 0))))] := hD
  refine W.widen (k := 1) (n := 60) (Nat.le_of_ble_eq_true rfl) (Nat.le_of_ble_eq_true rfl) ?_
  exact W.vret hx hb hr (fun t ht hW => ⟨⟨fun i => ([h0, q22_14] : List Nat).getD i 0, rfl, trivial, rfl, by rw [ht]; exact hP, hD⟩, hS.F ht⟩) hS.2.2 dX3_init_27
theorem cwi_X1_X7 {R : Room} {s : State} {args : Array Value} (ht : ∀ w ∈ wsL_law, w.before args s = true) (hN : ∀ w ∈ NW, va_Nw w s) (hR : rm_X7_init.frames + 1 ≤ R.frames ∧ 8 + (1 + 11) + rm_X7_init.locals ≤ R.locals) : va_CN R s args RX1 11 yX7_init "QuotedRiver" cX7_init 1 none (.code yX7_init cX7_init 1 none :: wsL_law) rm_X7_init rm_X7_init.cells rm_X7_init.slots 0 ∧ yX7_init.name = "<init>" ∧ (Cond.instanceMethod yX7_init).before args s = true := ⟨va_cnB 0 ht (GL wq_3_23) rfl rfl rfl (hN _ nm_113) (ht _ wq_3_14) (by decide +kernel) hR, rfl, ht _ wq_3_22⟩
theorem cwi_X1_X2 {R : Room} {s : State} {args : Array Value} (ht : ∀ w ∈ wsL_law, w.before args s = true) (hN : ∀ w ∈ NW, va_Nw w s) (hR : rm_X2_init.frames + 1 ≤ R.frames ∧ 8 + (1 + 11) + rm_X2_init.locals ≤ R.locals) : va_CN R s args RX1 20 yX2_init "QuotedRiver" cX2_init 1 none (.code yX2_init cX2_init 1 none :: wsL_law) rm_X2_init rm_X2_init.cells rm_X2_init.slots 0 ∧ yX2_init.name = "<init>" ∧ (Cond.instanceMethod yX2_init).before args s = true := ⟨va_cnB 0 ht (GL wq_4_6) rfl rfl rfl (hN _ nm_114) (ht _ wq_1_23) (by decide +kernel) hR, rfl, ht _ wq_4_5⟩
def i_X1o : Ob := (fun f _ => match f with | 3 => (-1) | _ => 0, fun _ _ => 0)
abbrev rm_X1_init : Room := { frames := 2, cells := 17, slots := 2277, locals := 32 }
set_option maxHeartbeats 8000000 in
set_option maxRecDepth 100000 in
theorem ci_X1 (l : Launch) (D : va_G) (ct : Nat → ClassId) (G : GT) (h0 sz : Nat) (hG0 : GE G h0) (hGs0 : G.1 ≤ sz) : Met l yX1_init (.code yX1_init cX1_init 1 none :: wsL_law) rm_X1_init (va_Pc [.ref h0] (Bi D ct G [(h0, .inr (1, [.null, .null, .int 0, .int 0, .int 0, .int 0]))] sz)) (va_Qv (fun _ : Nat → Nat => True) (fun (a : Nat → Nat) t => a 0 = h0 ∧ va_P D vwCl (cs1 ct a i_X1o i_X7 i_X2) t.heap ∧ va_D (va_A [(h0, .inr (1, [.null, .null, .int 0, .int 0, .int 0, .int 0]))] sz) (cs1 ct a i_X1o i_X7 i_X2)) (va_A [(h0, .inr (1, [.null, .null, .int 0, .int 0, .int 0, .int 0]))] sz)) 17 2277 (va_A [(h0, .inr (1, [.null, .null, .int 0, .int 0, .int 0, .int 0]))] sz) := by
  refine Met.ofW (cc := cX1_init) (maxL := 1) (ret := none) (by decide) rfl ?_
  intro p e s m args below meth c s₁ B hml hv
  obtain ⟨rfl, ⟨hP, hK, hN, hX⟩, hsz⟩ := hv
  have hx := B.exec
  have hb := B.bytes
  have hr := B.returns
  have hts := atoms_spec (ws := .code yX1_init cX1_init 1 none :: wsL_law) B.pre
  have htl : ∀ w ∈ wsL_law, w.before _ s = true := fun w h => hts w (List.mem_cons_of_mem _ h)
  have hown : s.vm.findClass RX1 = some m.cls := findClass_of_methodNamed B.named
  have hlocks := B.notSynchronized
  have hin : meth.name = "<init>" := (name_of_methodNamed B.named B.method).1
  subst hsz
  have hD : va_D (va_A [(h0, .inr (1, [.null, .null, .int 0, .int 0, .int 0, .int 0]))] s.heap.size) [(h0, .inr (1, [.null, .null, .int 0, .int 0, .int 0, .int 0]))] := va_D.self (A := fun _ => True) ⟨fun i j p q hi hj _ => by
    have h1 := (List.getElem?_eq_some_iff.mp hi).1
    have h2 := (List.getElem?_eq_some_iff.mp hj).1
    simp only [List.length_cons, List.length_nil] at h1 h2
    omega, fun _ _ _ => trivial⟩
  generalize hAe : va_A [(h0, .inr (1, [.null, .null, .int 0, .int 0, .int 0, .int 0]))] s.heap.size = AA at hD ⊢
  have hA : ∀ q : Nat, s.heap.size ≤ q → AA q := fun q h => by rw [← hAe]; exact Or.inr h
  have hGs : G.1 ≤ s.heap.size := hGs0
  have hGE : ∀ q, AA q → GE G q := by
    intro q h
    rw [← hAe] at h
    rcases h with ⟨k, e, hk⟩ | h
    · match k, hk with
      | 0, hk => cases hk; exact hG0
      | k + 1, hk => simp at hk
    · exact Nat.le_trans hGs h
  have hS : va_S AA s.heap s.heap [] := va_S.rf
  have hl := lv_entry ([.ref h0]) (n := 1) (Nat.le_of_ble_eq_true rfl)
  rw [lg_entry_eq]
  generalize (lg_sl ([.ref h0]) ++ List.replicate (1 - (lg_sl ([.ref h0])).length) Slot.unset).toArray = ls at hl ⊢
  have hl : lv_has ls 1 [(0, .ref h0)] := hl
  refine lv_aload_n hx hb dX1_init_0 rfl (lv_at hl 0 rfl) ?_
  refine W.objInit hx hb hown (htl _ wq_3_11) (htl _ wq_1_11) (htl _ wq_1_12) rfl (by rw [hml]; exact hl.1) rfl dX1_init_1 (Nat.le_of_ble_eq_true rfl) (Nat.le_of_ble_eq_true rfl) ?_
  refine W.eq (g2 := F0 m 4 ls []) rfl ?_
  refine lv_aload_n hx hb dX1_init_4 rfl (lv_at hl 0 rfl) ?_
  refine va_new (D := D) (tys := tyl ct) (ci := 7) (fs := [.null, .null, .null, .int 0]) (C := RX7) (T := TX7) (N := 4) hx hb htl inlX7 tyX7 tyX7_ok hown (htl _ wq_3_12) (htl _ wq_3_13) (htl _ wq_3_14) hK hP hD hS hA rfl (def_X7) (Nat.le_of_ble_eq_true rfl) (Nat.le_of_ble_eq_true rfl) dX1_init_5 (fun q5_4 H_5_4 hP hD hS => ?_)
  have hP : va_P D vwCl [(h0, .inr (1, [.null, .null, .int 0, .int 0, .int 0, .int 0])), (q5_4, .inr (7, [.null, .null, .null, .int 0]))] H_5_4 := hP
  have hD : va_D AA [(h0, .inr (1, [.null, .null, .int 0, .int 0, .int 0, .int 0])), (q5_4, .inr (7, [.null, .null, .null, .int 0]))] := hD
  refine lv_dup hx hb dX1_init_8 rfl ?_
  have hPc := hP.sub (ws' := [(q5_4, .inr (7, [.null, .null, .null, .int 0]))]) [1] rfl
  have hFc := va_free (wc := [(q5_4, .inr (7, [.null, .null, .null, .int 0]))]) hD hS hA [1] rfl
  refine va_callv (va_runIN (As := []) (rest := [.ref q5_4, .ref h0]) ⟨hx, hb, hml, hown, htl⟩ (ci_X7 l D ct G q5_4 H_5_4.size (hGE _ (hD.2 1 _ rfl)) (Nat.le_trans hGs hS.1)) (cwi_X1_X7 htl hN ⟨Nat.le_of_ble_eq_true rfl, Nat.le_of_ble_eq_true rfl⟩) ⟨Bi_blind, Bi_pre hPc hK hN (hX.stay hS hGE)⟩ rfl rfl hl.1 rfl (lv_room (Nat.le_of_ble_eq_true rfl)) dX1_init_9 ⟨Nat.le_of_ble_eq_true rfl, Nat.le_of_ble_eq_true rfl⟩) hS (fun q _ h => hFc q h) hFc (fun a9_6 t H_9_6 locs_9_6 ht hvm hw hB hz1 hk1 hS => ?_)
  obtain ⟨e0_9_6, hP1, hD1⟩ := hB
  rw [ht] at hP1
  obtain ⟨hP, hD⟩ := va_join (wr := [(h0, .inr (1, [.null, .null, .int 0, .int 0, .int 0, .int 0]))]) (w1 := cs7 ct a9_6 i_X7) hP hD [1] [0] rfl rfl (by decide) (by decide) hk1 hFc hP1 hD1
  rw [← e0_9_6]
  have hP : va_P D vwCl (wapp [(h0, .inr (1, [.null, .null, .int 0, .int 0, .int 0, .int 0]))] (cs7 ct a9_6 i_X7)) H_9_6 := hP
  have hD : va_D AA (wapp [(h0, .inr (1, [.null, .null, .int 0, .int 0, .int 0, .int 0]))] (cs7 ct a9_6 i_X7)) := hD
  refine W.eq (g2 := F0 m 12 ls [.ref (a9_6 0), .ref h0]) rfl ?_
  refine va_putF (D := D) (tys := tyl ct) (ci := 1) (v := .ref (a9_6 0)) (ty := (.object "QuotedRiver$Tokens")) (C := RX1) (T := TX1) (N := 6) hx hb htl inlX1 tyX1 tyX1_ok nmX1 hown hK hP hD hS 0 rfl rfl 0 (by decide) (htl _ wq_3_15) (fun _ h9 => h9) rfl hin rfl (tyX1_ok 0 (by decide)) rfl rfl (Nat.le_of_ble_eq_true rfl) dX1_init_12 (fun H_12_7 locs_12_7 hP hD hS => ?_)
  have hP : va_P D vwCl (wapp [(h0, .inr (1, [.ref (a9_6 0), .null, .int 0, .int 0, .int 0, .int 0]))] (cs7 ct a9_6 i_X7)) H_12_7 := hP
  have hD : va_D AA (wapp [(h0, .inr (1, [.ref (a9_6 0), .null, .int 0, .int 0, .int 0, .int 0]))] (cs7 ct a9_6 i_X7)) := hD
  refine lv_aload_n hx hb dX1_init_15 rfl (lv_at hl 0 rfl) ?_
  refine va_new (D := D) (tys := tyl ct) (ci := 2) (fs := [.int 0, .int 0, .int 0, .int 0, .int 0, .null, .null, .null, .int 0, .null, .null, .null, .null, .int 0, .null, .null, .int 0, .null, .null, .null]) (C := RX2) (T := TX2) (N := 20) hx hb htl inlX2 tyX2 tyX2_ok hown (htl _ wq_3_16) (htl _ wq_1_22) (htl _ wq_1_23) hK hP hD hS hA rfl (def_X2) (Nat.le_of_ble_eq_true rfl) (Nat.le_of_ble_eq_true rfl) dX1_init_16 (fun q16_9 H_16_9 hP hD hS => ?_)
  have hP : va_P D vwCl (wapp (wapp [(h0, .inr (1, [.ref (a9_6 0), .null, .int 0, .int 0, .int 0, .int 0]))] (cs7 ct a9_6 i_X7)) [(q16_9, .inr (2, [.int 0, .int 0, .int 0, .int 0, .int 0, .null, .null, .null, .int 0, .null, .null, .null, .null, .int 0, .null, .null, .int 0, .null, .null, .null]))]) H_16_9 := hP
  have hD : va_D AA (wapp (wapp [(h0, .inr (1, [.ref (a9_6 0), .null, .int 0, .int 0, .int 0, .int 0]))] (cs7 ct a9_6 i_X7)) [(q16_9, .inr (2, [.int 0, .int 0, .int 0, .int 0, .int 0, .null, .null, .null, .int 0, .null, .null, .null, .null, .int 0, .null, .null, .int 0, .null, .null, .null]))]) := hD
  refine lv_dup hx hb dX1_init_19 rfl ?_
  have hPc := hP.sub (ws' := [(q16_9, .inr (2, [.int 0, .int 0, .int 0, .int 0, .int 0, .null, .null, .null, .int 0, .null, .null, .null, .null, .int 0, .null, .null, .int 0, .null, .null, .null]))]) [5] rfl
  have hFc := va_free (wc := [(q16_9, .inr (2, [.int 0, .int 0, .int 0, .int 0, .int 0, .null, .null, .null, .int 0, .null, .null, .null, .null, .int 0, .null, .null, .int 0, .null, .null, .null]))]) hD hS hA [5] rfl
  refine va_callv (va_runIN (As := []) (rest := [.ref q16_9, .ref h0]) ⟨hx, hb, hml, hown, htl⟩ (ci_X2 l D ct G q16_9 H_16_9.size (hGE _ (hD.2 5 _ rfl)) (Nat.le_trans hGs hS.1)) (cwi_X1_X2 htl hN ⟨Nat.le_of_ble_eq_true rfl, Nat.le_of_ble_eq_true rfl⟩) ⟨Bi_blind, Bi_pre hPc hK hN (hX.stay hS hGE)⟩ rfl rfl hl.1 rfl (lv_room (Nat.le_of_ble_eq_true rfl)) dX1_init_20 ⟨Nat.le_of_ble_eq_true rfl, Nat.le_of_ble_eq_true rfl⟩) hS (fun q _ h => hFc q h) hFc (fun a20_11 t H_20_11 locs_20_11 ht hvm hw hB hz1 hk1 hS => ?_)
  obtain ⟨e0_20_11, hP1, hD1⟩ := hB
  rw [ht] at hP1
  obtain ⟨hP, hD⟩ := va_join (wr := (wapp [(h0, .inr (1, [.ref (a9_6 0), .null, .int 0, .int 0, .int 0, .int 0]))] (cs7 ct a9_6 i_X7))) (w1 := cs2 ct a20_11 i_X2) hP hD [5] [0, 1, 2, 3, 4] rfl rfl (by decide) (by decide) hk1 hFc hP1 hD1
  rw [← e0_20_11]
  have hP : va_P D vwCl (wapp (wapp [(h0, .inr (1, [.ref (a9_6 0), .null, .int 0, .int 0, .int 0, .int 0]))] (cs7 ct a9_6 i_X7)) (cs2 ct a20_11 i_X2)) H_20_11 := hP
  have hD : va_D AA (wapp (wapp [(h0, .inr (1, [.ref (a9_6 0), .null, .int 0, .int 0, .int 0, .int 0]))] (cs7 ct a9_6 i_X7)) (cs2 ct a20_11 i_X2)) := hD
  refine W.eq (g2 := F0 m 23 ls [.ref (a20_11 0), .ref h0]) rfl ?_
  refine va_putF (D := D) (tys := tyl ct) (ci := 1) (v := .ref (a20_11 0)) (ty := (.object "QuotedRiver$Rivers")) (C := RX1) (T := TX1) (N := 6) hx hb htl inlX1 tyX1 tyX1_ok nmX1 hown hK hP hD hS 0 rfl rfl 1 (by decide) (htl _ wq_3_17) (fun _ h9 => h9) rfl hin rfl (tyX1_ok 1 (by decide)) rfl rfl (Nat.le_of_ble_eq_true rfl) dX1_init_23 (fun H_23_12 locs_23_12 hP hD hS => ?_)
  have hP : va_P D vwCl (wapp (wapp [(h0, .inr (1, [.ref (a9_6 0), .ref (a20_11 0), .int 0, .int 0, .int 0, .int 0]))] (cs7 ct a9_6 i_X7)) (cs2 ct a20_11 i_X2)) H_23_12 := hP
  have hD : va_D AA (wapp (wapp [(h0, .inr (1, [.ref (a9_6 0), .ref (a20_11 0), .int 0, .int 0, .int 0, .int 0]))] (cs7 ct a9_6 i_X7)) (cs2 ct a20_11 i_X2)) := hD
  refine lv_aload_n hx hb dX1_init_26 rfl (lv_at hl 0 rfl) ?_
  refine lv_iconst (v := 0) hx hb dX1_init_27 (by decide) ?_
  refine va_put (D := D) (tys := tyl ct) (ci := 1) (v := .int 0) (ty := .int) (C := RX1) (T := TX1) (N := 6) hx hb htl inlX1 tyX1 tyX1_ok nmX1 hown hK hP hD hS 0 rfl rfl 2 (by decide) (htl _ wq_3_18) (fun _ h9 => h9) rfl (tyX1_ok 2 (by decide)) rfl rfl (Nat.le_of_ble_eq_true rfl) dX1_init_28 (fun H_28_15 locs_28_15 hP hD hS => ?_)
  have hP : va_P D vwCl (wapp (wapp [(h0, .inr (1, [.ref (a9_6 0), .ref (a20_11 0), .int 0, .int 0, .int 0, .int 0]))] (cs7 ct a9_6 i_X7)) (cs2 ct a20_11 i_X2)) H_28_15 := hP
  have hD : va_D AA (wapp (wapp [(h0, .inr (1, [.ref (a9_6 0), .ref (a20_11 0), .int 0, .int 0, .int 0, .int 0]))] (cs7 ct a9_6 i_X7)) (cs2 ct a20_11 i_X2)) := hD
  refine lv_aload_n hx hb dX1_init_31 rfl (lv_at hl 0 rfl) ?_
  refine lv_iconst (v := (-1)) hx hb dX1_init_32 (by decide) ?_
  refine va_put (D := D) (tys := tyl ct) (ci := 1) (v := .int (-1)) (ty := .int) (C := RX1) (T := TX1) (N := 6) hx hb htl inlX1 tyX1 tyX1_ok nmX1 hown hK hP hD hS 0 rfl rfl 3 (by decide) (htl _ wq_3_19) (fun _ h9 => h9) rfl (tyX1_ok 3 (by decide)) rfl rfl (Nat.le_of_ble_eq_true rfl) dX1_init_33 (fun H_33_18 locs_33_18 hP hD hS => ?_)
  have hP : va_P D vwCl (wapp (wapp [(h0, .inr (1, [.ref (a9_6 0), .ref (a20_11 0), .int 0, .int (-1), .int 0, .int 0]))] (cs7 ct a9_6 i_X7)) (cs2 ct a20_11 i_X2)) H_33_18 := hP
  have hD : va_D AA (wapp (wapp [(h0, .inr (1, [.ref (a9_6 0), .ref (a20_11 0), .int 0, .int (-1), .int 0, .int 0]))] (cs7 ct a9_6 i_X7)) (cs2 ct a20_11 i_X2)) := hD
  refine lv_aload_n hx hb dX1_init_36 rfl (lv_at hl 0 rfl) ?_
  refine lv_iconst (v := 0) hx hb dX1_init_37 (by decide) ?_
  refine va_put (D := D) (tys := tyl ct) (ci := 1) (v := .int 0) (ty := .int) (C := RX1) (T := TX1) (N := 6) hx hb htl inlX1 tyX1 tyX1_ok nmX1 hown hK hP hD hS 0 rfl rfl 4 (by decide) (htl _ wq_3_20) (fun _ h9 => h9) rfl (tyX1_ok 4 (by decide)) rfl rfl (Nat.le_of_ble_eq_true rfl) dX1_init_38 (fun H_38_21 locs_38_21 hP hD hS => ?_)
  have hP : va_P D vwCl (wapp (wapp [(h0, .inr (1, [.ref (a9_6 0), .ref (a20_11 0), .int 0, .int (-1), .int 0, .int 0]))] (cs7 ct a9_6 i_X7)) (cs2 ct a20_11 i_X2)) H_38_21 := hP
  have hD : va_D AA (wapp (wapp [(h0, .inr (1, [.ref (a9_6 0), .ref (a20_11 0), .int 0, .int (-1), .int 0, .int 0]))] (cs7 ct a9_6 i_X7)) (cs2 ct a20_11 i_X2)) := hD
  refine lv_aload_n hx hb dX1_init_41 rfl (lv_at hl 0 rfl) ?_
  refine lv_iconst (v := 0) hx hb dX1_init_42 (by decide) ?_
  refine va_put (D := D) (tys := tyl ct) (ci := 1) (v := .int 0) (ty := .int) (C := RX1) (T := TX1) (N := 6) hx hb htl inlX1 tyX1 tyX1_ok nmX1 hown hK hP hD hS 0 rfl rfl 5 (by decide) (htl _ wq_3_21) (fun _ h9 => h9) rfl (tyX1_ok 5 (by decide)) rfl rfl (Nat.le_of_ble_eq_true rfl) dX1_init_43 (fun H_43_24 locs_43_24 hP hD hS => ?_)
  have hP : va_P D vwCl (wapp (wapp [(h0, .inr (1, [.ref (a9_6 0), .ref (a20_11 0), .int 0, .int (-1), .int 0, .int 0]))] (cs7 ct a9_6 i_X7)) (cs2 ct a20_11 i_X2)) H_43_24 := hP
  have hD : va_D AA (wapp (wapp [(h0, .inr (1, [.ref (a9_6 0), .ref (a20_11 0), .int 0, .int (-1), .int 0, .int 0]))] (cs7 ct a9_6 i_X7)) (cs2 ct a20_11 i_X2)) := hD
  refine W.widen (k := 17) (n := 2277) (Nat.le_of_ble_eq_true rfl) (Nat.le_of_ble_eq_true rfl) ?_
  exact W.vret hx hb hr (fun t ht hW => ⟨⟨fun i => ([h0, a9_6 0, a9_6 1, a9_6 2, a9_6 3, a20_11 0, a20_11 1, a20_11 2, a20_11 3, a20_11 4, a20_11 5, a20_11 6, a20_11 7, a20_11 8, a20_11 9, a20_11 10, a20_11 11, a20_11 12] : List Nat).getD i 0, rfl, trivial, rfl, by rw [ht]; exact hP, hD⟩, hS.F ht⟩) hS.2.2 dX1_init_46
def i_X10 : Ob := (fun f => match f with | 13 => fun _ => -1 | 38 => upd (upd (upd (upd (fun _ => 0) 0 (-1)) 1 (-1)) 2 (-1)) 3 (-1) | _ => fun _ => 0, fun _ _ => 0)
abbrev rm_X10_init : Room := { frames := 1, cells := 23, slots := 42312, locals := 12 }
set_option maxHeartbeats 8000000 in
set_option maxRecDepth 100000 in
theorem ci_X10 (l : Launch) (D : va_G) (ct : Nat → ClassId) (G : GT) (h0 sz : Nat) (hG0 : GE G h0) (hGs0 : G.1 ≤ sz) : Met l yX10_init (.code yX10_init cX10_init 1 none :: wsL_law) rm_X10_init (va_Pc [.ref h0] (Bi D ct G [(h0, .inr (10, [.int 0, .null, .null, .null, .null, .int 0, .null, .int 0, .int 0, .int 0, .int 0, .int 0, .int 0, .int 0, .null, .null, .null, .null, .null, .null, .int 0, .int 0, .null, .null, .int 0, .int 0, .int 0, .null, .null, .int 0, .null, .null, .int 0, .int 0, .int 0, .null, .null, .int 0, .null, .null, .null, .null]))] sz)) (va_Qv (fun _ : Nat → Nat => True) (fun (a : Nat → Nat) t => a 0 = h0 ∧ va_P D vwCl (cs10 ct a i_X10) t.heap ∧ va_D (va_A [(h0, .inr (10, [.int 0, .null, .null, .null, .null, .int 0, .null, .int 0, .int 0, .int 0, .int 0, .int 0, .int 0, .int 0, .null, .null, .null, .null, .null, .null, .int 0, .int 0, .null, .null, .int 0, .int 0, .int 0, .null, .null, .int 0, .null, .null, .int 0, .int 0, .int 0, .null, .null, .int 0, .null, .null, .null, .null]))] sz) (cs10 ct a i_X10)) (va_A [(h0, .inr (10, [.int 0, .null, .null, .null, .null, .int 0, .null, .int 0, .int 0, .int 0, .int 0, .int 0, .int 0, .int 0, .null, .null, .null, .null, .null, .null, .int 0, .int 0, .null, .null, .int 0, .int 0, .int 0, .null, .null, .int 0, .null, .null, .int 0, .int 0, .int 0, .null, .null, .int 0, .null, .null, .null, .null]))] sz)) 23 42312 (va_A [(h0, .inr (10, [.int 0, .null, .null, .null, .null, .int 0, .null, .int 0, .int 0, .int 0, .int 0, .int 0, .int 0, .int 0, .null, .null, .null, .null, .null, .null, .int 0, .int 0, .null, .null, .int 0, .int 0, .int 0, .null, .null, .int 0, .null, .null, .int 0, .int 0, .int 0, .null, .null, .int 0, .null, .null, .null, .null]))] sz) := by
  refine Met.ofW (cc := cX10_init) (maxL := 1) (ret := none) (by decide) rfl ?_
  intro p e s m args below meth c s₁ B hml hv
  obtain ⟨rfl, ⟨hP, hK, hN, hX⟩, hsz⟩ := hv
  have hx := B.exec
  have hb := B.bytes
  have hr := B.returns
  have hts := atoms_spec (ws := .code yX10_init cX10_init 1 none :: wsL_law) B.pre
  have htl : ∀ w ∈ wsL_law, w.before _ s = true := fun w h => hts w (List.mem_cons_of_mem _ h)
  have hown : s.vm.findClass RX10 = some m.cls := findClass_of_methodNamed B.named
  have hlocks := B.notSynchronized
  have hin : meth.name = "<init>" := (name_of_methodNamed B.named B.method).1
  subst hsz
  have hD : va_D (va_A [(h0, .inr (10, [.int 0, .null, .null, .null, .null, .int 0, .null, .int 0, .int 0, .int 0, .int 0, .int 0, .int 0, .int 0, .null, .null, .null, .null, .null, .null, .int 0, .int 0, .null, .null, .int 0, .int 0, .int 0, .null, .null, .int 0, .null, .null, .int 0, .int 0, .int 0, .null, .null, .int 0, .null, .null, .null, .null]))] s.heap.size) [(h0, .inr (10, [.int 0, .null, .null, .null, .null, .int 0, .null, .int 0, .int 0, .int 0, .int 0, .int 0, .int 0, .int 0, .null, .null, .null, .null, .null, .null, .int 0, .int 0, .null, .null, .int 0, .int 0, .int 0, .null, .null, .int 0, .null, .null, .int 0, .int 0, .int 0, .null, .null, .int 0, .null, .null, .null, .null]))] := va_D.self (A := fun _ => True) ⟨fun i j p q hi hj _ => by
    have h1 := (List.getElem?_eq_some_iff.mp hi).1
    have h2 := (List.getElem?_eq_some_iff.mp hj).1
    simp only [List.length_cons, List.length_nil] at h1 h2
    omega, fun _ _ _ => trivial⟩
  generalize hAe : va_A [(h0, .inr (10, [.int 0, .null, .null, .null, .null, .int 0, .null, .int 0, .int 0, .int 0, .int 0, .int 0, .int 0, .int 0, .null, .null, .null, .null, .null, .null, .int 0, .int 0, .null, .null, .int 0, .int 0, .int 0, .null, .null, .int 0, .null, .null, .int 0, .int 0, .int 0, .null, .null, .int 0, .null, .null, .null, .null]))] s.heap.size = AA at hD ⊢
  have hA : ∀ q : Nat, s.heap.size ≤ q → AA q := fun q h => by rw [← hAe]; exact Or.inr h
  have hGs : G.1 ≤ s.heap.size := hGs0
  have hGE : ∀ q, AA q → GE G q := by
    intro q h
    rw [← hAe] at h
    rcases h with ⟨k, e, hk⟩ | h
    · match k, hk with
      | 0, hk => cases hk; exact hG0
      | k + 1, hk => simp at hk
    · exact Nat.le_trans hGs h
  have hS : va_S AA s.heap s.heap [] := va_S.rf
  have hl := lv_entry ([.ref h0]) (n := 1) (Nat.le_of_ble_eq_true rfl)
  rw [lg_entry_eq]
  generalize (lg_sl ([.ref h0]) ++ List.replicate (1 - (lg_sl ([.ref h0])).length) Slot.unset).toArray = ls at hl ⊢
  have hl : lv_has ls 1 [(0, .ref h0)] := hl
  refine lv_aload_n hx hb dX10_init_0 rfl (lv_at hl 0 rfl) ?_
  refine W.objInit hx hb hown (htl _ wq_6_23) (htl _ wq_1_11) (htl _ wq_1_12) rfl (by rw [hml]; exact hl.1) rfl dX10_init_1 (Nat.le_of_ble_eq_true rfl) (Nat.le_of_ble_eq_true rfl) ?_
  refine W.eq (g2 := F0 m 4 ls []) rfl ?_
  refine lv_aload_n hx hb dX10_init_4 rfl (lv_at hl 0 rfl) ?_
  refine lv_bipush (v := 98) hx hb dX10_init_5 (by decide) ?_
  refine va_newa (D := D) (tys := tyl ct) (atype := .int) (ty := .int) (N' := 98) (a0 := (98, .inl (fun _ => 0))) hx hb (htl _ wq_3_0) rfl hK hP hD hS hA (fun _ => rfl) (by decide) (by decide) (by decide) (Nat.le_of_ble_eq_true rfl) (Nat.le_of_ble_eq_true rfl) dX10_init_7 (fun q7_5 cA H_7_5 hK1 hP hD hS => ?_)
  obtain rfl := ct_eq0 hK1
  clear hK1
  have hP : va_P D vwCl [(h0, .inr (10, [.int 0, .null, .null, .null, .null, .int 0, .null, .int 0, .int 0, .int 0, .int 0, .int 0, .int 0, .int 0, .null, .null, .null, .null, .null, .null, .int 0, .int 0, .null, .null, .int 0, .int 0, .int 0, .null, .null, .int 0, .null, .null, .int 0, .int 0, .int 0, .null, .null, .int 0, .null, .null, .null, .null])), (q7_5, .inl (ct 0, 98, .inl (fun _ => 0)))] H_7_5 := hP
  have hD : va_D AA [(h0, .inr (10, [.int 0, .null, .null, .null, .null, .int 0, .null, .int 0, .int 0, .int 0, .int 0, .int 0, .int 0, .int 0, .null, .null, .null, .null, .null, .null, .int 0, .int 0, .null, .null, .int 0, .int 0, .int 0, .null, .null, .int 0, .null, .null, .int 0, .int 0, .int 0, .null, .null, .int 0, .null, .null, .null, .null])), (q7_5, .inl (ct 0, 98, .inl (fun _ => 0)))] := hD
  refine va_putF (D := D) (tys := tyl ct) (ci := 10) (v := .ref q7_5) (ty := (.array .int)) (C := RX10) (T := TX10) (N := 42) hx hb htl inlX10 tyX10 tyX10_ok nmX10 hown hK hP hD hS 0 rfl rfl 1 (by decide) (htl _ wq_7_0) (fun _ h9 => h9) rfl hin rfl (tyX10_ok 1 (by decide)) rfl rfl (Nat.le_of_ble_eq_true rfl) dX10_init_9 (fun H_9_6 locs_9_6 hP hD hS => ?_)
  have hP : va_P D vwCl [(h0, .inr (10, [.int 0, .ref q7_5, .null, .null, .null, .int 0, .null, .int 0, .int 0, .int 0, .int 0, .int 0, .int 0, .int 0, .null, .null, .null, .null, .null, .null, .int 0, .int 0, .null, .null, .int 0, .int 0, .int 0, .null, .null, .int 0, .null, .null, .int 0, .int 0, .int 0, .null, .null, .int 0, .null, .null, .null, .null])), (q7_5, .inl (ct 0, 98, .inl (fun _ => 0)))] H_9_6 := hP
  have hD : va_D AA [(h0, .inr (10, [.int 0, .ref q7_5, .null, .null, .null, .int 0, .null, .int 0, .int 0, .int 0, .int 0, .int 0, .int 0, .int 0, .null, .null, .null, .null, .null, .null, .int 0, .int 0, .null, .null, .int 0, .int 0, .int 0, .null, .null, .int 0, .null, .null, .int 0, .int 0, .int 0, .null, .null, .int 0, .null, .null, .null, .null])), (q7_5, .inl (ct 0, 98, .inl (fun _ => 0)))] := hD
  refine lv_aload_n hx hb dX10_init_12 rfl (lv_at hl 0 rfl) ?_
  refine lv_sipush (v := 294) hx hb dX10_init_13 (by decide) ?_
  refine va_newa (D := D) (tys := tyl ct) (atype := .int) (ty := .int) (N' := 294) (a0 := (294, .inl (fun _ => 0))) hx hb (htl _ wq_3_0) rfl hK hP hD hS hA (fun _ => rfl) (by decide) (by decide) (by decide) (Nat.le_of_ble_eq_true rfl) (Nat.le_of_ble_eq_true rfl) dX10_init_16 (fun q16_9 cA H_16_9 hK1 hP hD hS => ?_)
  obtain rfl := ct_eq0 hK1
  clear hK1
  have hP : va_P D vwCl [(h0, .inr (10, [.int 0, .ref q7_5, .null, .null, .null, .int 0, .null, .int 0, .int 0, .int 0, .int 0, .int 0, .int 0, .int 0, .null, .null, .null, .null, .null, .null, .int 0, .int 0, .null, .null, .int 0, .int 0, .int 0, .null, .null, .int 0, .null, .null, .int 0, .int 0, .int 0, .null, .null, .int 0, .null, .null, .null, .null])), (q7_5, .inl (ct 0, 98, .inl (fun _ => 0))), (q16_9, .inl (ct 0, 294, .inl (fun _ => 0)))] H_16_9 := hP
  have hD : va_D AA [(h0, .inr (10, [.int 0, .ref q7_5, .null, .null, .null, .int 0, .null, .int 0, .int 0, .int 0, .int 0, .int 0, .int 0, .int 0, .null, .null, .null, .null, .null, .null, .int 0, .int 0, .null, .null, .int 0, .int 0, .int 0, .null, .null, .int 0, .null, .null, .int 0, .int 0, .int 0, .null, .null, .int 0, .null, .null, .null, .null])), (q7_5, .inl (ct 0, 98, .inl (fun _ => 0))), (q16_9, .inl (ct 0, 294, .inl (fun _ => 0)))] := hD
  refine va_putF (D := D) (tys := tyl ct) (ci := 10) (v := .ref q16_9) (ty := (.array .int)) (C := RX10) (T := TX10) (N := 42) hx hb htl inlX10 tyX10 tyX10_ok nmX10 hown hK hP hD hS 0 rfl rfl 2 (by decide) (htl _ wq_7_1) (fun _ h9 => h9) rfl hin rfl (tyX10_ok 2 (by decide)) rfl rfl (Nat.le_of_ble_eq_true rfl) dX10_init_18 (fun H_18_10 locs_18_10 hP hD hS => ?_)
  have hP : va_P D vwCl [(h0, .inr (10, [.int 0, .ref q7_5, .ref q16_9, .null, .null, .int 0, .null, .int 0, .int 0, .int 0, .int 0, .int 0, .int 0, .int 0, .null, .null, .null, .null, .null, .null, .int 0, .int 0, .null, .null, .int 0, .int 0, .int 0, .null, .null, .int 0, .null, .null, .int 0, .int 0, .int 0, .null, .null, .int 0, .null, .null, .null, .null])), (q7_5, .inl (ct 0, 98, .inl (fun _ => 0))), (q16_9, .inl (ct 0, 294, .inl (fun _ => 0)))] H_18_10 := hP
  have hD : va_D AA [(h0, .inr (10, [.int 0, .ref q7_5, .ref q16_9, .null, .null, .int 0, .null, .int 0, .int 0, .int 0, .int 0, .int 0, .int 0, .int 0, .null, .null, .null, .null, .null, .null, .int 0, .int 0, .null, .null, .int 0, .int 0, .int 0, .null, .null, .int 0, .null, .null, .int 0, .int 0, .int 0, .null, .null, .int 0, .null, .null, .null, .null])), (q7_5, .inl (ct 0, 98, .inl (fun _ => 0))), (q16_9, .inl (ct 0, 294, .inl (fun _ => 0)))] := hD
  refine lv_aload_n hx hb dX10_init_21 rfl (lv_at hl 0 rfl) ?_
  refine lv_iconst (v := 3) hx hb dX10_init_22 (by decide) ?_
  refine va_newa (D := D) (tys := tyl ct) (atype := .boolean) (ty := .boolean) (N' := 3) (a0 := (3, .inl (fun _ => 0))) hx hb (htl _ wq_7_2) rfl hK hP hD hS hA (fun _ => rfl) (by decide) (by decide) (by decide) (Nat.le_of_ble_eq_true rfl) (Nat.le_of_ble_eq_true rfl) dX10_init_23 (fun q23_13 cA H_23_13 hK1 hP hD hS => ?_)
  obtain rfl := ct_eq3 hK1
  clear hK1
  have hP : va_P D vwCl [(h0, .inr (10, [.int 0, .ref q7_5, .ref q16_9, .null, .null, .int 0, .null, .int 0, .int 0, .int 0, .int 0, .int 0, .int 0, .int 0, .null, .null, .null, .null, .null, .null, .int 0, .int 0, .null, .null, .int 0, .int 0, .int 0, .null, .null, .int 0, .null, .null, .int 0, .int 0, .int 0, .null, .null, .int 0, .null, .null, .null, .null])), (q7_5, .inl (ct 0, 98, .inl (fun _ => 0))), (q16_9, .inl (ct 0, 294, .inl (fun _ => 0))), (q23_13, .inl (ct 3, 3, .inl (fun _ => 0)))] H_23_13 := hP
  have hD : va_D AA [(h0, .inr (10, [.int 0, .ref q7_5, .ref q16_9, .null, .null, .int 0, .null, .int 0, .int 0, .int 0, .int 0, .int 0, .int 0, .int 0, .null, .null, .null, .null, .null, .null, .int 0, .int 0, .null, .null, .int 0, .int 0, .int 0, .null, .null, .int 0, .null, .null, .int 0, .int 0, .int 0, .null, .null, .int 0, .null, .null, .null, .null])), (q7_5, .inl (ct 0, 98, .inl (fun _ => 0))), (q16_9, .inl (ct 0, 294, .inl (fun _ => 0))), (q23_13, .inl (ct 3, 3, .inl (fun _ => 0)))] := hD
  refine va_putF (D := D) (tys := tyl ct) (ci := 10) (v := .ref q23_13) (ty := (.array .boolean)) (C := RX10) (T := TX10) (N := 42) hx hb htl inlX10 tyX10 tyX10_ok nmX10 hown hK hP hD hS 0 rfl rfl 3 (by decide) (htl _ wq_7_3) (fun _ h9 => h9) rfl hin rfl (tyX10_ok 3 (by decide)) rfl rfl (Nat.le_of_ble_eq_true rfl) dX10_init_25 (fun H_25_14 locs_25_14 hP hD hS => ?_)
  have hP : va_P D vwCl [(h0, .inr (10, [.int 0, .ref q7_5, .ref q16_9, .ref q23_13, .null, .int 0, .null, .int 0, .int 0, .int 0, .int 0, .int 0, .int 0, .int 0, .null, .null, .null, .null, .null, .null, .int 0, .int 0, .null, .null, .int 0, .int 0, .int 0, .null, .null, .int 0, .null, .null, .int 0, .int 0, .int 0, .null, .null, .int 0, .null, .null, .null, .null])), (q7_5, .inl (ct 0, 98, .inl (fun _ => 0))), (q16_9, .inl (ct 0, 294, .inl (fun _ => 0))), (q23_13, .inl (ct 3, 3, .inl (fun _ => 0)))] H_25_14 := hP
  have hD : va_D AA [(h0, .inr (10, [.int 0, .ref q7_5, .ref q16_9, .ref q23_13, .null, .int 0, .null, .int 0, .int 0, .int 0, .int 0, .int 0, .int 0, .int 0, .null, .null, .null, .null, .null, .null, .int 0, .int 0, .null, .null, .int 0, .int 0, .int 0, .null, .null, .int 0, .null, .null, .int 0, .int 0, .int 0, .null, .null, .int 0, .null, .null, .null, .null])), (q7_5, .inl (ct 0, 98, .inl (fun _ => 0))), (q16_9, .inl (ct 0, 294, .inl (fun _ => 0))), (q23_13, .inl (ct 3, 3, .inl (fun _ => 0)))] := hD
  refine lv_aload_n hx hb dX10_init_28 rfl (lv_at hl 0 rfl) ?_
  refine lv_sipush (v := 700) hx hb dX10_init_29 (by decide) ?_
  refine va_newa (D := D) (tys := tyl ct) (atype := .byte) (ty := .byte) (N' := 700) (a0 := (700, .inl (fun _ => 0))) hx hb (htl _ wq_7_4) rfl hK hP hD hS hA (fun _ => rfl) (by decide) (by decide) (by decide) (Nat.le_of_ble_eq_true rfl) (Nat.le_of_ble_eq_true rfl) dX10_init_32 (fun q32_17 cA H_32_17 hK1 hP hD hS => ?_)
  obtain rfl := ct_eq2 hK1
  clear hK1
  have hP : va_P D vwCl [(h0, .inr (10, [.int 0, .ref q7_5, .ref q16_9, .ref q23_13, .null, .int 0, .null, .int 0, .int 0, .int 0, .int 0, .int 0, .int 0, .int 0, .null, .null, .null, .null, .null, .null, .int 0, .int 0, .null, .null, .int 0, .int 0, .int 0, .null, .null, .int 0, .null, .null, .int 0, .int 0, .int 0, .null, .null, .int 0, .null, .null, .null, .null])), (q7_5, .inl (ct 0, 98, .inl (fun _ => 0))), (q16_9, .inl (ct 0, 294, .inl (fun _ => 0))), (q23_13, .inl (ct 3, 3, .inl (fun _ => 0))), (q32_17, .inl (ct 2, 700, .inl (fun _ => 0)))] H_32_17 := hP
  have hD : va_D AA [(h0, .inr (10, [.int 0, .ref q7_5, .ref q16_9, .ref q23_13, .null, .int 0, .null, .int 0, .int 0, .int 0, .int 0, .int 0, .int 0, .int 0, .null, .null, .null, .null, .null, .null, .int 0, .int 0, .null, .null, .int 0, .int 0, .int 0, .null, .null, .int 0, .null, .null, .int 0, .int 0, .int 0, .null, .null, .int 0, .null, .null, .null, .null])), (q7_5, .inl (ct 0, 98, .inl (fun _ => 0))), (q16_9, .inl (ct 0, 294, .inl (fun _ => 0))), (q23_13, .inl (ct 3, 3, .inl (fun _ => 0))), (q32_17, .inl (ct 2, 700, .inl (fun _ => 0)))] := hD
  refine va_putF (D := D) (tys := tyl ct) (ci := 10) (v := .ref q32_17) (ty := (.array .byte)) (C := RX10) (T := TX10) (N := 42) hx hb htl inlX10 tyX10 tyX10_ok nmX10 hown hK hP hD hS 0 rfl rfl 4 (by decide) (htl _ wq_7_5) (fun _ h9 => h9) rfl hin rfl (tyX10_ok 4 (by decide)) rfl rfl (Nat.le_of_ble_eq_true rfl) dX10_init_34 (fun H_34_18 locs_34_18 hP hD hS => ?_)
  have hP : va_P D vwCl [(h0, .inr (10, [.int 0, .ref q7_5, .ref q16_9, .ref q23_13, .ref q32_17, .int 0, .null, .int 0, .int 0, .int 0, .int 0, .int 0, .int 0, .int 0, .null, .null, .null, .null, .null, .null, .int 0, .int 0, .null, .null, .int 0, .int 0, .int 0, .null, .null, .int 0, .null, .null, .int 0, .int 0, .int 0, .null, .null, .int 0, .null, .null, .null, .null])), (q7_5, .inl (ct 0, 98, .inl (fun _ => 0))), (q16_9, .inl (ct 0, 294, .inl (fun _ => 0))), (q23_13, .inl (ct 3, 3, .inl (fun _ => 0))), (q32_17, .inl (ct 2, 700, .inl (fun _ => 0)))] H_34_18 := hP
  have hD : va_D AA [(h0, .inr (10, [.int 0, .ref q7_5, .ref q16_9, .ref q23_13, .ref q32_17, .int 0, .null, .int 0, .int 0, .int 0, .int 0, .int 0, .int 0, .int 0, .null, .null, .null, .null, .null, .null, .int 0, .int 0, .null, .null, .int 0, .int 0, .int 0, .null, .null, .int 0, .null, .null, .int 0, .int 0, .int 0, .null, .null, .int 0, .null, .null, .null, .null])), (q7_5, .inl (ct 0, 98, .inl (fun _ => 0))), (q16_9, .inl (ct 0, 294, .inl (fun _ => 0))), (q23_13, .inl (ct 3, 3, .inl (fun _ => 0))), (q32_17, .inl (ct 2, 700, .inl (fun _ => 0)))] := hD
  refine lv_aload_n hx hb dX10_init_37 rfl (lv_at hl 0 rfl) ?_
  refine lv_iconst (v := 5) hx hb dX10_init_38 (by decide) ?_
  refine va_newa (D := D) (tys := tyl ct) (atype := .int) (ty := .int) (N' := 5) (a0 := (5, .inl (fun _ => 0))) hx hb (htl _ wq_3_0) rfl hK hP hD hS hA (fun _ => rfl) (by decide) (by decide) (by decide) (Nat.le_of_ble_eq_true rfl) (Nat.le_of_ble_eq_true rfl) dX10_init_39 (fun q39_21 cA H_39_21 hK1 hP hD hS => ?_)
  obtain rfl := ct_eq0 hK1
  clear hK1
  have hP : va_P D vwCl [(h0, .inr (10, [.int 0, .ref q7_5, .ref q16_9, .ref q23_13, .ref q32_17, .int 0, .null, .int 0, .int 0, .int 0, .int 0, .int 0, .int 0, .int 0, .null, .null, .null, .null, .null, .null, .int 0, .int 0, .null, .null, .int 0, .int 0, .int 0, .null, .null, .int 0, .null, .null, .int 0, .int 0, .int 0, .null, .null, .int 0, .null, .null, .null, .null])), (q7_5, .inl (ct 0, 98, .inl (fun _ => 0))), (q16_9, .inl (ct 0, 294, .inl (fun _ => 0))), (q23_13, .inl (ct 3, 3, .inl (fun _ => 0))), (q32_17, .inl (ct 2, 700, .inl (fun _ => 0))), (q39_21, .inl (ct 0, 5, .inl (fun _ => 0)))] H_39_21 := hP
  have hD : va_D AA [(h0, .inr (10, [.int 0, .ref q7_5, .ref q16_9, .ref q23_13, .ref q32_17, .int 0, .null, .int 0, .int 0, .int 0, .int 0, .int 0, .int 0, .int 0, .null, .null, .null, .null, .null, .null, .int 0, .int 0, .null, .null, .int 0, .int 0, .int 0, .null, .null, .int 0, .null, .null, .int 0, .int 0, .int 0, .null, .null, .int 0, .null, .null, .null, .null])), (q7_5, .inl (ct 0, 98, .inl (fun _ => 0))), (q16_9, .inl (ct 0, 294, .inl (fun _ => 0))), (q23_13, .inl (ct 3, 3, .inl (fun _ => 0))), (q32_17, .inl (ct 2, 700, .inl (fun _ => 0))), (q39_21, .inl (ct 0, 5, .inl (fun _ => 0)))] := hD
  refine va_putF (D := D) (tys := tyl ct) (ci := 10) (v := .ref q39_21) (ty := (.array .int)) (C := RX10) (T := TX10) (N := 42) hx hb htl inlX10 tyX10 tyX10_ok nmX10 hown hK hP hD hS 0 rfl rfl 6 (by decide) (htl _ wq_7_6) (fun _ h9 => h9) rfl hin rfl (tyX10_ok 6 (by decide)) rfl rfl (Nat.le_of_ble_eq_true rfl) dX10_init_41 (fun H_41_22 locs_41_22 hP hD hS => ?_)
  have hP : va_P D vwCl [(h0, .inr (10, [.int 0, .ref q7_5, .ref q16_9, .ref q23_13, .ref q32_17, .int 0, .ref q39_21, .int 0, .int 0, .int 0, .int 0, .int 0, .int 0, .int 0, .null, .null, .null, .null, .null, .null, .int 0, .int 0, .null, .null, .int 0, .int 0, .int 0, .null, .null, .int 0, .null, .null, .int 0, .int 0, .int 0, .null, .null, .int 0, .null, .null, .null, .null])), (q7_5, .inl (ct 0, 98, .inl (fun _ => 0))), (q16_9, .inl (ct 0, 294, .inl (fun _ => 0))), (q23_13, .inl (ct 3, 3, .inl (fun _ => 0))), (q32_17, .inl (ct 2, 700, .inl (fun _ => 0))), (q39_21, .inl (ct 0, 5, .inl (fun _ => 0)))] H_41_22 := hP
  have hD : va_D AA [(h0, .inr (10, [.int 0, .ref q7_5, .ref q16_9, .ref q23_13, .ref q32_17, .int 0, .ref q39_21, .int 0, .int 0, .int 0, .int 0, .int 0, .int 0, .int 0, .null, .null, .null, .null, .null, .null, .int 0, .int 0, .null, .null, .int 0, .int 0, .int 0, .null, .null, .int 0, .null, .null, .int 0, .int 0, .int 0, .null, .null, .int 0, .null, .null, .null, .null])), (q7_5, .inl (ct 0, 98, .inl (fun _ => 0))), (q16_9, .inl (ct 0, 294, .inl (fun _ => 0))), (q23_13, .inl (ct 3, 3, .inl (fun _ => 0))), (q32_17, .inl (ct 2, 700, .inl (fun _ => 0))), (q39_21, .inl (ct 0, 5, .inl (fun _ => 0)))] := hD
  refine lv_aload_n hx hb dX10_init_44 rfl (lv_at hl 0 rfl) ?_
  refine lv_iconst (v := (-1)) hx hb dX10_init_45 (by decide) ?_
  refine va_put (D := D) (tys := tyl ct) (ci := 10) (v := .int (-1)) (ty := .int) (C := RX10) (T := TX10) (N := 42) hx hb htl inlX10 tyX10 tyX10_ok nmX10 hown hK hP hD hS 0 rfl rfl 13 (by decide) (htl _ wq_7_7) (fun _ h9 => h9) rfl (tyX10_ok 13 (by decide)) rfl rfl (Nat.le_of_ble_eq_true rfl) dX10_init_46 (fun H_46_25 locs_46_25 hP hD hS => ?_)
  have hP : va_P D vwCl [(h0, .inr (10, [.int 0, .ref q7_5, .ref q16_9, .ref q23_13, .ref q32_17, .int 0, .ref q39_21, .int 0, .int 0, .int 0, .int 0, .int 0, .int 0, .int (-1), .null, .null, .null, .null, .null, .null, .int 0, .int 0, .null, .null, .int 0, .int 0, .int 0, .null, .null, .int 0, .null, .null, .int 0, .int 0, .int 0, .null, .null, .int 0, .null, .null, .null, .null])), (q7_5, .inl (ct 0, 98, .inl (fun _ => 0))), (q16_9, .inl (ct 0, 294, .inl (fun _ => 0))), (q23_13, .inl (ct 3, 3, .inl (fun _ => 0))), (q32_17, .inl (ct 2, 700, .inl (fun _ => 0))), (q39_21, .inl (ct 0, 5, .inl (fun _ => 0)))] H_46_25 := hP
  have hD : va_D AA [(h0, .inr (10, [.int 0, .ref q7_5, .ref q16_9, .ref q23_13, .ref q32_17, .int 0, .ref q39_21, .int 0, .int 0, .int 0, .int 0, .int 0, .int 0, .int (-1), .null, .null, .null, .null, .null, .null, .int 0, .int 0, .null, .null, .int 0, .int 0, .int 0, .null, .null, .int 0, .null, .null, .int 0, .int 0, .int 0, .null, .null, .int 0, .null, .null, .null, .null])), (q7_5, .inl (ct 0, 98, .inl (fun _ => 0))), (q16_9, .inl (ct 0, 294, .inl (fun _ => 0))), (q23_13, .inl (ct 3, 3, .inl (fun _ => 0))), (q32_17, .inl (ct 2, 700, .inl (fun _ => 0))), (q39_21, .inl (ct 0, 5, .inl (fun _ => 0)))] := hD
  refine lv_aload_n hx hb dX10_init_49 rfl (lv_at hl 0 rfl) ?_
  refine lv_bipush (v := 98) hx hb dX10_init_50 (by decide) ?_
  refine va_newa (D := D) (tys := tyl ct) (atype := .int) (ty := .int) (N' := 98) (a0 := (98, .inl (fun _ => 0))) hx hb (htl _ wq_3_0) rfl hK hP hD hS hA (fun _ => rfl) (by decide) (by decide) (by decide) (Nat.le_of_ble_eq_true rfl) (Nat.le_of_ble_eq_true rfl) dX10_init_52 (fun q52_28 cA H_52_28 hK1 hP hD hS => ?_)
  obtain rfl := ct_eq0 hK1
  clear hK1
  have hP : va_P D vwCl [(h0, .inr (10, [.int 0, .ref q7_5, .ref q16_9, .ref q23_13, .ref q32_17, .int 0, .ref q39_21, .int 0, .int 0, .int 0, .int 0, .int 0, .int 0, .int (-1), .null, .null, .null, .null, .null, .null, .int 0, .int 0, .null, .null, .int 0, .int 0, .int 0, .null, .null, .int 0, .null, .null, .int 0, .int 0, .int 0, .null, .null, .int 0, .null, .null, .null, .null])), (q7_5, .inl (ct 0, 98, .inl (fun _ => 0))), (q16_9, .inl (ct 0, 294, .inl (fun _ => 0))), (q23_13, .inl (ct 3, 3, .inl (fun _ => 0))), (q32_17, .inl (ct 2, 700, .inl (fun _ => 0))), (q39_21, .inl (ct 0, 5, .inl (fun _ => 0))), (q52_28, .inl (ct 0, 98, .inl (fun _ => 0)))] H_52_28 := hP
  have hD : va_D AA [(h0, .inr (10, [.int 0, .ref q7_5, .ref q16_9, .ref q23_13, .ref q32_17, .int 0, .ref q39_21, .int 0, .int 0, .int 0, .int 0, .int 0, .int 0, .int (-1), .null, .null, .null, .null, .null, .null, .int 0, .int 0, .null, .null, .int 0, .int 0, .int 0, .null, .null, .int 0, .null, .null, .int 0, .int 0, .int 0, .null, .null, .int 0, .null, .null, .null, .null])), (q7_5, .inl (ct 0, 98, .inl (fun _ => 0))), (q16_9, .inl (ct 0, 294, .inl (fun _ => 0))), (q23_13, .inl (ct 3, 3, .inl (fun _ => 0))), (q32_17, .inl (ct 2, 700, .inl (fun _ => 0))), (q39_21, .inl (ct 0, 5, .inl (fun _ => 0))), (q52_28, .inl (ct 0, 98, .inl (fun _ => 0)))] := hD
  refine va_putF (D := D) (tys := tyl ct) (ci := 10) (v := .ref q52_28) (ty := (.array .int)) (C := RX10) (T := TX10) (N := 42) hx hb htl inlX10 tyX10 tyX10_ok nmX10 hown hK hP hD hS 0 rfl rfl 14 (by decide) (htl _ wq_7_8) (fun _ h9 => h9) rfl hin rfl (tyX10_ok 14 (by decide)) rfl rfl (Nat.le_of_ble_eq_true rfl) dX10_init_54 (fun H_54_29 locs_54_29 hP hD hS => ?_)
  have hP : va_P D vwCl [(h0, .inr (10, [.int 0, .ref q7_5, .ref q16_9, .ref q23_13, .ref q32_17, .int 0, .ref q39_21, .int 0, .int 0, .int 0, .int 0, .int 0, .int 0, .int (-1), .ref q52_28, .null, .null, .null, .null, .null, .int 0, .int 0, .null, .null, .int 0, .int 0, .int 0, .null, .null, .int 0, .null, .null, .int 0, .int 0, .int 0, .null, .null, .int 0, .null, .null, .null, .null])), (q7_5, .inl (ct 0, 98, .inl (fun _ => 0))), (q16_9, .inl (ct 0, 294, .inl (fun _ => 0))), (q23_13, .inl (ct 3, 3, .inl (fun _ => 0))), (q32_17, .inl (ct 2, 700, .inl (fun _ => 0))), (q39_21, .inl (ct 0, 5, .inl (fun _ => 0))), (q52_28, .inl (ct 0, 98, .inl (fun _ => 0)))] H_54_29 := hP
  have hD : va_D AA [(h0, .inr (10, [.int 0, .ref q7_5, .ref q16_9, .ref q23_13, .ref q32_17, .int 0, .ref q39_21, .int 0, .int 0, .int 0, .int 0, .int 0, .int 0, .int (-1), .ref q52_28, .null, .null, .null, .null, .null, .int 0, .int 0, .null, .null, .int 0, .int 0, .int 0, .null, .null, .int 0, .null, .null, .int 0, .int 0, .int 0, .null, .null, .int 0, .null, .null, .null, .null])), (q7_5, .inl (ct 0, 98, .inl (fun _ => 0))), (q16_9, .inl (ct 0, 294, .inl (fun _ => 0))), (q23_13, .inl (ct 3, 3, .inl (fun _ => 0))), (q32_17, .inl (ct 2, 700, .inl (fun _ => 0))), (q39_21, .inl (ct 0, 5, .inl (fun _ => 0))), (q52_28, .inl (ct 0, 98, .inl (fun _ => 0)))] := hD
  refine lv_aload_n hx hb dX10_init_57 rfl (lv_at hl 0 rfl) ?_
  refine lv_bipush (v := 61) hx hb dX10_init_58 (by decide) ?_
  refine va_newa (D := D) (tys := tyl ct) (atype := .int) (ty := .int) (N' := 61) (a0 := (61, .inl (fun _ => 0))) hx hb (htl _ wq_3_0) rfl hK hP hD hS hA (fun _ => rfl) (by decide) (by decide) (by decide) (Nat.le_of_ble_eq_true rfl) (Nat.le_of_ble_eq_true rfl) dX10_init_60 (fun q60_32 cA H_60_32 hK1 hP hD hS => ?_)
  obtain rfl := ct_eq0 hK1
  clear hK1
  have hP : va_P D vwCl [(h0, .inr (10, [.int 0, .ref q7_5, .ref q16_9, .ref q23_13, .ref q32_17, .int 0, .ref q39_21, .int 0, .int 0, .int 0, .int 0, .int 0, .int 0, .int (-1), .ref q52_28, .null, .null, .null, .null, .null, .int 0, .int 0, .null, .null, .int 0, .int 0, .int 0, .null, .null, .int 0, .null, .null, .int 0, .int 0, .int 0, .null, .null, .int 0, .null, .null, .null, .null])), (q7_5, .inl (ct 0, 98, .inl (fun _ => 0))), (q16_9, .inl (ct 0, 294, .inl (fun _ => 0))), (q23_13, .inl (ct 3, 3, .inl (fun _ => 0))), (q32_17, .inl (ct 2, 700, .inl (fun _ => 0))), (q39_21, .inl (ct 0, 5, .inl (fun _ => 0))), (q52_28, .inl (ct 0, 98, .inl (fun _ => 0))), (q60_32, .inl (ct 0, 61, .inl (fun _ => 0)))] H_60_32 := hP
  have hD : va_D AA [(h0, .inr (10, [.int 0, .ref q7_5, .ref q16_9, .ref q23_13, .ref q32_17, .int 0, .ref q39_21, .int 0, .int 0, .int 0, .int 0, .int 0, .int 0, .int (-1), .ref q52_28, .null, .null, .null, .null, .null, .int 0, .int 0, .null, .null, .int 0, .int 0, .int 0, .null, .null, .int 0, .null, .null, .int 0, .int 0, .int 0, .null, .null, .int 0, .null, .null, .null, .null])), (q7_5, .inl (ct 0, 98, .inl (fun _ => 0))), (q16_9, .inl (ct 0, 294, .inl (fun _ => 0))), (q23_13, .inl (ct 3, 3, .inl (fun _ => 0))), (q32_17, .inl (ct 2, 700, .inl (fun _ => 0))), (q39_21, .inl (ct 0, 5, .inl (fun _ => 0))), (q52_28, .inl (ct 0, 98, .inl (fun _ => 0))), (q60_32, .inl (ct 0, 61, .inl (fun _ => 0)))] := hD
  refine va_putF (D := D) (tys := tyl ct) (ci := 10) (v := .ref q60_32) (ty := (.array .int)) (C := RX10) (T := TX10) (N := 42) hx hb htl inlX10 tyX10 tyX10_ok nmX10 hown hK hP hD hS 0 rfl rfl 15 (by decide) (htl _ wq_7_9) (fun _ h9 => h9) rfl hin rfl (tyX10_ok 15 (by decide)) rfl rfl (Nat.le_of_ble_eq_true rfl) dX10_init_62 (fun H_62_33 locs_62_33 hP hD hS => ?_)
  have hP : va_P D vwCl [(h0, .inr (10, [.int 0, .ref q7_5, .ref q16_9, .ref q23_13, .ref q32_17, .int 0, .ref q39_21, .int 0, .int 0, .int 0, .int 0, .int 0, .int 0, .int (-1), .ref q52_28, .ref q60_32, .null, .null, .null, .null, .int 0, .int 0, .null, .null, .int 0, .int 0, .int 0, .null, .null, .int 0, .null, .null, .int 0, .int 0, .int 0, .null, .null, .int 0, .null, .null, .null, .null])), (q7_5, .inl (ct 0, 98, .inl (fun _ => 0))), (q16_9, .inl (ct 0, 294, .inl (fun _ => 0))), (q23_13, .inl (ct 3, 3, .inl (fun _ => 0))), (q32_17, .inl (ct 2, 700, .inl (fun _ => 0))), (q39_21, .inl (ct 0, 5, .inl (fun _ => 0))), (q52_28, .inl (ct 0, 98, .inl (fun _ => 0))), (q60_32, .inl (ct 0, 61, .inl (fun _ => 0)))] H_62_33 := hP
  have hD : va_D AA [(h0, .inr (10, [.int 0, .ref q7_5, .ref q16_9, .ref q23_13, .ref q32_17, .int 0, .ref q39_21, .int 0, .int 0, .int 0, .int 0, .int 0, .int 0, .int (-1), .ref q52_28, .ref q60_32, .null, .null, .null, .null, .int 0, .int 0, .null, .null, .int 0, .int 0, .int 0, .null, .null, .int 0, .null, .null, .int 0, .int 0, .int 0, .null, .null, .int 0, .null, .null, .null, .null])), (q7_5, .inl (ct 0, 98, .inl (fun _ => 0))), (q16_9, .inl (ct 0, 294, .inl (fun _ => 0))), (q23_13, .inl (ct 3, 3, .inl (fun _ => 0))), (q32_17, .inl (ct 2, 700, .inl (fun _ => 0))), (q39_21, .inl (ct 0, 5, .inl (fun _ => 0))), (q52_28, .inl (ct 0, 98, .inl (fun _ => 0))), (q60_32, .inl (ct 0, 61, .inl (fun _ => 0)))] := hD
  refine lv_aload_n hx hb dX10_init_65 rfl (lv_at hl 0 rfl) ?_
  refine lv_bipush (v := 61) hx hb dX10_init_66 (by decide) ?_
  refine va_newa (D := D) (tys := tyl ct) (atype := .int) (ty := .int) (N' := 61) (a0 := (61, .inl (fun _ => 0))) hx hb (htl _ wq_3_0) rfl hK hP hD hS hA (fun _ => rfl) (by decide) (by decide) (by decide) (Nat.le_of_ble_eq_true rfl) (Nat.le_of_ble_eq_true rfl) dX10_init_68 (fun q68_36 cA H_68_36 hK1 hP hD hS => ?_)
  obtain rfl := ct_eq0 hK1
  clear hK1
  have hP : va_P D vwCl [(h0, .inr (10, [.int 0, .ref q7_5, .ref q16_9, .ref q23_13, .ref q32_17, .int 0, .ref q39_21, .int 0, .int 0, .int 0, .int 0, .int 0, .int 0, .int (-1), .ref q52_28, .ref q60_32, .null, .null, .null, .null, .int 0, .int 0, .null, .null, .int 0, .int 0, .int 0, .null, .null, .int 0, .null, .null, .int 0, .int 0, .int 0, .null, .null, .int 0, .null, .null, .null, .null])), (q7_5, .inl (ct 0, 98, .inl (fun _ => 0))), (q16_9, .inl (ct 0, 294, .inl (fun _ => 0))), (q23_13, .inl (ct 3, 3, .inl (fun _ => 0))), (q32_17, .inl (ct 2, 700, .inl (fun _ => 0))), (q39_21, .inl (ct 0, 5, .inl (fun _ => 0))), (q52_28, .inl (ct 0, 98, .inl (fun _ => 0))), (q60_32, .inl (ct 0, 61, .inl (fun _ => 0))), (q68_36, .inl (ct 0, 61, .inl (fun _ => 0)))] H_68_36 := hP
  have hD : va_D AA [(h0, .inr (10, [.int 0, .ref q7_5, .ref q16_9, .ref q23_13, .ref q32_17, .int 0, .ref q39_21, .int 0, .int 0, .int 0, .int 0, .int 0, .int 0, .int (-1), .ref q52_28, .ref q60_32, .null, .null, .null, .null, .int 0, .int 0, .null, .null, .int 0, .int 0, .int 0, .null, .null, .int 0, .null, .null, .int 0, .int 0, .int 0, .null, .null, .int 0, .null, .null, .null, .null])), (q7_5, .inl (ct 0, 98, .inl (fun _ => 0))), (q16_9, .inl (ct 0, 294, .inl (fun _ => 0))), (q23_13, .inl (ct 3, 3, .inl (fun _ => 0))), (q32_17, .inl (ct 2, 700, .inl (fun _ => 0))), (q39_21, .inl (ct 0, 5, .inl (fun _ => 0))), (q52_28, .inl (ct 0, 98, .inl (fun _ => 0))), (q60_32, .inl (ct 0, 61, .inl (fun _ => 0))), (q68_36, .inl (ct 0, 61, .inl (fun _ => 0)))] := hD
  refine va_putF (D := D) (tys := tyl ct) (ci := 10) (v := .ref q68_36) (ty := (.array .int)) (C := RX10) (T := TX10) (N := 42) hx hb htl inlX10 tyX10 tyX10_ok nmX10 hown hK hP hD hS 0 rfl rfl 16 (by decide) (htl _ wq_7_10) (fun _ h9 => h9) rfl hin rfl (tyX10_ok 16 (by decide)) rfl rfl (Nat.le_of_ble_eq_true rfl) dX10_init_70 (fun H_70_37 locs_70_37 hP hD hS => ?_)
  have hP : va_P D vwCl [(h0, .inr (10, [.int 0, .ref q7_5, .ref q16_9, .ref q23_13, .ref q32_17, .int 0, .ref q39_21, .int 0, .int 0, .int 0, .int 0, .int 0, .int 0, .int (-1), .ref q52_28, .ref q60_32, .ref q68_36, .null, .null, .null, .int 0, .int 0, .null, .null, .int 0, .int 0, .int 0, .null, .null, .int 0, .null, .null, .int 0, .int 0, .int 0, .null, .null, .int 0, .null, .null, .null, .null])), (q7_5, .inl (ct 0, 98, .inl (fun _ => 0))), (q16_9, .inl (ct 0, 294, .inl (fun _ => 0))), (q23_13, .inl (ct 3, 3, .inl (fun _ => 0))), (q32_17, .inl (ct 2, 700, .inl (fun _ => 0))), (q39_21, .inl (ct 0, 5, .inl (fun _ => 0))), (q52_28, .inl (ct 0, 98, .inl (fun _ => 0))), (q60_32, .inl (ct 0, 61, .inl (fun _ => 0))), (q68_36, .inl (ct 0, 61, .inl (fun _ => 0)))] H_70_37 := hP
  have hD : va_D AA [(h0, .inr (10, [.int 0, .ref q7_5, .ref q16_9, .ref q23_13, .ref q32_17, .int 0, .ref q39_21, .int 0, .int 0, .int 0, .int 0, .int 0, .int 0, .int (-1), .ref q52_28, .ref q60_32, .ref q68_36, .null, .null, .null, .int 0, .int 0, .null, .null, .int 0, .int 0, .int 0, .null, .null, .int 0, .null, .null, .int 0, .int 0, .int 0, .null, .null, .int 0, .null, .null, .null, .null])), (q7_5, .inl (ct 0, 98, .inl (fun _ => 0))), (q16_9, .inl (ct 0, 294, .inl (fun _ => 0))), (q23_13, .inl (ct 3, 3, .inl (fun _ => 0))), (q32_17, .inl (ct 2, 700, .inl (fun _ => 0))), (q39_21, .inl (ct 0, 5, .inl (fun _ => 0))), (q52_28, .inl (ct 0, 98, .inl (fun _ => 0))), (q60_32, .inl (ct 0, 61, .inl (fun _ => 0))), (q68_36, .inl (ct 0, 61, .inl (fun _ => 0)))] := hD
  refine lv_aload_n hx hb dX10_init_73 rfl (lv_at hl 0 rfl) ?_
  refine lv_bipush (v := 61) hx hb dX10_init_74 (by decide) ?_
  refine va_newa (D := D) (tys := tyl ct) (atype := .int) (ty := .int) (N' := 61) (a0 := (61, .inl (fun _ => 0))) hx hb (htl _ wq_3_0) rfl hK hP hD hS hA (fun _ => rfl) (by decide) (by decide) (by decide) (Nat.le_of_ble_eq_true rfl) (Nat.le_of_ble_eq_true rfl) dX10_init_76 (fun q76_40 cA H_76_40 hK1 hP hD hS => ?_)
  obtain rfl := ct_eq0 hK1
  clear hK1
  have hP : va_P D vwCl [(h0, .inr (10, [.int 0, .ref q7_5, .ref q16_9, .ref q23_13, .ref q32_17, .int 0, .ref q39_21, .int 0, .int 0, .int 0, .int 0, .int 0, .int 0, .int (-1), .ref q52_28, .ref q60_32, .ref q68_36, .null, .null, .null, .int 0, .int 0, .null, .null, .int 0, .int 0, .int 0, .null, .null, .int 0, .null, .null, .int 0, .int 0, .int 0, .null, .null, .int 0, .null, .null, .null, .null])), (q7_5, .inl (ct 0, 98, .inl (fun _ => 0))), (q16_9, .inl (ct 0, 294, .inl (fun _ => 0))), (q23_13, .inl (ct 3, 3, .inl (fun _ => 0))), (q32_17, .inl (ct 2, 700, .inl (fun _ => 0))), (q39_21, .inl (ct 0, 5, .inl (fun _ => 0))), (q52_28, .inl (ct 0, 98, .inl (fun _ => 0))), (q60_32, .inl (ct 0, 61, .inl (fun _ => 0))), (q68_36, .inl (ct 0, 61, .inl (fun _ => 0))), (q76_40, .inl (ct 0, 61, .inl (fun _ => 0)))] H_76_40 := hP
  have hD : va_D AA [(h0, .inr (10, [.int 0, .ref q7_5, .ref q16_9, .ref q23_13, .ref q32_17, .int 0, .ref q39_21, .int 0, .int 0, .int 0, .int 0, .int 0, .int 0, .int (-1), .ref q52_28, .ref q60_32, .ref q68_36, .null, .null, .null, .int 0, .int 0, .null, .null, .int 0, .int 0, .int 0, .null, .null, .int 0, .null, .null, .int 0, .int 0, .int 0, .null, .null, .int 0, .null, .null, .null, .null])), (q7_5, .inl (ct 0, 98, .inl (fun _ => 0))), (q16_9, .inl (ct 0, 294, .inl (fun _ => 0))), (q23_13, .inl (ct 3, 3, .inl (fun _ => 0))), (q32_17, .inl (ct 2, 700, .inl (fun _ => 0))), (q39_21, .inl (ct 0, 5, .inl (fun _ => 0))), (q52_28, .inl (ct 0, 98, .inl (fun _ => 0))), (q60_32, .inl (ct 0, 61, .inl (fun _ => 0))), (q68_36, .inl (ct 0, 61, .inl (fun _ => 0))), (q76_40, .inl (ct 0, 61, .inl (fun _ => 0)))] := hD
  refine va_putF (D := D) (tys := tyl ct) (ci := 10) (v := .ref q76_40) (ty := (.array .int)) (C := RX10) (T := TX10) (N := 42) hx hb htl inlX10 tyX10 tyX10_ok nmX10 hown hK hP hD hS 0 rfl rfl 17 (by decide) (htl _ wq_7_11) (fun _ h9 => h9) rfl hin rfl (tyX10_ok 17 (by decide)) rfl rfl (Nat.le_of_ble_eq_true rfl) dX10_init_78 (fun H_78_41 locs_78_41 hP hD hS => ?_)
  have hP : va_P D vwCl [(h0, .inr (10, [.int 0, .ref q7_5, .ref q16_9, .ref q23_13, .ref q32_17, .int 0, .ref q39_21, .int 0, .int 0, .int 0, .int 0, .int 0, .int 0, .int (-1), .ref q52_28, .ref q60_32, .ref q68_36, .ref q76_40, .null, .null, .int 0, .int 0, .null, .null, .int 0, .int 0, .int 0, .null, .null, .int 0, .null, .null, .int 0, .int 0, .int 0, .null, .null, .int 0, .null, .null, .null, .null])), (q7_5, .inl (ct 0, 98, .inl (fun _ => 0))), (q16_9, .inl (ct 0, 294, .inl (fun _ => 0))), (q23_13, .inl (ct 3, 3, .inl (fun _ => 0))), (q32_17, .inl (ct 2, 700, .inl (fun _ => 0))), (q39_21, .inl (ct 0, 5, .inl (fun _ => 0))), (q52_28, .inl (ct 0, 98, .inl (fun _ => 0))), (q60_32, .inl (ct 0, 61, .inl (fun _ => 0))), (q68_36, .inl (ct 0, 61, .inl (fun _ => 0))), (q76_40, .inl (ct 0, 61, .inl (fun _ => 0)))] H_78_41 := hP
  have hD : va_D AA [(h0, .inr (10, [.int 0, .ref q7_5, .ref q16_9, .ref q23_13, .ref q32_17, .int 0, .ref q39_21, .int 0, .int 0, .int 0, .int 0, .int 0, .int 0, .int (-1), .ref q52_28, .ref q60_32, .ref q68_36, .ref q76_40, .null, .null, .int 0, .int 0, .null, .null, .int 0, .int 0, .int 0, .null, .null, .int 0, .null, .null, .int 0, .int 0, .int 0, .null, .null, .int 0, .null, .null, .null, .null])), (q7_5, .inl (ct 0, 98, .inl (fun _ => 0))), (q16_9, .inl (ct 0, 294, .inl (fun _ => 0))), (q23_13, .inl (ct 3, 3, .inl (fun _ => 0))), (q32_17, .inl (ct 2, 700, .inl (fun _ => 0))), (q39_21, .inl (ct 0, 5, .inl (fun _ => 0))), (q52_28, .inl (ct 0, 98, .inl (fun _ => 0))), (q60_32, .inl (ct 0, 61, .inl (fun _ => 0))), (q68_36, .inl (ct 0, 61, .inl (fun _ => 0))), (q76_40, .inl (ct 0, 61, .inl (fun _ => 0)))] := hD
  refine lv_aload_n hx hb dX10_init_81 rfl (lv_at hl 0 rfl) ?_
  refine lv_iconst (v := 5) hx hb dX10_init_82 (by decide) ?_
  refine va_newa (D := D) (tys := tyl ct) (atype := .int) (ty := .int) (N' := 5) (a0 := (5, .inl (fun _ => 0))) hx hb (htl _ wq_3_0) rfl hK hP hD hS hA (fun _ => rfl) (by decide) (by decide) (by decide) (Nat.le_of_ble_eq_true rfl) (Nat.le_of_ble_eq_true rfl) dX10_init_83 (fun q83_44 cA H_83_44 hK1 hP hD hS => ?_)
  obtain rfl := ct_eq0 hK1
  clear hK1
  have hP : va_P D vwCl [(h0, .inr (10, [.int 0, .ref q7_5, .ref q16_9, .ref q23_13, .ref q32_17, .int 0, .ref q39_21, .int 0, .int 0, .int 0, .int 0, .int 0, .int 0, .int (-1), .ref q52_28, .ref q60_32, .ref q68_36, .ref q76_40, .null, .null, .int 0, .int 0, .null, .null, .int 0, .int 0, .int 0, .null, .null, .int 0, .null, .null, .int 0, .int 0, .int 0, .null, .null, .int 0, .null, .null, .null, .null])), (q7_5, .inl (ct 0, 98, .inl (fun _ => 0))), (q16_9, .inl (ct 0, 294, .inl (fun _ => 0))), (q23_13, .inl (ct 3, 3, .inl (fun _ => 0))), (q32_17, .inl (ct 2, 700, .inl (fun _ => 0))), (q39_21, .inl (ct 0, 5, .inl (fun _ => 0))), (q52_28, .inl (ct 0, 98, .inl (fun _ => 0))), (q60_32, .inl (ct 0, 61, .inl (fun _ => 0))), (q68_36, .inl (ct 0, 61, .inl (fun _ => 0))), (q76_40, .inl (ct 0, 61, .inl (fun _ => 0))), (q83_44, .inl (ct 0, 5, .inl (fun _ => 0)))] H_83_44 := hP
  have hD : va_D AA [(h0, .inr (10, [.int 0, .ref q7_5, .ref q16_9, .ref q23_13, .ref q32_17, .int 0, .ref q39_21, .int 0, .int 0, .int 0, .int 0, .int 0, .int 0, .int (-1), .ref q52_28, .ref q60_32, .ref q68_36, .ref q76_40, .null, .null, .int 0, .int 0, .null, .null, .int 0, .int 0, .int 0, .null, .null, .int 0, .null, .null, .int 0, .int 0, .int 0, .null, .null, .int 0, .null, .null, .null, .null])), (q7_5, .inl (ct 0, 98, .inl (fun _ => 0))), (q16_9, .inl (ct 0, 294, .inl (fun _ => 0))), (q23_13, .inl (ct 3, 3, .inl (fun _ => 0))), (q32_17, .inl (ct 2, 700, .inl (fun _ => 0))), (q39_21, .inl (ct 0, 5, .inl (fun _ => 0))), (q52_28, .inl (ct 0, 98, .inl (fun _ => 0))), (q60_32, .inl (ct 0, 61, .inl (fun _ => 0))), (q68_36, .inl (ct 0, 61, .inl (fun _ => 0))), (q76_40, .inl (ct 0, 61, .inl (fun _ => 0))), (q83_44, .inl (ct 0, 5, .inl (fun _ => 0)))] := hD
  refine va_putF (D := D) (tys := tyl ct) (ci := 10) (v := .ref q83_44) (ty := (.array .int)) (C := RX10) (T := TX10) (N := 42) hx hb htl inlX10 tyX10 tyX10_ok nmX10 hown hK hP hD hS 0 rfl rfl 18 (by decide) (htl _ wq_7_12) (fun _ h9 => h9) rfl hin rfl (tyX10_ok 18 (by decide)) rfl rfl (Nat.le_of_ble_eq_true rfl) dX10_init_85 (fun H_85_45 locs_85_45 hP hD hS => ?_)
  have hP : va_P D vwCl [(h0, .inr (10, [.int 0, .ref q7_5, .ref q16_9, .ref q23_13, .ref q32_17, .int 0, .ref q39_21, .int 0, .int 0, .int 0, .int 0, .int 0, .int 0, .int (-1), .ref q52_28, .ref q60_32, .ref q68_36, .ref q76_40, .ref q83_44, .null, .int 0, .int 0, .null, .null, .int 0, .int 0, .int 0, .null, .null, .int 0, .null, .null, .int 0, .int 0, .int 0, .null, .null, .int 0, .null, .null, .null, .null])), (q7_5, .inl (ct 0, 98, .inl (fun _ => 0))), (q16_9, .inl (ct 0, 294, .inl (fun _ => 0))), (q23_13, .inl (ct 3, 3, .inl (fun _ => 0))), (q32_17, .inl (ct 2, 700, .inl (fun _ => 0))), (q39_21, .inl (ct 0, 5, .inl (fun _ => 0))), (q52_28, .inl (ct 0, 98, .inl (fun _ => 0))), (q60_32, .inl (ct 0, 61, .inl (fun _ => 0))), (q68_36, .inl (ct 0, 61, .inl (fun _ => 0))), (q76_40, .inl (ct 0, 61, .inl (fun _ => 0))), (q83_44, .inl (ct 0, 5, .inl (fun _ => 0)))] H_85_45 := hP
  have hD : va_D AA [(h0, .inr (10, [.int 0, .ref q7_5, .ref q16_9, .ref q23_13, .ref q32_17, .int 0, .ref q39_21, .int 0, .int 0, .int 0, .int 0, .int 0, .int 0, .int (-1), .ref q52_28, .ref q60_32, .ref q68_36, .ref q76_40, .ref q83_44, .null, .int 0, .int 0, .null, .null, .int 0, .int 0, .int 0, .null, .null, .int 0, .null, .null, .int 0, .int 0, .int 0, .null, .null, .int 0, .null, .null, .null, .null])), (q7_5, .inl (ct 0, 98, .inl (fun _ => 0))), (q16_9, .inl (ct 0, 294, .inl (fun _ => 0))), (q23_13, .inl (ct 3, 3, .inl (fun _ => 0))), (q32_17, .inl (ct 2, 700, .inl (fun _ => 0))), (q39_21, .inl (ct 0, 5, .inl (fun _ => 0))), (q52_28, .inl (ct 0, 98, .inl (fun _ => 0))), (q60_32, .inl (ct 0, 61, .inl (fun _ => 0))), (q68_36, .inl (ct 0, 61, .inl (fun _ => 0))), (q76_40, .inl (ct 0, 61, .inl (fun _ => 0))), (q83_44, .inl (ct 0, 5, .inl (fun _ => 0)))] := hD
  refine lv_aload_n hx hb dX10_init_88 rfl (lv_at hl 0 rfl) ?_
  refine lv_iconst (v := 5) hx hb dX10_init_89 (by decide) ?_
  refine va_newa (D := D) (tys := tyl ct) (atype := .int) (ty := .int) (N' := 5) (a0 := (5, .inl (fun _ => 0))) hx hb (htl _ wq_3_0) rfl hK hP hD hS hA (fun _ => rfl) (by decide) (by decide) (by decide) (Nat.le_of_ble_eq_true rfl) (Nat.le_of_ble_eq_true rfl) dX10_init_90 (fun q90_48 cA H_90_48 hK1 hP hD hS => ?_)
  obtain rfl := ct_eq0 hK1
  clear hK1
  have hP : va_P D vwCl [(h0, .inr (10, [.int 0, .ref q7_5, .ref q16_9, .ref q23_13, .ref q32_17, .int 0, .ref q39_21, .int 0, .int 0, .int 0, .int 0, .int 0, .int 0, .int (-1), .ref q52_28, .ref q60_32, .ref q68_36, .ref q76_40, .ref q83_44, .null, .int 0, .int 0, .null, .null, .int 0, .int 0, .int 0, .null, .null, .int 0, .null, .null, .int 0, .int 0, .int 0, .null, .null, .int 0, .null, .null, .null, .null])), (q7_5, .inl (ct 0, 98, .inl (fun _ => 0))), (q16_9, .inl (ct 0, 294, .inl (fun _ => 0))), (q23_13, .inl (ct 3, 3, .inl (fun _ => 0))), (q32_17, .inl (ct 2, 700, .inl (fun _ => 0))), (q39_21, .inl (ct 0, 5, .inl (fun _ => 0))), (q52_28, .inl (ct 0, 98, .inl (fun _ => 0))), (q60_32, .inl (ct 0, 61, .inl (fun _ => 0))), (q68_36, .inl (ct 0, 61, .inl (fun _ => 0))), (q76_40, .inl (ct 0, 61, .inl (fun _ => 0))), (q83_44, .inl (ct 0, 5, .inl (fun _ => 0))), (q90_48, .inl (ct 0, 5, .inl (fun _ => 0)))] H_90_48 := hP
  have hD : va_D AA [(h0, .inr (10, [.int 0, .ref q7_5, .ref q16_9, .ref q23_13, .ref q32_17, .int 0, .ref q39_21, .int 0, .int 0, .int 0, .int 0, .int 0, .int 0, .int (-1), .ref q52_28, .ref q60_32, .ref q68_36, .ref q76_40, .ref q83_44, .null, .int 0, .int 0, .null, .null, .int 0, .int 0, .int 0, .null, .null, .int 0, .null, .null, .int 0, .int 0, .int 0, .null, .null, .int 0, .null, .null, .null, .null])), (q7_5, .inl (ct 0, 98, .inl (fun _ => 0))), (q16_9, .inl (ct 0, 294, .inl (fun _ => 0))), (q23_13, .inl (ct 3, 3, .inl (fun _ => 0))), (q32_17, .inl (ct 2, 700, .inl (fun _ => 0))), (q39_21, .inl (ct 0, 5, .inl (fun _ => 0))), (q52_28, .inl (ct 0, 98, .inl (fun _ => 0))), (q60_32, .inl (ct 0, 61, .inl (fun _ => 0))), (q68_36, .inl (ct 0, 61, .inl (fun _ => 0))), (q76_40, .inl (ct 0, 61, .inl (fun _ => 0))), (q83_44, .inl (ct 0, 5, .inl (fun _ => 0))), (q90_48, .inl (ct 0, 5, .inl (fun _ => 0)))] := hD
  refine va_putF (D := D) (tys := tyl ct) (ci := 10) (v := .ref q90_48) (ty := (.array .int)) (C := RX10) (T := TX10) (N := 42) hx hb htl inlX10 tyX10 tyX10_ok nmX10 hown hK hP hD hS 0 rfl rfl 19 (by decide) (htl _ wq_7_13) (fun _ h9 => h9) rfl hin rfl (tyX10_ok 19 (by decide)) rfl rfl (Nat.le_of_ble_eq_true rfl) dX10_init_92 (fun H_92_49 locs_92_49 hP hD hS => ?_)
  have hP : va_P D vwCl [(h0, .inr (10, [.int 0, .ref q7_5, .ref q16_9, .ref q23_13, .ref q32_17, .int 0, .ref q39_21, .int 0, .int 0, .int 0, .int 0, .int 0, .int 0, .int (-1), .ref q52_28, .ref q60_32, .ref q68_36, .ref q76_40, .ref q83_44, .ref q90_48, .int 0, .int 0, .null, .null, .int 0, .int 0, .int 0, .null, .null, .int 0, .null, .null, .int 0, .int 0, .int 0, .null, .null, .int 0, .null, .null, .null, .null])), (q7_5, .inl (ct 0, 98, .inl (fun _ => 0))), (q16_9, .inl (ct 0, 294, .inl (fun _ => 0))), (q23_13, .inl (ct 3, 3, .inl (fun _ => 0))), (q32_17, .inl (ct 2, 700, .inl (fun _ => 0))), (q39_21, .inl (ct 0, 5, .inl (fun _ => 0))), (q52_28, .inl (ct 0, 98, .inl (fun _ => 0))), (q60_32, .inl (ct 0, 61, .inl (fun _ => 0))), (q68_36, .inl (ct 0, 61, .inl (fun _ => 0))), (q76_40, .inl (ct 0, 61, .inl (fun _ => 0))), (q83_44, .inl (ct 0, 5, .inl (fun _ => 0))), (q90_48, .inl (ct 0, 5, .inl (fun _ => 0)))] H_92_49 := hP
  have hD : va_D AA [(h0, .inr (10, [.int 0, .ref q7_5, .ref q16_9, .ref q23_13, .ref q32_17, .int 0, .ref q39_21, .int 0, .int 0, .int 0, .int 0, .int 0, .int 0, .int (-1), .ref q52_28, .ref q60_32, .ref q68_36, .ref q76_40, .ref q83_44, .ref q90_48, .int 0, .int 0, .null, .null, .int 0, .int 0, .int 0, .null, .null, .int 0, .null, .null, .int 0, .int 0, .int 0, .null, .null, .int 0, .null, .null, .null, .null])), (q7_5, .inl (ct 0, 98, .inl (fun _ => 0))), (q16_9, .inl (ct 0, 294, .inl (fun _ => 0))), (q23_13, .inl (ct 3, 3, .inl (fun _ => 0))), (q32_17, .inl (ct 2, 700, .inl (fun _ => 0))), (q39_21, .inl (ct 0, 5, .inl (fun _ => 0))), (q52_28, .inl (ct 0, 98, .inl (fun _ => 0))), (q60_32, .inl (ct 0, 61, .inl (fun _ => 0))), (q68_36, .inl (ct 0, 61, .inl (fun _ => 0))), (q76_40, .inl (ct 0, 61, .inl (fun _ => 0))), (q83_44, .inl (ct 0, 5, .inl (fun _ => 0))), (q90_48, .inl (ct 0, 5, .inl (fun _ => 0)))] := hD
  refine lv_aload_n hx hb dX10_init_95 rfl (lv_at hl 0 rfl) ?_
  refine lv_bipush (v := 61) hx hb dX10_init_96 (by decide) ?_
  refine va_newa (D := D) (tys := tyl ct) (atype := .int) (ty := .int) (N' := 61) (a0 := (61, .inl (fun _ => 0))) hx hb (htl _ wq_3_0) rfl hK hP hD hS hA (fun _ => rfl) (by decide) (by decide) (by decide) (Nat.le_of_ble_eq_true rfl) (Nat.le_of_ble_eq_true rfl) dX10_init_98 (fun q98_52 cA H_98_52 hK1 hP hD hS => ?_)
  obtain rfl := ct_eq0 hK1
  clear hK1
  have hP : va_P D vwCl [(h0, .inr (10, [.int 0, .ref q7_5, .ref q16_9, .ref q23_13, .ref q32_17, .int 0, .ref q39_21, .int 0, .int 0, .int 0, .int 0, .int 0, .int 0, .int (-1), .ref q52_28, .ref q60_32, .ref q68_36, .ref q76_40, .ref q83_44, .ref q90_48, .int 0, .int 0, .null, .null, .int 0, .int 0, .int 0, .null, .null, .int 0, .null, .null, .int 0, .int 0, .int 0, .null, .null, .int 0, .null, .null, .null, .null])), (q7_5, .inl (ct 0, 98, .inl (fun _ => 0))), (q16_9, .inl (ct 0, 294, .inl (fun _ => 0))), (q23_13, .inl (ct 3, 3, .inl (fun _ => 0))), (q32_17, .inl (ct 2, 700, .inl (fun _ => 0))), (q39_21, .inl (ct 0, 5, .inl (fun _ => 0))), (q52_28, .inl (ct 0, 98, .inl (fun _ => 0))), (q60_32, .inl (ct 0, 61, .inl (fun _ => 0))), (q68_36, .inl (ct 0, 61, .inl (fun _ => 0))), (q76_40, .inl (ct 0, 61, .inl (fun _ => 0))), (q83_44, .inl (ct 0, 5, .inl (fun _ => 0))), (q90_48, .inl (ct 0, 5, .inl (fun _ => 0))), (q98_52, .inl (ct 0, 61, .inl (fun _ => 0)))] H_98_52 := hP
  have hD : va_D AA [(h0, .inr (10, [.int 0, .ref q7_5, .ref q16_9, .ref q23_13, .ref q32_17, .int 0, .ref q39_21, .int 0, .int 0, .int 0, .int 0, .int 0, .int 0, .int (-1), .ref q52_28, .ref q60_32, .ref q68_36, .ref q76_40, .ref q83_44, .ref q90_48, .int 0, .int 0, .null, .null, .int 0, .int 0, .int 0, .null, .null, .int 0, .null, .null, .int 0, .int 0, .int 0, .null, .null, .int 0, .null, .null, .null, .null])), (q7_5, .inl (ct 0, 98, .inl (fun _ => 0))), (q16_9, .inl (ct 0, 294, .inl (fun _ => 0))), (q23_13, .inl (ct 3, 3, .inl (fun _ => 0))), (q32_17, .inl (ct 2, 700, .inl (fun _ => 0))), (q39_21, .inl (ct 0, 5, .inl (fun _ => 0))), (q52_28, .inl (ct 0, 98, .inl (fun _ => 0))), (q60_32, .inl (ct 0, 61, .inl (fun _ => 0))), (q68_36, .inl (ct 0, 61, .inl (fun _ => 0))), (q76_40, .inl (ct 0, 61, .inl (fun _ => 0))), (q83_44, .inl (ct 0, 5, .inl (fun _ => 0))), (q90_48, .inl (ct 0, 5, .inl (fun _ => 0))), (q98_52, .inl (ct 0, 61, .inl (fun _ => 0)))] := hD
  refine va_putF (D := D) (tys := tyl ct) (ci := 10) (v := .ref q98_52) (ty := (.array .int)) (C := RX10) (T := TX10) (N := 42) hx hb htl inlX10 tyX10 tyX10_ok nmX10 hown hK hP hD hS 0 rfl rfl 22 (by decide) (htl _ wq_7_14) (fun _ h9 => h9) rfl hin rfl (tyX10_ok 22 (by decide)) rfl rfl (Nat.le_of_ble_eq_true rfl) dX10_init_100 (fun H_100_53 locs_100_53 hP hD hS => ?_)
  have hP : va_P D vwCl [(h0, .inr (10, [.int 0, .ref q7_5, .ref q16_9, .ref q23_13, .ref q32_17, .int 0, .ref q39_21, .int 0, .int 0, .int 0, .int 0, .int 0, .int 0, .int (-1), .ref q52_28, .ref q60_32, .ref q68_36, .ref q76_40, .ref q83_44, .ref q90_48, .int 0, .int 0, .ref q98_52, .null, .int 0, .int 0, .int 0, .null, .null, .int 0, .null, .null, .int 0, .int 0, .int 0, .null, .null, .int 0, .null, .null, .null, .null])), (q7_5, .inl (ct 0, 98, .inl (fun _ => 0))), (q16_9, .inl (ct 0, 294, .inl (fun _ => 0))), (q23_13, .inl (ct 3, 3, .inl (fun _ => 0))), (q32_17, .inl (ct 2, 700, .inl (fun _ => 0))), (q39_21, .inl (ct 0, 5, .inl (fun _ => 0))), (q52_28, .inl (ct 0, 98, .inl (fun _ => 0))), (q60_32, .inl (ct 0, 61, .inl (fun _ => 0))), (q68_36, .inl (ct 0, 61, .inl (fun _ => 0))), (q76_40, .inl (ct 0, 61, .inl (fun _ => 0))), (q83_44, .inl (ct 0, 5, .inl (fun _ => 0))), (q90_48, .inl (ct 0, 5, .inl (fun _ => 0))), (q98_52, .inl (ct 0, 61, .inl (fun _ => 0)))] H_100_53 := hP
  have hD : va_D AA [(h0, .inr (10, [.int 0, .ref q7_5, .ref q16_9, .ref q23_13, .ref q32_17, .int 0, .ref q39_21, .int 0, .int 0, .int 0, .int 0, .int 0, .int 0, .int (-1), .ref q52_28, .ref q60_32, .ref q68_36, .ref q76_40, .ref q83_44, .ref q90_48, .int 0, .int 0, .ref q98_52, .null, .int 0, .int 0, .int 0, .null, .null, .int 0, .null, .null, .int 0, .int 0, .int 0, .null, .null, .int 0, .null, .null, .null, .null])), (q7_5, .inl (ct 0, 98, .inl (fun _ => 0))), (q16_9, .inl (ct 0, 294, .inl (fun _ => 0))), (q23_13, .inl (ct 3, 3, .inl (fun _ => 0))), (q32_17, .inl (ct 2, 700, .inl (fun _ => 0))), (q39_21, .inl (ct 0, 5, .inl (fun _ => 0))), (q52_28, .inl (ct 0, 98, .inl (fun _ => 0))), (q60_32, .inl (ct 0, 61, .inl (fun _ => 0))), (q68_36, .inl (ct 0, 61, .inl (fun _ => 0))), (q76_40, .inl (ct 0, 61, .inl (fun _ => 0))), (q83_44, .inl (ct 0, 5, .inl (fun _ => 0))), (q90_48, .inl (ct 0, 5, .inl (fun _ => 0))), (q98_52, .inl (ct 0, 61, .inl (fun _ => 0)))] := hD
  refine lv_aload_n hx hb dX10_init_103 rfl (lv_at hl 0 rfl) ?_
  refine lv_bipush (v := 61) hx hb dX10_init_104 (by decide) ?_
  refine va_newa (D := D) (tys := tyl ct) (atype := .boolean) (ty := .boolean) (N' := 61) (a0 := (61, .inl (fun _ => 0))) hx hb (htl _ wq_7_2) rfl hK hP hD hS hA (fun _ => rfl) (by decide) (by decide) (by decide) (Nat.le_of_ble_eq_true rfl) (Nat.le_of_ble_eq_true rfl) dX10_init_106 (fun q106_56 cA H_106_56 hK1 hP hD hS => ?_)
  obtain rfl := ct_eq3 hK1
  clear hK1
  have hP : va_P D vwCl [(h0, .inr (10, [.int 0, .ref q7_5, .ref q16_9, .ref q23_13, .ref q32_17, .int 0, .ref q39_21, .int 0, .int 0, .int 0, .int 0, .int 0, .int 0, .int (-1), .ref q52_28, .ref q60_32, .ref q68_36, .ref q76_40, .ref q83_44, .ref q90_48, .int 0, .int 0, .ref q98_52, .null, .int 0, .int 0, .int 0, .null, .null, .int 0, .null, .null, .int 0, .int 0, .int 0, .null, .null, .int 0, .null, .null, .null, .null])), (q7_5, .inl (ct 0, 98, .inl (fun _ => 0))), (q16_9, .inl (ct 0, 294, .inl (fun _ => 0))), (q23_13, .inl (ct 3, 3, .inl (fun _ => 0))), (q32_17, .inl (ct 2, 700, .inl (fun _ => 0))), (q39_21, .inl (ct 0, 5, .inl (fun _ => 0))), (q52_28, .inl (ct 0, 98, .inl (fun _ => 0))), (q60_32, .inl (ct 0, 61, .inl (fun _ => 0))), (q68_36, .inl (ct 0, 61, .inl (fun _ => 0))), (q76_40, .inl (ct 0, 61, .inl (fun _ => 0))), (q83_44, .inl (ct 0, 5, .inl (fun _ => 0))), (q90_48, .inl (ct 0, 5, .inl (fun _ => 0))), (q98_52, .inl (ct 0, 61, .inl (fun _ => 0))), (q106_56, .inl (ct 3, 61, .inl (fun _ => 0)))] H_106_56 := hP
  have hD : va_D AA [(h0, .inr (10, [.int 0, .ref q7_5, .ref q16_9, .ref q23_13, .ref q32_17, .int 0, .ref q39_21, .int 0, .int 0, .int 0, .int 0, .int 0, .int 0, .int (-1), .ref q52_28, .ref q60_32, .ref q68_36, .ref q76_40, .ref q83_44, .ref q90_48, .int 0, .int 0, .ref q98_52, .null, .int 0, .int 0, .int 0, .null, .null, .int 0, .null, .null, .int 0, .int 0, .int 0, .null, .null, .int 0, .null, .null, .null, .null])), (q7_5, .inl (ct 0, 98, .inl (fun _ => 0))), (q16_9, .inl (ct 0, 294, .inl (fun _ => 0))), (q23_13, .inl (ct 3, 3, .inl (fun _ => 0))), (q32_17, .inl (ct 2, 700, .inl (fun _ => 0))), (q39_21, .inl (ct 0, 5, .inl (fun _ => 0))), (q52_28, .inl (ct 0, 98, .inl (fun _ => 0))), (q60_32, .inl (ct 0, 61, .inl (fun _ => 0))), (q68_36, .inl (ct 0, 61, .inl (fun _ => 0))), (q76_40, .inl (ct 0, 61, .inl (fun _ => 0))), (q83_44, .inl (ct 0, 5, .inl (fun _ => 0))), (q90_48, .inl (ct 0, 5, .inl (fun _ => 0))), (q98_52, .inl (ct 0, 61, .inl (fun _ => 0))), (q106_56, .inl (ct 3, 61, .inl (fun _ => 0)))] := hD
  refine va_putF (D := D) (tys := tyl ct) (ci := 10) (v := .ref q106_56) (ty := (.array .boolean)) (C := RX10) (T := TX10) (N := 42) hx hb htl inlX10 tyX10 tyX10_ok nmX10 hown hK hP hD hS 0 rfl rfl 23 (by decide) (htl _ wq_7_15) (fun _ h9 => h9) rfl hin rfl (tyX10_ok 23 (by decide)) rfl rfl (Nat.le_of_ble_eq_true rfl) dX10_init_108 (fun H_108_57 locs_108_57 hP hD hS => ?_)
  have hP : va_P D vwCl [(h0, .inr (10, [.int 0, .ref q7_5, .ref q16_9, .ref q23_13, .ref q32_17, .int 0, .ref q39_21, .int 0, .int 0, .int 0, .int 0, .int 0, .int 0, .int (-1), .ref q52_28, .ref q60_32, .ref q68_36, .ref q76_40, .ref q83_44, .ref q90_48, .int 0, .int 0, .ref q98_52, .ref q106_56, .int 0, .int 0, .int 0, .null, .null, .int 0, .null, .null, .int 0, .int 0, .int 0, .null, .null, .int 0, .null, .null, .null, .null])), (q7_5, .inl (ct 0, 98, .inl (fun _ => 0))), (q16_9, .inl (ct 0, 294, .inl (fun _ => 0))), (q23_13, .inl (ct 3, 3, .inl (fun _ => 0))), (q32_17, .inl (ct 2, 700, .inl (fun _ => 0))), (q39_21, .inl (ct 0, 5, .inl (fun _ => 0))), (q52_28, .inl (ct 0, 98, .inl (fun _ => 0))), (q60_32, .inl (ct 0, 61, .inl (fun _ => 0))), (q68_36, .inl (ct 0, 61, .inl (fun _ => 0))), (q76_40, .inl (ct 0, 61, .inl (fun _ => 0))), (q83_44, .inl (ct 0, 5, .inl (fun _ => 0))), (q90_48, .inl (ct 0, 5, .inl (fun _ => 0))), (q98_52, .inl (ct 0, 61, .inl (fun _ => 0))), (q106_56, .inl (ct 3, 61, .inl (fun _ => 0)))] H_108_57 := hP
  have hD : va_D AA [(h0, .inr (10, [.int 0, .ref q7_5, .ref q16_9, .ref q23_13, .ref q32_17, .int 0, .ref q39_21, .int 0, .int 0, .int 0, .int 0, .int 0, .int 0, .int (-1), .ref q52_28, .ref q60_32, .ref q68_36, .ref q76_40, .ref q83_44, .ref q90_48, .int 0, .int 0, .ref q98_52, .ref q106_56, .int 0, .int 0, .int 0, .null, .null, .int 0, .null, .null, .int 0, .int 0, .int 0, .null, .null, .int 0, .null, .null, .null, .null])), (q7_5, .inl (ct 0, 98, .inl (fun _ => 0))), (q16_9, .inl (ct 0, 294, .inl (fun _ => 0))), (q23_13, .inl (ct 3, 3, .inl (fun _ => 0))), (q32_17, .inl (ct 2, 700, .inl (fun _ => 0))), (q39_21, .inl (ct 0, 5, .inl (fun _ => 0))), (q52_28, .inl (ct 0, 98, .inl (fun _ => 0))), (q60_32, .inl (ct 0, 61, .inl (fun _ => 0))), (q68_36, .inl (ct 0, 61, .inl (fun _ => 0))), (q76_40, .inl (ct 0, 61, .inl (fun _ => 0))), (q83_44, .inl (ct 0, 5, .inl (fun _ => 0))), (q90_48, .inl (ct 0, 5, .inl (fun _ => 0))), (q98_52, .inl (ct 0, 61, .inl (fun _ => 0))), (q106_56, .inl (ct 3, 61, .inl (fun _ => 0)))] := hD
  refine lv_aload_n hx hb dX10_init_111 rfl (lv_at hl 0 rfl) ?_
  refine lv_bipush (v := 61) hx hb dX10_init_112 (by decide) ?_
  refine va_newa (D := D) (tys := tyl ct) (atype := .int) (ty := .int) (N' := 61) (a0 := (61, .inl (fun _ => 0))) hx hb (htl _ wq_3_0) rfl hK hP hD hS hA (fun _ => rfl) (by decide) (by decide) (by decide) (Nat.le_of_ble_eq_true rfl) (Nat.le_of_ble_eq_true rfl) dX10_init_114 (fun q114_60 cA H_114_60 hK1 hP hD hS => ?_)
  obtain rfl := ct_eq0 hK1
  clear hK1
  have hP : va_P D vwCl [(h0, .inr (10, [.int 0, .ref q7_5, .ref q16_9, .ref q23_13, .ref q32_17, .int 0, .ref q39_21, .int 0, .int 0, .int 0, .int 0, .int 0, .int 0, .int (-1), .ref q52_28, .ref q60_32, .ref q68_36, .ref q76_40, .ref q83_44, .ref q90_48, .int 0, .int 0, .ref q98_52, .ref q106_56, .int 0, .int 0, .int 0, .null, .null, .int 0, .null, .null, .int 0, .int 0, .int 0, .null, .null, .int 0, .null, .null, .null, .null])), (q7_5, .inl (ct 0, 98, .inl (fun _ => 0))), (q16_9, .inl (ct 0, 294, .inl (fun _ => 0))), (q23_13, .inl (ct 3, 3, .inl (fun _ => 0))), (q32_17, .inl (ct 2, 700, .inl (fun _ => 0))), (q39_21, .inl (ct 0, 5, .inl (fun _ => 0))), (q52_28, .inl (ct 0, 98, .inl (fun _ => 0))), (q60_32, .inl (ct 0, 61, .inl (fun _ => 0))), (q68_36, .inl (ct 0, 61, .inl (fun _ => 0))), (q76_40, .inl (ct 0, 61, .inl (fun _ => 0))), (q83_44, .inl (ct 0, 5, .inl (fun _ => 0))), (q90_48, .inl (ct 0, 5, .inl (fun _ => 0))), (q98_52, .inl (ct 0, 61, .inl (fun _ => 0))), (q106_56, .inl (ct 3, 61, .inl (fun _ => 0))), (q114_60, .inl (ct 0, 61, .inl (fun _ => 0)))] H_114_60 := hP
  have hD : va_D AA [(h0, .inr (10, [.int 0, .ref q7_5, .ref q16_9, .ref q23_13, .ref q32_17, .int 0, .ref q39_21, .int 0, .int 0, .int 0, .int 0, .int 0, .int 0, .int (-1), .ref q52_28, .ref q60_32, .ref q68_36, .ref q76_40, .ref q83_44, .ref q90_48, .int 0, .int 0, .ref q98_52, .ref q106_56, .int 0, .int 0, .int 0, .null, .null, .int 0, .null, .null, .int 0, .int 0, .int 0, .null, .null, .int 0, .null, .null, .null, .null])), (q7_5, .inl (ct 0, 98, .inl (fun _ => 0))), (q16_9, .inl (ct 0, 294, .inl (fun _ => 0))), (q23_13, .inl (ct 3, 3, .inl (fun _ => 0))), (q32_17, .inl (ct 2, 700, .inl (fun _ => 0))), (q39_21, .inl (ct 0, 5, .inl (fun _ => 0))), (q52_28, .inl (ct 0, 98, .inl (fun _ => 0))), (q60_32, .inl (ct 0, 61, .inl (fun _ => 0))), (q68_36, .inl (ct 0, 61, .inl (fun _ => 0))), (q76_40, .inl (ct 0, 61, .inl (fun _ => 0))), (q83_44, .inl (ct 0, 5, .inl (fun _ => 0))), (q90_48, .inl (ct 0, 5, .inl (fun _ => 0))), (q98_52, .inl (ct 0, 61, .inl (fun _ => 0))), (q106_56, .inl (ct 3, 61, .inl (fun _ => 0))), (q114_60, .inl (ct 0, 61, .inl (fun _ => 0)))] := hD
  refine va_putF (D := D) (tys := tyl ct) (ci := 10) (v := .ref q114_60) (ty := (.array .int)) (C := RX10) (T := TX10) (N := 42) hx hb htl inlX10 tyX10 tyX10_ok nmX10 hown hK hP hD hS 0 rfl rfl 27 (by decide) (htl _ wq_7_16) (fun _ h9 => h9) rfl hin rfl (tyX10_ok 27 (by decide)) rfl rfl (Nat.le_of_ble_eq_true rfl) dX10_init_116 (fun H_116_61 locs_116_61 hP hD hS => ?_)
  have hP : va_P D vwCl [(h0, .inr (10, [.int 0, .ref q7_5, .ref q16_9, .ref q23_13, .ref q32_17, .int 0, .ref q39_21, .int 0, .int 0, .int 0, .int 0, .int 0, .int 0, .int (-1), .ref q52_28, .ref q60_32, .ref q68_36, .ref q76_40, .ref q83_44, .ref q90_48, .int 0, .int 0, .ref q98_52, .ref q106_56, .int 0, .int 0, .int 0, .ref q114_60, .null, .int 0, .null, .null, .int 0, .int 0, .int 0, .null, .null, .int 0, .null, .null, .null, .null])), (q7_5, .inl (ct 0, 98, .inl (fun _ => 0))), (q16_9, .inl (ct 0, 294, .inl (fun _ => 0))), (q23_13, .inl (ct 3, 3, .inl (fun _ => 0))), (q32_17, .inl (ct 2, 700, .inl (fun _ => 0))), (q39_21, .inl (ct 0, 5, .inl (fun _ => 0))), (q52_28, .inl (ct 0, 98, .inl (fun _ => 0))), (q60_32, .inl (ct 0, 61, .inl (fun _ => 0))), (q68_36, .inl (ct 0, 61, .inl (fun _ => 0))), (q76_40, .inl (ct 0, 61, .inl (fun _ => 0))), (q83_44, .inl (ct 0, 5, .inl (fun _ => 0))), (q90_48, .inl (ct 0, 5, .inl (fun _ => 0))), (q98_52, .inl (ct 0, 61, .inl (fun _ => 0))), (q106_56, .inl (ct 3, 61, .inl (fun _ => 0))), (q114_60, .inl (ct 0, 61, .inl (fun _ => 0)))] H_116_61 := hP
  have hD : va_D AA [(h0, .inr (10, [.int 0, .ref q7_5, .ref q16_9, .ref q23_13, .ref q32_17, .int 0, .ref q39_21, .int 0, .int 0, .int 0, .int 0, .int 0, .int 0, .int (-1), .ref q52_28, .ref q60_32, .ref q68_36, .ref q76_40, .ref q83_44, .ref q90_48, .int 0, .int 0, .ref q98_52, .ref q106_56, .int 0, .int 0, .int 0, .ref q114_60, .null, .int 0, .null, .null, .int 0, .int 0, .int 0, .null, .null, .int 0, .null, .null, .null, .null])), (q7_5, .inl (ct 0, 98, .inl (fun _ => 0))), (q16_9, .inl (ct 0, 294, .inl (fun _ => 0))), (q23_13, .inl (ct 3, 3, .inl (fun _ => 0))), (q32_17, .inl (ct 2, 700, .inl (fun _ => 0))), (q39_21, .inl (ct 0, 5, .inl (fun _ => 0))), (q52_28, .inl (ct 0, 98, .inl (fun _ => 0))), (q60_32, .inl (ct 0, 61, .inl (fun _ => 0))), (q68_36, .inl (ct 0, 61, .inl (fun _ => 0))), (q76_40, .inl (ct 0, 61, .inl (fun _ => 0))), (q83_44, .inl (ct 0, 5, .inl (fun _ => 0))), (q90_48, .inl (ct 0, 5, .inl (fun _ => 0))), (q98_52, .inl (ct 0, 61, .inl (fun _ => 0))), (q106_56, .inl (ct 3, 61, .inl (fun _ => 0))), (q114_60, .inl (ct 0, 61, .inl (fun _ => 0)))] := hD
  refine lv_aload_n hx hb dX10_init_119 rfl (lv_at hl 0 rfl) ?_
  refine lv_bipush (v := 10) hx hb dX10_init_120 (by decide) ?_
  refine va_newa (D := D) (tys := tyl ct) (atype := .int) (ty := .int) (N' := 10) (a0 := (10, .inl (fun _ => 0))) hx hb (htl _ wq_3_0) rfl hK hP hD hS hA (fun _ => rfl) (by decide) (by decide) (by decide) (Nat.le_of_ble_eq_true rfl) (Nat.le_of_ble_eq_true rfl) dX10_init_122 (fun q122_64 cA H_122_64 hK1 hP hD hS => ?_)
  obtain rfl := ct_eq0 hK1
  clear hK1
  have hP : va_P D vwCl [(h0, .inr (10, [.int 0, .ref q7_5, .ref q16_9, .ref q23_13, .ref q32_17, .int 0, .ref q39_21, .int 0, .int 0, .int 0, .int 0, .int 0, .int 0, .int (-1), .ref q52_28, .ref q60_32, .ref q68_36, .ref q76_40, .ref q83_44, .ref q90_48, .int 0, .int 0, .ref q98_52, .ref q106_56, .int 0, .int 0, .int 0, .ref q114_60, .null, .int 0, .null, .null, .int 0, .int 0, .int 0, .null, .null, .int 0, .null, .null, .null, .null])), (q7_5, .inl (ct 0, 98, .inl (fun _ => 0))), (q16_9, .inl (ct 0, 294, .inl (fun _ => 0))), (q23_13, .inl (ct 3, 3, .inl (fun _ => 0))), (q32_17, .inl (ct 2, 700, .inl (fun _ => 0))), (q39_21, .inl (ct 0, 5, .inl (fun _ => 0))), (q52_28, .inl (ct 0, 98, .inl (fun _ => 0))), (q60_32, .inl (ct 0, 61, .inl (fun _ => 0))), (q68_36, .inl (ct 0, 61, .inl (fun _ => 0))), (q76_40, .inl (ct 0, 61, .inl (fun _ => 0))), (q83_44, .inl (ct 0, 5, .inl (fun _ => 0))), (q90_48, .inl (ct 0, 5, .inl (fun _ => 0))), (q98_52, .inl (ct 0, 61, .inl (fun _ => 0))), (q106_56, .inl (ct 3, 61, .inl (fun _ => 0))), (q114_60, .inl (ct 0, 61, .inl (fun _ => 0))), (q122_64, .inl (ct 0, 10, .inl (fun _ => 0)))] H_122_64 := hP
  have hD : va_D AA [(h0, .inr (10, [.int 0, .ref q7_5, .ref q16_9, .ref q23_13, .ref q32_17, .int 0, .ref q39_21, .int 0, .int 0, .int 0, .int 0, .int 0, .int 0, .int (-1), .ref q52_28, .ref q60_32, .ref q68_36, .ref q76_40, .ref q83_44, .ref q90_48, .int 0, .int 0, .ref q98_52, .ref q106_56, .int 0, .int 0, .int 0, .ref q114_60, .null, .int 0, .null, .null, .int 0, .int 0, .int 0, .null, .null, .int 0, .null, .null, .null, .null])), (q7_5, .inl (ct 0, 98, .inl (fun _ => 0))), (q16_9, .inl (ct 0, 294, .inl (fun _ => 0))), (q23_13, .inl (ct 3, 3, .inl (fun _ => 0))), (q32_17, .inl (ct 2, 700, .inl (fun _ => 0))), (q39_21, .inl (ct 0, 5, .inl (fun _ => 0))), (q52_28, .inl (ct 0, 98, .inl (fun _ => 0))), (q60_32, .inl (ct 0, 61, .inl (fun _ => 0))), (q68_36, .inl (ct 0, 61, .inl (fun _ => 0))), (q76_40, .inl (ct 0, 61, .inl (fun _ => 0))), (q83_44, .inl (ct 0, 5, .inl (fun _ => 0))), (q90_48, .inl (ct 0, 5, .inl (fun _ => 0))), (q98_52, .inl (ct 0, 61, .inl (fun _ => 0))), (q106_56, .inl (ct 3, 61, .inl (fun _ => 0))), (q114_60, .inl (ct 0, 61, .inl (fun _ => 0))), (q122_64, .inl (ct 0, 10, .inl (fun _ => 0)))] := hD
  refine va_putF (D := D) (tys := tyl ct) (ci := 10) (v := .ref q122_64) (ty := (.array .int)) (C := RX10) (T := TX10) (N := 42) hx hb htl inlX10 tyX10 tyX10_ok nmX10 hown hK hP hD hS 0 rfl rfl 28 (by decide) (htl _ wq_7_17) (fun _ h9 => h9) rfl hin rfl (tyX10_ok 28 (by decide)) rfl rfl (Nat.le_of_ble_eq_true rfl) dX10_init_124 (fun H_124_65 locs_124_65 hP hD hS => ?_)
  have hP : va_P D vwCl [(h0, .inr (10, [.int 0, .ref q7_5, .ref q16_9, .ref q23_13, .ref q32_17, .int 0, .ref q39_21, .int 0, .int 0, .int 0, .int 0, .int 0, .int 0, .int (-1), .ref q52_28, .ref q60_32, .ref q68_36, .ref q76_40, .ref q83_44, .ref q90_48, .int 0, .int 0, .ref q98_52, .ref q106_56, .int 0, .int 0, .int 0, .ref q114_60, .ref q122_64, .int 0, .null, .null, .int 0, .int 0, .int 0, .null, .null, .int 0, .null, .null, .null, .null])), (q7_5, .inl (ct 0, 98, .inl (fun _ => 0))), (q16_9, .inl (ct 0, 294, .inl (fun _ => 0))), (q23_13, .inl (ct 3, 3, .inl (fun _ => 0))), (q32_17, .inl (ct 2, 700, .inl (fun _ => 0))), (q39_21, .inl (ct 0, 5, .inl (fun _ => 0))), (q52_28, .inl (ct 0, 98, .inl (fun _ => 0))), (q60_32, .inl (ct 0, 61, .inl (fun _ => 0))), (q68_36, .inl (ct 0, 61, .inl (fun _ => 0))), (q76_40, .inl (ct 0, 61, .inl (fun _ => 0))), (q83_44, .inl (ct 0, 5, .inl (fun _ => 0))), (q90_48, .inl (ct 0, 5, .inl (fun _ => 0))), (q98_52, .inl (ct 0, 61, .inl (fun _ => 0))), (q106_56, .inl (ct 3, 61, .inl (fun _ => 0))), (q114_60, .inl (ct 0, 61, .inl (fun _ => 0))), (q122_64, .inl (ct 0, 10, .inl (fun _ => 0)))] H_124_65 := hP
  have hD : va_D AA [(h0, .inr (10, [.int 0, .ref q7_5, .ref q16_9, .ref q23_13, .ref q32_17, .int 0, .ref q39_21, .int 0, .int 0, .int 0, .int 0, .int 0, .int 0, .int (-1), .ref q52_28, .ref q60_32, .ref q68_36, .ref q76_40, .ref q83_44, .ref q90_48, .int 0, .int 0, .ref q98_52, .ref q106_56, .int 0, .int 0, .int 0, .ref q114_60, .ref q122_64, .int 0, .null, .null, .int 0, .int 0, .int 0, .null, .null, .int 0, .null, .null, .null, .null])), (q7_5, .inl (ct 0, 98, .inl (fun _ => 0))), (q16_9, .inl (ct 0, 294, .inl (fun _ => 0))), (q23_13, .inl (ct 3, 3, .inl (fun _ => 0))), (q32_17, .inl (ct 2, 700, .inl (fun _ => 0))), (q39_21, .inl (ct 0, 5, .inl (fun _ => 0))), (q52_28, .inl (ct 0, 98, .inl (fun _ => 0))), (q60_32, .inl (ct 0, 61, .inl (fun _ => 0))), (q68_36, .inl (ct 0, 61, .inl (fun _ => 0))), (q76_40, .inl (ct 0, 61, .inl (fun _ => 0))), (q83_44, .inl (ct 0, 5, .inl (fun _ => 0))), (q90_48, .inl (ct 0, 5, .inl (fun _ => 0))), (q98_52, .inl (ct 0, 61, .inl (fun _ => 0))), (q106_56, .inl (ct 3, 61, .inl (fun _ => 0))), (q114_60, .inl (ct 0, 61, .inl (fun _ => 0))), (q122_64, .inl (ct 0, 10, .inl (fun _ => 0)))] := hD
  refine lv_aload_n hx hb dX10_init_127 rfl (lv_at hl 0 rfl) ?_
  refine lv_sipush (v := 610) hx hb dX10_init_128 (by decide) ?_
  refine va_newa (D := D) (tys := tyl ct) (atype := .int) (ty := .int) (N' := 610) (a0 := (610, .inl (fun _ => 0))) hx hb (htl _ wq_3_0) rfl hK hP hD hS hA (fun _ => rfl) (by decide) (by decide) (by decide) (Nat.le_of_ble_eq_true rfl) (Nat.le_of_ble_eq_true rfl) dX10_init_131 (fun q131_68 cA H_131_68 hK1 hP hD hS => ?_)
  obtain rfl := ct_eq0 hK1
  clear hK1
  have hP : va_P D vwCl [(h0, .inr (10, [.int 0, .ref q7_5, .ref q16_9, .ref q23_13, .ref q32_17, .int 0, .ref q39_21, .int 0, .int 0, .int 0, .int 0, .int 0, .int 0, .int (-1), .ref q52_28, .ref q60_32, .ref q68_36, .ref q76_40, .ref q83_44, .ref q90_48, .int 0, .int 0, .ref q98_52, .ref q106_56, .int 0, .int 0, .int 0, .ref q114_60, .ref q122_64, .int 0, .null, .null, .int 0, .int 0, .int 0, .null, .null, .int 0, .null, .null, .null, .null])), (q7_5, .inl (ct 0, 98, .inl (fun _ => 0))), (q16_9, .inl (ct 0, 294, .inl (fun _ => 0))), (q23_13, .inl (ct 3, 3, .inl (fun _ => 0))), (q32_17, .inl (ct 2, 700, .inl (fun _ => 0))), (q39_21, .inl (ct 0, 5, .inl (fun _ => 0))), (q52_28, .inl (ct 0, 98, .inl (fun _ => 0))), (q60_32, .inl (ct 0, 61, .inl (fun _ => 0))), (q68_36, .inl (ct 0, 61, .inl (fun _ => 0))), (q76_40, .inl (ct 0, 61, .inl (fun _ => 0))), (q83_44, .inl (ct 0, 5, .inl (fun _ => 0))), (q90_48, .inl (ct 0, 5, .inl (fun _ => 0))), (q98_52, .inl (ct 0, 61, .inl (fun _ => 0))), (q106_56, .inl (ct 3, 61, .inl (fun _ => 0))), (q114_60, .inl (ct 0, 61, .inl (fun _ => 0))), (q122_64, .inl (ct 0, 10, .inl (fun _ => 0))), (q131_68, .inl (ct 0, 610, .inl (fun _ => 0)))] H_131_68 := hP
  have hD : va_D AA [(h0, .inr (10, [.int 0, .ref q7_5, .ref q16_9, .ref q23_13, .ref q32_17, .int 0, .ref q39_21, .int 0, .int 0, .int 0, .int 0, .int 0, .int 0, .int (-1), .ref q52_28, .ref q60_32, .ref q68_36, .ref q76_40, .ref q83_44, .ref q90_48, .int 0, .int 0, .ref q98_52, .ref q106_56, .int 0, .int 0, .int 0, .ref q114_60, .ref q122_64, .int 0, .null, .null, .int 0, .int 0, .int 0, .null, .null, .int 0, .null, .null, .null, .null])), (q7_5, .inl (ct 0, 98, .inl (fun _ => 0))), (q16_9, .inl (ct 0, 294, .inl (fun _ => 0))), (q23_13, .inl (ct 3, 3, .inl (fun _ => 0))), (q32_17, .inl (ct 2, 700, .inl (fun _ => 0))), (q39_21, .inl (ct 0, 5, .inl (fun _ => 0))), (q52_28, .inl (ct 0, 98, .inl (fun _ => 0))), (q60_32, .inl (ct 0, 61, .inl (fun _ => 0))), (q68_36, .inl (ct 0, 61, .inl (fun _ => 0))), (q76_40, .inl (ct 0, 61, .inl (fun _ => 0))), (q83_44, .inl (ct 0, 5, .inl (fun _ => 0))), (q90_48, .inl (ct 0, 5, .inl (fun _ => 0))), (q98_52, .inl (ct 0, 61, .inl (fun _ => 0))), (q106_56, .inl (ct 3, 61, .inl (fun _ => 0))), (q114_60, .inl (ct 0, 61, .inl (fun _ => 0))), (q122_64, .inl (ct 0, 10, .inl (fun _ => 0))), (q131_68, .inl (ct 0, 610, .inl (fun _ => 0)))] := hD
  refine va_putF (D := D) (tys := tyl ct) (ci := 10) (v := .ref q131_68) (ty := (.array .int)) (C := RX10) (T := TX10) (N := 42) hx hb htl inlX10 tyX10 tyX10_ok nmX10 hown hK hP hD hS 0 rfl rfl 30 (by decide) (htl _ wq_7_18) (fun _ h9 => h9) rfl hin rfl (tyX10_ok 30 (by decide)) rfl rfl (Nat.le_of_ble_eq_true rfl) dX10_init_133 (fun H_133_69 locs_133_69 hP hD hS => ?_)
  have hP : va_P D vwCl [(h0, .inr (10, [.int 0, .ref q7_5, .ref q16_9, .ref q23_13, .ref q32_17, .int 0, .ref q39_21, .int 0, .int 0, .int 0, .int 0, .int 0, .int 0, .int (-1), .ref q52_28, .ref q60_32, .ref q68_36, .ref q76_40, .ref q83_44, .ref q90_48, .int 0, .int 0, .ref q98_52, .ref q106_56, .int 0, .int 0, .int 0, .ref q114_60, .ref q122_64, .int 0, .ref q131_68, .null, .int 0, .int 0, .int 0, .null, .null, .int 0, .null, .null, .null, .null])), (q7_5, .inl (ct 0, 98, .inl (fun _ => 0))), (q16_9, .inl (ct 0, 294, .inl (fun _ => 0))), (q23_13, .inl (ct 3, 3, .inl (fun _ => 0))), (q32_17, .inl (ct 2, 700, .inl (fun _ => 0))), (q39_21, .inl (ct 0, 5, .inl (fun _ => 0))), (q52_28, .inl (ct 0, 98, .inl (fun _ => 0))), (q60_32, .inl (ct 0, 61, .inl (fun _ => 0))), (q68_36, .inl (ct 0, 61, .inl (fun _ => 0))), (q76_40, .inl (ct 0, 61, .inl (fun _ => 0))), (q83_44, .inl (ct 0, 5, .inl (fun _ => 0))), (q90_48, .inl (ct 0, 5, .inl (fun _ => 0))), (q98_52, .inl (ct 0, 61, .inl (fun _ => 0))), (q106_56, .inl (ct 3, 61, .inl (fun _ => 0))), (q114_60, .inl (ct 0, 61, .inl (fun _ => 0))), (q122_64, .inl (ct 0, 10, .inl (fun _ => 0))), (q131_68, .inl (ct 0, 610, .inl (fun _ => 0)))] H_133_69 := hP
  have hD : va_D AA [(h0, .inr (10, [.int 0, .ref q7_5, .ref q16_9, .ref q23_13, .ref q32_17, .int 0, .ref q39_21, .int 0, .int 0, .int 0, .int 0, .int 0, .int 0, .int (-1), .ref q52_28, .ref q60_32, .ref q68_36, .ref q76_40, .ref q83_44, .ref q90_48, .int 0, .int 0, .ref q98_52, .ref q106_56, .int 0, .int 0, .int 0, .ref q114_60, .ref q122_64, .int 0, .ref q131_68, .null, .int 0, .int 0, .int 0, .null, .null, .int 0, .null, .null, .null, .null])), (q7_5, .inl (ct 0, 98, .inl (fun _ => 0))), (q16_9, .inl (ct 0, 294, .inl (fun _ => 0))), (q23_13, .inl (ct 3, 3, .inl (fun _ => 0))), (q32_17, .inl (ct 2, 700, .inl (fun _ => 0))), (q39_21, .inl (ct 0, 5, .inl (fun _ => 0))), (q52_28, .inl (ct 0, 98, .inl (fun _ => 0))), (q60_32, .inl (ct 0, 61, .inl (fun _ => 0))), (q68_36, .inl (ct 0, 61, .inl (fun _ => 0))), (q76_40, .inl (ct 0, 61, .inl (fun _ => 0))), (q83_44, .inl (ct 0, 5, .inl (fun _ => 0))), (q90_48, .inl (ct 0, 5, .inl (fun _ => 0))), (q98_52, .inl (ct 0, 61, .inl (fun _ => 0))), (q106_56, .inl (ct 3, 61, .inl (fun _ => 0))), (q114_60, .inl (ct 0, 61, .inl (fun _ => 0))), (q122_64, .inl (ct 0, 10, .inl (fun _ => 0))), (q131_68, .inl (ct 0, 610, .inl (fun _ => 0)))] := hD
  refine lv_aload_n hx hb dX10_init_136 rfl (lv_at hl 0 rfl) ?_
  refine lv_ldc (v := 37210) hx hb hown (htl _ wq_7_19) dX10_init_137 ?_
  refine va_newa (D := D) (tys := tyl ct) (atype := .byte) (ty := .byte) (N' := 37210) (a0 := (37210, .inl (fun _ => 0))) hx hb (htl _ wq_7_4) rfl hK hP hD hS hA (fun _ => rfl) (by decide) (by decide) (by decide) (Nat.le_of_ble_eq_true rfl) (Nat.le_of_ble_eq_true rfl) dX10_init_139 (fun q139_72 cA H_139_72 hK1 hP hD hS => ?_)
  obtain rfl := ct_eq2 hK1
  clear hK1
  have hP : va_P D vwCl [(h0, .inr (10, [.int 0, .ref q7_5, .ref q16_9, .ref q23_13, .ref q32_17, .int 0, .ref q39_21, .int 0, .int 0, .int 0, .int 0, .int 0, .int 0, .int (-1), .ref q52_28, .ref q60_32, .ref q68_36, .ref q76_40, .ref q83_44, .ref q90_48, .int 0, .int 0, .ref q98_52, .ref q106_56, .int 0, .int 0, .int 0, .ref q114_60, .ref q122_64, .int 0, .ref q131_68, .null, .int 0, .int 0, .int 0, .null, .null, .int 0, .null, .null, .null, .null])), (q7_5, .inl (ct 0, 98, .inl (fun _ => 0))), (q16_9, .inl (ct 0, 294, .inl (fun _ => 0))), (q23_13, .inl (ct 3, 3, .inl (fun _ => 0))), (q32_17, .inl (ct 2, 700, .inl (fun _ => 0))), (q39_21, .inl (ct 0, 5, .inl (fun _ => 0))), (q52_28, .inl (ct 0, 98, .inl (fun _ => 0))), (q60_32, .inl (ct 0, 61, .inl (fun _ => 0))), (q68_36, .inl (ct 0, 61, .inl (fun _ => 0))), (q76_40, .inl (ct 0, 61, .inl (fun _ => 0))), (q83_44, .inl (ct 0, 5, .inl (fun _ => 0))), (q90_48, .inl (ct 0, 5, .inl (fun _ => 0))), (q98_52, .inl (ct 0, 61, .inl (fun _ => 0))), (q106_56, .inl (ct 3, 61, .inl (fun _ => 0))), (q114_60, .inl (ct 0, 61, .inl (fun _ => 0))), (q122_64, .inl (ct 0, 10, .inl (fun _ => 0))), (q131_68, .inl (ct 0, 610, .inl (fun _ => 0))), (q139_72, .inl (ct 2, 37210, .inl (fun _ => 0)))] H_139_72 := hP
  have hD : va_D AA [(h0, .inr (10, [.int 0, .ref q7_5, .ref q16_9, .ref q23_13, .ref q32_17, .int 0, .ref q39_21, .int 0, .int 0, .int 0, .int 0, .int 0, .int 0, .int (-1), .ref q52_28, .ref q60_32, .ref q68_36, .ref q76_40, .ref q83_44, .ref q90_48, .int 0, .int 0, .ref q98_52, .ref q106_56, .int 0, .int 0, .int 0, .ref q114_60, .ref q122_64, .int 0, .ref q131_68, .null, .int 0, .int 0, .int 0, .null, .null, .int 0, .null, .null, .null, .null])), (q7_5, .inl (ct 0, 98, .inl (fun _ => 0))), (q16_9, .inl (ct 0, 294, .inl (fun _ => 0))), (q23_13, .inl (ct 3, 3, .inl (fun _ => 0))), (q32_17, .inl (ct 2, 700, .inl (fun _ => 0))), (q39_21, .inl (ct 0, 5, .inl (fun _ => 0))), (q52_28, .inl (ct 0, 98, .inl (fun _ => 0))), (q60_32, .inl (ct 0, 61, .inl (fun _ => 0))), (q68_36, .inl (ct 0, 61, .inl (fun _ => 0))), (q76_40, .inl (ct 0, 61, .inl (fun _ => 0))), (q83_44, .inl (ct 0, 5, .inl (fun _ => 0))), (q90_48, .inl (ct 0, 5, .inl (fun _ => 0))), (q98_52, .inl (ct 0, 61, .inl (fun _ => 0))), (q106_56, .inl (ct 3, 61, .inl (fun _ => 0))), (q114_60, .inl (ct 0, 61, .inl (fun _ => 0))), (q122_64, .inl (ct 0, 10, .inl (fun _ => 0))), (q131_68, .inl (ct 0, 610, .inl (fun _ => 0))), (q139_72, .inl (ct 2, 37210, .inl (fun _ => 0)))] := hD
  refine va_putF (D := D) (tys := tyl ct) (ci := 10) (v := .ref q139_72) (ty := (.array .byte)) (C := RX10) (T := TX10) (N := 42) hx hb htl inlX10 tyX10 tyX10_ok nmX10 hown hK hP hD hS 0 rfl rfl 31 (by decide) (htl _ wq_7_20) (fun _ h9 => h9) rfl hin rfl (tyX10_ok 31 (by decide)) rfl rfl (Nat.le_of_ble_eq_true rfl) dX10_init_141 (fun H_141_73 locs_141_73 hP hD hS => ?_)
  have hP : va_P D vwCl [(h0, .inr (10, [.int 0, .ref q7_5, .ref q16_9, .ref q23_13, .ref q32_17, .int 0, .ref q39_21, .int 0, .int 0, .int 0, .int 0, .int 0, .int 0, .int (-1), .ref q52_28, .ref q60_32, .ref q68_36, .ref q76_40, .ref q83_44, .ref q90_48, .int 0, .int 0, .ref q98_52, .ref q106_56, .int 0, .int 0, .int 0, .ref q114_60, .ref q122_64, .int 0, .ref q131_68, .ref q139_72, .int 0, .int 0, .int 0, .null, .null, .int 0, .null, .null, .null, .null])), (q7_5, .inl (ct 0, 98, .inl (fun _ => 0))), (q16_9, .inl (ct 0, 294, .inl (fun _ => 0))), (q23_13, .inl (ct 3, 3, .inl (fun _ => 0))), (q32_17, .inl (ct 2, 700, .inl (fun _ => 0))), (q39_21, .inl (ct 0, 5, .inl (fun _ => 0))), (q52_28, .inl (ct 0, 98, .inl (fun _ => 0))), (q60_32, .inl (ct 0, 61, .inl (fun _ => 0))), (q68_36, .inl (ct 0, 61, .inl (fun _ => 0))), (q76_40, .inl (ct 0, 61, .inl (fun _ => 0))), (q83_44, .inl (ct 0, 5, .inl (fun _ => 0))), (q90_48, .inl (ct 0, 5, .inl (fun _ => 0))), (q98_52, .inl (ct 0, 61, .inl (fun _ => 0))), (q106_56, .inl (ct 3, 61, .inl (fun _ => 0))), (q114_60, .inl (ct 0, 61, .inl (fun _ => 0))), (q122_64, .inl (ct 0, 10, .inl (fun _ => 0))), (q131_68, .inl (ct 0, 610, .inl (fun _ => 0))), (q139_72, .inl (ct 2, 37210, .inl (fun _ => 0)))] H_141_73 := hP
  have hD : va_D AA [(h0, .inr (10, [.int 0, .ref q7_5, .ref q16_9, .ref q23_13, .ref q32_17, .int 0, .ref q39_21, .int 0, .int 0, .int 0, .int 0, .int 0, .int 0, .int (-1), .ref q52_28, .ref q60_32, .ref q68_36, .ref q76_40, .ref q83_44, .ref q90_48, .int 0, .int 0, .ref q98_52, .ref q106_56, .int 0, .int 0, .int 0, .ref q114_60, .ref q122_64, .int 0, .ref q131_68, .ref q139_72, .int 0, .int 0, .int 0, .null, .null, .int 0, .null, .null, .null, .null])), (q7_5, .inl (ct 0, 98, .inl (fun _ => 0))), (q16_9, .inl (ct 0, 294, .inl (fun _ => 0))), (q23_13, .inl (ct 3, 3, .inl (fun _ => 0))), (q32_17, .inl (ct 2, 700, .inl (fun _ => 0))), (q39_21, .inl (ct 0, 5, .inl (fun _ => 0))), (q52_28, .inl (ct 0, 98, .inl (fun _ => 0))), (q60_32, .inl (ct 0, 61, .inl (fun _ => 0))), (q68_36, .inl (ct 0, 61, .inl (fun _ => 0))), (q76_40, .inl (ct 0, 61, .inl (fun _ => 0))), (q83_44, .inl (ct 0, 5, .inl (fun _ => 0))), (q90_48, .inl (ct 0, 5, .inl (fun _ => 0))), (q98_52, .inl (ct 0, 61, .inl (fun _ => 0))), (q106_56, .inl (ct 3, 61, .inl (fun _ => 0))), (q114_60, .inl (ct 0, 61, .inl (fun _ => 0))), (q122_64, .inl (ct 0, 10, .inl (fun _ => 0))), (q131_68, .inl (ct 0, 610, .inl (fun _ => 0))), (q139_72, .inl (ct 2, 37210, .inl (fun _ => 0)))] := hD
  refine lv_aload_n hx hb dX10_init_144 rfl (lv_at hl 0 rfl) ?_
  refine lv_sipush (v := 1300) hx hb dX10_init_145 (by decide) ?_
  refine va_newa (D := D) (tys := tyl ct) (atype := .long) (ty := .long) (N' := 1300) (a0 := (1300, .inr (.inl (fun _ => 0)))) hx hb (htl _ wq_6_8) rfl hK hP hD hS hA (fun _ => rfl) (by decide) (by decide) (by decide) (Nat.le_of_ble_eq_true rfl) (Nat.le_of_ble_eq_true rfl) dX10_init_148 (fun q148_76 cA H_148_76 hK1 hP hD hS => ?_)
  obtain rfl := ct_eq1 hK1
  clear hK1
  have hP : va_P D vwCl [(h0, .inr (10, [.int 0, .ref q7_5, .ref q16_9, .ref q23_13, .ref q32_17, .int 0, .ref q39_21, .int 0, .int 0, .int 0, .int 0, .int 0, .int 0, .int (-1), .ref q52_28, .ref q60_32, .ref q68_36, .ref q76_40, .ref q83_44, .ref q90_48, .int 0, .int 0, .ref q98_52, .ref q106_56, .int 0, .int 0, .int 0, .ref q114_60, .ref q122_64, .int 0, .ref q131_68, .ref q139_72, .int 0, .int 0, .int 0, .null, .null, .int 0, .null, .null, .null, .null])), (q7_5, .inl (ct 0, 98, .inl (fun _ => 0))), (q16_9, .inl (ct 0, 294, .inl (fun _ => 0))), (q23_13, .inl (ct 3, 3, .inl (fun _ => 0))), (q32_17, .inl (ct 2, 700, .inl (fun _ => 0))), (q39_21, .inl (ct 0, 5, .inl (fun _ => 0))), (q52_28, .inl (ct 0, 98, .inl (fun _ => 0))), (q60_32, .inl (ct 0, 61, .inl (fun _ => 0))), (q68_36, .inl (ct 0, 61, .inl (fun _ => 0))), (q76_40, .inl (ct 0, 61, .inl (fun _ => 0))), (q83_44, .inl (ct 0, 5, .inl (fun _ => 0))), (q90_48, .inl (ct 0, 5, .inl (fun _ => 0))), (q98_52, .inl (ct 0, 61, .inl (fun _ => 0))), (q106_56, .inl (ct 3, 61, .inl (fun _ => 0))), (q114_60, .inl (ct 0, 61, .inl (fun _ => 0))), (q122_64, .inl (ct 0, 10, .inl (fun _ => 0))), (q131_68, .inl (ct 0, 610, .inl (fun _ => 0))), (q139_72, .inl (ct 2, 37210, .inl (fun _ => 0))), (q148_76, .inl (ct 1, 1300, .inr (.inl (fun _ => 0))))] H_148_76 := hP
  have hD : va_D AA [(h0, .inr (10, [.int 0, .ref q7_5, .ref q16_9, .ref q23_13, .ref q32_17, .int 0, .ref q39_21, .int 0, .int 0, .int 0, .int 0, .int 0, .int 0, .int (-1), .ref q52_28, .ref q60_32, .ref q68_36, .ref q76_40, .ref q83_44, .ref q90_48, .int 0, .int 0, .ref q98_52, .ref q106_56, .int 0, .int 0, .int 0, .ref q114_60, .ref q122_64, .int 0, .ref q131_68, .ref q139_72, .int 0, .int 0, .int 0, .null, .null, .int 0, .null, .null, .null, .null])), (q7_5, .inl (ct 0, 98, .inl (fun _ => 0))), (q16_9, .inl (ct 0, 294, .inl (fun _ => 0))), (q23_13, .inl (ct 3, 3, .inl (fun _ => 0))), (q32_17, .inl (ct 2, 700, .inl (fun _ => 0))), (q39_21, .inl (ct 0, 5, .inl (fun _ => 0))), (q52_28, .inl (ct 0, 98, .inl (fun _ => 0))), (q60_32, .inl (ct 0, 61, .inl (fun _ => 0))), (q68_36, .inl (ct 0, 61, .inl (fun _ => 0))), (q76_40, .inl (ct 0, 61, .inl (fun _ => 0))), (q83_44, .inl (ct 0, 5, .inl (fun _ => 0))), (q90_48, .inl (ct 0, 5, .inl (fun _ => 0))), (q98_52, .inl (ct 0, 61, .inl (fun _ => 0))), (q106_56, .inl (ct 3, 61, .inl (fun _ => 0))), (q114_60, .inl (ct 0, 61, .inl (fun _ => 0))), (q122_64, .inl (ct 0, 10, .inl (fun _ => 0))), (q131_68, .inl (ct 0, 610, .inl (fun _ => 0))), (q139_72, .inl (ct 2, 37210, .inl (fun _ => 0))), (q148_76, .inl (ct 1, 1300, .inr (.inl (fun _ => 0))))] := hD
  refine va_putF (D := D) (tys := tyl ct) (ci := 10) (v := .ref q148_76) (ty := (.array .long)) (C := RX10) (T := TX10) (N := 42) hx hb htl inlX10 tyX10 tyX10_ok nmX10 hown hK hP hD hS 0 rfl rfl 35 (by decide) (htl _ wq_7_21) (fun _ h9 => h9) rfl hin rfl (tyX10_ok 35 (by decide)) rfl rfl (Nat.le_of_ble_eq_true rfl) dX10_init_150 (fun H_150_77 locs_150_77 hP hD hS => ?_)
  have hP : va_P D vwCl [(h0, .inr (10, [.int 0, .ref q7_5, .ref q16_9, .ref q23_13, .ref q32_17, .int 0, .ref q39_21, .int 0, .int 0, .int 0, .int 0, .int 0, .int 0, .int (-1), .ref q52_28, .ref q60_32, .ref q68_36, .ref q76_40, .ref q83_44, .ref q90_48, .int 0, .int 0, .ref q98_52, .ref q106_56, .int 0, .int 0, .int 0, .ref q114_60, .ref q122_64, .int 0, .ref q131_68, .ref q139_72, .int 0, .int 0, .int 0, .ref q148_76, .null, .int 0, .null, .null, .null, .null])), (q7_5, .inl (ct 0, 98, .inl (fun _ => 0))), (q16_9, .inl (ct 0, 294, .inl (fun _ => 0))), (q23_13, .inl (ct 3, 3, .inl (fun _ => 0))), (q32_17, .inl (ct 2, 700, .inl (fun _ => 0))), (q39_21, .inl (ct 0, 5, .inl (fun _ => 0))), (q52_28, .inl (ct 0, 98, .inl (fun _ => 0))), (q60_32, .inl (ct 0, 61, .inl (fun _ => 0))), (q68_36, .inl (ct 0, 61, .inl (fun _ => 0))), (q76_40, .inl (ct 0, 61, .inl (fun _ => 0))), (q83_44, .inl (ct 0, 5, .inl (fun _ => 0))), (q90_48, .inl (ct 0, 5, .inl (fun _ => 0))), (q98_52, .inl (ct 0, 61, .inl (fun _ => 0))), (q106_56, .inl (ct 3, 61, .inl (fun _ => 0))), (q114_60, .inl (ct 0, 61, .inl (fun _ => 0))), (q122_64, .inl (ct 0, 10, .inl (fun _ => 0))), (q131_68, .inl (ct 0, 610, .inl (fun _ => 0))), (q139_72, .inl (ct 2, 37210, .inl (fun _ => 0))), (q148_76, .inl (ct 1, 1300, .inr (.inl (fun _ => 0))))] H_150_77 := hP
  have hD : va_D AA [(h0, .inr (10, [.int 0, .ref q7_5, .ref q16_9, .ref q23_13, .ref q32_17, .int 0, .ref q39_21, .int 0, .int 0, .int 0, .int 0, .int 0, .int 0, .int (-1), .ref q52_28, .ref q60_32, .ref q68_36, .ref q76_40, .ref q83_44, .ref q90_48, .int 0, .int 0, .ref q98_52, .ref q106_56, .int 0, .int 0, .int 0, .ref q114_60, .ref q122_64, .int 0, .ref q131_68, .ref q139_72, .int 0, .int 0, .int 0, .ref q148_76, .null, .int 0, .null, .null, .null, .null])), (q7_5, .inl (ct 0, 98, .inl (fun _ => 0))), (q16_9, .inl (ct 0, 294, .inl (fun _ => 0))), (q23_13, .inl (ct 3, 3, .inl (fun _ => 0))), (q32_17, .inl (ct 2, 700, .inl (fun _ => 0))), (q39_21, .inl (ct 0, 5, .inl (fun _ => 0))), (q52_28, .inl (ct 0, 98, .inl (fun _ => 0))), (q60_32, .inl (ct 0, 61, .inl (fun _ => 0))), (q68_36, .inl (ct 0, 61, .inl (fun _ => 0))), (q76_40, .inl (ct 0, 61, .inl (fun _ => 0))), (q83_44, .inl (ct 0, 5, .inl (fun _ => 0))), (q90_48, .inl (ct 0, 5, .inl (fun _ => 0))), (q98_52, .inl (ct 0, 61, .inl (fun _ => 0))), (q106_56, .inl (ct 3, 61, .inl (fun _ => 0))), (q114_60, .inl (ct 0, 61, .inl (fun _ => 0))), (q122_64, .inl (ct 0, 10, .inl (fun _ => 0))), (q131_68, .inl (ct 0, 610, .inl (fun _ => 0))), (q139_72, .inl (ct 2, 37210, .inl (fun _ => 0))), (q148_76, .inl (ct 1, 1300, .inr (.inl (fun _ => 0))))] := hD
  refine lv_aload_n hx hb dX10_init_153 rfl (lv_at hl 0 rfl) ?_
  refine lv_sipush (v := 1300) hx hb dX10_init_154 (by decide) ?_
  refine va_newa (D := D) (tys := tyl ct) (atype := .long) (ty := .long) (N' := 1300) (a0 := (1300, .inr (.inl (fun _ => 0)))) hx hb (htl _ wq_6_8) rfl hK hP hD hS hA (fun _ => rfl) (by decide) (by decide) (by decide) (Nat.le_of_ble_eq_true rfl) (Nat.le_of_ble_eq_true rfl) dX10_init_157 (fun q157_80 cA H_157_80 hK1 hP hD hS => ?_)
  obtain rfl := ct_eq1 hK1
  clear hK1
  have hP : va_P D vwCl [(h0, .inr (10, [.int 0, .ref q7_5, .ref q16_9, .ref q23_13, .ref q32_17, .int 0, .ref q39_21, .int 0, .int 0, .int 0, .int 0, .int 0, .int 0, .int (-1), .ref q52_28, .ref q60_32, .ref q68_36, .ref q76_40, .ref q83_44, .ref q90_48, .int 0, .int 0, .ref q98_52, .ref q106_56, .int 0, .int 0, .int 0, .ref q114_60, .ref q122_64, .int 0, .ref q131_68, .ref q139_72, .int 0, .int 0, .int 0, .ref q148_76, .null, .int 0, .null, .null, .null, .null])), (q7_5, .inl (ct 0, 98, .inl (fun _ => 0))), (q16_9, .inl (ct 0, 294, .inl (fun _ => 0))), (q23_13, .inl (ct 3, 3, .inl (fun _ => 0))), (q32_17, .inl (ct 2, 700, .inl (fun _ => 0))), (q39_21, .inl (ct 0, 5, .inl (fun _ => 0))), (q52_28, .inl (ct 0, 98, .inl (fun _ => 0))), (q60_32, .inl (ct 0, 61, .inl (fun _ => 0))), (q68_36, .inl (ct 0, 61, .inl (fun _ => 0))), (q76_40, .inl (ct 0, 61, .inl (fun _ => 0))), (q83_44, .inl (ct 0, 5, .inl (fun _ => 0))), (q90_48, .inl (ct 0, 5, .inl (fun _ => 0))), (q98_52, .inl (ct 0, 61, .inl (fun _ => 0))), (q106_56, .inl (ct 3, 61, .inl (fun _ => 0))), (q114_60, .inl (ct 0, 61, .inl (fun _ => 0))), (q122_64, .inl (ct 0, 10, .inl (fun _ => 0))), (q131_68, .inl (ct 0, 610, .inl (fun _ => 0))), (q139_72, .inl (ct 2, 37210, .inl (fun _ => 0))), (q148_76, .inl (ct 1, 1300, .inr (.inl (fun _ => 0)))), (q157_80, .inl (ct 1, 1300, .inr (.inl (fun _ => 0))))] H_157_80 := hP
  have hD : va_D AA [(h0, .inr (10, [.int 0, .ref q7_5, .ref q16_9, .ref q23_13, .ref q32_17, .int 0, .ref q39_21, .int 0, .int 0, .int 0, .int 0, .int 0, .int 0, .int (-1), .ref q52_28, .ref q60_32, .ref q68_36, .ref q76_40, .ref q83_44, .ref q90_48, .int 0, .int 0, .ref q98_52, .ref q106_56, .int 0, .int 0, .int 0, .ref q114_60, .ref q122_64, .int 0, .ref q131_68, .ref q139_72, .int 0, .int 0, .int 0, .ref q148_76, .null, .int 0, .null, .null, .null, .null])), (q7_5, .inl (ct 0, 98, .inl (fun _ => 0))), (q16_9, .inl (ct 0, 294, .inl (fun _ => 0))), (q23_13, .inl (ct 3, 3, .inl (fun _ => 0))), (q32_17, .inl (ct 2, 700, .inl (fun _ => 0))), (q39_21, .inl (ct 0, 5, .inl (fun _ => 0))), (q52_28, .inl (ct 0, 98, .inl (fun _ => 0))), (q60_32, .inl (ct 0, 61, .inl (fun _ => 0))), (q68_36, .inl (ct 0, 61, .inl (fun _ => 0))), (q76_40, .inl (ct 0, 61, .inl (fun _ => 0))), (q83_44, .inl (ct 0, 5, .inl (fun _ => 0))), (q90_48, .inl (ct 0, 5, .inl (fun _ => 0))), (q98_52, .inl (ct 0, 61, .inl (fun _ => 0))), (q106_56, .inl (ct 3, 61, .inl (fun _ => 0))), (q114_60, .inl (ct 0, 61, .inl (fun _ => 0))), (q122_64, .inl (ct 0, 10, .inl (fun _ => 0))), (q131_68, .inl (ct 0, 610, .inl (fun _ => 0))), (q139_72, .inl (ct 2, 37210, .inl (fun _ => 0))), (q148_76, .inl (ct 1, 1300, .inr (.inl (fun _ => 0)))), (q157_80, .inl (ct 1, 1300, .inr (.inl (fun _ => 0))))] := hD
  refine va_putF (D := D) (tys := tyl ct) (ci := 10) (v := .ref q157_80) (ty := (.array .long)) (C := RX10) (T := TX10) (N := 42) hx hb htl inlX10 tyX10 tyX10_ok nmX10 hown hK hP hD hS 0 rfl rfl 36 (by decide) (htl _ wq_7_22) (fun _ h9 => h9) rfl hin rfl (tyX10_ok 36 (by decide)) rfl rfl (Nat.le_of_ble_eq_true rfl) dX10_init_159 (fun H_159_81 locs_159_81 hP hD hS => ?_)
  have hP : va_P D vwCl [(h0, .inr (10, [.int 0, .ref q7_5, .ref q16_9, .ref q23_13, .ref q32_17, .int 0, .ref q39_21, .int 0, .int 0, .int 0, .int 0, .int 0, .int 0, .int (-1), .ref q52_28, .ref q60_32, .ref q68_36, .ref q76_40, .ref q83_44, .ref q90_48, .int 0, .int 0, .ref q98_52, .ref q106_56, .int 0, .int 0, .int 0, .ref q114_60, .ref q122_64, .int 0, .ref q131_68, .ref q139_72, .int 0, .int 0, .int 0, .ref q148_76, .ref q157_80, .int 0, .null, .null, .null, .null])), (q7_5, .inl (ct 0, 98, .inl (fun _ => 0))), (q16_9, .inl (ct 0, 294, .inl (fun _ => 0))), (q23_13, .inl (ct 3, 3, .inl (fun _ => 0))), (q32_17, .inl (ct 2, 700, .inl (fun _ => 0))), (q39_21, .inl (ct 0, 5, .inl (fun _ => 0))), (q52_28, .inl (ct 0, 98, .inl (fun _ => 0))), (q60_32, .inl (ct 0, 61, .inl (fun _ => 0))), (q68_36, .inl (ct 0, 61, .inl (fun _ => 0))), (q76_40, .inl (ct 0, 61, .inl (fun _ => 0))), (q83_44, .inl (ct 0, 5, .inl (fun _ => 0))), (q90_48, .inl (ct 0, 5, .inl (fun _ => 0))), (q98_52, .inl (ct 0, 61, .inl (fun _ => 0))), (q106_56, .inl (ct 3, 61, .inl (fun _ => 0))), (q114_60, .inl (ct 0, 61, .inl (fun _ => 0))), (q122_64, .inl (ct 0, 10, .inl (fun _ => 0))), (q131_68, .inl (ct 0, 610, .inl (fun _ => 0))), (q139_72, .inl (ct 2, 37210, .inl (fun _ => 0))), (q148_76, .inl (ct 1, 1300, .inr (.inl (fun _ => 0)))), (q157_80, .inl (ct 1, 1300, .inr (.inl (fun _ => 0))))] H_159_81 := hP
  have hD : va_D AA [(h0, .inr (10, [.int 0, .ref q7_5, .ref q16_9, .ref q23_13, .ref q32_17, .int 0, .ref q39_21, .int 0, .int 0, .int 0, .int 0, .int 0, .int 0, .int (-1), .ref q52_28, .ref q60_32, .ref q68_36, .ref q76_40, .ref q83_44, .ref q90_48, .int 0, .int 0, .ref q98_52, .ref q106_56, .int 0, .int 0, .int 0, .ref q114_60, .ref q122_64, .int 0, .ref q131_68, .ref q139_72, .int 0, .int 0, .int 0, .ref q148_76, .ref q157_80, .int 0, .null, .null, .null, .null])), (q7_5, .inl (ct 0, 98, .inl (fun _ => 0))), (q16_9, .inl (ct 0, 294, .inl (fun _ => 0))), (q23_13, .inl (ct 3, 3, .inl (fun _ => 0))), (q32_17, .inl (ct 2, 700, .inl (fun _ => 0))), (q39_21, .inl (ct 0, 5, .inl (fun _ => 0))), (q52_28, .inl (ct 0, 98, .inl (fun _ => 0))), (q60_32, .inl (ct 0, 61, .inl (fun _ => 0))), (q68_36, .inl (ct 0, 61, .inl (fun _ => 0))), (q76_40, .inl (ct 0, 61, .inl (fun _ => 0))), (q83_44, .inl (ct 0, 5, .inl (fun _ => 0))), (q90_48, .inl (ct 0, 5, .inl (fun _ => 0))), (q98_52, .inl (ct 0, 61, .inl (fun _ => 0))), (q106_56, .inl (ct 3, 61, .inl (fun _ => 0))), (q114_60, .inl (ct 0, 61, .inl (fun _ => 0))), (q122_64, .inl (ct 0, 10, .inl (fun _ => 0))), (q131_68, .inl (ct 0, 610, .inl (fun _ => 0))), (q139_72, .inl (ct 2, 37210, .inl (fun _ => 0))), (q148_76, .inl (ct 1, 1300, .inr (.inl (fun _ => 0)))), (q157_80, .inl (ct 1, 1300, .inr (.inl (fun _ => 0))))] := hD
  refine lv_aload_n hx hb dX10_init_162 rfl (lv_at hl 0 rfl) ?_
  refine lv_iconst (v := 4) hx hb dX10_init_163 (by decide) ?_
  refine va_newa (D := D) (tys := tyl ct) (atype := .int) (ty := .int) (N' := 4) (a0 := (4, .inl (fun _ => 0))) hx hb (htl _ wq_3_0) rfl hK hP hD hS hA (fun _ => rfl) (by decide) (by decide) (by decide) (Nat.le_of_ble_eq_true rfl) (Nat.le_of_ble_eq_true rfl) dX10_init_164 (fun q164_84 cA H_164_84 hK1 hP hD hS => ?_)
  obtain rfl := ct_eq0 hK1
  clear hK1
  have hP : va_P D vwCl [(h0, .inr (10, [.int 0, .ref q7_5, .ref q16_9, .ref q23_13, .ref q32_17, .int 0, .ref q39_21, .int 0, .int 0, .int 0, .int 0, .int 0, .int 0, .int (-1), .ref q52_28, .ref q60_32, .ref q68_36, .ref q76_40, .ref q83_44, .ref q90_48, .int 0, .int 0, .ref q98_52, .ref q106_56, .int 0, .int 0, .int 0, .ref q114_60, .ref q122_64, .int 0, .ref q131_68, .ref q139_72, .int 0, .int 0, .int 0, .ref q148_76, .ref q157_80, .int 0, .null, .null, .null, .null])), (q7_5, .inl (ct 0, 98, .inl (fun _ => 0))), (q16_9, .inl (ct 0, 294, .inl (fun _ => 0))), (q23_13, .inl (ct 3, 3, .inl (fun _ => 0))), (q32_17, .inl (ct 2, 700, .inl (fun _ => 0))), (q39_21, .inl (ct 0, 5, .inl (fun _ => 0))), (q52_28, .inl (ct 0, 98, .inl (fun _ => 0))), (q60_32, .inl (ct 0, 61, .inl (fun _ => 0))), (q68_36, .inl (ct 0, 61, .inl (fun _ => 0))), (q76_40, .inl (ct 0, 61, .inl (fun _ => 0))), (q83_44, .inl (ct 0, 5, .inl (fun _ => 0))), (q90_48, .inl (ct 0, 5, .inl (fun _ => 0))), (q98_52, .inl (ct 0, 61, .inl (fun _ => 0))), (q106_56, .inl (ct 3, 61, .inl (fun _ => 0))), (q114_60, .inl (ct 0, 61, .inl (fun _ => 0))), (q122_64, .inl (ct 0, 10, .inl (fun _ => 0))), (q131_68, .inl (ct 0, 610, .inl (fun _ => 0))), (q139_72, .inl (ct 2, 37210, .inl (fun _ => 0))), (q148_76, .inl (ct 1, 1300, .inr (.inl (fun _ => 0)))), (q157_80, .inl (ct 1, 1300, .inr (.inl (fun _ => 0)))), (q164_84, .inl (ct 0, 4, .inl (fun _ => 0)))] H_164_84 := hP
  have hD : va_D AA [(h0, .inr (10, [.int 0, .ref q7_5, .ref q16_9, .ref q23_13, .ref q32_17, .int 0, .ref q39_21, .int 0, .int 0, .int 0, .int 0, .int 0, .int 0, .int (-1), .ref q52_28, .ref q60_32, .ref q68_36, .ref q76_40, .ref q83_44, .ref q90_48, .int 0, .int 0, .ref q98_52, .ref q106_56, .int 0, .int 0, .int 0, .ref q114_60, .ref q122_64, .int 0, .ref q131_68, .ref q139_72, .int 0, .int 0, .int 0, .ref q148_76, .ref q157_80, .int 0, .null, .null, .null, .null])), (q7_5, .inl (ct 0, 98, .inl (fun _ => 0))), (q16_9, .inl (ct 0, 294, .inl (fun _ => 0))), (q23_13, .inl (ct 3, 3, .inl (fun _ => 0))), (q32_17, .inl (ct 2, 700, .inl (fun _ => 0))), (q39_21, .inl (ct 0, 5, .inl (fun _ => 0))), (q52_28, .inl (ct 0, 98, .inl (fun _ => 0))), (q60_32, .inl (ct 0, 61, .inl (fun _ => 0))), (q68_36, .inl (ct 0, 61, .inl (fun _ => 0))), (q76_40, .inl (ct 0, 61, .inl (fun _ => 0))), (q83_44, .inl (ct 0, 5, .inl (fun _ => 0))), (q90_48, .inl (ct 0, 5, .inl (fun _ => 0))), (q98_52, .inl (ct 0, 61, .inl (fun _ => 0))), (q106_56, .inl (ct 3, 61, .inl (fun _ => 0))), (q114_60, .inl (ct 0, 61, .inl (fun _ => 0))), (q122_64, .inl (ct 0, 10, .inl (fun _ => 0))), (q131_68, .inl (ct 0, 610, .inl (fun _ => 0))), (q139_72, .inl (ct 2, 37210, .inl (fun _ => 0))), (q148_76, .inl (ct 1, 1300, .inr (.inl (fun _ => 0)))), (q157_80, .inl (ct 1, 1300, .inr (.inl (fun _ => 0)))), (q164_84, .inl (ct 0, 4, .inl (fun _ => 0)))] := hD
  refine lv_dup hx hb dX10_init_166 rfl ?_
  refine lv_iconst (v := 0) hx hb dX10_init_167 (by decide) ?_
  refine lv_iconst (v := (-1)) hx hb dX10_init_168 (by decide) ?_
  refine va_iast (D := D) (tys := tyl ct) hx hb hK hP hD hS 20 0 rfl rfl (vp_in_iff.mpr (by decide)) dX10_init_169 (fun H_169_88 locs_169_88 hP hD hS => ?_)
  have hP : va_P D vwCl [(h0, .inr (10, [.int 0, .ref q7_5, .ref q16_9, .ref q23_13, .ref q32_17, .int 0, .ref q39_21, .int 0, .int 0, .int 0, .int 0, .int 0, .int 0, .int (-1), .ref q52_28, .ref q60_32, .ref q68_36, .ref q76_40, .ref q83_44, .ref q90_48, .int 0, .int 0, .ref q98_52, .ref q106_56, .int 0, .int 0, .int 0, .ref q114_60, .ref q122_64, .int 0, .ref q131_68, .ref q139_72, .int 0, .int 0, .int 0, .ref q148_76, .ref q157_80, .int 0, .null, .null, .null, .null])), (q7_5, .inl (ct 0, 98, .inl (fun _ => 0))), (q16_9, .inl (ct 0, 294, .inl (fun _ => 0))), (q23_13, .inl (ct 3, 3, .inl (fun _ => 0))), (q32_17, .inl (ct 2, 700, .inl (fun _ => 0))), (q39_21, .inl (ct 0, 5, .inl (fun _ => 0))), (q52_28, .inl (ct 0, 98, .inl (fun _ => 0))), (q60_32, .inl (ct 0, 61, .inl (fun _ => 0))), (q68_36, .inl (ct 0, 61, .inl (fun _ => 0))), (q76_40, .inl (ct 0, 61, .inl (fun _ => 0))), (q83_44, .inl (ct 0, 5, .inl (fun _ => 0))), (q90_48, .inl (ct 0, 5, .inl (fun _ => 0))), (q98_52, .inl (ct 0, 61, .inl (fun _ => 0))), (q106_56, .inl (ct 3, 61, .inl (fun _ => 0))), (q114_60, .inl (ct 0, 61, .inl (fun _ => 0))), (q122_64, .inl (ct 0, 10, .inl (fun _ => 0))), (q131_68, .inl (ct 0, 610, .inl (fun _ => 0))), (q139_72, .inl (ct 2, 37210, .inl (fun _ => 0))), (q148_76, .inl (ct 1, 1300, .inr (.inl (fun _ => 0)))), (q157_80, .inl (ct 1, 1300, .inr (.inl (fun _ => 0)))), (q164_84, .inl (ct 0, 4, .inl (upd (fun _ => 0) 0 (-1))))] H_169_88 := hP
  have hD : va_D AA [(h0, .inr (10, [.int 0, .ref q7_5, .ref q16_9, .ref q23_13, .ref q32_17, .int 0, .ref q39_21, .int 0, .int 0, .int 0, .int 0, .int 0, .int 0, .int (-1), .ref q52_28, .ref q60_32, .ref q68_36, .ref q76_40, .ref q83_44, .ref q90_48, .int 0, .int 0, .ref q98_52, .ref q106_56, .int 0, .int 0, .int 0, .ref q114_60, .ref q122_64, .int 0, .ref q131_68, .ref q139_72, .int 0, .int 0, .int 0, .ref q148_76, .ref q157_80, .int 0, .null, .null, .null, .null])), (q7_5, .inl (ct 0, 98, .inl (fun _ => 0))), (q16_9, .inl (ct 0, 294, .inl (fun _ => 0))), (q23_13, .inl (ct 3, 3, .inl (fun _ => 0))), (q32_17, .inl (ct 2, 700, .inl (fun _ => 0))), (q39_21, .inl (ct 0, 5, .inl (fun _ => 0))), (q52_28, .inl (ct 0, 98, .inl (fun _ => 0))), (q60_32, .inl (ct 0, 61, .inl (fun _ => 0))), (q68_36, .inl (ct 0, 61, .inl (fun _ => 0))), (q76_40, .inl (ct 0, 61, .inl (fun _ => 0))), (q83_44, .inl (ct 0, 5, .inl (fun _ => 0))), (q90_48, .inl (ct 0, 5, .inl (fun _ => 0))), (q98_52, .inl (ct 0, 61, .inl (fun _ => 0))), (q106_56, .inl (ct 3, 61, .inl (fun _ => 0))), (q114_60, .inl (ct 0, 61, .inl (fun _ => 0))), (q122_64, .inl (ct 0, 10, .inl (fun _ => 0))), (q131_68, .inl (ct 0, 610, .inl (fun _ => 0))), (q139_72, .inl (ct 2, 37210, .inl (fun _ => 0))), (q148_76, .inl (ct 1, 1300, .inr (.inl (fun _ => 0)))), (q157_80, .inl (ct 1, 1300, .inr (.inl (fun _ => 0)))), (q164_84, .inl (ct 0, 4, .inl (upd (fun _ => 0) 0 (-1))))] := hD
  refine lv_dup hx hb dX10_init_170 rfl ?_
  refine lv_iconst (v := 1) hx hb dX10_init_171 (by decide) ?_
  refine lv_iconst (v := (-1)) hx hb dX10_init_172 (by decide) ?_
  refine va_iast (D := D) (tys := tyl ct) hx hb hK hP hD hS 20 0 rfl rfl (vp_in_iff.mpr (by decide)) dX10_init_173 (fun H_173_92 locs_173_92 hP hD hS => ?_)
  have hP : va_P D vwCl [(h0, .inr (10, [.int 0, .ref q7_5, .ref q16_9, .ref q23_13, .ref q32_17, .int 0, .ref q39_21, .int 0, .int 0, .int 0, .int 0, .int 0, .int 0, .int (-1), .ref q52_28, .ref q60_32, .ref q68_36, .ref q76_40, .ref q83_44, .ref q90_48, .int 0, .int 0, .ref q98_52, .ref q106_56, .int 0, .int 0, .int 0, .ref q114_60, .ref q122_64, .int 0, .ref q131_68, .ref q139_72, .int 0, .int 0, .int 0, .ref q148_76, .ref q157_80, .int 0, .null, .null, .null, .null])), (q7_5, .inl (ct 0, 98, .inl (fun _ => 0))), (q16_9, .inl (ct 0, 294, .inl (fun _ => 0))), (q23_13, .inl (ct 3, 3, .inl (fun _ => 0))), (q32_17, .inl (ct 2, 700, .inl (fun _ => 0))), (q39_21, .inl (ct 0, 5, .inl (fun _ => 0))), (q52_28, .inl (ct 0, 98, .inl (fun _ => 0))), (q60_32, .inl (ct 0, 61, .inl (fun _ => 0))), (q68_36, .inl (ct 0, 61, .inl (fun _ => 0))), (q76_40, .inl (ct 0, 61, .inl (fun _ => 0))), (q83_44, .inl (ct 0, 5, .inl (fun _ => 0))), (q90_48, .inl (ct 0, 5, .inl (fun _ => 0))), (q98_52, .inl (ct 0, 61, .inl (fun _ => 0))), (q106_56, .inl (ct 3, 61, .inl (fun _ => 0))), (q114_60, .inl (ct 0, 61, .inl (fun _ => 0))), (q122_64, .inl (ct 0, 10, .inl (fun _ => 0))), (q131_68, .inl (ct 0, 610, .inl (fun _ => 0))), (q139_72, .inl (ct 2, 37210, .inl (fun _ => 0))), (q148_76, .inl (ct 1, 1300, .inr (.inl (fun _ => 0)))), (q157_80, .inl (ct 1, 1300, .inr (.inl (fun _ => 0)))), (q164_84, .inl (ct 0, 4, .inl (upd (upd (fun _ => 0) 0 (-1)) 1 (-1))))] H_173_92 := hP
  have hD : va_D AA [(h0, .inr (10, [.int 0, .ref q7_5, .ref q16_9, .ref q23_13, .ref q32_17, .int 0, .ref q39_21, .int 0, .int 0, .int 0, .int 0, .int 0, .int 0, .int (-1), .ref q52_28, .ref q60_32, .ref q68_36, .ref q76_40, .ref q83_44, .ref q90_48, .int 0, .int 0, .ref q98_52, .ref q106_56, .int 0, .int 0, .int 0, .ref q114_60, .ref q122_64, .int 0, .ref q131_68, .ref q139_72, .int 0, .int 0, .int 0, .ref q148_76, .ref q157_80, .int 0, .null, .null, .null, .null])), (q7_5, .inl (ct 0, 98, .inl (fun _ => 0))), (q16_9, .inl (ct 0, 294, .inl (fun _ => 0))), (q23_13, .inl (ct 3, 3, .inl (fun _ => 0))), (q32_17, .inl (ct 2, 700, .inl (fun _ => 0))), (q39_21, .inl (ct 0, 5, .inl (fun _ => 0))), (q52_28, .inl (ct 0, 98, .inl (fun _ => 0))), (q60_32, .inl (ct 0, 61, .inl (fun _ => 0))), (q68_36, .inl (ct 0, 61, .inl (fun _ => 0))), (q76_40, .inl (ct 0, 61, .inl (fun _ => 0))), (q83_44, .inl (ct 0, 5, .inl (fun _ => 0))), (q90_48, .inl (ct 0, 5, .inl (fun _ => 0))), (q98_52, .inl (ct 0, 61, .inl (fun _ => 0))), (q106_56, .inl (ct 3, 61, .inl (fun _ => 0))), (q114_60, .inl (ct 0, 61, .inl (fun _ => 0))), (q122_64, .inl (ct 0, 10, .inl (fun _ => 0))), (q131_68, .inl (ct 0, 610, .inl (fun _ => 0))), (q139_72, .inl (ct 2, 37210, .inl (fun _ => 0))), (q148_76, .inl (ct 1, 1300, .inr (.inl (fun _ => 0)))), (q157_80, .inl (ct 1, 1300, .inr (.inl (fun _ => 0)))), (q164_84, .inl (ct 0, 4, .inl (upd (upd (fun _ => 0) 0 (-1)) 1 (-1))))] := hD
  refine lv_dup hx hb dX10_init_174 rfl ?_
  refine lv_iconst (v := 2) hx hb dX10_init_175 (by decide) ?_
  refine lv_iconst (v := (-1)) hx hb dX10_init_176 (by decide) ?_
  refine va_iast (D := D) (tys := tyl ct) hx hb hK hP hD hS 20 0 rfl rfl (vp_in_iff.mpr (by decide)) dX10_init_177 (fun H_177_96 locs_177_96 hP hD hS => ?_)
  have hP : va_P D vwCl [(h0, .inr (10, [.int 0, .ref q7_5, .ref q16_9, .ref q23_13, .ref q32_17, .int 0, .ref q39_21, .int 0, .int 0, .int 0, .int 0, .int 0, .int 0, .int (-1), .ref q52_28, .ref q60_32, .ref q68_36, .ref q76_40, .ref q83_44, .ref q90_48, .int 0, .int 0, .ref q98_52, .ref q106_56, .int 0, .int 0, .int 0, .ref q114_60, .ref q122_64, .int 0, .ref q131_68, .ref q139_72, .int 0, .int 0, .int 0, .ref q148_76, .ref q157_80, .int 0, .null, .null, .null, .null])), (q7_5, .inl (ct 0, 98, .inl (fun _ => 0))), (q16_9, .inl (ct 0, 294, .inl (fun _ => 0))), (q23_13, .inl (ct 3, 3, .inl (fun _ => 0))), (q32_17, .inl (ct 2, 700, .inl (fun _ => 0))), (q39_21, .inl (ct 0, 5, .inl (fun _ => 0))), (q52_28, .inl (ct 0, 98, .inl (fun _ => 0))), (q60_32, .inl (ct 0, 61, .inl (fun _ => 0))), (q68_36, .inl (ct 0, 61, .inl (fun _ => 0))), (q76_40, .inl (ct 0, 61, .inl (fun _ => 0))), (q83_44, .inl (ct 0, 5, .inl (fun _ => 0))), (q90_48, .inl (ct 0, 5, .inl (fun _ => 0))), (q98_52, .inl (ct 0, 61, .inl (fun _ => 0))), (q106_56, .inl (ct 3, 61, .inl (fun _ => 0))), (q114_60, .inl (ct 0, 61, .inl (fun _ => 0))), (q122_64, .inl (ct 0, 10, .inl (fun _ => 0))), (q131_68, .inl (ct 0, 610, .inl (fun _ => 0))), (q139_72, .inl (ct 2, 37210, .inl (fun _ => 0))), (q148_76, .inl (ct 1, 1300, .inr (.inl (fun _ => 0)))), (q157_80, .inl (ct 1, 1300, .inr (.inl (fun _ => 0)))), (q164_84, .inl (ct 0, 4, .inl (upd (upd (upd (fun _ => 0) 0 (-1)) 1 (-1)) 2 (-1))))] H_177_96 := hP
  have hD : va_D AA [(h0, .inr (10, [.int 0, .ref q7_5, .ref q16_9, .ref q23_13, .ref q32_17, .int 0, .ref q39_21, .int 0, .int 0, .int 0, .int 0, .int 0, .int 0, .int (-1), .ref q52_28, .ref q60_32, .ref q68_36, .ref q76_40, .ref q83_44, .ref q90_48, .int 0, .int 0, .ref q98_52, .ref q106_56, .int 0, .int 0, .int 0, .ref q114_60, .ref q122_64, .int 0, .ref q131_68, .ref q139_72, .int 0, .int 0, .int 0, .ref q148_76, .ref q157_80, .int 0, .null, .null, .null, .null])), (q7_5, .inl (ct 0, 98, .inl (fun _ => 0))), (q16_9, .inl (ct 0, 294, .inl (fun _ => 0))), (q23_13, .inl (ct 3, 3, .inl (fun _ => 0))), (q32_17, .inl (ct 2, 700, .inl (fun _ => 0))), (q39_21, .inl (ct 0, 5, .inl (fun _ => 0))), (q52_28, .inl (ct 0, 98, .inl (fun _ => 0))), (q60_32, .inl (ct 0, 61, .inl (fun _ => 0))), (q68_36, .inl (ct 0, 61, .inl (fun _ => 0))), (q76_40, .inl (ct 0, 61, .inl (fun _ => 0))), (q83_44, .inl (ct 0, 5, .inl (fun _ => 0))), (q90_48, .inl (ct 0, 5, .inl (fun _ => 0))), (q98_52, .inl (ct 0, 61, .inl (fun _ => 0))), (q106_56, .inl (ct 3, 61, .inl (fun _ => 0))), (q114_60, .inl (ct 0, 61, .inl (fun _ => 0))), (q122_64, .inl (ct 0, 10, .inl (fun _ => 0))), (q131_68, .inl (ct 0, 610, .inl (fun _ => 0))), (q139_72, .inl (ct 2, 37210, .inl (fun _ => 0))), (q148_76, .inl (ct 1, 1300, .inr (.inl (fun _ => 0)))), (q157_80, .inl (ct 1, 1300, .inr (.inl (fun _ => 0)))), (q164_84, .inl (ct 0, 4, .inl (upd (upd (upd (fun _ => 0) 0 (-1)) 1 (-1)) 2 (-1))))] := hD
  refine lv_dup hx hb dX10_init_178 rfl ?_
  refine lv_iconst (v := 3) hx hb dX10_init_179 (by decide) ?_
  refine lv_iconst (v := (-1)) hx hb dX10_init_180 (by decide) ?_
  refine va_iast (D := D) (tys := tyl ct) hx hb hK hP hD hS 20 0 rfl rfl (vp_in_iff.mpr (by decide)) dX10_init_181 (fun H_181_100 locs_181_100 hP hD hS => ?_)
  have hP : va_P D vwCl [(h0, .inr (10, [.int 0, .ref q7_5, .ref q16_9, .ref q23_13, .ref q32_17, .int 0, .ref q39_21, .int 0, .int 0, .int 0, .int 0, .int 0, .int 0, .int (-1), .ref q52_28, .ref q60_32, .ref q68_36, .ref q76_40, .ref q83_44, .ref q90_48, .int 0, .int 0, .ref q98_52, .ref q106_56, .int 0, .int 0, .int 0, .ref q114_60, .ref q122_64, .int 0, .ref q131_68, .ref q139_72, .int 0, .int 0, .int 0, .ref q148_76, .ref q157_80, .int 0, .null, .null, .null, .null])), (q7_5, .inl (ct 0, 98, .inl (fun _ => 0))), (q16_9, .inl (ct 0, 294, .inl (fun _ => 0))), (q23_13, .inl (ct 3, 3, .inl (fun _ => 0))), (q32_17, .inl (ct 2, 700, .inl (fun _ => 0))), (q39_21, .inl (ct 0, 5, .inl (fun _ => 0))), (q52_28, .inl (ct 0, 98, .inl (fun _ => 0))), (q60_32, .inl (ct 0, 61, .inl (fun _ => 0))), (q68_36, .inl (ct 0, 61, .inl (fun _ => 0))), (q76_40, .inl (ct 0, 61, .inl (fun _ => 0))), (q83_44, .inl (ct 0, 5, .inl (fun _ => 0))), (q90_48, .inl (ct 0, 5, .inl (fun _ => 0))), (q98_52, .inl (ct 0, 61, .inl (fun _ => 0))), (q106_56, .inl (ct 3, 61, .inl (fun _ => 0))), (q114_60, .inl (ct 0, 61, .inl (fun _ => 0))), (q122_64, .inl (ct 0, 10, .inl (fun _ => 0))), (q131_68, .inl (ct 0, 610, .inl (fun _ => 0))), (q139_72, .inl (ct 2, 37210, .inl (fun _ => 0))), (q148_76, .inl (ct 1, 1300, .inr (.inl (fun _ => 0)))), (q157_80, .inl (ct 1, 1300, .inr (.inl (fun _ => 0)))), (q164_84, .inl (ct 0, 4, .inl (upd (upd (upd (upd (fun _ => 0) 0 (-1)) 1 (-1)) 2 (-1)) 3 (-1))))] H_181_100 := hP
  have hD : va_D AA [(h0, .inr (10, [.int 0, .ref q7_5, .ref q16_9, .ref q23_13, .ref q32_17, .int 0, .ref q39_21, .int 0, .int 0, .int 0, .int 0, .int 0, .int 0, .int (-1), .ref q52_28, .ref q60_32, .ref q68_36, .ref q76_40, .ref q83_44, .ref q90_48, .int 0, .int 0, .ref q98_52, .ref q106_56, .int 0, .int 0, .int 0, .ref q114_60, .ref q122_64, .int 0, .ref q131_68, .ref q139_72, .int 0, .int 0, .int 0, .ref q148_76, .ref q157_80, .int 0, .null, .null, .null, .null])), (q7_5, .inl (ct 0, 98, .inl (fun _ => 0))), (q16_9, .inl (ct 0, 294, .inl (fun _ => 0))), (q23_13, .inl (ct 3, 3, .inl (fun _ => 0))), (q32_17, .inl (ct 2, 700, .inl (fun _ => 0))), (q39_21, .inl (ct 0, 5, .inl (fun _ => 0))), (q52_28, .inl (ct 0, 98, .inl (fun _ => 0))), (q60_32, .inl (ct 0, 61, .inl (fun _ => 0))), (q68_36, .inl (ct 0, 61, .inl (fun _ => 0))), (q76_40, .inl (ct 0, 61, .inl (fun _ => 0))), (q83_44, .inl (ct 0, 5, .inl (fun _ => 0))), (q90_48, .inl (ct 0, 5, .inl (fun _ => 0))), (q98_52, .inl (ct 0, 61, .inl (fun _ => 0))), (q106_56, .inl (ct 3, 61, .inl (fun _ => 0))), (q114_60, .inl (ct 0, 61, .inl (fun _ => 0))), (q122_64, .inl (ct 0, 10, .inl (fun _ => 0))), (q131_68, .inl (ct 0, 610, .inl (fun _ => 0))), (q139_72, .inl (ct 2, 37210, .inl (fun _ => 0))), (q148_76, .inl (ct 1, 1300, .inr (.inl (fun _ => 0)))), (q157_80, .inl (ct 1, 1300, .inr (.inl (fun _ => 0)))), (q164_84, .inl (ct 0, 4, .inl (upd (upd (upd (upd (fun _ => 0) 0 (-1)) 1 (-1)) 2 (-1)) 3 (-1))))] := hD
  refine va_putF (D := D) (tys := tyl ct) (ci := 10) (v := .ref q164_84) (ty := (.array .int)) (C := RX10) (T := TX10) (N := 42) hx hb htl inlX10 tyX10 tyX10_ok nmX10 hown hK hP hD hS 0 rfl rfl 38 (by decide) (htl _ wq_7_23) (fun _ h9 => h9) rfl hin rfl (tyX10_ok 38 (by decide)) rfl rfl (Nat.le_of_ble_eq_true rfl) dX10_init_182 (fun H_182_101 locs_182_101 hP hD hS => ?_)
  have hP : va_P D vwCl [(h0, .inr (10, [.int 0, .ref q7_5, .ref q16_9, .ref q23_13, .ref q32_17, .int 0, .ref q39_21, .int 0, .int 0, .int 0, .int 0, .int 0, .int 0, .int (-1), .ref q52_28, .ref q60_32, .ref q68_36, .ref q76_40, .ref q83_44, .ref q90_48, .int 0, .int 0, .ref q98_52, .ref q106_56, .int 0, .int 0, .int 0, .ref q114_60, .ref q122_64, .int 0, .ref q131_68, .ref q139_72, .int 0, .int 0, .int 0, .ref q148_76, .ref q157_80, .int 0, .ref q164_84, .null, .null, .null])), (q7_5, .inl (ct 0, 98, .inl (fun _ => 0))), (q16_9, .inl (ct 0, 294, .inl (fun _ => 0))), (q23_13, .inl (ct 3, 3, .inl (fun _ => 0))), (q32_17, .inl (ct 2, 700, .inl (fun _ => 0))), (q39_21, .inl (ct 0, 5, .inl (fun _ => 0))), (q52_28, .inl (ct 0, 98, .inl (fun _ => 0))), (q60_32, .inl (ct 0, 61, .inl (fun _ => 0))), (q68_36, .inl (ct 0, 61, .inl (fun _ => 0))), (q76_40, .inl (ct 0, 61, .inl (fun _ => 0))), (q83_44, .inl (ct 0, 5, .inl (fun _ => 0))), (q90_48, .inl (ct 0, 5, .inl (fun _ => 0))), (q98_52, .inl (ct 0, 61, .inl (fun _ => 0))), (q106_56, .inl (ct 3, 61, .inl (fun _ => 0))), (q114_60, .inl (ct 0, 61, .inl (fun _ => 0))), (q122_64, .inl (ct 0, 10, .inl (fun _ => 0))), (q131_68, .inl (ct 0, 610, .inl (fun _ => 0))), (q139_72, .inl (ct 2, 37210, .inl (fun _ => 0))), (q148_76, .inl (ct 1, 1300, .inr (.inl (fun _ => 0)))), (q157_80, .inl (ct 1, 1300, .inr (.inl (fun _ => 0)))), (q164_84, .inl (ct 0, 4, .inl (upd (upd (upd (upd (fun _ => 0) 0 (-1)) 1 (-1)) 2 (-1)) 3 (-1))))] H_182_101 := hP
  have hD : va_D AA [(h0, .inr (10, [.int 0, .ref q7_5, .ref q16_9, .ref q23_13, .ref q32_17, .int 0, .ref q39_21, .int 0, .int 0, .int 0, .int 0, .int 0, .int 0, .int (-1), .ref q52_28, .ref q60_32, .ref q68_36, .ref q76_40, .ref q83_44, .ref q90_48, .int 0, .int 0, .ref q98_52, .ref q106_56, .int 0, .int 0, .int 0, .ref q114_60, .ref q122_64, .int 0, .ref q131_68, .ref q139_72, .int 0, .int 0, .int 0, .ref q148_76, .ref q157_80, .int 0, .ref q164_84, .null, .null, .null])), (q7_5, .inl (ct 0, 98, .inl (fun _ => 0))), (q16_9, .inl (ct 0, 294, .inl (fun _ => 0))), (q23_13, .inl (ct 3, 3, .inl (fun _ => 0))), (q32_17, .inl (ct 2, 700, .inl (fun _ => 0))), (q39_21, .inl (ct 0, 5, .inl (fun _ => 0))), (q52_28, .inl (ct 0, 98, .inl (fun _ => 0))), (q60_32, .inl (ct 0, 61, .inl (fun _ => 0))), (q68_36, .inl (ct 0, 61, .inl (fun _ => 0))), (q76_40, .inl (ct 0, 61, .inl (fun _ => 0))), (q83_44, .inl (ct 0, 5, .inl (fun _ => 0))), (q90_48, .inl (ct 0, 5, .inl (fun _ => 0))), (q98_52, .inl (ct 0, 61, .inl (fun _ => 0))), (q106_56, .inl (ct 3, 61, .inl (fun _ => 0))), (q114_60, .inl (ct 0, 61, .inl (fun _ => 0))), (q122_64, .inl (ct 0, 10, .inl (fun _ => 0))), (q131_68, .inl (ct 0, 610, .inl (fun _ => 0))), (q139_72, .inl (ct 2, 37210, .inl (fun _ => 0))), (q148_76, .inl (ct 1, 1300, .inr (.inl (fun _ => 0)))), (q157_80, .inl (ct 1, 1300, .inr (.inl (fun _ => 0)))), (q164_84, .inl (ct 0, 4, .inl (upd (upd (upd (upd (fun _ => 0) 0 (-1)) 1 (-1)) 2 (-1)) 3 (-1))))] := hD
  refine lv_aload_n hx hb dX10_init_185 rfl (lv_at hl 0 rfl) ?_
  refine lv_iconst (v := 4) hx hb dX10_init_186 (by decide) ?_
  refine va_newa (D := D) (tys := tyl ct) (atype := .int) (ty := .int) (N' := 4) (a0 := (4, .inl (fun _ => 0))) hx hb (htl _ wq_3_0) rfl hK hP hD hS hA (fun _ => rfl) (by decide) (by decide) (by decide) (Nat.le_of_ble_eq_true rfl) (Nat.le_of_ble_eq_true rfl) dX10_init_187 (fun q187_104 cA H_187_104 hK1 hP hD hS => ?_)
  obtain rfl := ct_eq0 hK1
  clear hK1
  have hP : va_P D vwCl [(h0, .inr (10, [.int 0, .ref q7_5, .ref q16_9, .ref q23_13, .ref q32_17, .int 0, .ref q39_21, .int 0, .int 0, .int 0, .int 0, .int 0, .int 0, .int (-1), .ref q52_28, .ref q60_32, .ref q68_36, .ref q76_40, .ref q83_44, .ref q90_48, .int 0, .int 0, .ref q98_52, .ref q106_56, .int 0, .int 0, .int 0, .ref q114_60, .ref q122_64, .int 0, .ref q131_68, .ref q139_72, .int 0, .int 0, .int 0, .ref q148_76, .ref q157_80, .int 0, .ref q164_84, .null, .null, .null])), (q7_5, .inl (ct 0, 98, .inl (fun _ => 0))), (q16_9, .inl (ct 0, 294, .inl (fun _ => 0))), (q23_13, .inl (ct 3, 3, .inl (fun _ => 0))), (q32_17, .inl (ct 2, 700, .inl (fun _ => 0))), (q39_21, .inl (ct 0, 5, .inl (fun _ => 0))), (q52_28, .inl (ct 0, 98, .inl (fun _ => 0))), (q60_32, .inl (ct 0, 61, .inl (fun _ => 0))), (q68_36, .inl (ct 0, 61, .inl (fun _ => 0))), (q76_40, .inl (ct 0, 61, .inl (fun _ => 0))), (q83_44, .inl (ct 0, 5, .inl (fun _ => 0))), (q90_48, .inl (ct 0, 5, .inl (fun _ => 0))), (q98_52, .inl (ct 0, 61, .inl (fun _ => 0))), (q106_56, .inl (ct 3, 61, .inl (fun _ => 0))), (q114_60, .inl (ct 0, 61, .inl (fun _ => 0))), (q122_64, .inl (ct 0, 10, .inl (fun _ => 0))), (q131_68, .inl (ct 0, 610, .inl (fun _ => 0))), (q139_72, .inl (ct 2, 37210, .inl (fun _ => 0))), (q148_76, .inl (ct 1, 1300, .inr (.inl (fun _ => 0)))), (q157_80, .inl (ct 1, 1300, .inr (.inl (fun _ => 0)))), (q164_84, .inl (ct 0, 4, .inl (upd (upd (upd (upd (fun _ => 0) 0 (-1)) 1 (-1)) 2 (-1)) 3 (-1)))), (q187_104, .inl (ct 0, 4, .inl (fun _ => 0)))] H_187_104 := hP
  have hD : va_D AA [(h0, .inr (10, [.int 0, .ref q7_5, .ref q16_9, .ref q23_13, .ref q32_17, .int 0, .ref q39_21, .int 0, .int 0, .int 0, .int 0, .int 0, .int 0, .int (-1), .ref q52_28, .ref q60_32, .ref q68_36, .ref q76_40, .ref q83_44, .ref q90_48, .int 0, .int 0, .ref q98_52, .ref q106_56, .int 0, .int 0, .int 0, .ref q114_60, .ref q122_64, .int 0, .ref q131_68, .ref q139_72, .int 0, .int 0, .int 0, .ref q148_76, .ref q157_80, .int 0, .ref q164_84, .null, .null, .null])), (q7_5, .inl (ct 0, 98, .inl (fun _ => 0))), (q16_9, .inl (ct 0, 294, .inl (fun _ => 0))), (q23_13, .inl (ct 3, 3, .inl (fun _ => 0))), (q32_17, .inl (ct 2, 700, .inl (fun _ => 0))), (q39_21, .inl (ct 0, 5, .inl (fun _ => 0))), (q52_28, .inl (ct 0, 98, .inl (fun _ => 0))), (q60_32, .inl (ct 0, 61, .inl (fun _ => 0))), (q68_36, .inl (ct 0, 61, .inl (fun _ => 0))), (q76_40, .inl (ct 0, 61, .inl (fun _ => 0))), (q83_44, .inl (ct 0, 5, .inl (fun _ => 0))), (q90_48, .inl (ct 0, 5, .inl (fun _ => 0))), (q98_52, .inl (ct 0, 61, .inl (fun _ => 0))), (q106_56, .inl (ct 3, 61, .inl (fun _ => 0))), (q114_60, .inl (ct 0, 61, .inl (fun _ => 0))), (q122_64, .inl (ct 0, 10, .inl (fun _ => 0))), (q131_68, .inl (ct 0, 610, .inl (fun _ => 0))), (q139_72, .inl (ct 2, 37210, .inl (fun _ => 0))), (q148_76, .inl (ct 1, 1300, .inr (.inl (fun _ => 0)))), (q157_80, .inl (ct 1, 1300, .inr (.inl (fun _ => 0)))), (q164_84, .inl (ct 0, 4, .inl (upd (upd (upd (upd (fun _ => 0) 0 (-1)) 1 (-1)) 2 (-1)) 3 (-1)))), (q187_104, .inl (ct 0, 4, .inl (fun _ => 0)))] := hD
  refine va_putF (D := D) (tys := tyl ct) (ci := 10) (v := .ref q187_104) (ty := (.array .int)) (C := RX10) (T := TX10) (N := 42) hx hb htl inlX10 tyX10 tyX10_ok nmX10 hown hK hP hD hS 0 rfl rfl 39 (by decide) (htl _ wq_8_0) (fun _ h9 => h9) rfl hin rfl (tyX10_ok 39 (by decide)) rfl rfl (Nat.le_of_ble_eq_true rfl) dX10_init_189 (fun H_189_105 locs_189_105 hP hD hS => ?_)
  have hP : va_P D vwCl [(h0, .inr (10, [.int 0, .ref q7_5, .ref q16_9, .ref q23_13, .ref q32_17, .int 0, .ref q39_21, .int 0, .int 0, .int 0, .int 0, .int 0, .int 0, .int (-1), .ref q52_28, .ref q60_32, .ref q68_36, .ref q76_40, .ref q83_44, .ref q90_48, .int 0, .int 0, .ref q98_52, .ref q106_56, .int 0, .int 0, .int 0, .ref q114_60, .ref q122_64, .int 0, .ref q131_68, .ref q139_72, .int 0, .int 0, .int 0, .ref q148_76, .ref q157_80, .int 0, .ref q164_84, .ref q187_104, .null, .null])), (q7_5, .inl (ct 0, 98, .inl (fun _ => 0))), (q16_9, .inl (ct 0, 294, .inl (fun _ => 0))), (q23_13, .inl (ct 3, 3, .inl (fun _ => 0))), (q32_17, .inl (ct 2, 700, .inl (fun _ => 0))), (q39_21, .inl (ct 0, 5, .inl (fun _ => 0))), (q52_28, .inl (ct 0, 98, .inl (fun _ => 0))), (q60_32, .inl (ct 0, 61, .inl (fun _ => 0))), (q68_36, .inl (ct 0, 61, .inl (fun _ => 0))), (q76_40, .inl (ct 0, 61, .inl (fun _ => 0))), (q83_44, .inl (ct 0, 5, .inl (fun _ => 0))), (q90_48, .inl (ct 0, 5, .inl (fun _ => 0))), (q98_52, .inl (ct 0, 61, .inl (fun _ => 0))), (q106_56, .inl (ct 3, 61, .inl (fun _ => 0))), (q114_60, .inl (ct 0, 61, .inl (fun _ => 0))), (q122_64, .inl (ct 0, 10, .inl (fun _ => 0))), (q131_68, .inl (ct 0, 610, .inl (fun _ => 0))), (q139_72, .inl (ct 2, 37210, .inl (fun _ => 0))), (q148_76, .inl (ct 1, 1300, .inr (.inl (fun _ => 0)))), (q157_80, .inl (ct 1, 1300, .inr (.inl (fun _ => 0)))), (q164_84, .inl (ct 0, 4, .inl (upd (upd (upd (upd (fun _ => 0) 0 (-1)) 1 (-1)) 2 (-1)) 3 (-1)))), (q187_104, .inl (ct 0, 4, .inl (fun _ => 0)))] H_189_105 := hP
  have hD : va_D AA [(h0, .inr (10, [.int 0, .ref q7_5, .ref q16_9, .ref q23_13, .ref q32_17, .int 0, .ref q39_21, .int 0, .int 0, .int 0, .int 0, .int 0, .int 0, .int (-1), .ref q52_28, .ref q60_32, .ref q68_36, .ref q76_40, .ref q83_44, .ref q90_48, .int 0, .int 0, .ref q98_52, .ref q106_56, .int 0, .int 0, .int 0, .ref q114_60, .ref q122_64, .int 0, .ref q131_68, .ref q139_72, .int 0, .int 0, .int 0, .ref q148_76, .ref q157_80, .int 0, .ref q164_84, .ref q187_104, .null, .null])), (q7_5, .inl (ct 0, 98, .inl (fun _ => 0))), (q16_9, .inl (ct 0, 294, .inl (fun _ => 0))), (q23_13, .inl (ct 3, 3, .inl (fun _ => 0))), (q32_17, .inl (ct 2, 700, .inl (fun _ => 0))), (q39_21, .inl (ct 0, 5, .inl (fun _ => 0))), (q52_28, .inl (ct 0, 98, .inl (fun _ => 0))), (q60_32, .inl (ct 0, 61, .inl (fun _ => 0))), (q68_36, .inl (ct 0, 61, .inl (fun _ => 0))), (q76_40, .inl (ct 0, 61, .inl (fun _ => 0))), (q83_44, .inl (ct 0, 5, .inl (fun _ => 0))), (q90_48, .inl (ct 0, 5, .inl (fun _ => 0))), (q98_52, .inl (ct 0, 61, .inl (fun _ => 0))), (q106_56, .inl (ct 3, 61, .inl (fun _ => 0))), (q114_60, .inl (ct 0, 61, .inl (fun _ => 0))), (q122_64, .inl (ct 0, 10, .inl (fun _ => 0))), (q131_68, .inl (ct 0, 610, .inl (fun _ => 0))), (q139_72, .inl (ct 2, 37210, .inl (fun _ => 0))), (q148_76, .inl (ct 1, 1300, .inr (.inl (fun _ => 0)))), (q157_80, .inl (ct 1, 1300, .inr (.inl (fun _ => 0)))), (q164_84, .inl (ct 0, 4, .inl (upd (upd (upd (upd (fun _ => 0) 0 (-1)) 1 (-1)) 2 (-1)) 3 (-1)))), (q187_104, .inl (ct 0, 4, .inl (fun _ => 0)))] := hD
  refine lv_aload_n hx hb dX10_init_192 rfl (lv_at hl 0 rfl) ?_
  refine lv_sipush (v := 240) hx hb dX10_init_193 (by decide) ?_
  refine va_newa (D := D) (tys := tyl ct) (atype := .long) (ty := .long) (N' := 240) (a0 := (240, .inr (.inl (fun _ => 0)))) hx hb (htl _ wq_6_8) rfl hK hP hD hS hA (fun _ => rfl) (by decide) (by decide) (by decide) (Nat.le_of_ble_eq_true rfl) (Nat.le_of_ble_eq_true rfl) dX10_init_196 (fun q196_108 cA H_196_108 hK1 hP hD hS => ?_)
  obtain rfl := ct_eq1 hK1
  clear hK1
  have hP : va_P D vwCl [(h0, .inr (10, [.int 0, .ref q7_5, .ref q16_9, .ref q23_13, .ref q32_17, .int 0, .ref q39_21, .int 0, .int 0, .int 0, .int 0, .int 0, .int 0, .int (-1), .ref q52_28, .ref q60_32, .ref q68_36, .ref q76_40, .ref q83_44, .ref q90_48, .int 0, .int 0, .ref q98_52, .ref q106_56, .int 0, .int 0, .int 0, .ref q114_60, .ref q122_64, .int 0, .ref q131_68, .ref q139_72, .int 0, .int 0, .int 0, .ref q148_76, .ref q157_80, .int 0, .ref q164_84, .ref q187_104, .null, .null])), (q7_5, .inl (ct 0, 98, .inl (fun _ => 0))), (q16_9, .inl (ct 0, 294, .inl (fun _ => 0))), (q23_13, .inl (ct 3, 3, .inl (fun _ => 0))), (q32_17, .inl (ct 2, 700, .inl (fun _ => 0))), (q39_21, .inl (ct 0, 5, .inl (fun _ => 0))), (q52_28, .inl (ct 0, 98, .inl (fun _ => 0))), (q60_32, .inl (ct 0, 61, .inl (fun _ => 0))), (q68_36, .inl (ct 0, 61, .inl (fun _ => 0))), (q76_40, .inl (ct 0, 61, .inl (fun _ => 0))), (q83_44, .inl (ct 0, 5, .inl (fun _ => 0))), (q90_48, .inl (ct 0, 5, .inl (fun _ => 0))), (q98_52, .inl (ct 0, 61, .inl (fun _ => 0))), (q106_56, .inl (ct 3, 61, .inl (fun _ => 0))), (q114_60, .inl (ct 0, 61, .inl (fun _ => 0))), (q122_64, .inl (ct 0, 10, .inl (fun _ => 0))), (q131_68, .inl (ct 0, 610, .inl (fun _ => 0))), (q139_72, .inl (ct 2, 37210, .inl (fun _ => 0))), (q148_76, .inl (ct 1, 1300, .inr (.inl (fun _ => 0)))), (q157_80, .inl (ct 1, 1300, .inr (.inl (fun _ => 0)))), (q164_84, .inl (ct 0, 4, .inl (upd (upd (upd (upd (fun _ => 0) 0 (-1)) 1 (-1)) 2 (-1)) 3 (-1)))), (q187_104, .inl (ct 0, 4, .inl (fun _ => 0))), (q196_108, .inl (ct 1, 240, .inr (.inl (fun _ => 0))))] H_196_108 := hP
  have hD : va_D AA [(h0, .inr (10, [.int 0, .ref q7_5, .ref q16_9, .ref q23_13, .ref q32_17, .int 0, .ref q39_21, .int 0, .int 0, .int 0, .int 0, .int 0, .int 0, .int (-1), .ref q52_28, .ref q60_32, .ref q68_36, .ref q76_40, .ref q83_44, .ref q90_48, .int 0, .int 0, .ref q98_52, .ref q106_56, .int 0, .int 0, .int 0, .ref q114_60, .ref q122_64, .int 0, .ref q131_68, .ref q139_72, .int 0, .int 0, .int 0, .ref q148_76, .ref q157_80, .int 0, .ref q164_84, .ref q187_104, .null, .null])), (q7_5, .inl (ct 0, 98, .inl (fun _ => 0))), (q16_9, .inl (ct 0, 294, .inl (fun _ => 0))), (q23_13, .inl (ct 3, 3, .inl (fun _ => 0))), (q32_17, .inl (ct 2, 700, .inl (fun _ => 0))), (q39_21, .inl (ct 0, 5, .inl (fun _ => 0))), (q52_28, .inl (ct 0, 98, .inl (fun _ => 0))), (q60_32, .inl (ct 0, 61, .inl (fun _ => 0))), (q68_36, .inl (ct 0, 61, .inl (fun _ => 0))), (q76_40, .inl (ct 0, 61, .inl (fun _ => 0))), (q83_44, .inl (ct 0, 5, .inl (fun _ => 0))), (q90_48, .inl (ct 0, 5, .inl (fun _ => 0))), (q98_52, .inl (ct 0, 61, .inl (fun _ => 0))), (q106_56, .inl (ct 3, 61, .inl (fun _ => 0))), (q114_60, .inl (ct 0, 61, .inl (fun _ => 0))), (q122_64, .inl (ct 0, 10, .inl (fun _ => 0))), (q131_68, .inl (ct 0, 610, .inl (fun _ => 0))), (q139_72, .inl (ct 2, 37210, .inl (fun _ => 0))), (q148_76, .inl (ct 1, 1300, .inr (.inl (fun _ => 0)))), (q157_80, .inl (ct 1, 1300, .inr (.inl (fun _ => 0)))), (q164_84, .inl (ct 0, 4, .inl (upd (upd (upd (upd (fun _ => 0) 0 (-1)) 1 (-1)) 2 (-1)) 3 (-1)))), (q187_104, .inl (ct 0, 4, .inl (fun _ => 0))), (q196_108, .inl (ct 1, 240, .inr (.inl (fun _ => 0))))] := hD
  refine va_putF (D := D) (tys := tyl ct) (ci := 10) (v := .ref q196_108) (ty := (.array .long)) (C := RX10) (T := TX10) (N := 42) hx hb htl inlX10 tyX10 tyX10_ok nmX10 hown hK hP hD hS 0 rfl rfl 40 (by decide) (htl _ wq_8_1) (fun _ h9 => h9) rfl hin rfl (tyX10_ok 40 (by decide)) rfl rfl (Nat.le_of_ble_eq_true rfl) dX10_init_198 (fun H_198_109 locs_198_109 hP hD hS => ?_)
  have hP : va_P D vwCl [(h0, .inr (10, [.int 0, .ref q7_5, .ref q16_9, .ref q23_13, .ref q32_17, .int 0, .ref q39_21, .int 0, .int 0, .int 0, .int 0, .int 0, .int 0, .int (-1), .ref q52_28, .ref q60_32, .ref q68_36, .ref q76_40, .ref q83_44, .ref q90_48, .int 0, .int 0, .ref q98_52, .ref q106_56, .int 0, .int 0, .int 0, .ref q114_60, .ref q122_64, .int 0, .ref q131_68, .ref q139_72, .int 0, .int 0, .int 0, .ref q148_76, .ref q157_80, .int 0, .ref q164_84, .ref q187_104, .ref q196_108, .null])), (q7_5, .inl (ct 0, 98, .inl (fun _ => 0))), (q16_9, .inl (ct 0, 294, .inl (fun _ => 0))), (q23_13, .inl (ct 3, 3, .inl (fun _ => 0))), (q32_17, .inl (ct 2, 700, .inl (fun _ => 0))), (q39_21, .inl (ct 0, 5, .inl (fun _ => 0))), (q52_28, .inl (ct 0, 98, .inl (fun _ => 0))), (q60_32, .inl (ct 0, 61, .inl (fun _ => 0))), (q68_36, .inl (ct 0, 61, .inl (fun _ => 0))), (q76_40, .inl (ct 0, 61, .inl (fun _ => 0))), (q83_44, .inl (ct 0, 5, .inl (fun _ => 0))), (q90_48, .inl (ct 0, 5, .inl (fun _ => 0))), (q98_52, .inl (ct 0, 61, .inl (fun _ => 0))), (q106_56, .inl (ct 3, 61, .inl (fun _ => 0))), (q114_60, .inl (ct 0, 61, .inl (fun _ => 0))), (q122_64, .inl (ct 0, 10, .inl (fun _ => 0))), (q131_68, .inl (ct 0, 610, .inl (fun _ => 0))), (q139_72, .inl (ct 2, 37210, .inl (fun _ => 0))), (q148_76, .inl (ct 1, 1300, .inr (.inl (fun _ => 0)))), (q157_80, .inl (ct 1, 1300, .inr (.inl (fun _ => 0)))), (q164_84, .inl (ct 0, 4, .inl (upd (upd (upd (upd (fun _ => 0) 0 (-1)) 1 (-1)) 2 (-1)) 3 (-1)))), (q187_104, .inl (ct 0, 4, .inl (fun _ => 0))), (q196_108, .inl (ct 1, 240, .inr (.inl (fun _ => 0))))] H_198_109 := hP
  have hD : va_D AA [(h0, .inr (10, [.int 0, .ref q7_5, .ref q16_9, .ref q23_13, .ref q32_17, .int 0, .ref q39_21, .int 0, .int 0, .int 0, .int 0, .int 0, .int 0, .int (-1), .ref q52_28, .ref q60_32, .ref q68_36, .ref q76_40, .ref q83_44, .ref q90_48, .int 0, .int 0, .ref q98_52, .ref q106_56, .int 0, .int 0, .int 0, .ref q114_60, .ref q122_64, .int 0, .ref q131_68, .ref q139_72, .int 0, .int 0, .int 0, .ref q148_76, .ref q157_80, .int 0, .ref q164_84, .ref q187_104, .ref q196_108, .null])), (q7_5, .inl (ct 0, 98, .inl (fun _ => 0))), (q16_9, .inl (ct 0, 294, .inl (fun _ => 0))), (q23_13, .inl (ct 3, 3, .inl (fun _ => 0))), (q32_17, .inl (ct 2, 700, .inl (fun _ => 0))), (q39_21, .inl (ct 0, 5, .inl (fun _ => 0))), (q52_28, .inl (ct 0, 98, .inl (fun _ => 0))), (q60_32, .inl (ct 0, 61, .inl (fun _ => 0))), (q68_36, .inl (ct 0, 61, .inl (fun _ => 0))), (q76_40, .inl (ct 0, 61, .inl (fun _ => 0))), (q83_44, .inl (ct 0, 5, .inl (fun _ => 0))), (q90_48, .inl (ct 0, 5, .inl (fun _ => 0))), (q98_52, .inl (ct 0, 61, .inl (fun _ => 0))), (q106_56, .inl (ct 3, 61, .inl (fun _ => 0))), (q114_60, .inl (ct 0, 61, .inl (fun _ => 0))), (q122_64, .inl (ct 0, 10, .inl (fun _ => 0))), (q131_68, .inl (ct 0, 610, .inl (fun _ => 0))), (q139_72, .inl (ct 2, 37210, .inl (fun _ => 0))), (q148_76, .inl (ct 1, 1300, .inr (.inl (fun _ => 0)))), (q157_80, .inl (ct 1, 1300, .inr (.inl (fun _ => 0)))), (q164_84, .inl (ct 0, 4, .inl (upd (upd (upd (upd (fun _ => 0) 0 (-1)) 1 (-1)) 2 (-1)) 3 (-1)))), (q187_104, .inl (ct 0, 4, .inl (fun _ => 0))), (q196_108, .inl (ct 1, 240, .inr (.inl (fun _ => 0))))] := hD
  refine lv_aload_n hx hb dX10_init_201 rfl (lv_at hl 0 rfl) ?_
  refine lv_bipush (v := 60) hx hb dX10_init_202 (by decide) ?_
  refine va_newa (D := D) (tys := tyl ct) (atype := .long) (ty := .long) (N' := 60) (a0 := (60, .inr (.inl (fun _ => 0)))) hx hb (htl _ wq_6_8) rfl hK hP hD hS hA (fun _ => rfl) (by decide) (by decide) (by decide) (Nat.le_of_ble_eq_true rfl) (Nat.le_of_ble_eq_true rfl) dX10_init_204 (fun q204_112 cA H_204_112 hK1 hP hD hS => ?_)
  obtain rfl := ct_eq1 hK1
  clear hK1
  have hP : va_P D vwCl [(h0, .inr (10, [.int 0, .ref q7_5, .ref q16_9, .ref q23_13, .ref q32_17, .int 0, .ref q39_21, .int 0, .int 0, .int 0, .int 0, .int 0, .int 0, .int (-1), .ref q52_28, .ref q60_32, .ref q68_36, .ref q76_40, .ref q83_44, .ref q90_48, .int 0, .int 0, .ref q98_52, .ref q106_56, .int 0, .int 0, .int 0, .ref q114_60, .ref q122_64, .int 0, .ref q131_68, .ref q139_72, .int 0, .int 0, .int 0, .ref q148_76, .ref q157_80, .int 0, .ref q164_84, .ref q187_104, .ref q196_108, .null])), (q7_5, .inl (ct 0, 98, .inl (fun _ => 0))), (q16_9, .inl (ct 0, 294, .inl (fun _ => 0))), (q23_13, .inl (ct 3, 3, .inl (fun _ => 0))), (q32_17, .inl (ct 2, 700, .inl (fun _ => 0))), (q39_21, .inl (ct 0, 5, .inl (fun _ => 0))), (q52_28, .inl (ct 0, 98, .inl (fun _ => 0))), (q60_32, .inl (ct 0, 61, .inl (fun _ => 0))), (q68_36, .inl (ct 0, 61, .inl (fun _ => 0))), (q76_40, .inl (ct 0, 61, .inl (fun _ => 0))), (q83_44, .inl (ct 0, 5, .inl (fun _ => 0))), (q90_48, .inl (ct 0, 5, .inl (fun _ => 0))), (q98_52, .inl (ct 0, 61, .inl (fun _ => 0))), (q106_56, .inl (ct 3, 61, .inl (fun _ => 0))), (q114_60, .inl (ct 0, 61, .inl (fun _ => 0))), (q122_64, .inl (ct 0, 10, .inl (fun _ => 0))), (q131_68, .inl (ct 0, 610, .inl (fun _ => 0))), (q139_72, .inl (ct 2, 37210, .inl (fun _ => 0))), (q148_76, .inl (ct 1, 1300, .inr (.inl (fun _ => 0)))), (q157_80, .inl (ct 1, 1300, .inr (.inl (fun _ => 0)))), (q164_84, .inl (ct 0, 4, .inl (upd (upd (upd (upd (fun _ => 0) 0 (-1)) 1 (-1)) 2 (-1)) 3 (-1)))), (q187_104, .inl (ct 0, 4, .inl (fun _ => 0))), (q196_108, .inl (ct 1, 240, .inr (.inl (fun _ => 0)))), (q204_112, .inl (ct 1, 60, .inr (.inl (fun _ => 0))))] H_204_112 := hP
  have hD : va_D AA [(h0, .inr (10, [.int 0, .ref q7_5, .ref q16_9, .ref q23_13, .ref q32_17, .int 0, .ref q39_21, .int 0, .int 0, .int 0, .int 0, .int 0, .int 0, .int (-1), .ref q52_28, .ref q60_32, .ref q68_36, .ref q76_40, .ref q83_44, .ref q90_48, .int 0, .int 0, .ref q98_52, .ref q106_56, .int 0, .int 0, .int 0, .ref q114_60, .ref q122_64, .int 0, .ref q131_68, .ref q139_72, .int 0, .int 0, .int 0, .ref q148_76, .ref q157_80, .int 0, .ref q164_84, .ref q187_104, .ref q196_108, .null])), (q7_5, .inl (ct 0, 98, .inl (fun _ => 0))), (q16_9, .inl (ct 0, 294, .inl (fun _ => 0))), (q23_13, .inl (ct 3, 3, .inl (fun _ => 0))), (q32_17, .inl (ct 2, 700, .inl (fun _ => 0))), (q39_21, .inl (ct 0, 5, .inl (fun _ => 0))), (q52_28, .inl (ct 0, 98, .inl (fun _ => 0))), (q60_32, .inl (ct 0, 61, .inl (fun _ => 0))), (q68_36, .inl (ct 0, 61, .inl (fun _ => 0))), (q76_40, .inl (ct 0, 61, .inl (fun _ => 0))), (q83_44, .inl (ct 0, 5, .inl (fun _ => 0))), (q90_48, .inl (ct 0, 5, .inl (fun _ => 0))), (q98_52, .inl (ct 0, 61, .inl (fun _ => 0))), (q106_56, .inl (ct 3, 61, .inl (fun _ => 0))), (q114_60, .inl (ct 0, 61, .inl (fun _ => 0))), (q122_64, .inl (ct 0, 10, .inl (fun _ => 0))), (q131_68, .inl (ct 0, 610, .inl (fun _ => 0))), (q139_72, .inl (ct 2, 37210, .inl (fun _ => 0))), (q148_76, .inl (ct 1, 1300, .inr (.inl (fun _ => 0)))), (q157_80, .inl (ct 1, 1300, .inr (.inl (fun _ => 0)))), (q164_84, .inl (ct 0, 4, .inl (upd (upd (upd (upd (fun _ => 0) 0 (-1)) 1 (-1)) 2 (-1)) 3 (-1)))), (q187_104, .inl (ct 0, 4, .inl (fun _ => 0))), (q196_108, .inl (ct 1, 240, .inr (.inl (fun _ => 0)))), (q204_112, .inl (ct 1, 60, .inr (.inl (fun _ => 0))))] := hD
  refine va_putF (D := D) (tys := tyl ct) (ci := 10) (v := .ref q204_112) (ty := (.array .long)) (C := RX10) (T := TX10) (N := 42) hx hb htl inlX10 tyX10 tyX10_ok nmX10 hown hK hP hD hS 0 rfl rfl 41 (by decide) (htl _ wq_8_2) (fun _ h9 => h9) rfl hin rfl (tyX10_ok 41 (by decide)) rfl rfl (Nat.le_of_ble_eq_true rfl) dX10_init_206 (fun H_206_113 locs_206_113 hP hD hS => ?_)
  have hP : va_P D vwCl [(h0, .inr (10, [.int 0, .ref q7_5, .ref q16_9, .ref q23_13, .ref q32_17, .int 0, .ref q39_21, .int 0, .int 0, .int 0, .int 0, .int 0, .int 0, .int (-1), .ref q52_28, .ref q60_32, .ref q68_36, .ref q76_40, .ref q83_44, .ref q90_48, .int 0, .int 0, .ref q98_52, .ref q106_56, .int 0, .int 0, .int 0, .ref q114_60, .ref q122_64, .int 0, .ref q131_68, .ref q139_72, .int 0, .int 0, .int 0, .ref q148_76, .ref q157_80, .int 0, .ref q164_84, .ref q187_104, .ref q196_108, .ref q204_112])), (q7_5, .inl (ct 0, 98, .inl (fun _ => 0))), (q16_9, .inl (ct 0, 294, .inl (fun _ => 0))), (q23_13, .inl (ct 3, 3, .inl (fun _ => 0))), (q32_17, .inl (ct 2, 700, .inl (fun _ => 0))), (q39_21, .inl (ct 0, 5, .inl (fun _ => 0))), (q52_28, .inl (ct 0, 98, .inl (fun _ => 0))), (q60_32, .inl (ct 0, 61, .inl (fun _ => 0))), (q68_36, .inl (ct 0, 61, .inl (fun _ => 0))), (q76_40, .inl (ct 0, 61, .inl (fun _ => 0))), (q83_44, .inl (ct 0, 5, .inl (fun _ => 0))), (q90_48, .inl (ct 0, 5, .inl (fun _ => 0))), (q98_52, .inl (ct 0, 61, .inl (fun _ => 0))), (q106_56, .inl (ct 3, 61, .inl (fun _ => 0))), (q114_60, .inl (ct 0, 61, .inl (fun _ => 0))), (q122_64, .inl (ct 0, 10, .inl (fun _ => 0))), (q131_68, .inl (ct 0, 610, .inl (fun _ => 0))), (q139_72, .inl (ct 2, 37210, .inl (fun _ => 0))), (q148_76, .inl (ct 1, 1300, .inr (.inl (fun _ => 0)))), (q157_80, .inl (ct 1, 1300, .inr (.inl (fun _ => 0)))), (q164_84, .inl (ct 0, 4, .inl (upd (upd (upd (upd (fun _ => 0) 0 (-1)) 1 (-1)) 2 (-1)) 3 (-1)))), (q187_104, .inl (ct 0, 4, .inl (fun _ => 0))), (q196_108, .inl (ct 1, 240, .inr (.inl (fun _ => 0)))), (q204_112, .inl (ct 1, 60, .inr (.inl (fun _ => 0))))] H_206_113 := hP
  have hD : va_D AA [(h0, .inr (10, [.int 0, .ref q7_5, .ref q16_9, .ref q23_13, .ref q32_17, .int 0, .ref q39_21, .int 0, .int 0, .int 0, .int 0, .int 0, .int 0, .int (-1), .ref q52_28, .ref q60_32, .ref q68_36, .ref q76_40, .ref q83_44, .ref q90_48, .int 0, .int 0, .ref q98_52, .ref q106_56, .int 0, .int 0, .int 0, .ref q114_60, .ref q122_64, .int 0, .ref q131_68, .ref q139_72, .int 0, .int 0, .int 0, .ref q148_76, .ref q157_80, .int 0, .ref q164_84, .ref q187_104, .ref q196_108, .ref q204_112])), (q7_5, .inl (ct 0, 98, .inl (fun _ => 0))), (q16_9, .inl (ct 0, 294, .inl (fun _ => 0))), (q23_13, .inl (ct 3, 3, .inl (fun _ => 0))), (q32_17, .inl (ct 2, 700, .inl (fun _ => 0))), (q39_21, .inl (ct 0, 5, .inl (fun _ => 0))), (q52_28, .inl (ct 0, 98, .inl (fun _ => 0))), (q60_32, .inl (ct 0, 61, .inl (fun _ => 0))), (q68_36, .inl (ct 0, 61, .inl (fun _ => 0))), (q76_40, .inl (ct 0, 61, .inl (fun _ => 0))), (q83_44, .inl (ct 0, 5, .inl (fun _ => 0))), (q90_48, .inl (ct 0, 5, .inl (fun _ => 0))), (q98_52, .inl (ct 0, 61, .inl (fun _ => 0))), (q106_56, .inl (ct 3, 61, .inl (fun _ => 0))), (q114_60, .inl (ct 0, 61, .inl (fun _ => 0))), (q122_64, .inl (ct 0, 10, .inl (fun _ => 0))), (q131_68, .inl (ct 0, 610, .inl (fun _ => 0))), (q139_72, .inl (ct 2, 37210, .inl (fun _ => 0))), (q148_76, .inl (ct 1, 1300, .inr (.inl (fun _ => 0)))), (q157_80, .inl (ct 1, 1300, .inr (.inl (fun _ => 0)))), (q164_84, .inl (ct 0, 4, .inl (upd (upd (upd (upd (fun _ => 0) 0 (-1)) 1 (-1)) 2 (-1)) 3 (-1)))), (q187_104, .inl (ct 0, 4, .inl (fun _ => 0))), (q196_108, .inl (ct 1, 240, .inr (.inl (fun _ => 0)))), (q204_112, .inl (ct 1, 60, .inr (.inl (fun _ => 0))))] := hD
  refine W.widen (k := 23) (n := 42312) (Nat.le_of_ble_eq_true rfl) (Nat.le_of_ble_eq_true rfl) ?_
  exact W.vret hx hb hr (fun t ht hW => ⟨⟨fun i => ([h0, q7_5, q16_9, q23_13, q32_17, q39_21, q52_28, q60_32, q68_36, q76_40, q83_44, q90_48, q98_52, q106_56, q114_60, q122_64, q131_68, q139_72, q148_76, q157_80, q164_84, q187_104, q196_108, q204_112] : List Nat).getD i 0, rfl, trivial, rfl, by rw [ht]; exact hP, hD⟩, hS.F ht⟩) hS.2.2 dX10_init_209
