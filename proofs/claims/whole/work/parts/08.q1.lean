def p_X9_used (fu : Nat) (x : Nat → Ob) (v1 : Int32) (v2 : Int32) : Option (Int32 × (Nat → Ob)) :=
  (p_X9_putIn fu x v1 v2).bind fun r_3 => if r_3.1 = 0 then some (((-2) : Int32), r_3.2) else some (((r_3.2 12).1 8 0), r_3.2)
abbrev rm_X9_used : Room := { frames := 5, cells := 0, slots := 0, locals := 119 }
set_option maxHeartbeats 4000000 in
set_option maxRecDepth 100000 in
theorem b_X9_used {p : Program} {l : Launch} {e : Env} {s : State} {m : MethodId} {args : Array Value} {below : List Frame} {meth : Method} {c : Code} {ls : Array Slot} {D : va_G} {ct : Nat → ClassId} {G : GT} (A : Nat → Nat) (fu : Nat) (x : Nat → Ob) (v1 : Int32) (v2 : Int32) {r : Int32 × (Nat → Ob)} (hx : p.tables.exec = Jvm.exec) (hb : c.code = cX9_used) (hr : meth.sig.returnType = (some .int)) (hml : c.maxLocals = 3) (hown : s.vm.findClass RX9 = some m.cls) (htl : ∀ w ∈ wsL_law, w.before args s = true) (hlocks : meth.locks = false) (hK : va_K D vwCl (tyl ct) s) (hN : ∀ w ∈ NW, va_Nw w s) (hX : SX G s s.heap) (hP0 : va_P D vwCl (csQ ct A x) s.heap) (hf : p_X9_used fu x v1 v2 = some r) (hDx : ∀ x : Nat → Ob, va_D (GE G) (csQ ct A x))  (hl : lv_has ls 3 [(0, .ref (A 0)), (1, .int v1), (2, .int v2)]) : W p l e rm_X9_used s m args below meth c s.heap [] 0 0 (MQ below (Qwr (some (.int r.1)) (fun H => va_P D vwCl (csQ ct A r.2) H) (wA (csQ ct A x))) args s 0 0 (wA (csQ ct A x))) (F0 m 0 ls []) := by
  generalize hQQ : MQ below (Qwr (some (.int r.1)) (fun H => va_P D vwCl (csQ ct A r.2) H) (wA (csQ ct A x))) args s 0 0 (wA (csQ ct A x)) = QQ
  have hDW : ∀ x1 : Nat → Ob, va_D (wA (csQ ct A x)) (csQ ct A x1) := fun x1 => D_any (D_self (hDx x1)) (wA_Q x1 x)
  have hGE : ∀ q, wA (csQ ct A x) q → GE G q := wA_GE (hDx x)
  have hP := hP0
  have hS : va_S (wA (csQ ct A x)) s.heap s.heap [] := va_S.rf
  rw [p_X9_used] at hf
  refine lv_aload_n hx hb dX9_used_0 rfl (lv_at hl 0 rfl) ?_
  refine lv_iload_n hx hb dX9_used_1 rfl (lv_at hl 1 rfl) ?_
  refine lv_iload_n hx hb dX9_used_2 rfl (lv_at hl 2 rfl) ?_
  obtain ⟨r_3, e_3, hf⟩ := ob_bind hf
  have hPX_3 : va_P D vwCl (csQ ct A x) s.heap := hP
  refine wr_call1 (va_runV (As := [.int v1, .int v2]) (rest := []) ⟨hx, hb, hml, hown, htl⟩ (c_X9_putIn l D ct G A fu x v1 v2 e_3 hDx) (cw_X9_X9_putIn htl ⟨Nat.le_of_ble_eq_true rfl, Nat.le_of_ble_eq_true rfl⟩) ⟨Bx_blind, va_recv hK hPX_3 (ci := 9) (q0 := 0) rfl rfl, Bx_pre hPX_3 hK hN (hX.stay hS hGE)⟩ rfl rfl hl.1 rfl (lv_room (Nat.le_of_ble_eq_true rfl)) dX9_used_3 ⟨Nat.zero_le _, Nat.zero_le _⟩) hS (wA_Q _ _) (fun H_3 locs_3 hB_3 _ hk_3 hS => ?_)
  have hP : va_P D vwCl (csQ ct A r_3.2) H_3 := hB_3
  refine lv_if_eq (tgt := 19) hx hb dX9_used_6 (by decide) (fun c_6 => ?_) (fun c_6 => ?_)
  · rw [if_pos c_6] at hf
    refine lv_bipush (v := (-2)) hx hb dX9_used_19 (by decide) ?_
    rw [← hQQ]
    cases hf
    exact rw_i hx hb hr hlocks hP hS dX9_used_21
  rw [if_neg c_6] at hf
  refine lv_aload_n hx hb dX9_used_9 rfl (lv_at hl 0 rfl) ?_
  refine va_get (D := D) (ci := 9) (v := .ref (A 93)) (C := RX9) (T := TX9) (N := 14) hx hb htl inlX9 hown hK hP 0 qh_0 rfl 8 (by decide) (htl _ wq_2_12) (fun _ h9 => h9) rfl dX9_used_10 ?_
  refine va_getN (D := D) (ci := 5) (v := .int ((r_3.2 12).1 8 0)) (C := RX5) (T := TX5) (N := 9) hx hb htl inlX5 hown hK hP 93 qh_12 rfl 8 (by decide) (va_Nw.use rfl (hN _ nm_21)) (fun _ h9 => h9) rfl dX9_used_13 ?_
  refine lv_goto (tgt := 21) hx hb dX9_used_16 (by decide) ?_
  rw [← hQQ]
  cases hf
  exact rw_i hx hb hr hlocks hP hS dX9_used_21
theorem c_X9_used (l : Launch) (D : va_G) (ct : Nat → ClassId) (G : GT) (A : Nat → Nat) (fu : Nat) (x : Nat → Ob) (v1 : Int32) (v2 : Int32) {r : Int32 × (Nat → Ob)} (hf : p_X9_used fu x v1 v2 = some r)  (hDx : ∀ x : Nat → Ob, va_D (GE G) (csQ ct A x)) : Met l yX9_used (.code yX9_used cX9_used 3 (some .int) :: wsL_law) rm_X9_used (va_Pc [.ref (A 0), .int v1, .int v2] (Bx D ct G (csQ ct A x))) (Qwr (some (.int r.1)) (fun H => va_P D vwCl (csQ ct A r.2) H) (wA (csQ ct A x))) 0 0 (wA (csQ ct A x)) := by
  refine Met.ofW (cc := cX9_used) (maxL := 3) (ret := (some .int)) (by decide) rfl ?_
  intro p e s m args below meth c s₁ B hml hv
  obtain ⟨rfl, hP, hK, hN, hX⟩ := hv
  have hts := atoms_spec (ws := .code yX9_used cX9_used 3 (some .int) :: wsL_law) B.pre
  rw [lg_entry_eq]
  exact b_X9_used A fu x v1 v2 B.exec B.bytes B.returns hml (findClass_of_methodNamed B.named) (fun w h => hts w (List.mem_cons_of_mem _ h)) B.notSynchronized hK hN hX hP hf hDx  (lv_entry [.ref (A 0), .int v1, .int v2] (n := 3) (Nat.le_of_ble_eq_true rfl))
def p_X9_again (fu : Nat) (x : Nat → Ob) (v1 : Int32) (v2 : Int32) : Option (Int32 × (Nat → Ob)) :=
  (p_X9_putIn fu x v1 v2).bind fun r_3 => if r_3.1 = 0 then some (((-2) : Int32), r_3.2) else some (((r_3.2 12).1 3 0), r_3.2)
abbrev rm_X9_again : Room := { frames := 5, cells := 0, slots := 0, locals := 119 }
set_option maxHeartbeats 4000000 in
set_option maxRecDepth 100000 in
theorem b_X9_again {p : Program} {l : Launch} {e : Env} {s : State} {m : MethodId} {args : Array Value} {below : List Frame} {meth : Method} {c : Code} {ls : Array Slot} {D : va_G} {ct : Nat → ClassId} {G : GT} (A : Nat → Nat) (fu : Nat) (x : Nat → Ob) (v1 : Int32) (v2 : Int32) {r : Int32 × (Nat → Ob)} (hx : p.tables.exec = Jvm.exec) (hb : c.code = cX9_again) (hr : meth.sig.returnType = (some .int)) (hml : c.maxLocals = 3) (hown : s.vm.findClass RX9 = some m.cls) (htl : ∀ w ∈ wsL_law, w.before args s = true) (hlocks : meth.locks = false) (hK : va_K D vwCl (tyl ct) s) (hN : ∀ w ∈ NW, va_Nw w s) (hX : SX G s s.heap) (hP0 : va_P D vwCl (csQ ct A x) s.heap) (hf : p_X9_again fu x v1 v2 = some r) (hDx : ∀ x : Nat → Ob, va_D (GE G) (csQ ct A x))  (hl : lv_has ls 3 [(0, .ref (A 0)), (1, .int v1), (2, .int v2)]) : W p l e rm_X9_again s m args below meth c s.heap [] 0 0 (MQ below (Qwr (some (.int r.1)) (fun H => va_P D vwCl (csQ ct A r.2) H) (wA (csQ ct A x))) args s 0 0 (wA (csQ ct A x))) (F0 m 0 ls []) := by
  generalize hQQ : MQ below (Qwr (some (.int r.1)) (fun H => va_P D vwCl (csQ ct A r.2) H) (wA (csQ ct A x))) args s 0 0 (wA (csQ ct A x)) = QQ
  have hDW : ∀ x1 : Nat → Ob, va_D (wA (csQ ct A x)) (csQ ct A x1) := fun x1 => D_any (D_self (hDx x1)) (wA_Q x1 x)
  have hGE : ∀ q, wA (csQ ct A x) q → GE G q := wA_GE (hDx x)
  have hP := hP0
  have hS : va_S (wA (csQ ct A x)) s.heap s.heap [] := va_S.rf
  rw [p_X9_again] at hf
  refine lv_aload_n hx hb dX9_again_0 rfl (lv_at hl 0 rfl) ?_
  refine lv_iload_n hx hb dX9_again_1 rfl (lv_at hl 1 rfl) ?_
  refine lv_iload_n hx hb dX9_again_2 rfl (lv_at hl 2 rfl) ?_
  obtain ⟨r_3, e_3, hf⟩ := ob_bind hf
  have hPX_3 : va_P D vwCl (csQ ct A x) s.heap := hP
  refine wr_call1 (va_runV (As := [.int v1, .int v2]) (rest := []) ⟨hx, hb, hml, hown, htl⟩ (c_X9_putIn l D ct G A fu x v1 v2 e_3 hDx) (cw_X9_X9_putIn htl ⟨Nat.le_of_ble_eq_true rfl, Nat.le_of_ble_eq_true rfl⟩) ⟨Bx_blind, va_recv hK hPX_3 (ci := 9) (q0 := 0) rfl rfl, Bx_pre hPX_3 hK hN (hX.stay hS hGE)⟩ rfl rfl hl.1 rfl (lv_room (Nat.le_of_ble_eq_true rfl)) dX9_again_3 ⟨Nat.zero_le _, Nat.zero_le _⟩) hS (wA_Q _ _) (fun H_3 locs_3 hB_3 _ hk_3 hS => ?_)
  have hP : va_P D vwCl (csQ ct A r_3.2) H_3 := hB_3
  refine lv_if_eq (tgt := 19) hx hb dX9_again_6 (by decide) (fun c_6 => ?_) (fun c_6 => ?_)
  · rw [if_pos c_6] at hf
    refine lv_bipush (v := (-2)) hx hb dX9_again_19 (by decide) ?_
    rw [← hQQ]
    cases hf
    exact rw_i hx hb hr hlocks hP hS dX9_again_21
  rw [if_neg c_6] at hf
  refine lv_aload_n hx hb dX9_again_9 rfl (lv_at hl 0 rfl) ?_
  refine va_get (D := D) (ci := 9) (v := .ref (A 93)) (C := RX9) (T := TX9) (N := 14) hx hb htl inlX9 hown hK hP 0 qh_0 rfl 8 (by decide) (htl _ wq_2_12) (fun _ h9 => h9) rfl dX9_again_10 ?_
  refine va_getN (D := D) (ci := 5) (v := .int ((r_3.2 12).1 3 0)) (C := RX5) (T := TX5) (N := 9) hx hb htl inlX5 hown hK hP 93 qh_12 rfl 3 (by decide) (va_Nw.use rfl (hN _ nm_22)) (fun _ h9 => h9) rfl dX9_again_13 ?_
  refine lv_goto (tgt := 21) hx hb dX9_again_16 (by decide) ?_
  rw [← hQQ]
  cases hf
  exact rw_i hx hb hr hlocks hP hS dX9_again_21
theorem c_X9_again (l : Launch) (D : va_G) (ct : Nat → ClassId) (G : GT) (A : Nat → Nat) (fu : Nat) (x : Nat → Ob) (v1 : Int32) (v2 : Int32) {r : Int32 × (Nat → Ob)} (hf : p_X9_again fu x v1 v2 = some r)  (hDx : ∀ x : Nat → Ob, va_D (GE G) (csQ ct A x)) : Met l yX9_again (.code yX9_again cX9_again 3 (some .int) :: wsL_law) rm_X9_again (va_Pc [.ref (A 0), .int v1, .int v2] (Bx D ct G (csQ ct A x))) (Qwr (some (.int r.1)) (fun H => va_P D vwCl (csQ ct A r.2) H) (wA (csQ ct A x))) 0 0 (wA (csQ ct A x)) := by
  refine Met.ofW (cc := cX9_again) (maxL := 3) (ret := (some .int)) (by decide) rfl ?_
  intro p e s m args below meth c s₁ B hml hv
  obtain ⟨rfl, hP, hK, hN, hX⟩ := hv
  have hts := atoms_spec (ws := .code yX9_again cX9_again 3 (some .int) :: wsL_law) B.pre
  rw [lg_entry_eq]
  exact b_X9_again A fu x v1 v2 B.exec B.bytes B.returns hml (findClass_of_methodNamed B.named) (fun w h => hts w (List.mem_cons_of_mem _ h)) B.notSynchronized hK hN hX hP hf hDx  (lv_entry [.ref (A 0), .int v1, .int v2] (n := 3) (Nat.le_of_ble_eq_true rfl))
def p_X9_from_L23 (fu : Nat)  : Nat → (Nat → Ob) → Int32 → Int32 → Int32 → Int32 → Option (Int32 × (Nat → Ob))
  | 0, _, _, _, _, _ => none
  | n + 1, xz, v1, v2, v3, v4 =>
    if ((xz 5).1 4 0) ≤ v4 then some (v3, xz) else (p_X5_drift fu (xz 12) (xz 5) (xz 10) v4 (0 : Int32)).bind fun r_50 => (p_X5_spotAt fu ((va_up xz 12 r_50) 12) v2).bind fun r_58 => if r_58 = v1 then (p_X9_bit fu v4).bind fun r_68 => p_X9_from_L23 fu  n (va_up xz 12 r_50) v1 v2 (v3 ||| r_68) (v4 + 1) else p_X9_from_L23 fu  n (va_up xz 12 r_50) v1 v2 v3 (v4 + 1)
def p_X9_from (fu : Nat) (x : Nat → Ob) (v1 : Int32) (v2 : Int32) : Option (Int32 × (Nat → Ob)) :=
  (p_X9_isReach fu x v1).bind fun r_2 => if r_2 = 0 then some (((-2) : Int32), x) else (p_X9_isStep fu v2).bind fun r_9 => if r_9 = 0 then some (((-2) : Int32), x) else p_X9_from_L23 fu fu x v1 v2 0 0
abbrev rm_X9_from : Room := { frames := 4, cells := 0, slots := 0, locals := 97 }
set_option maxHeartbeats 4000000 in
set_option maxRecDepth 100000 in
theorem b_X9_from {p : Program} {l : Launch} {e : Env} {s : State} {m : MethodId} {args : Array Value} {below : List Frame} {meth : Method} {c : Code} {ls : Array Slot} {D : va_G} {ct : Nat → ClassId} {G : GT} (A : Nat → Nat) (fu : Nat) (x : Nat → Ob) (v1 : Int32) (v2 : Int32) {r : Int32 × (Nat → Ob)} (hx : p.tables.exec = Jvm.exec) (hb : c.code = cX9_from) (hr : meth.sig.returnType = (some .int)) (hml : c.maxLocals = 5) (hown : s.vm.findClass RX9 = some m.cls) (htl : ∀ w ∈ wsL_law, w.before args s = true) (hlocks : meth.locks = false) (hK : va_K D vwCl (tyl ct) s) (hN : ∀ w ∈ NW, va_Nw w s) (hX : SX G s s.heap) (hP0 : va_P D vwCl (csQ ct A x) s.heap) (hf : p_X9_from fu x v1 v2 = some r) (hDx : ∀ x : Nat → Ob, va_D (GE G) (csQ ct A x))  (hl : lv_has ls 5 [(0, .ref (A 0)), (1, .int v1), (2, .int v2)]) : W p l e rm_X9_from s m args below meth c s.heap [] 0 0 (MQ below (Qwr (some (.int r.1)) (fun H => va_P D vwCl (csQ ct A r.2) H) (wA (csQ ct A x))) args s 0 0 (wA (csQ ct A x))) (F0 m 0 ls []) := by
  generalize hQQ : MQ below (Qwr (some (.int r.1)) (fun H => va_P D vwCl (csQ ct A r.2) H) (wA (csQ ct A x))) args s 0 0 (wA (csQ ct A x)) = QQ
  have hDW : ∀ x1 : Nat → Ob, va_D (wA (csQ ct A x)) (csQ ct A x1) := fun x1 => D_any (D_self (hDx x1)) (wA_Q x1 x)
  have hGE : ∀ q, wA (csQ ct A x) q → GE G q := wA_GE (hDx x)
  have hP := hP0
  have hS : va_S (wA (csQ ct A x)) s.heap s.heap [] := va_S.rf
  have hL23 : ∀ (n : Nat) (xz : Nat → Ob) (v1 : Int32) (v2 : Int32) (v3 : Int32) (v4 : Int32), ∀ (H : Heap) (locs : List Loc) (ls : Array Slot), va_P D vwCl (csQ ct A xz) H → va_S (wA (csQ ct A x)) s.heap H locs → lv_has ls 5 [(0, .ref (A 0)), (1, .int v1), (2, .int v2), (3, .int v3), (4, .int v4)] → p_X9_from_L23 fu  n xz v1 v2 v3 v4 = some r → W p l e rm_X9_from s m args below meth c H locs 0 0 QQ (F0 m 23 ls []) := by
    intro  n
    induction n with
    | zero =>
      intro xz v1 v2 v3 v4 H locs ls hP hS hl hf 
      rw [p_X9_from_L23] at hf
      cases hf
    | succ n ih =>
      intro xz v1 v2 v3 v4 H locs ls hP hS hl hf 
      rw [p_X9_from_L23] at hf
      refine lv_iload hx hb dX9_from_23 (lv_at hl 4 rfl) ?_
      refine lv_aload_n hx hb dX9_from_25 rfl (lv_at hl 0 rfl) ?_
      refine va_get (D := D) (ci := 9) (v := .ref (A 21)) (C := RX9) (T := TX9) (N := 14) hx hb htl inlX9 hown hK hP 0 qh_0 rfl 2 (by decide) (htl _ wq_2_0) (fun _ h9 => h9) rfl dX9_from_26 ?_
      refine va_getN (D := D) (ci := 2) (v := .int ((xz 5).1 4 0)) (C := RX2) (T := TX2) (N := 20) hx hb htl inlX2 hown hK hP 21 qh_5 rfl 4 (by decide) (va_Nw.use rfl (hN _ nm_23)) (fun _ h9 => h9) rfl dX9_from_29 ?_
      refine lv_icmp_ge (tgt := 79) hx hb dX9_from_32 (by decide) (fun c_32 => ?_) (fun c_32 => ?_)
      · rw [if_pos c_32] at hf
        refine lv_iload_n hx hb dX9_from_79 rfl (lv_at hl 3 rfl) ?_
        rw [← hQQ]
        cases hf
        exact rw_i hx hb hr hlocks hP hS dX9_from_80
      rw [if_neg c_32] at hf
      refine lv_aload_n hx hb dX9_from_35 rfl (lv_at hl 0 rfl) ?_
      refine va_get (D := D) (ci := 9) (v := .ref (A 93)) (C := RX9) (T := TX9) (N := 14) hx hb htl inlX9 hown hK hP 0 qh_0 rfl 8 (by decide) (htl _ wq_2_12) (fun _ h9 => h9) rfl dX9_from_36 ?_
      refine lv_aload_n hx hb dX9_from_39 rfl (lv_at hl 0 rfl) ?_
      refine va_get (D := D) (ci := 9) (v := .ref (A 21)) (C := RX9) (T := TX9) (N := 14) hx hb htl inlX9 hown hK hP 0 qh_0 rfl 2 (by decide) (htl _ wq_2_0) (fun _ h9 => h9) rfl dX9_from_40 ?_
      refine lv_aload_n hx hb dX9_from_43 rfl (lv_at hl 0 rfl) ?_
      refine va_get (D := D) (ci := 9) (v := .ref (A 87)) (C := RX9) (T := TX9) (N := 14) hx hb htl inlX9 hown hK hP 0 qh_0 rfl 6 (by decide) (htl _ wq_2_7) (fun _ h9 => h9) rfl dX9_from_44 ?_
      refine lv_iload hx hb dX9_from_47 (lv_at hl 4 rfl) ?_
      refine lv_iconst (v := 0) hx hb dX9_from_49 (by decide) ?_
      obtain ⟨r_50, e_50, hf⟩ := ob_bind hf
      have hPX_50 : va_P D vwCl (cs5 ct (fun i => A (93 + i)) (xz 12) ++ (cs2 ct (fun i => A (21 + i)) (xz 5) ++ (cs8 ct (fun i => A (87 + i)) (xz 10)))) H := (va_P.app (qs_12 hP) (va_P.app (qs_5 hP) (qs_10 hP)))
      refine wr_call0 (va_runVN (As := [.ref (A 21), .ref (A 87), .int v4, .int 0]) (rest := []) ⟨hx, hb, hml, hown, htl⟩ (c_X5_drift l D ct G (fun i => A (93 + i)) (fun i => A (21 + i)) (fun i => A (87 + i)) fu (xz 12) (xz 5) (xz 10) v4 (0 : Int32) e_50 ((hDx xz).sub (ws' := cs5 ct (fun i => A (93 + i)) (xz 12) ++ (cs2 ct (fun i => A (21 + i)) (xz 5) ++ (cs8 ct (fun i => A (87 + i)) (xz 10)))) [93, 94, 21, 22, 23, 24, 25, 26, 27, 28, 29, 30, 31, 32, 33, 87, 88, 89] (by decide) rfl)) (cw_X9_X5_drift htl hN ⟨Nat.le_of_ble_eq_true rfl, Nat.le_of_ble_eq_true rfl⟩) ⟨Bx_blind, va_recv hK hPX_50 (ci := 5) (q0 := 0) rfl rfl, Bx_pre hPX_50 hK hN (hX.stay hS hGE)⟩ rfl rfl hl.1 rfl (lv_room (Nat.le_of_ble_eq_true rfl)) dX9_from_50 ⟨Nat.zero_le _, Nat.zero_le _⟩) hS qa_12 (fun H_50 locs_50 hB_50 _ hk_50 hS => ?_)
      have hP : va_P D vwCl (csQ ct A (va_up xz 12 r_50)) H_50 := qj_12 hP (hDW xz) hk_50 hB_50
      refine lv_aload_n hx hb dX9_from_53 rfl (lv_at hl 0 rfl) ?_
      refine va_get (D := D) (ci := 9) (v := .ref (A 93)) (C := RX9) (T := TX9) (N := 14) hx hb htl inlX9 hown hK hP 0 qh_0 rfl 8 (by decide) (htl _ wq_2_12) (fun _ h9 => h9) rfl dX9_from_54 ?_
      refine lv_iload_n hx hb dX9_from_57 rfl (lv_at hl 2 rfl) ?_
      obtain ⟨r_58, e_58, hf⟩ := ob_bind hf
      have hPX_58 : va_P D vwCl (cs5 ct (fun i => A (93 + i)) ((va_up xz 12 r_50) 12)) H_50 := (qs_12 hP)
      refine ro_call1 (va_runVN (As := [.int v2]) (rest := []) ⟨hx, hb, hml, hown, htl⟩ (c_X5_spotAt l D ct G (fun i => A (93 + i)) fu ((va_up xz 12 r_50) 12) v2 e_58) (cw_X9_X5_spotAt htl hN ⟨Nat.le_of_ble_eq_true rfl, Nat.le_of_ble_eq_true rfl⟩) ⟨Bx_blind, va_recv hK hPX_58 (ci := 5) (q0 := 0) rfl rfl, Bx_pre hPX_58 hK hN (hX.stay hS hGE)⟩ rfl rfl hl.1 rfl (lv_room (Nat.le_of_ble_eq_true rfl)) dX9_from_58 ⟨Nat.zero_le _, Nat.zero_le _⟩) ?_
      refine lv_iload_n hx hb dX9_from_61 rfl (lv_at hl 1 rfl) ?_
      refine lv_icmp_ne (tgt := 73) hx hb dX9_from_62 (by decide) (fun c_62 => ?_) (fun c_62 => ?_)
      · rw [if_neg c_62] at hf
        refine lv_iinc (v := (v4 + 1)) (lv' := [(4, .int (v4 + 1)), (0, .ref (A 0)), (1, .int v1), (2, .int v2), (3, .int v3)]) hx hb dX9_from_73 hl (k := 4) rfl rfl (by decide) rfl (fun ls hl => ?_)
        refine lv_goto (tgt := 23) hx hb dX9_from_76 (by decide) ?_
        exact ih (va_up xz 12 r_50) v1 v2 v3 (v4 + 1) _ _ _ hP hS (lv_sub hl [1, 2, 3, 4, 0] rfl) hf 
      rw [if_pos c_62] at hf
      refine lv_iload_n hx hb dX9_from_65 rfl (lv_at hl 3 rfl) ?_
      refine lv_iload hx hb dX9_from_66 (lv_at hl 4 rfl) ?_
      obtain ⟨r_68, e_68, hf⟩ := ob_bind hf
      have hPX_68 : va_P D vwCl ([]) H_50 := P_nil
      refine ro_call1 (va_runS (As := [.int v4]) (rest := [.int v3]) ⟨hx, hb, hml, hown, htl⟩ (c_X9_bit l D ct G fu v4 e_68) (cw_X9_X9_bit htl ⟨Nat.le_of_ble_eq_true rfl, Nat.le_of_ble_eq_true rfl⟩) ⟨Bx_blind, Bx_pre hPX_68 hK hN (hX.stay hS hGE)⟩ rfl rfl hl.1 rfl (lv_room (Nat.le_of_ble_eq_true rfl)) dX9_from_68 ⟨Nat.zero_le _, Nat.zero_le _⟩) ?_
      refine lv_ior hx hb dX9_from_71 ?_
      refine lv_istore_n (lv' := [(3, .int (v3 ||| r_68)), (0, .ref (A 0)), (1, .int v1), (2, .int v2), (4, .int v4)]) hx hb dX9_from_72 rfl hl (by decide) rfl (fun ls hl => ?_)
      refine lv_iinc (v := (v4 + 1)) (lv' := [(4, .int (v4 + 1)), (3, .int (v3 ||| r_68)), (0, .ref (A 0)), (1, .int v1), (2, .int v2)]) hx hb dX9_from_73 hl (k := 4) rfl rfl (by decide) rfl (fun ls hl => ?_)
      refine lv_goto (tgt := 23) hx hb dX9_from_76 (by decide) ?_
      exact ih (va_up xz 12 r_50) v1 v2 (v3 ||| r_68) (v4 + 1) _ _ _ hP hS (lv_sub hl [2, 3, 4, 1, 0] rfl) hf 
  rw [p_X9_from] at hf
  refine lv_aload_n hx hb dX9_from_0 rfl (lv_at hl 0 rfl) ?_
  refine lv_iload_n hx hb dX9_from_1 rfl (lv_at hl 1 rfl) ?_
  obtain ⟨r_2, e_2, hf⟩ := ob_bind hf
  have hPX_2 : va_P D vwCl (csQ ct A x) s.heap := hP
  refine ro_call1 (va_runV (As := [.int v1]) (rest := []) ⟨hx, hb, hml, hown, htl⟩ (c_X9_isReach l D ct G A fu x v1 e_2) (cw_X9_X9_isReach htl ⟨Nat.le_of_ble_eq_true rfl, Nat.le_of_ble_eq_true rfl⟩) ⟨Bx_blind, va_recv hK hPX_2 (ci := 9) (q0 := 0) rfl rfl, Bx_pre hPX_2 hK hN (hX.stay hS hGE)⟩ rfl rfl hl.1 rfl (lv_room (Nat.le_of_ble_eq_true rfl)) dX9_from_2 ⟨Nat.zero_le _, Nat.zero_le _⟩) ?_
  refine lv_if_eq (tgt := 15) hx hb dX9_from_5 (by decide) (fun c_5 => ?_) (fun c_5 => ?_)
  · rw [if_pos c_5] at hf
    refine lv_bipush (v := (-2)) hx hb dX9_from_15 (by decide) ?_
    rw [← hQQ]
    cases hf
    exact rw_i hx hb hr hlocks hP hS dX9_from_17
  rw [if_neg c_5] at hf
  refine lv_iload_n hx hb dX9_from_8 rfl (lv_at hl 2 rfl) ?_
  obtain ⟨r_9, e_9, hf⟩ := ob_bind hf
  have hPX_9 : va_P D vwCl ([]) s.heap := P_nil
  refine ro_call1 (va_runS (As := [.int v2]) (rest := []) ⟨hx, hb, hml, hown, htl⟩ (c_X9_isStep l D ct G fu v2 e_9) (cw_X9_X9_isStep htl ⟨Nat.le_of_ble_eq_true rfl, Nat.le_of_ble_eq_true rfl⟩) ⟨Bx_blind, Bx_pre hPX_9 hK hN (hX.stay hS hGE)⟩ rfl rfl hl.1 rfl (lv_room (Nat.le_of_ble_eq_true rfl)) dX9_from_9 ⟨Nat.zero_le _, Nat.zero_le _⟩) ?_
  refine lv_if_ne (tgt := 18) hx hb dX9_from_12 (by decide) (fun c_12 => ?_) (fun c_12 => ?_)
  rotate_left 1
  · rw [if_pos c_12] at hf
    refine lv_bipush (v := (-2)) hx hb dX9_from_15 (by decide) ?_
    rw [← hQQ]
    cases hf
    exact rw_i hx hb hr hlocks hP hS dX9_from_17
  rw [if_neg c_12] at hf
  refine lv_iconst (v := 0) hx hb dX9_from_18 (by decide) ?_
  refine lv_istore_n (lv' := [(3, .int 0), (0, .ref (A 0)), (1, .int v1), (2, .int v2)]) hx hb dX9_from_19 rfl hl (by decide) rfl (fun ls hl => ?_)
  refine lv_iconst (v := 0) hx hb dX9_from_20 (by decide) ?_
  refine lv_istore (lv' := [(4, .int 0), (3, .int 0), (0, .ref (A 0)), (1, .int v1), (2, .int v2)]) hx hb dX9_from_21 hl (by decide) rfl (fun ls hl => ?_)
  exact hL23 fu x v1 v2 0 0 _ _ _ hP hS (lv_sub hl [2, 3, 4, 1, 0] rfl) hf 
theorem c_X9_from (l : Launch) (D : va_G) (ct : Nat → ClassId) (G : GT) (A : Nat → Nat) (fu : Nat) (x : Nat → Ob) (v1 : Int32) (v2 : Int32) {r : Int32 × (Nat → Ob)} (hf : p_X9_from fu x v1 v2 = some r)  (hDx : ∀ x : Nat → Ob, va_D (GE G) (csQ ct A x)) : Met l yX9_from (.code yX9_from cX9_from 5 (some .int) :: wsL_law) rm_X9_from (va_Pc [.ref (A 0), .int v1, .int v2] (Bx D ct G (csQ ct A x))) (Qwr (some (.int r.1)) (fun H => va_P D vwCl (csQ ct A r.2) H) (wA (csQ ct A x))) 0 0 (wA (csQ ct A x)) := by
  refine Met.ofW (cc := cX9_from) (maxL := 5) (ret := (some .int)) (by decide) rfl ?_
  intro p e s m args below meth c s₁ B hml hv
  obtain ⟨rfl, hP, hK, hN, hX⟩ := hv
  have hts := atoms_spec (ws := .code yX9_from cX9_from 5 (some .int) :: wsL_law) B.pre
  rw [lg_entry_eq]
  exact b_X9_from A fu x v1 v2 B.exec B.bytes B.returns hml (findClass_of_methodNamed B.named) (fun w h => hts w (List.mem_cons_of_mem _ h)) B.notSynchronized hK hN hX hP hf hDx  (lv_entry [.ref (A 0), .int v1, .int v2] (n := 5) (Nat.le_of_ble_eq_true rfl))
def p_X9_ends_L15 (fu : Nat)  : Nat → (Nat → Ob) → Int32 → Int32 → Int32 → Option (Int32 × (Nat → Ob))
  | 0, _, _, _, _ => none
  | n + 1, xz, v1, v2, v3 =>
    if ((xz 5).1 4 0) ≤ v3 then some (v2, xz) else (p_X5_drift fu (xz 12) (xz 5) (xz 10) v3 v1).bind fun r_40 => if (((va_up xz 12 r_40) 12).1 4 0) = ((-1) : Int32) then p_X9_ends_L15 fu  n (va_up xz 12 r_40) v1 v2 (v3 + 1) else (p_X9_bit fu v3).bind fun r_56 => p_X9_ends_L15 fu  n (va_up xz 12 r_40) v1 (v2 ||| r_56) (v3 + 1)
def p_X9_ends (fu : Nat) (x : Nat → Ob) (v1 : Int32) : Option (Int32 × (Nat → Ob)) :=
  (p_X9_hasStep fu x v1).bind fun r_2 => if r_2 = 0 then some (((-2) : Int32), x) else p_X9_ends_L15 fu fu x v1 0 0
abbrev rm_X9_ends : Room := { frames := 4, cells := 0, slots := 0, locals := 97 }
set_option maxHeartbeats 4000000 in
set_option maxRecDepth 100000 in
theorem b_X9_ends {p : Program} {l : Launch} {e : Env} {s : State} {m : MethodId} {args : Array Value} {below : List Frame} {meth : Method} {c : Code} {ls : Array Slot} {D : va_G} {ct : Nat → ClassId} {G : GT} (A : Nat → Nat) (fu : Nat) (x : Nat → Ob) (v1 : Int32) {r : Int32 × (Nat → Ob)} (hx : p.tables.exec = Jvm.exec) (hb : c.code = cX9_ends) (hr : meth.sig.returnType = (some .int)) (hml : c.maxLocals = 4) (hown : s.vm.findClass RX9 = some m.cls) (htl : ∀ w ∈ wsL_law, w.before args s = true) (hlocks : meth.locks = false) (hK : va_K D vwCl (tyl ct) s) (hN : ∀ w ∈ NW, va_Nw w s) (hX : SX G s s.heap) (hP0 : va_P D vwCl (csQ ct A x) s.heap) (hf : p_X9_ends fu x v1 = some r) (hDx : ∀ x : Nat → Ob, va_D (GE G) (csQ ct A x))  (hl : lv_has ls 4 [(0, .ref (A 0)), (1, .int v1)]) : W p l e rm_X9_ends s m args below meth c s.heap [] 0 0 (MQ below (Qwr (some (.int r.1)) (fun H => va_P D vwCl (csQ ct A r.2) H) (wA (csQ ct A x))) args s 0 0 (wA (csQ ct A x))) (F0 m 0 ls []) := by
  generalize hQQ : MQ below (Qwr (some (.int r.1)) (fun H => va_P D vwCl (csQ ct A r.2) H) (wA (csQ ct A x))) args s 0 0 (wA (csQ ct A x)) = QQ
  have hDW : ∀ x1 : Nat → Ob, va_D (wA (csQ ct A x)) (csQ ct A x1) := fun x1 => D_any (D_self (hDx x1)) (wA_Q x1 x)
  have hGE : ∀ q, wA (csQ ct A x) q → GE G q := wA_GE (hDx x)
  have hP := hP0
  have hS : va_S (wA (csQ ct A x)) s.heap s.heap [] := va_S.rf
  have hL15 : ∀ (n : Nat) (xz : Nat → Ob) (v1 : Int32) (v2 : Int32) (v3 : Int32), ∀ (H : Heap) (locs : List Loc) (ls : Array Slot), va_P D vwCl (csQ ct A xz) H → va_S (wA (csQ ct A x)) s.heap H locs → lv_has ls 4 [(0, .ref (A 0)), (1, .int v1), (2, .int v2), (3, .int v3)] → p_X9_ends_L15 fu  n xz v1 v2 v3 = some r → W p l e rm_X9_ends s m args below meth c H locs 0 0 QQ (F0 m 15 ls []) := by
    intro  n
    induction n with
    | zero =>
      intro xz v1 v2 v3 H locs ls hP hS hl hf 
      rw [p_X9_ends_L15] at hf
      cases hf
    | succ n ih =>
      intro xz v1 v2 v3 H locs ls hP hS hl hf 
      rw [p_X9_ends_L15] at hf
      refine lv_iload_n hx hb dX9_ends_15 rfl (lv_at hl 3 rfl) ?_
      refine lv_aload_n hx hb dX9_ends_16 rfl (lv_at hl 0 rfl) ?_
      refine va_get (D := D) (ci := 9) (v := .ref (A 21)) (C := RX9) (T := TX9) (N := 14) hx hb htl inlX9 hown hK hP 0 qh_0 rfl 2 (by decide) (htl _ wq_2_0) (fun _ h9 => h9) rfl dX9_ends_17 ?_
      refine va_getN (D := D) (ci := 2) (v := .int ((xz 5).1 4 0)) (C := RX2) (T := TX2) (N := 20) hx hb htl inlX2 hown hK hP 21 qh_5 rfl 4 (by decide) (va_Nw.use rfl (hN _ nm_23)) (fun _ h9 => h9) rfl dX9_ends_20 ?_
      refine lv_icmp_ge (tgt := 67) hx hb dX9_ends_23 (by decide) (fun c_23 => ?_) (fun c_23 => ?_)
      · rw [if_pos c_23] at hf
        refine lv_iload_n hx hb dX9_ends_67 rfl (lv_at hl 2 rfl) ?_
        rw [← hQQ]
        cases hf
        exact rw_i hx hb hr hlocks hP hS dX9_ends_68
      rw [if_neg c_23] at hf
      refine lv_aload_n hx hb dX9_ends_26 rfl (lv_at hl 0 rfl) ?_
      refine va_get (D := D) (ci := 9) (v := .ref (A 93)) (C := RX9) (T := TX9) (N := 14) hx hb htl inlX9 hown hK hP 0 qh_0 rfl 8 (by decide) (htl _ wq_2_12) (fun _ h9 => h9) rfl dX9_ends_27 ?_
      refine lv_aload_n hx hb dX9_ends_30 rfl (lv_at hl 0 rfl) ?_
      refine va_get (D := D) (ci := 9) (v := .ref (A 21)) (C := RX9) (T := TX9) (N := 14) hx hb htl inlX9 hown hK hP 0 qh_0 rfl 2 (by decide) (htl _ wq_2_0) (fun _ h9 => h9) rfl dX9_ends_31 ?_
      refine lv_aload_n hx hb dX9_ends_34 rfl (lv_at hl 0 rfl) ?_
      refine va_get (D := D) (ci := 9) (v := .ref (A 87)) (C := RX9) (T := TX9) (N := 14) hx hb htl inlX9 hown hK hP 0 qh_0 rfl 6 (by decide) (htl _ wq_2_7) (fun _ h9 => h9) rfl dX9_ends_35 ?_
      refine lv_iload_n hx hb dX9_ends_38 rfl (lv_at hl 3 rfl) ?_
      refine lv_iload_n hx hb dX9_ends_39 rfl (lv_at hl 1 rfl) ?_
      obtain ⟨r_40, e_40, hf⟩ := ob_bind hf
      have hPX_40 : va_P D vwCl (cs5 ct (fun i => A (93 + i)) (xz 12) ++ (cs2 ct (fun i => A (21 + i)) (xz 5) ++ (cs8 ct (fun i => A (87 + i)) (xz 10)))) H := (va_P.app (qs_12 hP) (va_P.app (qs_5 hP) (qs_10 hP)))
      refine wr_call0 (va_runVN (As := [.ref (A 21), .ref (A 87), .int v3, .int v1]) (rest := []) ⟨hx, hb, hml, hown, htl⟩ (c_X5_drift l D ct G (fun i => A (93 + i)) (fun i => A (21 + i)) (fun i => A (87 + i)) fu (xz 12) (xz 5) (xz 10) v3 v1 e_40 ((hDx xz).sub (ws' := cs5 ct (fun i => A (93 + i)) (xz 12) ++ (cs2 ct (fun i => A (21 + i)) (xz 5) ++ (cs8 ct (fun i => A (87 + i)) (xz 10)))) [93, 94, 21, 22, 23, 24, 25, 26, 27, 28, 29, 30, 31, 32, 33, 87, 88, 89] (by decide) rfl)) (cw_X9_X5_drift htl hN ⟨Nat.le_of_ble_eq_true rfl, Nat.le_of_ble_eq_true rfl⟩) ⟨Bx_blind, va_recv hK hPX_40 (ci := 5) (q0 := 0) rfl rfl, Bx_pre hPX_40 hK hN (hX.stay hS hGE)⟩ rfl rfl hl.1 rfl (lv_room (Nat.le_of_ble_eq_true rfl)) dX9_ends_40 ⟨Nat.zero_le _, Nat.zero_le _⟩) hS qa_12 (fun H_40 locs_40 hB_40 _ hk_40 hS => ?_)
      have hP : va_P D vwCl (csQ ct A (va_up xz 12 r_40)) H_40 := qj_12 hP (hDW xz) hk_40 hB_40
      refine lv_aload_n hx hb dX9_ends_43 rfl (lv_at hl 0 rfl) ?_
      refine va_get (D := D) (ci := 9) (v := .ref (A 93)) (C := RX9) (T := TX9) (N := 14) hx hb htl inlX9 hown hK hP 0 qh_0 rfl 8 (by decide) (htl _ wq_2_12) (fun _ h9 => h9) rfl dX9_ends_44 ?_
      refine va_getN (D := D) (ci := 5) (v := .int (((va_up xz 12 r_40) 12).1 4 0)) (C := RX5) (T := TX5) (N := 9) hx hb htl inlX5 hown hK hP 93 qh_12 rfl 4 (by decide) (va_Nw.use rfl (hN _ nm_15)) (fun _ h9 => h9) rfl dX9_ends_47 ?_
      refine lv_iconst (v := (-1)) hx hb dX9_ends_50 (by decide) ?_
      refine lv_icmp_eq (tgt := 61) hx hb dX9_ends_51 (by decide) (fun c_51 => ?_) (fun c_51 => ?_)
      · rw [if_pos c_51] at hf
        refine lv_iinc (v := (v3 + 1)) (lv' := [(3, .int (v3 + 1)), (0, .ref (A 0)), (1, .int v1), (2, .int v2)]) hx hb dX9_ends_61 hl (k := 3) rfl rfl (by decide) rfl (fun ls hl => ?_)
        refine lv_goto (tgt := 15) hx hb dX9_ends_64 (by decide) ?_
        exact ih (va_up xz 12 r_40) v1 v2 (v3 + 1) _ _ _ hP hS (lv_sub hl [1, 2, 3, 0] rfl) hf 
      rw [if_neg c_51] at hf
      refine lv_iload_n hx hb dX9_ends_54 rfl (lv_at hl 2 rfl) ?_
      refine lv_iload_n hx hb dX9_ends_55 rfl (lv_at hl 3 rfl) ?_
      obtain ⟨r_56, e_56, hf⟩ := ob_bind hf
      have hPX_56 : va_P D vwCl ([]) H_40 := P_nil
      refine ro_call1 (va_runS (As := [.int v3]) (rest := [.int v2]) ⟨hx, hb, hml, hown, htl⟩ (c_X9_bit l D ct G fu v3 e_56) (cw_X9_X9_bit htl ⟨Nat.le_of_ble_eq_true rfl, Nat.le_of_ble_eq_true rfl⟩) ⟨Bx_blind, Bx_pre hPX_56 hK hN (hX.stay hS hGE)⟩ rfl rfl hl.1 rfl (lv_room (Nat.le_of_ble_eq_true rfl)) dX9_ends_56 ⟨Nat.zero_le _, Nat.zero_le _⟩) ?_
      refine lv_ior hx hb dX9_ends_59 ?_
      refine lv_istore_n (lv' := [(2, .int (v2 ||| r_56)), (0, .ref (A 0)), (1, .int v1), (3, .int v3)]) hx hb dX9_ends_60 rfl hl (by decide) rfl (fun ls hl => ?_)
      refine lv_iinc (v := (v3 + 1)) (lv' := [(3, .int (v3 + 1)), (2, .int (v2 ||| r_56)), (0, .ref (A 0)), (1, .int v1)]) hx hb dX9_ends_61 hl (k := 3) rfl rfl (by decide) rfl (fun ls hl => ?_)
      refine lv_goto (tgt := 15) hx hb dX9_ends_64 (by decide) ?_
      exact ih (va_up xz 12 r_40) v1 (v2 ||| r_56) (v3 + 1) _ _ _ hP hS (lv_sub hl [2, 3, 1, 0] rfl) hf 
  rw [p_X9_ends] at hf
  refine lv_aload_n hx hb dX9_ends_0 rfl (lv_at hl 0 rfl) ?_
  refine lv_iload_n hx hb dX9_ends_1 rfl (lv_at hl 1 rfl) ?_
  obtain ⟨r_2, e_2, hf⟩ := ob_bind hf
  have hPX_2 : va_P D vwCl (csQ ct A x) s.heap := hP
  refine ro_call1 (va_runV (As := [.int v1]) (rest := []) ⟨hx, hb, hml, hown, htl⟩ (c_X9_hasStep l D ct G A fu x v1 e_2) (cw_X9_X9_hasStep htl ⟨Nat.le_of_ble_eq_true rfl, Nat.le_of_ble_eq_true rfl⟩) ⟨Bx_blind, va_recv hK hPX_2 (ci := 9) (q0 := 0) rfl rfl, Bx_pre hPX_2 hK hN (hX.stay hS hGE)⟩ rfl rfl hl.1 rfl (lv_room (Nat.le_of_ble_eq_true rfl)) dX9_ends_2 ⟨Nat.zero_le _, Nat.zero_le _⟩) ?_
  refine lv_if_ne (tgt := 11) hx hb dX9_ends_5 (by decide) (fun c_5 => ?_) (fun c_5 => ?_)
  rotate_left 1
  · rw [if_pos c_5] at hf
    refine lv_bipush (v := (-2)) hx hb dX9_ends_8 (by decide) ?_
    rw [← hQQ]
    cases hf
    exact rw_i hx hb hr hlocks hP hS dX9_ends_10
  rw [if_neg c_5] at hf
  refine lv_iconst (v := 0) hx hb dX9_ends_11 (by decide) ?_
  refine lv_istore_n (lv' := [(2, .int 0), (0, .ref (A 0)), (1, .int v1)]) hx hb dX9_ends_12 rfl hl (by decide) rfl (fun ls hl => ?_)
  refine lv_iconst (v := 0) hx hb dX9_ends_13 (by decide) ?_
  refine lv_istore_n (lv' := [(3, .int 0), (2, .int 0), (0, .ref (A 0)), (1, .int v1)]) hx hb dX9_ends_14 rfl hl (by decide) rfl (fun ls hl => ?_)
  exact hL15 fu x v1 0 0 _ _ _ hP hS (lv_sub hl [2, 3, 1, 0] rfl) hf 
theorem c_X9_ends (l : Launch) (D : va_G) (ct : Nat → ClassId) (G : GT) (A : Nat → Nat) (fu : Nat) (x : Nat → Ob) (v1 : Int32) {r : Int32 × (Nat → Ob)} (hf : p_X9_ends fu x v1 = some r)  (hDx : ∀ x : Nat → Ob, va_D (GE G) (csQ ct A x)) : Met l yX9_ends (.code yX9_ends cX9_ends 4 (some .int) :: wsL_law) rm_X9_ends (va_Pc [.ref (A 0), .int v1] (Bx D ct G (csQ ct A x))) (Qwr (some (.int r.1)) (fun H => va_P D vwCl (csQ ct A r.2) H) (wA (csQ ct A x))) 0 0 (wA (csQ ct A x)) := by
  refine Met.ofW (cc := cX9_ends) (maxL := 4) (ret := (some .int)) (by decide) rfl ?_
  intro p e s m args below meth c s₁ B hml hv
  obtain ⟨rfl, hP, hK, hN, hX⟩ := hv
  have hts := atoms_spec (ws := .code yX9_ends cX9_ends 4 (some .int) :: wsL_law) B.pre
  rw [lg_entry_eq]
  exact b_X9_ends A fu x v1 B.exec B.bytes B.returns hml (findClass_of_methodNamed B.named) (fun w h => hts w (List.mem_cons_of_mem _ h)) B.notSynchronized hK hN hX hP hf hDx  (lv_entry [.ref (A 0), .int v1] (n := 4) (Nat.le_of_ble_eq_true rfl))
def p_X9_together_L17 (fu : Nat)  : Nat → (Nat → Ob) → Int32 → Int32 → Int32 → Option (Int32 × (Nat → Ob))
  | 0, _, _, _, _ => none
  | n + 1, xz, v2, v3, v4 =>
    if ((xz 5).1 4 0) ≤ v4 then some (v3, xz) else (p_X5_drift fu (xz 13) (xz 5) (xz 10) v4 v2).bind fun r_44 => (p_X5_spotAt fu ((va_up xz 13 r_44) 13) (60 : Int32)).bind fun r_53 => (p_X5_spotAt fu ((va_up xz 13 r_44) 12) (60 : Int32)).bind fun r_62 => if r_53 = r_62 then (p_X9_bit fu v4).bind fun r_71 => p_X9_together_L17 fu  n (va_up xz 13 r_44) v2 (v3 ||| r_71) (v4 + 1) else p_X9_together_L17 fu  n (va_up xz 13 r_44) v2 v3 (v4 + 1)
def p_X9_together (fu : Nat) (x : Nat → Ob) (v1 : Int32) (v2 : Int32) : Option (Int32 × (Nat → Ob)) :=
  (p_X9_putIn fu x v1 v2).bind fun r_3 => if r_3.1 = 0 then some (((-2) : Int32), r_3.2) else p_X9_together_L17 fu fu r_3.2 v2 0 0
abbrev rm_X9_together : Room := { frames := 5, cells := 0, slots := 0, locals := 119 }
set_option maxHeartbeats 4000000 in
set_option maxRecDepth 100000 in
theorem b_X9_together {p : Program} {l : Launch} {e : Env} {s : State} {m : MethodId} {args : Array Value} {below : List Frame} {meth : Method} {c : Code} {ls : Array Slot} {D : va_G} {ct : Nat → ClassId} {G : GT} (A : Nat → Nat) (fu : Nat) (x : Nat → Ob) (v1 : Int32) (v2 : Int32) {r : Int32 × (Nat → Ob)} (hx : p.tables.exec = Jvm.exec) (hb : c.code = cX9_together) (hr : meth.sig.returnType = (some .int)) (hml : c.maxLocals = 5) (hown : s.vm.findClass RX9 = some m.cls) (htl : ∀ w ∈ wsL_law, w.before args s = true) (hlocks : meth.locks = false) (hK : va_K D vwCl (tyl ct) s) (hN : ∀ w ∈ NW, va_Nw w s) (hX : SX G s s.heap) (hP0 : va_P D vwCl (csQ ct A x) s.heap) (hf : p_X9_together fu x v1 v2 = some r) (hDx : ∀ x : Nat → Ob, va_D (GE G) (csQ ct A x))  (hl : lv_has ls 5 [(0, .ref (A 0)), (1, .int v1), (2, .int v2)]) : W p l e rm_X9_together s m args below meth c s.heap [] 0 0 (MQ below (Qwr (some (.int r.1)) (fun H => va_P D vwCl (csQ ct A r.2) H) (wA (csQ ct A x))) args s 0 0 (wA (csQ ct A x))) (F0 m 0 ls []) := by
  generalize hQQ : MQ below (Qwr (some (.int r.1)) (fun H => va_P D vwCl (csQ ct A r.2) H) (wA (csQ ct A x))) args s 0 0 (wA (csQ ct A x)) = QQ
  have hDW : ∀ x1 : Nat → Ob, va_D (wA (csQ ct A x)) (csQ ct A x1) := fun x1 => D_any (D_self (hDx x1)) (wA_Q x1 x)
  have hGE : ∀ q, wA (csQ ct A x) q → GE G q := wA_GE (hDx x)
  have hP := hP0
  have hS : va_S (wA (csQ ct A x)) s.heap s.heap [] := va_S.rf
  have hL17 : ∀ (n : Nat) (xz : Nat → Ob) (v2 : Int32) (v3 : Int32) (v4 : Int32), ∀ (H : Heap) (locs : List Loc) (ls : Array Slot), va_P D vwCl (csQ ct A xz) H → va_S (wA (csQ ct A x)) s.heap H locs → lv_has ls 5 [(0, .ref (A 0)), (2, .int v2), (3, .int v3), (4, .int v4)] → p_X9_together_L17 fu  n xz v2 v3 v4 = some r → W p l e rm_X9_together s m args below meth c H locs 0 0 QQ (F0 m 17 ls []) := by
    intro  n
    induction n with
    | zero =>
      intro xz v2 v3 v4 H locs ls hP hS hl hf 
      rw [p_X9_together_L17] at hf
      cases hf
    | succ n ih =>
      intro xz v2 v3 v4 H locs ls hP hS hl hf 
      rw [p_X9_together_L17] at hf
      refine lv_iload hx hb dX9_together_17 (lv_at hl 3 rfl) ?_
      refine lv_aload_n hx hb dX9_together_19 rfl (lv_at hl 0 rfl) ?_
      refine va_get (D := D) (ci := 9) (v := .ref (A 21)) (C := RX9) (T := TX9) (N := 14) hx hb htl inlX9 hown hK hP 0 qh_0 rfl 2 (by decide) (htl _ wq_2_0) (fun _ h9 => h9) rfl dX9_together_20 ?_
      refine va_getN (D := D) (ci := 2) (v := .int ((xz 5).1 4 0)) (C := RX2) (T := TX2) (N := 20) hx hb htl inlX2 hown hK hP 21 qh_5 rfl 4 (by decide) (va_Nw.use rfl (hN _ nm_23)) (fun _ h9 => h9) rfl dX9_together_23 ?_
      refine lv_icmp_ge (tgt := 82) hx hb dX9_together_26 (by decide) (fun c_26 => ?_) (fun c_26 => ?_)
      · rw [if_pos c_26] at hf
        refine lv_iload_n hx hb dX9_together_82 rfl (lv_at hl 2 rfl) ?_
        rw [← hQQ]
        cases hf
        exact rw_i hx hb hr hlocks hP hS dX9_together_83
      rw [if_neg c_26] at hf
      refine lv_aload_n hx hb dX9_together_29 rfl (lv_at hl 0 rfl) ?_
      refine va_get (D := D) (ci := 9) (v := .ref (A 95)) (C := RX9) (T := TX9) (N := 14) hx hb htl inlX9 hown hK hP 0 qh_0 rfl 9 (by decide) (htl _ wq_2_13) (fun _ h9 => h9) rfl dX9_together_30 ?_
      refine lv_aload_n hx hb dX9_together_33 rfl (lv_at hl 0 rfl) ?_
      refine va_get (D := D) (ci := 9) (v := .ref (A 21)) (C := RX9) (T := TX9) (N := 14) hx hb htl inlX9 hown hK hP 0 qh_0 rfl 2 (by decide) (htl _ wq_2_0) (fun _ h9 => h9) rfl dX9_together_34 ?_
      refine lv_aload_n hx hb dX9_together_37 rfl (lv_at hl 0 rfl) ?_
      refine va_get (D := D) (ci := 9) (v := .ref (A 87)) (C := RX9) (T := TX9) (N := 14) hx hb htl inlX9 hown hK hP 0 qh_0 rfl 6 (by decide) (htl _ wq_2_7) (fun _ h9 => h9) rfl dX9_together_38 ?_
      refine lv_iload hx hb dX9_together_41 (lv_at hl 3 rfl) ?_
      refine lv_iload_n hx hb dX9_together_43 rfl (lv_at hl 1 rfl) ?_
      obtain ⟨r_44, e_44, hf⟩ := ob_bind hf
      have hPX_44 : va_P D vwCl (cs5 ct (fun i => A (95 + i)) (xz 13) ++ (cs2 ct (fun i => A (21 + i)) (xz 5) ++ (cs8 ct (fun i => A (87 + i)) (xz 10)))) H := (va_P.app (qs_13 hP) (va_P.app (qs_5 hP) (qs_10 hP)))
      refine wr_call0 (va_runVN (As := [.ref (A 21), .ref (A 87), .int v4, .int v2]) (rest := []) ⟨hx, hb, hml, hown, htl⟩ (c_X5_drift l D ct G (fun i => A (95 + i)) (fun i => A (21 + i)) (fun i => A (87 + i)) fu (xz 13) (xz 5) (xz 10) v4 v2 e_44 ((hDx xz).sub (ws' := cs5 ct (fun i => A (95 + i)) (xz 13) ++ (cs2 ct (fun i => A (21 + i)) (xz 5) ++ (cs8 ct (fun i => A (87 + i)) (xz 10)))) [95, 96, 21, 22, 23, 24, 25, 26, 27, 28, 29, 30, 31, 32, 33, 87, 88, 89] (by decide) rfl)) (cw_X9_X5_drift htl hN ⟨Nat.le_of_ble_eq_true rfl, Nat.le_of_ble_eq_true rfl⟩) ⟨Bx_blind, va_recv hK hPX_44 (ci := 5) (q0 := 0) rfl rfl, Bx_pre hPX_44 hK hN (hX.stay hS hGE)⟩ rfl rfl hl.1 rfl (lv_room (Nat.le_of_ble_eq_true rfl)) dX9_together_44 ⟨Nat.zero_le _, Nat.zero_le _⟩) hS qa_13 (fun H_44 locs_44 hB_44 _ hk_44 hS => ?_)
      have hP : va_P D vwCl (csQ ct A (va_up xz 13 r_44)) H_44 := qj_13 hP (hDW xz) hk_44 hB_44
      refine lv_aload_n hx hb dX9_together_47 rfl (lv_at hl 0 rfl) ?_
      refine va_get (D := D) (ci := 9) (v := .ref (A 95)) (C := RX9) (T := TX9) (N := 14) hx hb htl inlX9 hown hK hP 0 qh_0 rfl 9 (by decide) (htl _ wq_2_13) (fun _ h9 => h9) rfl dX9_together_48 ?_
      refine lv_bipush (v := 60) hx hb dX9_together_51 (by decide) ?_
      obtain ⟨r_53, e_53, hf⟩ := ob_bind hf
      have hPX_53 : va_P D vwCl (cs5 ct (fun i => A (95 + i)) ((va_up xz 13 r_44) 13)) H_44 := (qs_13 hP)
      refine ro_call1 (va_runVN (As := [.int 60]) (rest := []) ⟨hx, hb, hml, hown, htl⟩ (c_X5_spotAt l D ct G (fun i => A (95 + i)) fu ((va_up xz 13 r_44) 13) (60 : Int32) e_53) (cw_X9_X5_spotAt htl hN ⟨Nat.le_of_ble_eq_true rfl, Nat.le_of_ble_eq_true rfl⟩) ⟨Bx_blind, va_recv hK hPX_53 (ci := 5) (q0 := 0) rfl rfl, Bx_pre hPX_53 hK hN (hX.stay hS hGE)⟩ rfl rfl hl.1 rfl (lv_room (Nat.le_of_ble_eq_true rfl)) dX9_together_53 ⟨Nat.zero_le _, Nat.zero_le _⟩) ?_
      refine lv_aload_n hx hb dX9_together_56 rfl (lv_at hl 0 rfl) ?_
      refine va_get (D := D) (ci := 9) (v := .ref (A 93)) (C := RX9) (T := TX9) (N := 14) hx hb htl inlX9 hown hK hP 0 qh_0 rfl 8 (by decide) (htl _ wq_2_12) (fun _ h9 => h9) rfl dX9_together_57 ?_
      refine lv_bipush (v := 60) hx hb dX9_together_60 (by decide) ?_
      obtain ⟨r_62, e_62, hf⟩ := ob_bind hf
      have hPX_62 : va_P D vwCl (cs5 ct (fun i => A (93 + i)) ((va_up xz 13 r_44) 12)) H_44 := (qs_12 hP)
      refine ro_call1 (va_runVN (As := [.int 60]) (rest := [.int r_53]) ⟨hx, hb, hml, hown, htl⟩ (c_X5_spotAt l D ct G (fun i => A (93 + i)) fu ((va_up xz 13 r_44) 12) (60 : Int32) e_62) (cw_X9_X5_spotAt htl hN ⟨Nat.le_of_ble_eq_true rfl, Nat.le_of_ble_eq_true rfl⟩) ⟨Bx_blind, va_recv hK hPX_62 (ci := 5) (q0 := 0) rfl rfl, Bx_pre hPX_62 hK hN (hX.stay hS hGE)⟩ rfl rfl hl.1 rfl (lv_room (Nat.le_of_ble_eq_true rfl)) dX9_together_62 ⟨Nat.zero_le _, Nat.zero_le _⟩) ?_
      refine lv_icmp_ne (tgt := 76) hx hb dX9_together_65 (by decide) (fun c_65 => ?_) (fun c_65 => ?_)
      · rw [if_neg c_65] at hf
        refine lv_iinc (v := (v4 + 1)) (lv' := [(4, .int (v4 + 1)), (0, .ref (A 0)), (2, .int v2), (3, .int v3)]) hx hb dX9_together_76 hl (k := 3) rfl rfl (by decide) rfl (fun ls hl => ?_)
        refine lv_goto (tgt := 17) hx hb dX9_together_79 (by decide) ?_
        exact ih (va_up xz 13 r_44) v2 v3 (v4 + 1) _ _ _ hP hS (lv_sub hl [1, 2, 3, 0] rfl) hf 
      rw [if_pos c_65] at hf
      refine lv_iload_n hx hb dX9_together_68 rfl (lv_at hl 2 rfl) ?_
      refine lv_iload hx hb dX9_together_69 (lv_at hl 3 rfl) ?_
      obtain ⟨r_71, e_71, hf⟩ := ob_bind hf
      have hPX_71 : va_P D vwCl ([]) H_44 := P_nil
      refine ro_call1 (va_runS (As := [.int v4]) (rest := [.int v3]) ⟨hx, hb, hml, hown, htl⟩ (c_X9_bit l D ct G fu v4 e_71) (cw_X9_X9_bit htl ⟨Nat.le_of_ble_eq_true rfl, Nat.le_of_ble_eq_true rfl⟩) ⟨Bx_blind, Bx_pre hPX_71 hK hN (hX.stay hS hGE)⟩ rfl rfl hl.1 rfl (lv_room (Nat.le_of_ble_eq_true rfl)) dX9_together_71 ⟨Nat.zero_le _, Nat.zero_le _⟩) ?_
      refine lv_ior hx hb dX9_together_74 ?_
      refine lv_istore_n (lv' := [(3, .int (v3 ||| r_71)), (0, .ref (A 0)), (2, .int v2), (4, .int v4)]) hx hb dX9_together_75 rfl hl (by decide) rfl (fun ls hl => ?_)
      refine lv_iinc (v := (v4 + 1)) (lv' := [(4, .int (v4 + 1)), (3, .int (v3 ||| r_71)), (0, .ref (A 0)), (2, .int v2)]) hx hb dX9_together_76 hl (k := 3) rfl rfl (by decide) rfl (fun ls hl => ?_)
      refine lv_goto (tgt := 17) hx hb dX9_together_79 (by decide) ?_
      exact ih (va_up xz 13 r_44) v2 (v3 ||| r_71) (v4 + 1) _ _ _ hP hS (lv_sub hl [2, 3, 1, 0] rfl) hf 
  rw [p_X9_together] at hf
  refine lv_aload_n hx hb dX9_together_0 rfl (lv_at hl 0 rfl) ?_
  refine lv_iload_n hx hb dX9_together_1 rfl (lv_at hl 1 rfl) ?_
  refine lv_iload_n hx hb dX9_together_2 rfl (lv_at hl 2 rfl) ?_
  obtain ⟨r_3, e_3, hf⟩ := ob_bind hf
  have hPX_3 : va_P D vwCl (csQ ct A x) s.heap := hP
  refine wr_call1 (va_runV (As := [.int v1, .int v2]) (rest := []) ⟨hx, hb, hml, hown, htl⟩ (c_X9_putIn l D ct G A fu x v1 v2 e_3 hDx) (cw_X9_X9_putIn htl ⟨Nat.le_of_ble_eq_true rfl, Nat.le_of_ble_eq_true rfl⟩) ⟨Bx_blind, va_recv hK hPX_3 (ci := 9) (q0 := 0) rfl rfl, Bx_pre hPX_3 hK hN (hX.stay hS hGE)⟩ rfl rfl hl.1 rfl (lv_room (Nat.le_of_ble_eq_true rfl)) dX9_together_3 ⟨Nat.zero_le _, Nat.zero_le _⟩) hS (wA_Q _ _) (fun H_3 locs_3 hB_3 _ hk_3 hS => ?_)
  have hP : va_P D vwCl (csQ ct A r_3.2) H_3 := hB_3
  refine lv_if_ne (tgt := 12) hx hb dX9_together_6 (by decide) (fun c_6 => ?_) (fun c_6 => ?_)
  rotate_left 1
  · rw [if_pos c_6] at hf
    refine lv_bipush (v := (-2)) hx hb dX9_together_9 (by decide) ?_
    rw [← hQQ]
    cases hf
    exact rw_i hx hb hr hlocks hP hS dX9_together_11
  rw [if_neg c_6] at hf
  refine lv_iconst (v := 0) hx hb dX9_together_12 (by decide) ?_
  refine lv_istore_n (lv' := [(3, .int 0), (0, .ref (A 0)), (1, .int v1), (2, .int v2)]) hx hb dX9_together_13 rfl hl (by decide) rfl (fun ls hl => ?_)
  refine lv_iconst (v := 0) hx hb dX9_together_14 (by decide) ?_
  refine lv_istore (lv' := [(4, .int 0), (3, .int 0), (0, .ref (A 0)), (1, .int v1), (2, .int v2)]) hx hb dX9_together_15 hl (by decide) rfl (fun ls hl => ?_)
  exact hL17 fu r_3.2 v2 0 0 _ _ _ hP hS (lv_sub hl [2, 4, 1, 0] rfl) hf 
theorem c_X9_together (l : Launch) (D : va_G) (ct : Nat → ClassId) (G : GT) (A : Nat → Nat) (fu : Nat) (x : Nat → Ob) (v1 : Int32) (v2 : Int32) {r : Int32 × (Nat → Ob)} (hf : p_X9_together fu x v1 v2 = some r)  (hDx : ∀ x : Nat → Ob, va_D (GE G) (csQ ct A x)) : Met l yX9_together (.code yX9_together cX9_together 5 (some .int) :: wsL_law) rm_X9_together (va_Pc [.ref (A 0), .int v1, .int v2] (Bx D ct G (csQ ct A x))) (Qwr (some (.int r.1)) (fun H => va_P D vwCl (csQ ct A r.2) H) (wA (csQ ct A x))) 0 0 (wA (csQ ct A x)) := by
  refine Met.ofW (cc := cX9_together) (maxL := 5) (ret := (some .int)) (by decide) rfl ?_
  intro p e s m args below meth c s₁ B hml hv
  obtain ⟨rfl, hP, hK, hN, hX⟩ := hv
  have hts := atoms_spec (ws := .code yX9_together cX9_together 5 (some .int) :: wsL_law) B.pre
  rw [lg_entry_eq]
  exact b_X9_together A fu x v1 v2 B.exec B.bytes B.returns hml (findClass_of_methodNamed B.named) (fun w h => hts w (List.mem_cons_of_mem _ h)) B.notSynchronized hK hN hX hP hf hDx  (lv_entry [.ref (A 0), .int v1, .int v2] (n := 5) (Nat.le_of_ble_eq_true rfl))
def p_X9_putBothIn (fu : Nat) (x : Nat → Ob) (v1 : Int32) (v2 : Int32) : Option (Int32 × (Nat → Ob)) :=
  (p_X9_isReach fu x v2).bind fun r_2 => if r_2 = 0 then some ((0 : Int32), x) else (p_X9_putIn fu x v1 (0 : Int32)).bind fun r_11 => if r_11.1 = 0 then some ((0 : Int32), r_11.2) else (p_X5_drift fu (r_11.2 13) (r_11.2 5) (r_11.2 10) v2 (0 : Int32)).bind fun r_33 => some ((1 : Int32), (va_up r_11.2 13 r_33))
abbrev rm_X9_putBothIn : Room := { frames := 5, cells := 0, slots := 0, locals := 119 }
set_option maxHeartbeats 4000000 in
set_option maxRecDepth 100000 in
theorem b_X9_putBothIn {p : Program} {l : Launch} {e : Env} {s : State} {m : MethodId} {args : Array Value} {below : List Frame} {meth : Method} {c : Code} {ls : Array Slot} {D : va_G} {ct : Nat → ClassId} {G : GT} (A : Nat → Nat) (fu : Nat) (x : Nat → Ob) (v1 : Int32) (v2 : Int32) {r : Int32 × (Nat → Ob)} (hx : p.tables.exec = Jvm.exec) (hb : c.code = cX9_putBothIn) (hr : meth.sig.returnType = (some .boolean)) (hml : c.maxLocals = 3) (hown : s.vm.findClass RX9 = some m.cls) (htl : ∀ w ∈ wsL_law, w.before args s = true) (hlocks : meth.locks = false) (hK : va_K D vwCl (tyl ct) s) (hN : ∀ w ∈ NW, va_Nw w s) (hX : SX G s s.heap) (hP0 : va_P D vwCl (csQ ct A x) s.heap) (hf : p_X9_putBothIn fu x v1 v2 = some r) (hDx : ∀ x : Nat → Ob, va_D (GE G) (csQ ct A x))  (hl : lv_has ls 3 [(0, .ref (A 0)), (1, .int v1), (2, .int v2)]) : W p l e rm_X9_putBothIn s m args below meth c s.heap [] 0 0 (MQ below (Qwr (some (.int r.1)) (fun H => va_P D vwCl (csQ ct A r.2) H) (wA (csQ ct A x))) args s 0 0 (wA (csQ ct A x))) (F0 m 0 ls []) := by
  generalize hQQ : MQ below (Qwr (some (.int r.1)) (fun H => va_P D vwCl (csQ ct A r.2) H) (wA (csQ ct A x))) args s 0 0 (wA (csQ ct A x)) = QQ
  have hDW : ∀ x1 : Nat → Ob, va_D (wA (csQ ct A x)) (csQ ct A x1) := fun x1 => D_any (D_self (hDx x1)) (wA_Q x1 x)
  have hGE : ∀ q, wA (csQ ct A x) q → GE G q := wA_GE (hDx x)
  have hP := hP0
  have hS : va_S (wA (csQ ct A x)) s.heap s.heap [] := va_S.rf
  rw [p_X9_putBothIn] at hf
  refine lv_aload_n hx hb dX9_putBothIn_0 rfl (lv_at hl 0 rfl) ?_
  refine lv_iload_n hx hb dX9_putBothIn_1 rfl (lv_at hl 2 rfl) ?_
  obtain ⟨r_2, e_2, hf⟩ := ob_bind hf
  have hPX_2 : va_P D vwCl (csQ ct A x) s.heap := hP
  refine ro_call1 (va_runV (As := [.int v2]) (rest := []) ⟨hx, hb, hml, hown, htl⟩ (c_X9_isReach l D ct G A fu x v2 e_2) (cw_X9_X9_isReach htl ⟨Nat.le_of_ble_eq_true rfl, Nat.le_of_ble_eq_true rfl⟩) ⟨Bx_blind, va_recv hK hPX_2 (ci := 9) (q0 := 0) rfl rfl, Bx_pre hPX_2 hK hN (hX.stay hS hGE)⟩ rfl rfl hl.1 rfl (lv_room (Nat.le_of_ble_eq_true rfl)) dX9_putBothIn_2 ⟨Nat.zero_le _, Nat.zero_le _⟩) ?_
  refine lv_if_eq (tgt := 17) hx hb dX9_putBothIn_5 (by decide) (fun c_5 => ?_) (fun c_5 => ?_)
  · rw [if_pos c_5] at hf
    refine lv_iconst (v := 0) hx hb dX9_putBothIn_17 (by decide) ?_
    rw [← hQQ]
    cases hf
    exact rw_z hx hb hr hlocks (show narrow .boolean (.int 0) = .int 0 from rfl) hP hS dX9_putBothIn_18
  rw [if_neg c_5] at hf
  refine lv_aload_n hx hb dX9_putBothIn_8 rfl (lv_at hl 0 rfl) ?_
  refine lv_iload_n hx hb dX9_putBothIn_9 rfl (lv_at hl 1 rfl) ?_
  refine lv_iconst (v := 0) hx hb dX9_putBothIn_10 (by decide) ?_
  obtain ⟨r_11, e_11, hf⟩ := ob_bind hf
  have hPX_11 : va_P D vwCl (csQ ct A x) s.heap := hP
  refine wr_call1 (va_runV (As := [.int v1, .int 0]) (rest := []) ⟨hx, hb, hml, hown, htl⟩ (c_X9_putIn l D ct G A fu x v1 (0 : Int32) e_11 hDx) (cw_X9_X9_putIn htl ⟨Nat.le_of_ble_eq_true rfl, Nat.le_of_ble_eq_true rfl⟩) ⟨Bx_blind, va_recv hK hPX_11 (ci := 9) (q0 := 0) rfl rfl, Bx_pre hPX_11 hK hN (hX.stay hS hGE)⟩ rfl rfl hl.1 rfl (lv_room (Nat.le_of_ble_eq_true rfl)) dX9_putBothIn_11 ⟨Nat.zero_le _, Nat.zero_le _⟩) hS (wA_Q _ _) (fun H_11 locs_11 hB_11 _ hk_11 hS => ?_)
  have hP : va_P D vwCl (csQ ct A r_11.2) H_11 := hB_11
  refine lv_if_ne (tgt := 19) hx hb dX9_putBothIn_14 (by decide) (fun c_14 => ?_) (fun c_14 => ?_)
  rotate_left 1
  · rw [if_pos c_14] at hf
    refine lv_iconst (v := 0) hx hb dX9_putBothIn_17 (by decide) ?_
    rw [← hQQ]
    cases hf
    exact rw_z hx hb hr hlocks (show narrow .boolean (.int 0) = .int 0 from rfl) hP hS dX9_putBothIn_18
  rw [if_neg c_14] at hf
  refine lv_aload_n hx hb dX9_putBothIn_19 rfl (lv_at hl 0 rfl) ?_
  refine va_get (D := D) (ci := 9) (v := .ref (A 95)) (C := RX9) (T := TX9) (N := 14) hx hb htl inlX9 hown hK hP 0 qh_0 rfl 9 (by decide) (htl _ wq_2_13) (fun _ h9 => h9) rfl dX9_putBothIn_20 ?_
  refine lv_aload_n hx hb dX9_putBothIn_23 rfl (lv_at hl 0 rfl) ?_
  refine va_get (D := D) (ci := 9) (v := .ref (A 21)) (C := RX9) (T := TX9) (N := 14) hx hb htl inlX9 hown hK hP 0 qh_0 rfl 2 (by decide) (htl _ wq_2_0) (fun _ h9 => h9) rfl dX9_putBothIn_24 ?_
  refine lv_aload_n hx hb dX9_putBothIn_27 rfl (lv_at hl 0 rfl) ?_
  refine va_get (D := D) (ci := 9) (v := .ref (A 87)) (C := RX9) (T := TX9) (N := 14) hx hb htl inlX9 hown hK hP 0 qh_0 rfl 6 (by decide) (htl _ wq_2_7) (fun _ h9 => h9) rfl dX9_putBothIn_28 ?_
  refine lv_iload_n hx hb dX9_putBothIn_31 rfl (lv_at hl 2 rfl) ?_
  refine lv_iconst (v := 0) hx hb dX9_putBothIn_32 (by decide) ?_
  obtain ⟨r_33, e_33, hf⟩ := ob_bind hf
  have hPX_33 : va_P D vwCl (cs5 ct (fun i => A (95 + i)) (r_11.2 13) ++ (cs2 ct (fun i => A (21 + i)) (r_11.2 5) ++ (cs8 ct (fun i => A (87 + i)) (r_11.2 10)))) H_11 := (va_P.app (qs_13 hP) (va_P.app (qs_5 hP) (qs_10 hP)))
  refine wr_call0 (va_runVN (As := [.ref (A 21), .ref (A 87), .int v2, .int 0]) (rest := []) ⟨hx, hb, hml, hown, htl⟩ (c_X5_drift l D ct G (fun i => A (95 + i)) (fun i => A (21 + i)) (fun i => A (87 + i)) fu (r_11.2 13) (r_11.2 5) (r_11.2 10) v2 (0 : Int32) e_33 ((hDx r_11.2).sub (ws' := cs5 ct (fun i => A (95 + i)) (r_11.2 13) ++ (cs2 ct (fun i => A (21 + i)) (r_11.2 5) ++ (cs8 ct (fun i => A (87 + i)) (r_11.2 10)))) [95, 96, 21, 22, 23, 24, 25, 26, 27, 28, 29, 30, 31, 32, 33, 87, 88, 89] (by decide) rfl)) (cw_X9_X5_drift htl hN ⟨Nat.le_of_ble_eq_true rfl, Nat.le_of_ble_eq_true rfl⟩) ⟨Bx_blind, va_recv hK hPX_33 (ci := 5) (q0 := 0) rfl rfl, Bx_pre hPX_33 hK hN (hX.stay hS hGE)⟩ rfl rfl hl.1 rfl (lv_room (Nat.le_of_ble_eq_true rfl)) dX9_putBothIn_33 ⟨Nat.zero_le _, Nat.zero_le _⟩) hS qa_13 (fun H_33 locs_33 hB_33 _ hk_33 hS => ?_)
  have hP : va_P D vwCl (csQ ct A (va_up r_11.2 13 r_33)) H_33 := qj_13 hP (hDW r_11.2) hk_33 hB_33
  refine lv_iconst (v := 1) hx hb dX9_putBothIn_36 (by decide) ?_
  rw [← hQQ]
  cases hf
  exact rw_z hx hb hr hlocks (show narrow .boolean (.int 1) = .int 1 from rfl) hP hS dX9_putBothIn_37
theorem c_X9_putBothIn (l : Launch) (D : va_G) (ct : Nat → ClassId) (G : GT) (A : Nat → Nat) (fu : Nat) (x : Nat → Ob) (v1 : Int32) (v2 : Int32) {r : Int32 × (Nat → Ob)} (hf : p_X9_putBothIn fu x v1 v2 = some r)  (hDx : ∀ x : Nat → Ob, va_D (GE G) (csQ ct A x)) : Met l yX9_putBothIn (.code yX9_putBothIn cX9_putBothIn 3 (some .boolean) :: wsL_law) rm_X9_putBothIn (va_Pc [.ref (A 0), .int v1, .int v2] (Bx D ct G (csQ ct A x))) (Qwr (some (.int r.1)) (fun H => va_P D vwCl (csQ ct A r.2) H) (wA (csQ ct A x))) 0 0 (wA (csQ ct A x)) := by
  refine Met.ofW (cc := cX9_putBothIn) (maxL := 3) (ret := (some .boolean)) (by decide) rfl ?_
  intro p e s m args below meth c s₁ B hml hv
  obtain ⟨rfl, hP, hK, hN, hX⟩ := hv
  have hts := atoms_spec (ws := .code yX9_putBothIn cX9_putBothIn 3 (some .boolean) :: wsL_law) B.pre
  rw [lg_entry_eq]
  exact b_X9_putBothIn A fu x v1 v2 B.exec B.bytes B.returns hml (findClass_of_methodNamed B.named) (fun w h => hts w (List.mem_cons_of_mem _ h)) B.notSynchronized hK hN hX hP hf hDx  (lv_entry [.ref (A 0), .int v1, .int v2] (n := 3) (Nat.le_of_ble_eq_true rfl))
def p_X9_shareReach (fu : Nat) (x : Nat → Ob) (v1 : Int32) : Option (Int32) :=
  (p_X5_spotAt fu (x 12) v1).bind fun r_5 => if r_5 = ((-1) : Int32) then some (0 : Int32) else (p_X5_spotAt fu (x 12) v1).bind fun r_17 => (p_X5_spotAt fu (x 13) v1).bind fun r_25 => if r_17 = r_25 then some (1 : Int32) else some (0 : Int32)
abbrev rm_X9_shareReach : Room := { frames := 2, cells := 0, slots := 0, locals := 42 }
set_option maxHeartbeats 4000000 in
set_option maxRecDepth 100000 in
theorem b_X9_shareReach {p : Program} {l : Launch} {e : Env} {s : State} {m : MethodId} {args : Array Value} {below : List Frame} {meth : Method} {c : Code} {ls : Array Slot} {D : va_G} {ct : Nat → ClassId} {G : GT} (A : Nat → Nat) (fu : Nat) (x : Nat → Ob) (v1 : Int32) {r : Int32} (hx : p.tables.exec = Jvm.exec) (hb : c.code = cX9_shareReach) (hr : meth.sig.returnType = (some .boolean)) (hml : c.maxLocals = 2) (hown : s.vm.findClass RX9 = some m.cls) (htl : ∀ w ∈ wsL_law, w.before args s = true) (hlocks : meth.locks = false) (hK : va_K D vwCl (tyl ct) s) (hN : ∀ w ∈ NW, va_Nw w s) (hX : SX G s s.heap) (hP0 : va_P D vwCl (csQ ct A x) s.heap) (hf : p_X9_shareReach fu x v1 = some r)  (hl : lv_has ls 2 [(0, .ref (A 0)), (1, .int v1)]) : W p l e rm_X9_shareReach s m args below meth c s.heap [] 0 0 (MQ below (Qro (some (.int r))) args s 0 0 (fun _ => False)) (F0 m 0 ls []) := by
  generalize hQQ : MQ below (Qro (some (.int r))) args s 0 0 (fun _ => False) = QQ
  have hP := hP0
  rw [p_X9_shareReach] at hf
  refine lv_aload_n hx hb dX9_shareReach_0 rfl (lv_at hl 0 rfl) ?_
  refine va_get (D := D) (ci := 9) (v := .ref (A 93)) (C := RX9) (T := TX9) (N := 14) hx hb htl inlX9 hown hK hP 0 qh_0 rfl 8 (by decide) (htl _ wq_2_12) (fun _ h9 => h9) rfl dX9_shareReach_1 ?_
  refine lv_iload_n hx hb dX9_shareReach_4 rfl (lv_at hl 1 rfl) ?_
  obtain ⟨r_5, e_5, hf⟩ := ob_bind hf
  have hPX_5 : va_P D vwCl (cs5 ct (fun i => A (93 + i)) (x 12)) s.heap := (qs_12 hP)
  refine ro_call1 (va_runVN (As := [.int v1]) (rest := []) ⟨hx, hb, hml, hown, htl⟩ (c_X5_spotAt l D ct G (fun i => A (93 + i)) fu (x 12) v1 e_5) (cw_X9_X5_spotAt htl hN ⟨Nat.le_of_ble_eq_true rfl, Nat.le_of_ble_eq_true rfl⟩) ⟨Bx_blind, va_recv hK hPX_5 (ci := 5) (q0 := 0) rfl rfl, Bx_pre hPX_5 hK hN hX⟩ rfl rfl hl.1 rfl (lv_room (Nat.le_of_ble_eq_true rfl)) dX9_shareReach_5 ⟨Nat.zero_le _, Nat.zero_le _⟩) ?_
  refine lv_iconst (v := (-1)) hx hb dX9_shareReach_8 (by decide) ?_
  refine lv_icmp_eq (tgt := 35) hx hb dX9_shareReach_9 (by decide) (fun c_9 => ?_) (fun c_9 => ?_)
  · rw [if_pos c_9] at hf
    refine lv_iconst (v := 0) hx hb dX9_shareReach_35 (by decide) ?_
    rw [← hQQ]
    exact rf_z hx hb hr hlocks rfl hf dX9_shareReach_36
  rw [if_neg c_9] at hf
  refine lv_aload_n hx hb dX9_shareReach_12 rfl (lv_at hl 0 rfl) ?_
  refine va_get (D := D) (ci := 9) (v := .ref (A 93)) (C := RX9) (T := TX9) (N := 14) hx hb htl inlX9 hown hK hP 0 qh_0 rfl 8 (by decide) (htl _ wq_2_12) (fun _ h9 => h9) rfl dX9_shareReach_13 ?_
  refine lv_iload_n hx hb dX9_shareReach_16 rfl (lv_at hl 1 rfl) ?_
  obtain ⟨r_17, e_17, hf⟩ := ob_bind hf
  have hPX_17 : va_P D vwCl (cs5 ct (fun i => A (93 + i)) (x 12)) s.heap := (qs_12 hP)
  refine ro_call1 (va_runVN (As := [.int v1]) (rest := []) ⟨hx, hb, hml, hown, htl⟩ (c_X5_spotAt l D ct G (fun i => A (93 + i)) fu (x 12) v1 e_17) (cw_X9_X5_spotAt htl hN ⟨Nat.le_of_ble_eq_true rfl, Nat.le_of_ble_eq_true rfl⟩) ⟨Bx_blind, va_recv hK hPX_17 (ci := 5) (q0 := 0) rfl rfl, Bx_pre hPX_17 hK hN hX⟩ rfl rfl hl.1 rfl (lv_room (Nat.le_of_ble_eq_true rfl)) dX9_shareReach_17 ⟨Nat.zero_le _, Nat.zero_le _⟩) ?_
  refine lv_aload_n hx hb dX9_shareReach_20 rfl (lv_at hl 0 rfl) ?_
  refine va_get (D := D) (ci := 9) (v := .ref (A 95)) (C := RX9) (T := TX9) (N := 14) hx hb htl inlX9 hown hK hP 0 qh_0 rfl 9 (by decide) (htl _ wq_2_13) (fun _ h9 => h9) rfl dX9_shareReach_21 ?_
  refine lv_iload_n hx hb dX9_shareReach_24 rfl (lv_at hl 1 rfl) ?_
  obtain ⟨r_25, e_25, hf⟩ := ob_bind hf
  have hPX_25 : va_P D vwCl (cs5 ct (fun i => A (95 + i)) (x 13)) s.heap := (qs_13 hP)
  refine ro_call1 (va_runVN (As := [.int v1]) (rest := [.int r_17]) ⟨hx, hb, hml, hown, htl⟩ (c_X5_spotAt l D ct G (fun i => A (95 + i)) fu (x 13) v1 e_25) (cw_X9_X5_spotAt htl hN ⟨Nat.le_of_ble_eq_true rfl, Nat.le_of_ble_eq_true rfl⟩) ⟨Bx_blind, va_recv hK hPX_25 (ci := 5) (q0 := 0) rfl rfl, Bx_pre hPX_25 hK hN hX⟩ rfl rfl hl.1 rfl (lv_room (Nat.le_of_ble_eq_true rfl)) dX9_shareReach_25 ⟨Nat.zero_le _, Nat.zero_le _⟩) ?_
  refine lv_icmp_ne (tgt := 35) hx hb dX9_shareReach_28 (by decide) (fun c_28 => ?_) (fun c_28 => ?_)
  · rw [if_neg c_28] at hf
    refine lv_iconst (v := 0) hx hb dX9_shareReach_35 (by decide) ?_
    rw [← hQQ]
    exact rf_z hx hb hr hlocks rfl hf dX9_shareReach_36
  rw [if_pos c_28] at hf
  refine lv_iconst (v := 1) hx hb dX9_shareReach_31 (by decide) ?_
  refine lv_goto (tgt := 36) hx hb dX9_shareReach_32 (by decide) ?_
  rw [← hQQ]
  exact rf_z hx hb hr hlocks rfl hf dX9_shareReach_36
theorem c_X9_shareReach (l : Launch) (D : va_G) (ct : Nat → ClassId) (G : GT) (A : Nat → Nat) (fu : Nat) (x : Nat → Ob) (v1 : Int32) {r : Int32} (hf : p_X9_shareReach fu x v1 = some r)  : Met l yX9_shareReach (.code yX9_shareReach cX9_shareReach 2 (some .boolean) :: wsL_law) rm_X9_shareReach (va_Pc [.ref (A 0), .int v1] (Bx D ct G (csQ ct A x))) (Qro (some (.int r))) 0 0 (fun _ => False) := by
  refine Met.ofW (cc := cX9_shareReach) (maxL := 2) (ret := (some .boolean)) (by decide) rfl ?_
  intro p e s m args below meth c s₁ B hml hv
  obtain ⟨rfl, hP, hK, hN, hX⟩ := hv
  have hts := atoms_spec (ws := .code yX9_shareReach cX9_shareReach 2 (some .boolean) :: wsL_law) B.pre
  rw [lg_entry_eq]
  exact b_X9_shareReach A fu x v1 B.exec B.bytes B.returns hml (findClass_of_methodNamed B.named) (fun w h => hts w (List.mem_cons_of_mem _ h)) B.notSynchronized hK hN hX hP hf   (lv_entry [.ref (A 0), .int v1] (n := 2) (Nat.le_of_ble_eq_true rfl))
theorem hd_X9_putBothIn : yX9_putBothIn.cls ≠ "java/lang/invoke/MethodHandle" ∧ yX9_putBothIn.cls ≠ "java/lang/invoke/VarHandle" ∧ (parseMethodDescriptor yX9_putBothIn.desc).map (fun d => d.parameters.length) = some 2 := by decide +kernel
theorem cw_X9_X9_putBothIn {R : Room} {s : State} {args : Array Value} (ht : ∀ w ∈ wsL_law, w.before args s = true) (hR : rm_X9_putBothIn.frames + 1 ≤ R.frames ∧ 8 + (3 + 11) + rm_X9_putBothIn.locals ≤ R.locals) : CallW R s args RX9 RX9 240 yX9_putBothIn cX9_putBothIn 3 (some .boolean) ((.code yX9_putBothIn cX9_putBothIn 3 (some .boolean)) :: wsL_law) rm_X9_putBothIn 0 0 2 := cwV 2 ht (GV wq_30_21 wq_30_22 wq_30_23 wq_1_2 wq_31_0) rfl rfl rfl ⟨rfl, hd_X9_putBothIn⟩ hR
theorem hd_X9_shareReach : yX9_shareReach.cls ≠ "java/lang/invoke/MethodHandle" ∧ yX9_shareReach.cls ≠ "java/lang/invoke/VarHandle" ∧ (parseMethodDescriptor yX9_shareReach.desc).map (fun d => d.parameters.length) = some 1 := by decide +kernel
theorem cw_X9_X9_shareReach {R : Room} {s : State} {args : Array Value} (ht : ∀ w ∈ wsL_law, w.before args s = true) (hR : rm_X9_shareReach.frames + 1 ≤ R.frames ∧ 8 + (2 + 11) + rm_X9_shareReach.locals ≤ R.locals) : CallW R s args RX9 RX9 243 yX9_shareReach cX9_shareReach 2 (some .boolean) ((.code yX9_shareReach cX9_shareReach 2 (some .boolean)) :: wsL_law) rm_X9_shareReach 0 0 1 := cwV 1 ht (GV wq_31_1 wq_31_2 wq_31_3 wq_1_2 wq_31_4) rfl rfl rfl ⟨rfl, hd_X9_shareReach⟩ hR
def p_X9_meet_L14 (fu : Nat)  : Nat → (Nat → Ob) → Int32 → Option (Int32 × (Nat → Ob))
  | 0, _, _ => none
  | n + 1, xz, v3 =>
    if (60 : Int32) < v3 then some (((-1) : Int32), xz) else (p_X9_shareReach fu xz v3).bind fun r_22 => if r_22 = 0 then p_X9_meet_L14 fu  n xz (v3 + 1) else some (v3, xz)
def p_X9_meet (fu : Nat) (x : Nat → Ob) (v1 : Int32) (v2 : Int32) : Option (Int32 × (Nat → Ob)) :=
  (p_X9_putBothIn fu x v1 v2).bind fun r_3 => if r_3.1 = 0 then some (((-2) : Int32), r_3.2) else p_X9_meet_L14 fu fu r_3.2 0
abbrev rm_X9_meet : Room := { frames := 6, cells := 0, slots := 0, locals := 141 }
set_option maxHeartbeats 4000000 in
set_option maxRecDepth 100000 in
theorem b_X9_meet {p : Program} {l : Launch} {e : Env} {s : State} {m : MethodId} {args : Array Value} {below : List Frame} {meth : Method} {c : Code} {ls : Array Slot} {D : va_G} {ct : Nat → ClassId} {G : GT} (A : Nat → Nat) (fu : Nat) (x : Nat → Ob) (v1 : Int32) (v2 : Int32) {r : Int32 × (Nat → Ob)} (hx : p.tables.exec = Jvm.exec) (hb : c.code = cX9_meet) (hr : meth.sig.returnType = (some .int)) (hml : c.maxLocals = 4) (hown : s.vm.findClass RX9 = some m.cls) (htl : ∀ w ∈ wsL_law, w.before args s = true) (hlocks : meth.locks = false) (hK : va_K D vwCl (tyl ct) s) (hN : ∀ w ∈ NW, va_Nw w s) (hX : SX G s s.heap) (hP0 : va_P D vwCl (csQ ct A x) s.heap) (hf : p_X9_meet fu x v1 v2 = some r) (hDx : ∀ x : Nat → Ob, va_D (GE G) (csQ ct A x))  (hl : lv_has ls 4 [(0, .ref (A 0)), (1, .int v1), (2, .int v2)]) : W p l e rm_X9_meet s m args below meth c s.heap [] 0 0 (MQ below (Qwr (some (.int r.1)) (fun H => va_P D vwCl (csQ ct A r.2) H) (wA (csQ ct A x))) args s 0 0 (wA (csQ ct A x))) (F0 m 0 ls []) := by
  generalize hQQ : MQ below (Qwr (some (.int r.1)) (fun H => va_P D vwCl (csQ ct A r.2) H) (wA (csQ ct A x))) args s 0 0 (wA (csQ ct A x)) = QQ
  have hDW : ∀ x1 : Nat → Ob, va_D (wA (csQ ct A x)) (csQ ct A x1) := fun x1 => D_any (D_self (hDx x1)) (wA_Q x1 x)
  have hGE : ∀ q, wA (csQ ct A x) q → GE G q := wA_GE (hDx x)
  have hP := hP0
  have hS : va_S (wA (csQ ct A x)) s.heap s.heap [] := va_S.rf
  have hL14 : ∀ (n : Nat) (xz : Nat → Ob) (v3 : Int32), ∀ (H : Heap) (locs : List Loc) (ls : Array Slot), va_P D vwCl (csQ ct A xz) H → va_S (wA (csQ ct A x)) s.heap H locs → lv_has ls 4 [(0, .ref (A 0)), (3, .int v3)] → p_X9_meet_L14 fu  n xz v3 = some r → W p l e rm_X9_meet s m args below meth c H locs 0 0 QQ (F0 m 14 ls []) := by
    intro  n
    induction n with
    | zero =>
      intro xz v3 H locs ls hP hS hl hf 
      rw [p_X9_meet_L14] at hf
      cases hf
    | succ n ih =>
      intro xz v3 H locs ls hP hS hl hf 
      rw [p_X9_meet_L14] at hf
      refine lv_iload_n hx hb dX9_meet_14 rfl (lv_at hl 1 rfl) ?_
      refine lv_bipush (v := 60) hx hb dX9_meet_15 (by decide) ?_
      refine lv_icmp_gt (tgt := 36) hx hb dX9_meet_17 (by decide) (fun c_17 => ?_) (fun c_17 => ?_)
      · rw [if_pos c_17] at hf
        refine lv_iconst (v := (-1)) hx hb dX9_meet_36 (by decide) ?_
        rw [← hQQ]
        cases hf
        exact rw_i hx hb hr hlocks hP hS dX9_meet_37
      rw [if_neg c_17] at hf
      refine lv_aload_n hx hb dX9_meet_20 rfl (lv_at hl 0 rfl) ?_
      refine lv_iload_n hx hb dX9_meet_21 rfl (lv_at hl 1 rfl) ?_
      obtain ⟨r_22, e_22, hf⟩ := ob_bind hf
      have hPX_22 : va_P D vwCl (csQ ct A xz) H := hP
      refine ro_call1 (va_runV (As := [.int v3]) (rest := []) ⟨hx, hb, hml, hown, htl⟩ (c_X9_shareReach l D ct G A fu xz v3 e_22) (cw_X9_X9_shareReach htl ⟨Nat.le_of_ble_eq_true rfl, Nat.le_of_ble_eq_true rfl⟩) ⟨Bx_blind, va_recv hK hPX_22 (ci := 9) (q0 := 0) rfl rfl, Bx_pre hPX_22 hK hN (hX.stay hS hGE)⟩ rfl rfl hl.1 rfl (lv_room (Nat.le_of_ble_eq_true rfl)) dX9_meet_22 ⟨Nat.zero_le _, Nat.zero_le _⟩) ?_
      refine lv_if_eq (tgt := 30) hx hb dX9_meet_25 (by decide) (fun c_25 => ?_) (fun c_25 => ?_)
      · rw [if_pos c_25] at hf
        refine lv_iinc (v := (v3 + 1)) (lv' := [(3, .int (v3 + 1)), (0, .ref (A 0))]) hx hb dX9_meet_30 hl (k := 1) rfl rfl (by decide) rfl (fun ls hl => ?_)
        refine lv_goto (tgt := 14) hx hb dX9_meet_33 (by decide) ?_
        exact ih xz (v3 + 1) _ _ _ hP hS (lv_sub hl [1, 0] rfl) hf 
      rw [if_neg c_25] at hf
      refine lv_iload_n hx hb dX9_meet_28 rfl (lv_at hl 1 rfl) ?_
      rw [← hQQ]
      cases hf
      exact rw_i hx hb hr hlocks hP hS dX9_meet_29
  rw [p_X9_meet] at hf
  refine lv_aload_n hx hb dX9_meet_0 rfl (lv_at hl 0 rfl) ?_
  refine lv_iload_n hx hb dX9_meet_1 rfl (lv_at hl 1 rfl) ?_
  refine lv_iload_n hx hb dX9_meet_2 rfl (lv_at hl 2 rfl) ?_
  obtain ⟨r_3, e_3, hf⟩ := ob_bind hf
  have hPX_3 : va_P D vwCl (csQ ct A x) s.heap := hP
  refine wr_call1 (va_runV (As := [.int v1, .int v2]) (rest := []) ⟨hx, hb, hml, hown, htl⟩ (c_X9_putBothIn l D ct G A fu x v1 v2 e_3 hDx) (cw_X9_X9_putBothIn htl ⟨Nat.le_of_ble_eq_true rfl, Nat.le_of_ble_eq_true rfl⟩) ⟨Bx_blind, va_recv hK hPX_3 (ci := 9) (q0 := 0) rfl rfl, Bx_pre hPX_3 hK hN (hX.stay hS hGE)⟩ rfl rfl hl.1 rfl (lv_room (Nat.le_of_ble_eq_true rfl)) dX9_meet_3 ⟨Nat.zero_le _, Nat.zero_le _⟩) hS (wA_Q _ _) (fun H_3 locs_3 hB_3 _ hk_3 hS => ?_)
  have hP : va_P D vwCl (csQ ct A r_3.2) H_3 := hB_3
  refine lv_if_ne (tgt := 12) hx hb dX9_meet_6 (by decide) (fun c_6 => ?_) (fun c_6 => ?_)
  · rw [if_neg c_6] at hf
    refine lv_iconst (v := 0) hx hb dX9_meet_12 (by decide) ?_
    refine lv_istore_n (lv' := [(3, .int 0), (0, .ref (A 0)), (1, .int v1), (2, .int v2)]) hx hb dX9_meet_13 rfl hl (by decide) rfl (fun ls hl => ?_)
    exact hL14 fu r_3.2 0 _ _ _ hP hS (lv_sub hl [1, 0] rfl) hf 
  rw [if_pos c_6] at hf
  refine lv_bipush (v := (-2)) hx hb dX9_meet_9 (by decide) ?_
  rw [← hQQ]
  cases hf
  exact rw_i hx hb hr hlocks hP hS dX9_meet_11
theorem c_X9_meet (l : Launch) (D : va_G) (ct : Nat → ClassId) (G : GT) (A : Nat → Nat) (fu : Nat) (x : Nat → Ob) (v1 : Int32) (v2 : Int32) {r : Int32 × (Nat → Ob)} (hf : p_X9_meet fu x v1 v2 = some r)  (hDx : ∀ x : Nat → Ob, va_D (GE G) (csQ ct A x)) : Met l yX9_meet (.code yX9_meet cX9_meet 4 (some .int) :: wsL_law) rm_X9_meet (va_Pc [.ref (A 0), .int v1, .int v2] (Bx D ct G (csQ ct A x))) (Qwr (some (.int r.1)) (fun H => va_P D vwCl (csQ ct A r.2) H) (wA (csQ ct A x))) 0 0 (wA (csQ ct A x)) := by
  refine Met.ofW (cc := cX9_meet) (maxL := 4) (ret := (some .int)) (by decide) rfl ?_
  intro p e s m args below meth c s₁ B hml hv
  obtain ⟨rfl, hP, hK, hN, hX⟩ := hv
  have hts := atoms_spec (ws := .code yX9_meet cX9_meet 4 (some .int) :: wsL_law) B.pre
  rw [lg_entry_eq]
  exact b_X9_meet A fu x v1 v2 B.exec B.bytes B.returns hml (findClass_of_methodNamed B.named) (fun w h => hts w (List.mem_cons_of_mem _ h)) B.notSynchronized hK hN hX hP hf hDx  (lv_entry [.ref (A 0), .int v1, .int v2] (n := 4) (Nat.le_of_ble_eq_true rfl))
def p_X9_alike_L17 (fu : Nat)  : Nat → (Nat → Ob) → Int32 → Int32 → Option (Int32 × (Nat → Ob))
  | 0, _, _, _ => none
  | n + 1, xz, v3, v4 =>
    if (60 : Int32) < v4 then some (v3, xz) else (p_X9_shareReach fu xz v4).bind fun r_27 => if r_27 = 0 then p_X9_alike_L17 fu  n xz v3 (v4 + 1) else p_X9_alike_L17 fu  n xz (v3 + 1) (v4 + 1)
def p_X9_alike (fu : Nat) (x : Nat → Ob) (v1 : Int32) (v2 : Int32) : Option (Int32 × (Nat → Ob)) :=
  (p_X9_putBothIn fu x v1 v2).bind fun r_3 => if r_3.1 = 0 then some (((-2) : Int32), r_3.2) else p_X9_alike_L17 fu fu r_3.2 0 0
abbrev rm_X9_alike : Room := { frames := 6, cells := 0, slots := 0, locals := 141 }
set_option maxHeartbeats 4000000 in
set_option maxRecDepth 100000 in
theorem b_X9_alike {p : Program} {l : Launch} {e : Env} {s : State} {m : MethodId} {args : Array Value} {below : List Frame} {meth : Method} {c : Code} {ls : Array Slot} {D : va_G} {ct : Nat → ClassId} {G : GT} (A : Nat → Nat) (fu : Nat) (x : Nat → Ob) (v1 : Int32) (v2 : Int32) {r : Int32 × (Nat → Ob)} (hx : p.tables.exec = Jvm.exec) (hb : c.code = cX9_alike) (hr : meth.sig.returnType = (some .int)) (hml : c.maxLocals = 5) (hown : s.vm.findClass RX9 = some m.cls) (htl : ∀ w ∈ wsL_law, w.before args s = true) (hlocks : meth.locks = false) (hK : va_K D vwCl (tyl ct) s) (hN : ∀ w ∈ NW, va_Nw w s) (hX : SX G s s.heap) (hP0 : va_P D vwCl (csQ ct A x) s.heap) (hf : p_X9_alike fu x v1 v2 = some r) (hDx : ∀ x : Nat → Ob, va_D (GE G) (csQ ct A x))  (hl : lv_has ls 5 [(0, .ref (A 0)), (1, .int v1), (2, .int v2)]) : W p l e rm_X9_alike s m args below meth c s.heap [] 0 0 (MQ below (Qwr (some (.int r.1)) (fun H => va_P D vwCl (csQ ct A r.2) H) (wA (csQ ct A x))) args s 0 0 (wA (csQ ct A x))) (F0 m 0 ls []) := by
  generalize hQQ : MQ below (Qwr (some (.int r.1)) (fun H => va_P D vwCl (csQ ct A r.2) H) (wA (csQ ct A x))) args s 0 0 (wA (csQ ct A x)) = QQ
  have hDW : ∀ x1 : Nat → Ob, va_D (wA (csQ ct A x)) (csQ ct A x1) := fun x1 => D_any (D_self (hDx x1)) (wA_Q x1 x)
  have hGE : ∀ q, wA (csQ ct A x) q → GE G q := wA_GE (hDx x)
  have hP := hP0
  have hS : va_S (wA (csQ ct A x)) s.heap s.heap [] := va_S.rf
  have hL17 : ∀ (n : Nat) (xz : Nat → Ob) (v3 : Int32) (v4 : Int32), ∀ (H : Heap) (locs : List Loc) (ls : Array Slot), va_P D vwCl (csQ ct A xz) H → va_S (wA (csQ ct A x)) s.heap H locs → lv_has ls 5 [(0, .ref (A 0)), (3, .int v3), (4, .int v4)] → p_X9_alike_L17 fu  n xz v3 v4 = some r → W p l e rm_X9_alike s m args below meth c H locs 0 0 QQ (F0 m 17 ls []) := by
    intro  n
    induction n with
    | zero =>
      intro xz v3 v4 H locs ls hP hS hl hf 
      rw [p_X9_alike_L17] at hf
      cases hf
    | succ n ih =>
      intro xz v3 v4 H locs ls hP hS hl hf 
      rw [p_X9_alike_L17] at hf
      refine lv_iload hx hb dX9_alike_17 (lv_at hl 2 rfl) ?_
      refine lv_bipush (v := 60) hx hb dX9_alike_19 (by decide) ?_
      refine lv_icmp_gt (tgt := 42) hx hb dX9_alike_21 (by decide) (fun c_21 => ?_) (fun c_21 => ?_)
      · rw [if_pos c_21] at hf
        refine lv_iload_n hx hb dX9_alike_42 rfl (lv_at hl 1 rfl) ?_
        rw [← hQQ]
        cases hf
        exact rw_i hx hb hr hlocks hP hS dX9_alike_43
      rw [if_neg c_21] at hf
      refine lv_aload_n hx hb dX9_alike_24 rfl (lv_at hl 0 rfl) ?_
      refine lv_iload hx hb dX9_alike_25 (lv_at hl 2 rfl) ?_
      obtain ⟨r_27, e_27, hf⟩ := ob_bind hf
      have hPX_27 : va_P D vwCl (csQ ct A xz) H := hP
      refine ro_call1 (va_runV (As := [.int v4]) (rest := []) ⟨hx, hb, hml, hown, htl⟩ (c_X9_shareReach l D ct G A fu xz v4 e_27) (cw_X9_X9_shareReach htl ⟨Nat.le_of_ble_eq_true rfl, Nat.le_of_ble_eq_true rfl⟩) ⟨Bx_blind, va_recv hK hPX_27 (ci := 9) (q0 := 0) rfl rfl, Bx_pre hPX_27 hK hN (hX.stay hS hGE)⟩ rfl rfl hl.1 rfl (lv_room (Nat.le_of_ble_eq_true rfl)) dX9_alike_27 ⟨Nat.zero_le _, Nat.zero_le _⟩) ?_
      refine lv_if_eq (tgt := 36) hx hb dX9_alike_30 (by decide) (fun c_30 => ?_) (fun c_30 => ?_)
      · rw [if_pos c_30] at hf
        refine lv_iinc (v := (v4 + 1)) (lv' := [(4, .int (v4 + 1)), (0, .ref (A 0)), (3, .int v3)]) hx hb dX9_alike_36 hl (k := 2) rfl rfl (by decide) rfl (fun ls hl => ?_)
        refine lv_goto (tgt := 17) hx hb dX9_alike_39 (by decide) ?_
        exact ih xz v3 (v4 + 1) _ _ _ hP hS (lv_sub hl [1, 2, 0] rfl) hf 
      rw [if_neg c_30] at hf
      refine lv_iinc (v := (v3 + 1)) (lv' := [(3, .int (v3 + 1)), (0, .ref (A 0)), (4, .int v4)]) hx hb dX9_alike_33 hl (k := 1) rfl rfl (by decide) rfl (fun ls hl => ?_)
      refine lv_iinc (v := (v4 + 1)) (lv' := [(4, .int (v4 + 1)), (3, .int (v3 + 1)), (0, .ref (A 0))]) hx hb dX9_alike_36 hl (k := 2) rfl rfl (by decide) rfl (fun ls hl => ?_)
      refine lv_goto (tgt := 17) hx hb dX9_alike_39 (by decide) ?_
      exact ih xz (v3 + 1) (v4 + 1) _ _ _ hP hS (lv_sub hl [2, 1, 0] rfl) hf 
  rw [p_X9_alike] at hf
  refine lv_aload_n hx hb dX9_alike_0 rfl (lv_at hl 0 rfl) ?_
  refine lv_iload_n hx hb dX9_alike_1 rfl (lv_at hl 1 rfl) ?_
  refine lv_iload_n hx hb dX9_alike_2 rfl (lv_at hl 2 rfl) ?_
  obtain ⟨r_3, e_3, hf⟩ := ob_bind hf
  have hPX_3 : va_P D vwCl (csQ ct A x) s.heap := hP
  refine wr_call1 (va_runV (As := [.int v1, .int v2]) (rest := []) ⟨hx, hb, hml, hown, htl⟩ (c_X9_putBothIn l D ct G A fu x v1 v2 e_3 hDx) (cw_X9_X9_putBothIn htl ⟨Nat.le_of_ble_eq_true rfl, Nat.le_of_ble_eq_true rfl⟩) ⟨Bx_blind, va_recv hK hPX_3 (ci := 9) (q0 := 0) rfl rfl, Bx_pre hPX_3 hK hN (hX.stay hS hGE)⟩ rfl rfl hl.1 rfl (lv_room (Nat.le_of_ble_eq_true rfl)) dX9_alike_3 ⟨Nat.zero_le _, Nat.zero_le _⟩) hS (wA_Q _ _) (fun H_3 locs_3 hB_3 _ hk_3 hS => ?_)
  have hP : va_P D vwCl (csQ ct A r_3.2) H_3 := hB_3
  refine lv_if_ne (tgt := 12) hx hb dX9_alike_6 (by decide) (fun c_6 => ?_) (fun c_6 => ?_)
  rotate_left 1
  · rw [if_pos c_6] at hf
    refine lv_bipush (v := (-2)) hx hb dX9_alike_9 (by decide) ?_
    rw [← hQQ]
    cases hf
    exact rw_i hx hb hr hlocks hP hS dX9_alike_11
  rw [if_neg c_6] at hf
  refine lv_iconst (v := 0) hx hb dX9_alike_12 (by decide) ?_
  refine lv_istore_n (lv' := [(3, .int 0), (0, .ref (A 0)), (1, .int v1), (2, .int v2)]) hx hb dX9_alike_13 rfl hl (by decide) rfl (fun ls hl => ?_)
  refine lv_iconst (v := 0) hx hb dX9_alike_14 (by decide) ?_
  refine lv_istore (lv' := [(4, .int 0), (3, .int 0), (0, .ref (A 0)), (1, .int v1), (2, .int v2)]) hx hb dX9_alike_15 hl (by decide) rfl (fun ls hl => ?_)
  exact hL17 fu r_3.2 0 0 _ _ _ hP hS (lv_sub hl [2, 1, 0] rfl) hf 
theorem c_X9_alike (l : Launch) (D : va_G) (ct : Nat → ClassId) (G : GT) (A : Nat → Nat) (fu : Nat) (x : Nat → Ob) (v1 : Int32) (v2 : Int32) {r : Int32 × (Nat → Ob)} (hf : p_X9_alike fu x v1 v2 = some r)  (hDx : ∀ x : Nat → Ob, va_D (GE G) (csQ ct A x)) : Met l yX9_alike (.code yX9_alike cX9_alike 5 (some .int) :: wsL_law) rm_X9_alike (va_Pc [.ref (A 0), .int v1, .int v2] (Bx D ct G (csQ ct A x))) (Qwr (some (.int r.1)) (fun H => va_P D vwCl (csQ ct A r.2) H) (wA (csQ ct A x))) 0 0 (wA (csQ ct A x)) := by
  refine Met.ofW (cc := cX9_alike) (maxL := 5) (ret := (some .int)) (by decide) rfl ?_
  intro p e s m args below meth c s₁ B hml hv
  obtain ⟨rfl, hP, hK, hN, hX⟩ := hv
  have hts := atoms_spec (ws := .code yX9_alike cX9_alike 5 (some .int) :: wsL_law) B.pre
  rw [lg_entry_eq]
  exact b_X9_alike A fu x v1 v2 B.exec B.bytes B.returns hml (findClass_of_methodNamed B.named) (fun w h => hts w (List.mem_cons_of_mem _ h)) B.notSynchronized hK hN hX hP hf hDx  (lv_entry [.ref (A 0), .int v1, .int v2] (n := 5) (Nat.le_of_ble_eq_true rfl))
theorem cw_X9_X9_put {R : Room} {s : State} {args : Array Value} (ht : ∀ w ∈ wsL_law, w.before args s = true) (hR : rm_X9_put.frames + 1 ≤ R.frames ∧ 8 + (3 + 11) + rm_X9_put.locals ≤ R.locals) : CallB R s args RX9 246 yX9_put cX9_put 3 none ((.code yX9_put cX9_put 3 none) :: wsL_law) rm_X9_put 0 0 3 ∧ (Cond.static yX9_put).before args s = true := va_cwS 3 ht (GS wq_32_5 wq_8_10 wq_1_2 wq_8_11) rfl rfl rfl hd_X9_put hR
def p_X9_busy_L13 (fu : Nat) (c39 : (Nat → Ob) → Int32 → Option (Int32 × (Nat → Ob))) : Nat → (Nat → Ob) → Int32 → Int32 → Option (Int32 × (Nat → Ob))
  | 0, _, _, _ => none
  | n + 1, xz, v1, v2 =>
    if ((xz 5).1 4 0) ≤ v2 then c39 xz v1 else (p_X9_put fu 61 ((xz 0).1 13) v2 (0 : Int32)).bind fun r_30 => p_X9_busy_L13 fu c39 n (va_up xz 0 (oA (xz 0) 13 r_30)) v1 (v2 + 1)
def p_X9_busy_L41 (fu : Nat) (c102 : (Nat → Ob) → Option (Int32 × (Nat → Ob))) : Nat → (Nat → Ob) → Int32 → Int32 → Option (Int32 × (Nat → Ob))
  | 0, _, _, _ => none
  | n + 1, xz, v1, v2 =>
    if ((xz 5).1 4 0) ≤ v2 then c102 xz else (p_X5_drift fu (xz 12) (xz 5) (xz 10) v2 (0 : Int32)).bind fun r_66 => (p_X5_spotAt fu ((va_up xz 12 r_66) 12) v1).bind fun r_74 => (p_X9_pick fu 61 (((va_up xz 12 r_66) 0).1 13) r_74).bind fun r_88 => (p_X9_put fu 61 (((va_up xz 12 r_66) 0).1 13) r_74 (r_88 + 1)).bind fun r_93 => p_X9_busy_L41 fu c102 n (va_up (va_up xz 12 r_66) 0 (oA ((va_up xz 12 r_66) 0) 13 r_93)) v1 (v2 + 1)
def p_X9_busy_L109 (fu : Nat)  : Nat → (Nat → Ob) → Int32 → Int32 → Int32 → Option (Int32 × (Nat → Ob))
  | 0, _, _, _, _ => none
  | n + 1, xz, v2, v3, v4 =>
    if ((xz 5).1 4 0) ≤ v4 then some (v2, xz) else (p_X9_pick fu 61 ((xz 0).1 13) v4).bind fun r_127 => if r_127 ≤ v3 then p_X9_busy_L109 fu  n xz v2 v3 (v4 + 1) else (p_X9_pick fu 61 ((xz 0).1 13) v4).bind fun r_140 => p_X9_busy_L109 fu  n xz v4 r_140 (v4 + 1)
def p_X9_busy (fu : Nat) (x : Nat → Ob) (v1 : Int32) : Option (Int32 × (Nat → Ob)) :=
  (p_X9_hasStep fu x v1).bind fun r_2 => if r_2 = 0 then some (((-2) : Int32), x) else p_X9_busy_L13 fu (fun xz v1 => p_X9_busy_L41 fu (fun xz => p_X9_busy_L109 fu fu xz (-1) 0 0) fu xz v1 0) fu x v1 0
abbrev rm_X9_busy : Room := { frames := 4, cells := 0, slots := 0, locals := 97 }
set_option maxHeartbeats 4000000 in
set_option maxRecDepth 100000 in
theorem b_X9_busy {p : Program} {l : Launch} {e : Env} {s : State} {m : MethodId} {args : Array Value} {below : List Frame} {meth : Method} {c : Code} {ls : Array Slot} {D : va_G} {ct : Nat → ClassId} {G : GT} (A : Nat → Nat) (fu : Nat) (x : Nat → Ob) (v1 : Int32) {r : Int32 × (Nat → Ob)} (hx : p.tables.exec = Jvm.exec) (hb : c.code = cX9_busy) (hr : meth.sig.returnType = (some .int)) (hml : c.maxLocals = 5) (hown : s.vm.findClass RX9 = some m.cls) (htl : ∀ w ∈ wsL_law, w.before args s = true) (hlocks : meth.locks = false) (hK : va_K D vwCl (tyl ct) s) (hN : ∀ w ∈ NW, va_Nw w s) (hX : SX G s s.heap) (hP0 : va_P D vwCl (csQ ct A x) s.heap) (hf : p_X9_busy fu x v1 = some r) (hDx : ∀ x : Nat → Ob, va_D (GE G) (csQ ct A x))  (hl : lv_has ls 5 [(0, .ref (A 0)), (1, .int v1)]) : W p l e rm_X9_busy s m args below meth c s.heap [] 0 0 (MQ below (Qwr (some (.int r.1)) (fun H => va_P D vwCl (csQ ct A r.2) H) (wA (csQ ct A x))) args s 0 0 (wA (csQ ct A x))) (F0 m 0 ls []) := by
  generalize hQQ : MQ below (Qwr (some (.int r.1)) (fun H => va_P D vwCl (csQ ct A r.2) H) (wA (csQ ct A x))) args s 0 0 (wA (csQ ct A x)) = QQ
  have hDW : ∀ x1 : Nat → Ob, va_D (wA (csQ ct A x)) (csQ ct A x1) := fun x1 => D_any (D_self (hDx x1)) (wA_Q x1 x)
  have hGE : ∀ q, wA (csQ ct A x) q → GE G q := wA_GE (hDx x)
  have hP := hP0
  have hS : va_S (wA (csQ ct A x)) s.heap s.heap [] := va_S.rf
  have hL13 : ∀ (c39 : (Nat → Ob) → Int32 → Option (Int32 × (Nat → Ob))) (n : Nat) (xz : Nat → Ob) (v1 : Int32) (v2 : Int32), ∀ (H : Heap) (locs : List Loc) (ls : Array Slot), va_P D vwCl (csQ ct A xz) H → va_S (wA (csQ ct A x)) s.heap H locs → lv_has ls 5 [(0, .ref (A 0)), (1, .int v1), (2, .int v2)] → p_X9_busy_L13 fu c39 n xz v1 v2 = some r → (∀ (xz : Nat → Ob) (v1 : Int32), ∀ (H : Heap) (locs : List Loc) (ls : Array Slot), va_P D vwCl (csQ ct A xz) H → va_S (wA (csQ ct A x)) s.heap H locs → lv_has ls 5 [(0, .ref (A 0)), (1, .int v1)] → c39 xz v1 = some r → W p l e rm_X9_busy s m args below meth c H locs 0 0 QQ (F0 m 39 ls [])) → W p l e rm_X9_busy s m args below meth c H locs 0 0 QQ (F0 m 13 ls []) := by
    intro c39 n
    induction n with
    | zero =>
      intro xz v1 v2 H locs ls hP hS hl hf k39
      rw [p_X9_busy_L13] at hf
      cases hf
    | succ n ih =>
      intro xz v1 v2 H locs ls hP hS hl hf k39
      rw [p_X9_busy_L13] at hf
      refine lv_iload_n hx hb dX9_busy_13 rfl (lv_at hl 2 rfl) ?_
      refine lv_aload_n hx hb dX9_busy_14 rfl (lv_at hl 0 rfl) ?_
      refine va_get (D := D) (ci := 9) (v := .ref (A 21)) (C := RX9) (T := TX9) (N := 14) hx hb htl inlX9 hown hK hP 0 qh_0 rfl 2 (by decide) (htl _ wq_2_0) (fun _ h9 => h9) rfl dX9_busy_15 ?_
      refine va_getN (D := D) (ci := 2) (v := .int ((xz 5).1 4 0)) (C := RX2) (T := TX2) (N := 20) hx hb htl inlX2 hown hK hP 21 qh_5 rfl 4 (by decide) (va_Nw.use rfl (hN _ nm_23)) (fun _ h9 => h9) rfl dX9_busy_18 ?_
      refine lv_icmp_ge (tgt := 39) hx hb dX9_busy_21 (by decide) (fun c_21 => ?_) (fun c_21 => ?_)
      · rw [if_pos c_21] at hf
        exact k39 xz v1 _ _ _ hP hS (lv_sub hl [0, 1] rfl) hf
      rw [if_neg c_21] at hf
      refine lv_aload_n hx hb dX9_busy_24 rfl (lv_at hl 0 rfl) ?_
      refine va_get (D := D) (ci := 9) (v := .ref (A 111)) (C := RX9) (T := TX9) (N := 14) hx hb htl inlX9 hown hK hP 0 qh_0 rfl 13 (by decide) (htl _ wq_3_1) (fun _ h9 => h9) rfl dX9_busy_25 ?_
      refine lv_iload_n hx hb dX9_busy_28 rfl (lv_at hl 2 rfl) ?_
      refine lv_iconst (v := 0) hx hb dX9_busy_29 (by decide) ?_
      obtain ⟨r_30, e_30, hf⟩ := ob_bind hf
      have hPX_30 : va_P D vwCl ([((A 111), .inl (ct 0, 61, .inl ((xz 0).1 13)))]) H := (P_one hP 111 qat_111)
      refine wr_call0 (va_runS (As := [.ref (A 111), .int v2, .int 0]) (rest := []) ⟨hx, hb, hml, hown, htl⟩ (c_X9_put l D ct G (A 111) fu 61 ((xz 0).1 13) v2 (0 : Int32) e_30 (qdA_111 (hDx xz))) (cw_X9_X9_put htl ⟨Nat.le_of_ble_eq_true rfl, Nat.le_of_ble_eq_true rfl⟩) ⟨Bx_blind, Bx_pre hPX_30 hK hN (hX.stay hS hGE)⟩ rfl rfl hl.1 rfl (lv_room (Nat.le_of_ble_eq_true rfl)) dX9_busy_30 ⟨Nat.zero_le _, Nat.zero_le _⟩) hS qaA_111 (fun H_30 locs_30 hB_30 _ hk_30 hS => ?_)
      have hP : va_P D vwCl (csQ ct A (va_up xz 0 (oA (xz 0) 13 r_30))) H_30 := qjA_111 hP (hDW xz) hk_30 hB_30
      refine lv_iinc (v := (v2 + 1)) (lv' := [(2, .int (v2 + 1)), (0, .ref (A 0)), (1, .int v1)]) hx hb dX9_busy_33 hl (k := 2) rfl rfl (by decide) rfl (fun ls hl => ?_)
      refine lv_goto (tgt := 13) hx hb dX9_busy_36 (by decide) ?_
      exact ih (va_up xz 0 (oA (xz 0) 13 r_30)) v1 (v2 + 1) _ _ _ hP hS (lv_sub hl [1, 2, 0] rfl) hf k39
  have hL41 : ∀ (c102 : (Nat → Ob) → Option (Int32 × (Nat → Ob))) (n : Nat) (xz : Nat → Ob) (v1 : Int32) (v2 : Int32), ∀ (H : Heap) (locs : List Loc) (ls : Array Slot), va_P D vwCl (csQ ct A xz) H → va_S (wA (csQ ct A x)) s.heap H locs → lv_has ls 5 [(0, .ref (A 0)), (1, .int v1), (2, .int v2)] → p_X9_busy_L41 fu c102 n xz v1 v2 = some r → (∀ (xz : Nat → Ob), ∀ (H : Heap) (locs : List Loc) (ls : Array Slot), va_P D vwCl (csQ ct A xz) H → va_S (wA (csQ ct A x)) s.heap H locs → lv_has ls 5 [(0, .ref (A 0))] → c102 xz = some r → W p l e rm_X9_busy s m args below meth c H locs 0 0 QQ (F0 m 102 ls [])) → W p l e rm_X9_busy s m args below meth c H locs 0 0 QQ (F0 m 41 ls []) := by
    intro c102 n
    induction n with
    | zero =>
      intro xz v1 v2 H locs ls hP hS hl hf k102
      rw [p_X9_busy_L41] at hf
      cases hf
    | succ n ih =>
      intro xz v1 v2 H locs ls hP hS hl hf k102
      rw [p_X9_busy_L41] at hf
      refine lv_iload_n hx hb dX9_busy_41 rfl (lv_at hl 2 rfl) ?_
      refine lv_aload_n hx hb dX9_busy_42 rfl (lv_at hl 0 rfl) ?_
      refine va_get (D := D) (ci := 9) (v := .ref (A 21)) (C := RX9) (T := TX9) (N := 14) hx hb htl inlX9 hown hK hP 0 qh_0 rfl 2 (by decide) (htl _ wq_2_0) (fun _ h9 => h9) rfl dX9_busy_43 ?_
      refine va_getN (D := D) (ci := 2) (v := .int ((xz 5).1 4 0)) (C := RX2) (T := TX2) (N := 20) hx hb htl inlX2 hown hK hP 21 qh_5 rfl 4 (by decide) (va_Nw.use rfl (hN _ nm_23)) (fun _ h9 => h9) rfl dX9_busy_46 ?_
      refine lv_icmp_ge (tgt := 102) hx hb dX9_busy_49 (by decide) (fun c_49 => ?_) (fun c_49 => ?_)
      · rw [if_pos c_49] at hf
        exact k102 xz _ _ _ hP hS (lv_sub hl [0] rfl) hf
      rw [if_neg c_49] at hf
      refine lv_aload_n hx hb dX9_busy_52 rfl (lv_at hl 0 rfl) ?_
      refine va_get (D := D) (ci := 9) (v := .ref (A 93)) (C := RX9) (T := TX9) (N := 14) hx hb htl inlX9 hown hK hP 0 qh_0 rfl 8 (by decide) (htl _ wq_2_12) (fun _ h9 => h9) rfl dX9_busy_53 ?_
      refine lv_aload_n hx hb dX9_busy_56 rfl (lv_at hl 0 rfl) ?_
      refine va_get (D := D) (ci := 9) (v := .ref (A 21)) (C := RX9) (T := TX9) (N := 14) hx hb htl inlX9 hown hK hP 0 qh_0 rfl 2 (by decide) (htl _ wq_2_0) (fun _ h9 => h9) rfl dX9_busy_57 ?_
      refine lv_aload_n hx hb dX9_busy_60 rfl (lv_at hl 0 rfl) ?_
      refine va_get (D := D) (ci := 9) (v := .ref (A 87)) (C := RX9) (T := TX9) (N := 14) hx hb htl inlX9 hown hK hP 0 qh_0 rfl 6 (by decide) (htl _ wq_2_7) (fun _ h9 => h9) rfl dX9_busy_61 ?_
      refine lv_iload_n hx hb dX9_busy_64 rfl (lv_at hl 2 rfl) ?_
      refine lv_iconst (v := 0) hx hb dX9_busy_65 (by decide) ?_
      obtain ⟨r_66, e_66, hf⟩ := ob_bind hf
      have hPX_66 : va_P D vwCl (cs5 ct (fun i => A (93 + i)) (xz 12) ++ (cs2 ct (fun i => A (21 + i)) (xz 5) ++ (cs8 ct (fun i => A (87 + i)) (xz 10)))) H := (va_P.app (qs_12 hP) (va_P.app (qs_5 hP) (qs_10 hP)))
      refine wr_call0 (va_runVN (As := [.ref (A 21), .ref (A 87), .int v2, .int 0]) (rest := []) ⟨hx, hb, hml, hown, htl⟩ (c_X5_drift l D ct G (fun i => A (93 + i)) (fun i => A (21 + i)) (fun i => A (87 + i)) fu (xz 12) (xz 5) (xz 10) v2 (0 : Int32) e_66 ((hDx xz).sub (ws' := cs5 ct (fun i => A (93 + i)) (xz 12) ++ (cs2 ct (fun i => A (21 + i)) (xz 5) ++ (cs8 ct (fun i => A (87 + i)) (xz 10)))) [93, 94, 21, 22, 23, 24, 25, 26, 27, 28, 29, 30, 31, 32, 33, 87, 88, 89] (by decide) rfl)) (cw_X9_X5_drift htl hN ⟨Nat.le_of_ble_eq_true rfl, Nat.le_of_ble_eq_true rfl⟩) ⟨Bx_blind, va_recv hK hPX_66 (ci := 5) (q0 := 0) rfl rfl, Bx_pre hPX_66 hK hN (hX.stay hS hGE)⟩ rfl rfl hl.1 rfl (lv_room (Nat.le_of_ble_eq_true rfl)) dX9_busy_66 ⟨Nat.zero_le _, Nat.zero_le _⟩) hS qa_12 (fun H_66 locs_66 hB_66 _ hk_66 hS => ?_)
      have hP : va_P D vwCl (csQ ct A (va_up xz 12 r_66)) H_66 := qj_12 hP (hDW xz) hk_66 hB_66
      refine lv_aload_n hx hb dX9_busy_69 rfl (lv_at hl 0 rfl) ?_
      refine va_get (D := D) (ci := 9) (v := .ref (A 93)) (C := RX9) (T := TX9) (N := 14) hx hb htl inlX9 hown hK hP 0 qh_0 rfl 8 (by decide) (htl _ wq_2_12) (fun _ h9 => h9) rfl dX9_busy_70 ?_
      refine lv_iload_n hx hb dX9_busy_73 rfl (lv_at hl 1 rfl) ?_
      obtain ⟨r_74, e_74, hf⟩ := ob_bind hf
      have hPX_74 : va_P D vwCl (cs5 ct (fun i => A (93 + i)) ((va_up xz 12 r_66) 12)) H_66 := (qs_12 hP)
      refine ro_call1 (va_runVN (As := [.int v1]) (rest := []) ⟨hx, hb, hml, hown, htl⟩ (c_X5_spotAt l D ct G (fun i => A (93 + i)) fu ((va_up xz 12 r_66) 12) v1 e_74) (cw_X9_X5_spotAt htl hN ⟨Nat.le_of_ble_eq_true rfl, Nat.le_of_ble_eq_true rfl⟩) ⟨Bx_blind, va_recv hK hPX_74 (ci := 5) (q0 := 0) rfl rfl, Bx_pre hPX_74 hK hN (hX.stay hS hGE)⟩ rfl rfl hl.1 rfl (lv_room (Nat.le_of_ble_eq_true rfl)) dX9_busy_74 ⟨Nat.zero_le _, Nat.zero_le _⟩) ?_
      refine lv_istore_n (lv' := [(3, .int r_74), (0, .ref (A 0)), (1, .int v1), (2, .int v2)]) hx hb dX9_busy_77 rfl hl (by decide) rfl (fun ls hl => ?_)
      refine lv_aload_n hx hb dX9_busy_78 rfl (lv_at hl 1 rfl) ?_
      refine va_get (D := D) (ci := 9) (v := .ref (A 111)) (C := RX9) (T := TX9) (N := 14) hx hb htl inlX9 hown hK hP 0 qh_0 rfl 13 (by decide) (htl _ wq_3_1) (fun _ h9 => h9) rfl dX9_busy_79 ?_
      refine lv_iload_n hx hb dX9_busy_82 rfl (lv_at hl 0 rfl) ?_
      refine lv_aload_n hx hb dX9_busy_83 rfl (lv_at hl 1 rfl) ?_
      refine va_get (D := D) (ci := 9) (v := .ref (A 111)) (C := RX9) (T := TX9) (N := 14) hx hb htl inlX9 hown hK hP 0 qh_0 rfl 13 (by decide) (htl _ wq_3_1) (fun _ h9 => h9) rfl dX9_busy_84 ?_
      refine lv_iload_n hx hb dX9_busy_87 rfl (lv_at hl 0 rfl) ?_
      obtain ⟨r_88, e_88, hf⟩ := ob_bind hf
      have hPX_88 : va_P D vwCl ([((A 111), .inl (ct 0, 61, .inl (((va_up xz 12 r_66) 0).1 13)))]) H_66 := (P_one hP 111 qat_111)
      refine ro_call1 (va_runS (As := [.ref (A 111), .int r_74]) (rest := [.int r_74, .ref (A 111)]) ⟨hx, hb, hml, hown, htl⟩ (c_X9_pick l D ct G (A 111) fu 61 (((va_up xz 12 r_66) 0).1 13) r_74 e_88) (cw_X9_X9_pick htl ⟨Nat.le_of_ble_eq_true rfl, Nat.le_of_ble_eq_true rfl⟩) ⟨Bx_blind, Bx_pre hPX_88 hK hN (hX.stay hS hGE)⟩ rfl rfl hl.1 rfl (lv_room (Nat.le_of_ble_eq_true rfl)) dX9_busy_88 ⟨Nat.zero_le _, Nat.zero_le _⟩) ?_
      refine lv_iconst (v := 1) hx hb dX9_busy_91 (by decide) ?_
      refine lv_iadd hx hb dX9_busy_92 ?_
      obtain ⟨r_93, e_93, hf⟩ := ob_bind hf
      have hPX_93 : va_P D vwCl ([((A 111), .inl (ct 0, 61, .inl (((va_up xz 12 r_66) 0).1 13)))]) H_66 := (P_one hP 111 qat_111)
      refine wr_call0 (va_runS (As := [.ref (A 111), .int r_74, .int (r_88 + 1)]) (rest := []) ⟨hx, hb, hml, hown, htl⟩ (c_X9_put l D ct G (A 111) fu 61 (((va_up xz 12 r_66) 0).1 13) r_74 (r_88 + 1) e_93 (qdA_111 (hDx (va_up xz 12 r_66)))) (cw_X9_X9_put htl ⟨Nat.le_of_ble_eq_true rfl, Nat.le_of_ble_eq_true rfl⟩) ⟨Bx_blind, Bx_pre hPX_93 hK hN (hX.stay hS hGE)⟩ rfl rfl hl.1 rfl (lv_room (Nat.le_of_ble_eq_true rfl)) dX9_busy_93 ⟨Nat.zero_le _, Nat.zero_le _⟩) hS qaA_111 (fun H_93 locs_93 hB_93 _ hk_93 hS => ?_)
      have hP : va_P D vwCl (csQ ct A (va_up (va_up xz 12 r_66) 0 (oA ((va_up xz 12 r_66) 0) 13 r_93))) H_93 := qjA_111 hP (hDW (va_up xz 12 r_66)) hk_93 hB_93
      refine lv_iinc (v := (v2 + 1)) (lv' := [(2, .int (v2 + 1)), (3, .int r_74), (0, .ref (A 0)), (1, .int v1)]) hx hb dX9_busy_96 hl (k := 3) rfl rfl (by decide) rfl (fun ls hl => ?_)
      refine lv_goto (tgt := 41) hx hb dX9_busy_99 (by decide) ?_
      exact ih (va_up (va_up xz 12 r_66) 0 (oA ((va_up xz 12 r_66) 0) 13 r_93)) v1 (v2 + 1) _ _ _ hP hS (lv_sub hl [2, 3, 0] rfl) hf k102
  have hL109 : ∀ (n : Nat) (xz : Nat → Ob) (v2 : Int32) (v3 : Int32) (v4 : Int32), ∀ (H : Heap) (locs : List Loc) (ls : Array Slot), va_P D vwCl (csQ ct A xz) H → va_S (wA (csQ ct A x)) s.heap H locs → lv_has ls 5 [(0, .ref (A 0)), (2, .int v2), (3, .int v3), (4, .int v4)] → p_X9_busy_L109 fu  n xz v2 v3 v4 = some r → W p l e rm_X9_busy s m args below meth c H locs 0 0 QQ (F0 m 109 ls []) := by
    intro  n
    induction n with
    | zero =>
      intro xz v2 v3 v4 H locs ls hP hS hl hf 
      rw [p_X9_busy_L109] at hf
      cases hf
    | succ n ih =>
      intro xz v2 v3 v4 H locs ls hP hS hl hf 
      rw [p_X9_busy_L109] at hf
      refine lv_iload hx hb dX9_busy_109 (lv_at hl 3 rfl) ?_
      refine lv_aload_n hx hb dX9_busy_111 rfl (lv_at hl 0 rfl) ?_
      refine va_get (D := D) (ci := 9) (v := .ref (A 21)) (C := RX9) (T := TX9) (N := 14) hx hb htl inlX9 hown hK hP 0 qh_0 rfl 2 (by decide) (htl _ wq_2_0) (fun _ h9 => h9) rfl dX9_busy_112 ?_
      refine va_getN (D := D) (ci := 2) (v := .int ((xz 5).1 4 0)) (C := RX2) (T := TX2) (N := 20) hx hb htl inlX2 hown hK hP 21 qh_5 rfl 4 (by decide) (va_Nw.use rfl (hN _ nm_23)) (fun _ h9 => h9) rfl dX9_busy_115 ?_
      refine lv_icmp_ge (tgt := 153) hx hb dX9_busy_118 (by decide) (fun c_118 => ?_) (fun c_118 => ?_)
      · rw [if_pos c_118] at hf
        refine lv_iload_n hx hb dX9_busy_153 rfl (lv_at hl 1 rfl) ?_
        rw [← hQQ]
        cases hf
        exact rw_i hx hb hr hlocks hP hS dX9_busy_154
      rw [if_neg c_118] at hf
      refine lv_aload_n hx hb dX9_busy_121 rfl (lv_at hl 0 rfl) ?_
      refine va_get (D := D) (ci := 9) (v := .ref (A 111)) (C := RX9) (T := TX9) (N := 14) hx hb htl inlX9 hown hK hP 0 qh_0 rfl 13 (by decide) (htl _ wq_3_1) (fun _ h9 => h9) rfl dX9_busy_122 ?_
      refine lv_iload hx hb dX9_busy_125 (lv_at hl 3 rfl) ?_
      obtain ⟨r_127, e_127, hf⟩ := ob_bind hf
      have hPX_127 : va_P D vwCl ([((A 111), .inl (ct 0, 61, .inl ((xz 0).1 13)))]) H := (P_one hP 111 qat_111)
      refine ro_call1 (va_runS (As := [.ref (A 111), .int v4]) (rest := []) ⟨hx, hb, hml, hown, htl⟩ (c_X9_pick l D ct G (A 111) fu 61 ((xz 0).1 13) v4 e_127) (cw_X9_X9_pick htl ⟨Nat.le_of_ble_eq_true rfl, Nat.le_of_ble_eq_true rfl⟩) ⟨Bx_blind, Bx_pre hPX_127 hK hN (hX.stay hS hGE)⟩ rfl rfl hl.1 rfl (lv_room (Nat.le_of_ble_eq_true rfl)) dX9_busy_127 ⟨Nat.zero_le _, Nat.zero_le _⟩) ?_
      refine lv_iload_n hx hb dX9_busy_130 rfl (lv_at hl 2 rfl) ?_
      refine lv_icmp_le (tgt := 147) hx hb dX9_busy_131 (by decide) (fun c_131 => ?_) (fun c_131 => ?_)
      · rw [if_pos c_131] at hf
        refine lv_iinc (v := (v4 + 1)) (lv' := [(4, .int (v4 + 1)), (0, .ref (A 0)), (2, .int v2), (3, .int v3)]) hx hb dX9_busy_147 hl (k := 3) rfl rfl (by decide) rfl (fun ls hl => ?_)
        refine lv_goto (tgt := 109) hx hb dX9_busy_150 (by decide) ?_
        exact ih xz v2 v3 (v4 + 1) _ _ _ hP hS (lv_sub hl [1, 2, 3, 0] rfl) hf 
      rw [if_neg c_131] at hf
      refine lv_aload_n hx hb dX9_busy_134 rfl (lv_at hl 0 rfl) ?_
      refine va_get (D := D) (ci := 9) (v := .ref (A 111)) (C := RX9) (T := TX9) (N := 14) hx hb htl inlX9 hown hK hP 0 qh_0 rfl 13 (by decide) (htl _ wq_3_1) (fun _ h9 => h9) rfl dX9_busy_135 ?_
      refine lv_iload hx hb dX9_busy_138 (lv_at hl 3 rfl) ?_
      obtain ⟨r_140, e_140, hf⟩ := ob_bind hf
      have hPX_140 : va_P D vwCl ([((A 111), .inl (ct 0, 61, .inl ((xz 0).1 13)))]) H := (P_one hP 111 qat_111)
      refine ro_call1 (va_runS (As := [.ref (A 111), .int v4]) (rest := []) ⟨hx, hb, hml, hown, htl⟩ (c_X9_pick l D ct G (A 111) fu 61 ((xz 0).1 13) v4 e_140) (cw_X9_X9_pick htl ⟨Nat.le_of_ble_eq_true rfl, Nat.le_of_ble_eq_true rfl⟩) ⟨Bx_blind, Bx_pre hPX_140 hK hN (hX.stay hS hGE)⟩ rfl rfl hl.1 rfl (lv_room (Nat.le_of_ble_eq_true rfl)) dX9_busy_140 ⟨Nat.zero_le _, Nat.zero_le _⟩) ?_
      refine lv_istore_n (lv' := [(3, .int r_140), (0, .ref (A 0)), (2, .int v2), (4, .int v4)]) hx hb dX9_busy_143 rfl hl (by decide) rfl (fun ls hl => ?_)
      refine lv_iload hx hb dX9_busy_144 (lv_at hl 3 rfl) ?_
      refine lv_istore_n (lv' := [(2, .int v4), (3, .int r_140), (0, .ref (A 0)), (4, .int v4)]) hx hb dX9_busy_146 rfl hl (by decide) rfl (fun ls hl => ?_)
      refine lv_iinc (v := (v4 + 1)) (lv' := [(4, .int (v4 + 1)), (2, .int v4), (3, .int r_140), (0, .ref (A 0))]) hx hb dX9_busy_147 hl (k := 3) rfl rfl (by decide) rfl (fun ls hl => ?_)
      refine lv_goto (tgt := 109) hx hb dX9_busy_150 (by decide) ?_
      exact ih xz v4 r_140 (v4 + 1) _ _ _ hP hS (lv_sub hl [3, 1, 2, 0] rfl) hf 
  rw [p_X9_busy] at hf
  refine lv_aload_n hx hb dX9_busy_0 rfl (lv_at hl 0 rfl) ?_
  refine lv_iload_n hx hb dX9_busy_1 rfl (lv_at hl 1 rfl) ?_
  obtain ⟨r_2, e_2, hf⟩ := ob_bind hf
  have hPX_2 : va_P D vwCl (csQ ct A x) s.heap := hP
  refine ro_call1 (va_runV (As := [.int v1]) (rest := []) ⟨hx, hb, hml, hown, htl⟩ (c_X9_hasStep l D ct G A fu x v1 e_2) (cw_X9_X9_hasStep htl ⟨Nat.le_of_ble_eq_true rfl, Nat.le_of_ble_eq_true rfl⟩) ⟨Bx_blind, va_recv hK hPX_2 (ci := 9) (q0 := 0) rfl rfl, Bx_pre hPX_2 hK hN (hX.stay hS hGE)⟩ rfl rfl hl.1 rfl (lv_room (Nat.le_of_ble_eq_true rfl)) dX9_busy_2 ⟨Nat.zero_le _, Nat.zero_le _⟩) ?_
  refine lv_if_ne (tgt := 11) hx hb dX9_busy_5 (by decide) (fun c_5 => ?_) (fun c_5 => ?_)
  rotate_left 1
  · rw [if_pos c_5] at hf
    refine lv_bipush (v := (-2)) hx hb dX9_busy_8 (by decide) ?_
    rw [← hQQ]
    cases hf
    exact rw_i hx hb hr hlocks hP hS dX9_busy_10
  rw [if_neg c_5] at hf
  refine lv_iconst (v := 0) hx hb dX9_busy_11 (by decide) ?_
  refine lv_istore_n (lv' := [(2, .int 0), (0, .ref (A 0)), (1, .int v1)]) hx hb dX9_busy_12 rfl hl (by decide) rfl (fun ls hl => ?_)
  refine hL13 _ fu x v1 0 _ _ _ hP hS (lv_sub hl [1, 2, 0] rfl) hf (fun xz v1 H locs ls hP hS hl hf => ?_)
  refine lv_iconst (v := 0) hx hb dX9_busy_39 (by decide) ?_
  refine lv_istore_n (lv' := [(2, .int 0), (0, .ref (A 0)), (1, .int v1)]) hx hb dX9_busy_40 rfl hl (by decide) rfl (fun ls hl => ?_)
  refine hL41 _ fu xz v1 0 _ _ _ hP hS (lv_sub hl [1, 2, 0] rfl) hf (fun xz H locs ls hP hS hl hf => ?_)
  refine lv_iconst (v := (-1)) hx hb dX9_busy_102 (by decide) ?_
  refine lv_istore_n (lv' := [(2, .int (-1)), (0, .ref (A 0))]) hx hb dX9_busy_103 rfl hl (by decide) rfl (fun ls hl => ?_)
  refine lv_iconst (v := 0) hx hb dX9_busy_104 (by decide) ?_
  refine lv_istore_n (lv' := [(3, .int 0), (2, .int (-1)), (0, .ref (A 0))]) hx hb dX9_busy_105 rfl hl (by decide) rfl (fun ls hl => ?_)
  refine lv_iconst (v := 0) hx hb dX9_busy_106 (by decide) ?_
  refine lv_istore (lv' := [(4, .int 0), (3, .int 0), (2, .int (-1)), (0, .ref (A 0))]) hx hb dX9_busy_107 hl (by decide) rfl (fun ls hl => ?_)
  exact hL109 fu xz (-1) 0 0 _ _ _ hP hS (lv_sub hl [3, 2, 1, 0] rfl) hf 
theorem c_X9_busy (l : Launch) (D : va_G) (ct : Nat → ClassId) (G : GT) (A : Nat → Nat) (fu : Nat) (x : Nat → Ob) (v1 : Int32) {r : Int32 × (Nat → Ob)} (hf : p_X9_busy fu x v1 = some r)  (hDx : ∀ x : Nat → Ob, va_D (GE G) (csQ ct A x)) : Met l yX9_busy (.code yX9_busy cX9_busy 5 (some .int) :: wsL_law) rm_X9_busy (va_Pc [.ref (A 0), .int v1] (Bx D ct G (csQ ct A x))) (Qwr (some (.int r.1)) (fun H => va_P D vwCl (csQ ct A r.2) H) (wA (csQ ct A x))) 0 0 (wA (csQ ct A x)) := by
  refine Met.ofW (cc := cX9_busy) (maxL := 5) (ret := (some .int)) (by decide) rfl ?_
  intro p e s m args below meth c s₁ B hml hv
  obtain ⟨rfl, hP, hK, hN, hX⟩ := hv
  have hts := atoms_spec (ws := .code yX9_busy cX9_busy 5 (some .int) :: wsL_law) B.pre
  rw [lg_entry_eq]
  exact b_X9_busy A fu x v1 B.exec B.bytes B.returns hml (findClass_of_methodNamed B.named) (fun w h => hts w (List.mem_cons_of_mem _ h)) B.notSynchronized hK hN hX hP hf hDx  (lv_entry [.ref (A 0), .int v1] (n := 5) (Nat.le_of_ble_eq_true rfl))
def p_X9_mouths_L17 (fu : Nat) (x : Nat → Ob)  : Nat → Int32 → Int32 → Option (Int32)
  | 0, _, _ => none
  | n + 1, v1, v2 =>
    if ((x 5).1 4 0) ≤ v2 then some v1 else (p_X9_pick fu 10 ((x 5).1 5) v2).bind fun r_36 => if r_36 = ((-1) : Int32) then (p_X9_bit fu v2).bind fun r_45 => p_X9_mouths_L17 fu x  n (v1 ||| r_45) (v2 + 1) else p_X9_mouths_L17 fu x  n v1 (v2 + 1)
def p_X9_mouths (fu : Nat) (x : Nat → Ob) : Option (Int32) :=
  if ((x 5).1 0 0) = 0 then some ((-2) : Int32) else p_X9_mouths_L17 fu x fu 0 0
abbrev rm_X9_mouths : Room := { frames := 1, cells := 0, slots := 0, locals := 21 }
set_option maxHeartbeats 4000000 in
set_option maxRecDepth 100000 in
theorem b_X9_mouths {p : Program} {l : Launch} {e : Env} {s : State} {m : MethodId} {args : Array Value} {below : List Frame} {meth : Method} {c : Code} {ls : Array Slot} {D : va_G} {ct : Nat → ClassId} {G : GT} (A : Nat → Nat) (fu : Nat) (x : Nat → Ob) {r : Int32} (hx : p.tables.exec = Jvm.exec) (hb : c.code = cX9_mouths) (hr : meth.sig.returnType = (some .int)) (hml : c.maxLocals = 3) (hown : s.vm.findClass RX9 = some m.cls) (htl : ∀ w ∈ wsL_law, w.before args s = true) (hlocks : meth.locks = false) (hK : va_K D vwCl (tyl ct) s) (hN : ∀ w ∈ NW, va_Nw w s) (hX : SX G s s.heap) (hP0 : va_P D vwCl (csQ ct A x) s.heap) (hf : p_X9_mouths fu x = some r)  (hl : lv_has ls 3 [(0, .ref (A 0))]) : W p l e rm_X9_mouths s m args below meth c s.heap [] 0 0 (MQ below (Qro (some (.int r))) args s 0 0 (fun _ => False)) (F0 m 0 ls []) := by
  generalize hQQ : MQ below (Qro (some (.int r))) args s 0 0 (fun _ => False) = QQ
  have hP := hP0
  have hL17 : ∀ (n : Nat) (v1 : Int32) (v2 : Int32), ∀ (ls : Array Slot), lv_has ls 3 [(0, .ref (A 0)), (1, .int v1), (2, .int v2)] → p_X9_mouths_L17 fu x  n v1 v2 = some r → W p l e rm_X9_mouths s m args below meth c s.heap [] 0 0 QQ (F0 m 17 ls []) := by
    intro  n
    induction n with
    | zero =>
      intro v1 v2 ls hl hf 
      rw [p_X9_mouths_L17] at hf
      cases hf
    | succ n ih =>
      intro v1 v2 ls hl hf 
      rw [p_X9_mouths_L17] at hf
      refine lv_iload_n hx hb dX9_mouths_17 rfl (lv_at hl 2 rfl) ?_
      refine lv_aload_n hx hb dX9_mouths_18 rfl (lv_at hl 0 rfl) ?_
      refine va_get (D := D) (ci := 9) (v := .ref (A 21)) (C := RX9) (T := TX9) (N := 14) hx hb htl inlX9 hown hK hP 0 qh_0 rfl 2 (by decide) (htl _ wq_2_0) (fun _ h9 => h9) rfl dX9_mouths_19 ?_
      refine va_getN (D := D) (ci := 2) (v := .int ((x 5).1 4 0)) (C := RX2) (T := TX2) (N := 20) hx hb htl inlX2 hown hK hP 21 qh_5 rfl 4 (by decide) (va_Nw.use rfl (hN _ nm_23)) (fun _ h9 => h9) rfl dX9_mouths_22 ?_
      refine lv_icmp_ge (tgt := 56) hx hb dX9_mouths_25 (by decide) (fun c_25 => ?_) (fun c_25 => ?_)
      · rw [if_pos c_25] at hf
        refine lv_iload_n hx hb dX9_mouths_56 rfl (lv_at hl 1 rfl) ?_
        rw [← hQQ]
        exact rf_i hx hb hr hlocks hf dX9_mouths_57
      rw [if_neg c_25] at hf
      refine lv_aload_n hx hb dX9_mouths_28 rfl (lv_at hl 0 rfl) ?_
      refine va_get (D := D) (ci := 9) (v := .ref (A 21)) (C := RX9) (T := TX9) (N := 14) hx hb htl inlX9 hown hK hP 0 qh_0 rfl 2 (by decide) (htl _ wq_2_0) (fun _ h9 => h9) rfl dX9_mouths_29 ?_
      refine va_getN (D := D) (ci := 2) (v := .ref (A 22)) (C := RX2) (T := TX2) (N := 20) hx hb htl inlX2 hown hK hP 21 qh_5 rfl 5 (by decide) (va_Nw.use rfl (hN _ nm_4)) (fun _ h9 => h9) rfl dX9_mouths_32 ?_
      refine lv_iload_n hx hb dX9_mouths_35 rfl (lv_at hl 2 rfl) ?_
      obtain ⟨r_36, e_36, hf⟩ := ob_bind hf
      have hPX_36 : va_P D vwCl ([((A 22), .inl (ct 0, 10, .inl ((x 5).1 5)))]) s.heap := (P_one hP 22 qat_22)
      refine ro_call1 (va_runS (As := [.ref (A 22), .int v2]) (rest := []) ⟨hx, hb, hml, hown, htl⟩ (c_X9_pick l D ct G (A 22) fu 10 ((x 5).1 5) v2 e_36) (cw_X9_X9_pick htl ⟨Nat.le_of_ble_eq_true rfl, Nat.le_of_ble_eq_true rfl⟩) ⟨Bx_blind, Bx_pre hPX_36 hK hN hX⟩ rfl rfl hl.1 rfl (lv_room (Nat.le_of_ble_eq_true rfl)) dX9_mouths_36 ⟨Nat.zero_le _, Nat.zero_le _⟩) ?_
      refine lv_iconst (v := (-1)) hx hb dX9_mouths_39 (by decide) ?_
      refine lv_icmp_ne (tgt := 50) hx hb dX9_mouths_40 (by decide) (fun c_40 => ?_) (fun c_40 => ?_)
      · rw [if_neg c_40] at hf
        refine lv_iinc (v := (v2 + 1)) (lv' := [(2, .int (v2 + 1)), (0, .ref (A 0)), (1, .int v1)]) hx hb dX9_mouths_50 hl (k := 2) rfl rfl (by decide) rfl (fun ls hl => ?_)
        refine lv_goto (tgt := 17) hx hb dX9_mouths_53 (by decide) ?_
        exact ih v1 (v2 + 1) _ (lv_sub hl [1, 2, 0] rfl) hf 
      rw [if_pos c_40] at hf
      refine lv_iload_n hx hb dX9_mouths_43 rfl (lv_at hl 1 rfl) ?_
      refine lv_iload_n hx hb dX9_mouths_44 rfl (lv_at hl 2 rfl) ?_
      obtain ⟨r_45, e_45, hf⟩ := ob_bind hf
      have hPX_45 : va_P D vwCl ([]) s.heap := P_nil
      refine ro_call1 (va_runS (As := [.int v2]) (rest := [.int v1]) ⟨hx, hb, hml, hown, htl⟩ (c_X9_bit l D ct G fu v2 e_45) (cw_X9_X9_bit htl ⟨Nat.le_of_ble_eq_true rfl, Nat.le_of_ble_eq_true rfl⟩) ⟨Bx_blind, Bx_pre hPX_45 hK hN hX⟩ rfl rfl hl.1 rfl (lv_room (Nat.le_of_ble_eq_true rfl)) dX9_mouths_45 ⟨Nat.zero_le _, Nat.zero_le _⟩) ?_
      refine lv_ior hx hb dX9_mouths_48 ?_
      refine lv_istore_n (lv' := [(1, .int (v1 ||| r_45)), (0, .ref (A 0)), (2, .int v2)]) hx hb dX9_mouths_49 rfl hl (by decide) rfl (fun ls hl => ?_)
      refine lv_iinc (v := (v2 + 1)) (lv' := [(2, .int (v2 + 1)), (1, .int (v1 ||| r_45)), (0, .ref (A 0))]) hx hb dX9_mouths_50 hl (k := 2) rfl rfl (by decide) rfl (fun ls hl => ?_)
      refine lv_goto (tgt := 17) hx hb dX9_mouths_53 (by decide) ?_
      exact ih (v1 ||| r_45) (v2 + 1) _ (lv_sub hl [2, 1, 0] rfl) hf 
  rw [p_X9_mouths] at hf
  refine lv_aload_n hx hb dX9_mouths_0 rfl (lv_at hl 0 rfl) ?_
  refine va_get (D := D) (ci := 9) (v := .ref (A 21)) (C := RX9) (T := TX9) (N := 14) hx hb htl inlX9 hown hK hP 0 qh_0 rfl 2 (by decide) (htl _ wq_2_0) (fun _ h9 => h9) rfl dX9_mouths_1 ?_
  refine va_getN (D := D) (ci := 2) (v := .int ((x 5).1 0 0)) (C := RX2) (T := TX2) (N := 20) hx hb htl inlX2 hown hK hP 21 qh_5 rfl 0 (by decide) (va_Nw.use rfl (hN _ nm_14)) (fun _ h9 => h9) rfl dX9_mouths_4 ?_
  refine lv_if_ne (tgt := 13) hx hb dX9_mouths_7 (by decide) (fun c_7 => ?_) (fun c_7 => ?_)
  rotate_left 1
  · rw [if_pos c_7] at hf
    refine lv_bipush (v := (-2)) hx hb dX9_mouths_10 (by decide) ?_
    rw [← hQQ]
    exact rf_i hx hb hr hlocks hf dX9_mouths_12
  rw [if_neg c_7] at hf
  refine lv_iconst (v := 0) hx hb dX9_mouths_13 (by decide) ?_
  refine lv_istore_n (lv' := [(1, .int 0), (0, .ref (A 0))]) hx hb dX9_mouths_14 rfl hl (by decide) rfl (fun ls hl => ?_)
  refine lv_iconst (v := 0) hx hb dX9_mouths_15 (by decide) ?_
  refine lv_istore_n (lv' := [(2, .int 0), (1, .int 0), (0, .ref (A 0))]) hx hb dX9_mouths_16 rfl hl (by decide) rfl (fun ls hl => ?_)
  exact hL17 fu 0 0 _ (lv_sub hl [2, 1, 0] rfl) hf 
theorem c_X9_mouths (l : Launch) (D : va_G) (ct : Nat → ClassId) (G : GT) (A : Nat → Nat) (fu : Nat) (x : Nat → Ob) {r : Int32} (hf : p_X9_mouths fu x = some r)  : Met l yX9_mouths (.code yX9_mouths cX9_mouths 3 (some .int) :: wsL_law) rm_X9_mouths (va_Pc [.ref (A 0)] (Bx D ct G (csQ ct A x))) (Qro (some (.int r))) 0 0 (fun _ => False) := by
  refine Met.ofW (cc := cX9_mouths) (maxL := 3) (ret := (some .int)) (by decide) rfl ?_
  intro p e s m args below meth c s₁ B hml hv
  obtain ⟨rfl, hP, hK, hN, hX⟩ := hv
  have hts := atoms_spec (ws := .code yX9_mouths cX9_mouths 3 (some .int) :: wsL_law) B.pre
  rw [lg_entry_eq]
  exact b_X9_mouths A fu x B.exec B.bytes B.returns hml (findClass_of_methodNamed B.named) (fun w h => hts w (List.mem_cons_of_mem _ h)) B.notSynchronized hK hN hX hP hf   (lv_entry [.ref (A 0)] (n := 3) (Nat.le_of_ble_eq_true rfl))
def p_X9_springs_L17 (fu : Nat) (x : Nat → Ob) (c51 : Int32 → Option (Int32)) : Nat → Int32 → Int32 → Option (Int32)
  | 0, _, _ => none
  | n + 1, v1, v2 =>
    if ((x 5).1 4 0) ≤ v2 then c51 v1 else (p_X9_pick fu 10 ((x 5).1 5) v2).bind fun r_37 => (p_X9_bit fu r_37).bind fun r_40 => p_X9_springs_L17 fu x c51 n (v1 ||| r_40) (v2 + 1)
def p_X9_springs_L53 (fu : Nat) (x : Nat → Ob) (c87 : Int32 → Option (Int32)) : Nat → Int32 → Int32 → Option (Int32)
  | 0, _, _ => none
  | n + 1, v1, v2 =>
    if ((x 5).1 8 0) ≤ v2 then c87 v1 else (p_X9_pick fu 5 ((x 5).1 10) v2).bind fun r_73 => (p_X9_bit fu r_73).bind fun r_76 => p_X9_springs_L53 fu x c87 n (v1 ||| r_76) (v2 + 1)
def p_X9_springs (fu : Nat) (x : Nat → Ob) : Option (Int32) :=
  if ((x 5).1 0 0) = 0 then some ((-2) : Int32) else p_X9_springs_L17 fu x (fun v1 => p_X9_springs_L53 fu x (fun v1 => (p_X9_allReaches fu x).bind fun r_88 => some (r_88 &&& (v1 ^^^ (-1)))) fu v1 0) fu 0 0
abbrev rm_X9_springs : Room := { frames := 2, cells := 0, slots := 0, locals := 40 }
set_option maxHeartbeats 4000000 in
set_option maxRecDepth 100000 in
theorem b_X9_springs {p : Program} {l : Launch} {e : Env} {s : State} {m : MethodId} {args : Array Value} {below : List Frame} {meth : Method} {c : Code} {ls : Array Slot} {D : va_G} {ct : Nat → ClassId} {G : GT} (A : Nat → Nat) (fu : Nat) (x : Nat → Ob) {r : Int32} (hx : p.tables.exec = Jvm.exec) (hb : c.code = cX9_springs) (hr : meth.sig.returnType = (some .int)) (hml : c.maxLocals = 3) (hown : s.vm.findClass RX9 = some m.cls) (htl : ∀ w ∈ wsL_law, w.before args s = true) (hlocks : meth.locks = false) (hK : va_K D vwCl (tyl ct) s) (hN : ∀ w ∈ NW, va_Nw w s) (hX : SX G s s.heap) (hP0 : va_P D vwCl (csQ ct A x) s.heap) (hf : p_X9_springs fu x = some r)  (hl : lv_has ls 3 [(0, .ref (A 0))]) : W p l e rm_X9_springs s m args below meth c s.heap [] 0 0 (MQ below (Qro (some (.int r))) args s 0 0 (fun _ => False)) (F0 m 0 ls []) := by
  generalize hQQ : MQ below (Qro (some (.int r))) args s 0 0 (fun _ => False) = QQ
  have hP := hP0
  have hL17 : ∀ (c51 : Int32 → Option (Int32)) (n : Nat) (v1 : Int32) (v2 : Int32), ∀ (ls : Array Slot), lv_has ls 3 [(0, .ref (A 0)), (1, .int v1), (2, .int v2)] → p_X9_springs_L17 fu x c51 n v1 v2 = some r → (∀ (v1 : Int32), ∀ (ls : Array Slot), lv_has ls 3 [(0, .ref (A 0)), (1, .int v1)] → c51 v1 = some r → W p l e rm_X9_springs s m args below meth c s.heap [] 0 0 QQ (F0 m 51 ls [])) → W p l e rm_X9_springs s m args below meth c s.heap [] 0 0 QQ (F0 m 17 ls []) := by
    intro c51 n
    induction n with
    | zero =>
      intro v1 v2 ls hl hf k51
      rw [p_X9_springs_L17] at hf
      cases hf
    | succ n ih =>
      intro v1 v2 ls hl hf k51
      rw [p_X9_springs_L17] at hf
      refine lv_iload_n hx hb dX9_springs_17 rfl (lv_at hl 2 rfl) ?_
      refine lv_aload_n hx hb dX9_springs_18 rfl (lv_at hl 0 rfl) ?_
      refine va_get (D := D) (ci := 9) (v := .ref (A 21)) (C := RX9) (T := TX9) (N := 14) hx hb htl inlX9 hown hK hP 0 qh_0 rfl 2 (by decide) (htl _ wq_2_0) (fun _ h9 => h9) rfl dX9_springs_19 ?_
      refine va_getN (D := D) (ci := 2) (v := .int ((x 5).1 4 0)) (C := RX2) (T := TX2) (N := 20) hx hb htl inlX2 hown hK hP 21 qh_5 rfl 4 (by decide) (va_Nw.use rfl (hN _ nm_23)) (fun _ h9 => h9) rfl dX9_springs_22 ?_
      refine lv_icmp_ge (tgt := 51) hx hb dX9_springs_25 (by decide) (fun c_25 => ?_) (fun c_25 => ?_)
      · rw [if_pos c_25] at hf
        exact k51 v1 _ (lv_sub hl [0, 1] rfl) hf
      rw [if_neg c_25] at hf
      refine lv_iload_n hx hb dX9_springs_28 rfl (lv_at hl 1 rfl) ?_
      refine lv_aload_n hx hb dX9_springs_29 rfl (lv_at hl 0 rfl) ?_
      refine va_get (D := D) (ci := 9) (v := .ref (A 21)) (C := RX9) (T := TX9) (N := 14) hx hb htl inlX9 hown hK hP 0 qh_0 rfl 2 (by decide) (htl _ wq_2_0) (fun _ h9 => h9) rfl dX9_springs_30 ?_
      refine va_getN (D := D) (ci := 2) (v := .ref (A 22)) (C := RX2) (T := TX2) (N := 20) hx hb htl inlX2 hown hK hP 21 qh_5 rfl 5 (by decide) (va_Nw.use rfl (hN _ nm_4)) (fun _ h9 => h9) rfl dX9_springs_33 ?_
      refine lv_iload_n hx hb dX9_springs_36 rfl (lv_at hl 2 rfl) ?_
      obtain ⟨r_37, e_37, hf⟩ := ob_bind hf
      have hPX_37 : va_P D vwCl ([((A 22), .inl (ct 0, 10, .inl ((x 5).1 5)))]) s.heap := (P_one hP 22 qat_22)
      refine ro_call1 (va_runS (As := [.ref (A 22), .int v2]) (rest := [.int v1]) ⟨hx, hb, hml, hown, htl⟩ (c_X9_pick l D ct G (A 22) fu 10 ((x 5).1 5) v2 e_37) (cw_X9_X9_pick htl ⟨Nat.le_of_ble_eq_true rfl, Nat.le_of_ble_eq_true rfl⟩) ⟨Bx_blind, Bx_pre hPX_37 hK hN hX⟩ rfl rfl hl.1 rfl (lv_room (Nat.le_of_ble_eq_true rfl)) dX9_springs_37 ⟨Nat.zero_le _, Nat.zero_le _⟩) ?_
      obtain ⟨r_40, e_40, hf⟩ := ob_bind hf
      have hPX_40 : va_P D vwCl ([]) s.heap := P_nil
      refine ro_call1 (va_runS (As := [.int r_37]) (rest := [.int v1]) ⟨hx, hb, hml, hown, htl⟩ (c_X9_bit l D ct G fu r_37 e_40) (cw_X9_X9_bit htl ⟨Nat.le_of_ble_eq_true rfl, Nat.le_of_ble_eq_true rfl⟩) ⟨Bx_blind, Bx_pre hPX_40 hK hN hX⟩ rfl rfl hl.1 rfl (lv_room (Nat.le_of_ble_eq_true rfl)) dX9_springs_40 ⟨Nat.zero_le _, Nat.zero_le _⟩) ?_
      refine lv_ior hx hb dX9_springs_43 ?_
      refine lv_istore_n (lv' := [(1, .int (v1 ||| r_40)), (0, .ref (A 0)), (2, .int v2)]) hx hb dX9_springs_44 rfl hl (by decide) rfl (fun ls hl => ?_)
      refine lv_iinc (v := (v2 + 1)) (lv' := [(2, .int (v2 + 1)), (1, .int (v1 ||| r_40)), (0, .ref (A 0))]) hx hb dX9_springs_45 hl (k := 2) rfl rfl (by decide) rfl (fun ls hl => ?_)
      refine lv_goto (tgt := 17) hx hb dX9_springs_48 (by decide) ?_
      exact ih (v1 ||| r_40) (v2 + 1) _ (lv_sub hl [2, 1, 0] rfl) hf k51
  have hL53 : ∀ (c87 : Int32 → Option (Int32)) (n : Nat) (v1 : Int32) (v2 : Int32), ∀ (ls : Array Slot), lv_has ls 3 [(0, .ref (A 0)), (1, .int v1), (2, .int v2)] → p_X9_springs_L53 fu x c87 n v1 v2 = some r → (∀ (v1 : Int32), ∀ (ls : Array Slot), lv_has ls 3 [(0, .ref (A 0)), (1, .int v1)] → c87 v1 = some r → W p l e rm_X9_springs s m args below meth c s.heap [] 0 0 QQ (F0 m 87 ls [])) → W p l e rm_X9_springs s m args below meth c s.heap [] 0 0 QQ (F0 m 53 ls []) := by
    intro c87 n
    induction n with
    | zero =>
      intro v1 v2 ls hl hf k87
      rw [p_X9_springs_L53] at hf
      cases hf
    | succ n ih =>
      intro v1 v2 ls hl hf k87
      rw [p_X9_springs_L53] at hf
      refine lv_iload_n hx hb dX9_springs_53 rfl (lv_at hl 2 rfl) ?_
      refine lv_aload_n hx hb dX9_springs_54 rfl (lv_at hl 0 rfl) ?_
      refine va_get (D := D) (ci := 9) (v := .ref (A 21)) (C := RX9) (T := TX9) (N := 14) hx hb htl inlX9 hown hK hP 0 qh_0 rfl 2 (by decide) (htl _ wq_2_0) (fun _ h9 => h9) rfl dX9_springs_55 ?_
      refine va_getN (D := D) (ci := 2) (v := .int ((x 5).1 8 0)) (C := RX2) (T := TX2) (N := 20) hx hb htl inlX2 hown hK hP 21 qh_5 rfl 8 (by decide) (va_Nw.use rfl (hN _ nm_24)) (fun _ h9 => h9) rfl dX9_springs_58 ?_
      refine lv_icmp_ge (tgt := 87) hx hb dX9_springs_61 (by decide) (fun c_61 => ?_) (fun c_61 => ?_)
      · rw [if_pos c_61] at hf
        exact k87 v1 _ (lv_sub hl [0, 1] rfl) hf
      rw [if_neg c_61] at hf
      refine lv_iload_n hx hb dX9_springs_64 rfl (lv_at hl 1 rfl) ?_
      refine lv_aload_n hx hb dX9_springs_65 rfl (lv_at hl 0 rfl) ?_
      refine va_get (D := D) (ci := 9) (v := .ref (A 21)) (C := RX9) (T := TX9) (N := 14) hx hb htl inlX9 hown hK hP 0 qh_0 rfl 2 (by decide) (htl _ wq_2_0) (fun _ h9 => h9) rfl dX9_springs_66 ?_
      refine va_getN (D := D) (ci := 2) (v := .ref (A 26)) (C := RX2) (T := TX2) (N := 20) hx hb htl inlX2 hown hK hP 21 qh_5 rfl 10 (by decide) (va_Nw.use rfl (hN _ nm_8)) (fun _ h9 => h9) rfl dX9_springs_69 ?_
      refine lv_iload_n hx hb dX9_springs_72 rfl (lv_at hl 2 rfl) ?_
      obtain ⟨r_73, e_73, hf⟩ := ob_bind hf
      have hPX_73 : va_P D vwCl ([((A 26), .inl (ct 0, 5, .inl ((x 5).1 10)))]) s.heap := (P_one hP 26 qat_26)
      refine ro_call1 (va_runS (As := [.ref (A 26), .int v2]) (rest := [.int v1]) ⟨hx, hb, hml, hown, htl⟩ (c_X9_pick l D ct G (A 26) fu 5 ((x 5).1 10) v2 e_73) (cw_X9_X9_pick htl ⟨Nat.le_of_ble_eq_true rfl, Nat.le_of_ble_eq_true rfl⟩) ⟨Bx_blind, Bx_pre hPX_73 hK hN hX⟩ rfl rfl hl.1 rfl (lv_room (Nat.le_of_ble_eq_true rfl)) dX9_springs_73 ⟨Nat.zero_le _, Nat.zero_le _⟩) ?_
      obtain ⟨r_76, e_76, hf⟩ := ob_bind hf
      have hPX_76 : va_P D vwCl ([]) s.heap := P_nil
      refine ro_call1 (va_runS (As := [.int r_73]) (rest := [.int v1]) ⟨hx, hb, hml, hown, htl⟩ (c_X9_bit l D ct G fu r_73 e_76) (cw_X9_X9_bit htl ⟨Nat.le_of_ble_eq_true rfl, Nat.le_of_ble_eq_true rfl⟩) ⟨Bx_blind, Bx_pre hPX_76 hK hN hX⟩ rfl rfl hl.1 rfl (lv_room (Nat.le_of_ble_eq_true rfl)) dX9_springs_76 ⟨Nat.zero_le _, Nat.zero_le _⟩) ?_
      refine lv_ior hx hb dX9_springs_79 ?_
      refine lv_istore_n (lv' := [(1, .int (v1 ||| r_76)), (0, .ref (A 0)), (2, .int v2)]) hx hb dX9_springs_80 rfl hl (by decide) rfl (fun ls hl => ?_)
      refine lv_iinc (v := (v2 + 1)) (lv' := [(2, .int (v2 + 1)), (1, .int (v1 ||| r_76)), (0, .ref (A 0))]) hx hb dX9_springs_81 hl (k := 2) rfl rfl (by decide) rfl (fun ls hl => ?_)
      refine lv_goto (tgt := 53) hx hb dX9_springs_84 (by decide) ?_
      exact ih (v1 ||| r_76) (v2 + 1) _ (lv_sub hl [2, 1, 0] rfl) hf k87
  rw [p_X9_springs] at hf
  refine lv_aload_n hx hb dX9_springs_0 rfl (lv_at hl 0 rfl) ?_
  refine va_get (D := D) (ci := 9) (v := .ref (A 21)) (C := RX9) (T := TX9) (N := 14) hx hb htl inlX9 hown hK hP 0 qh_0 rfl 2 (by decide) (htl _ wq_2_0) (fun _ h9 => h9) rfl dX9_springs_1 ?_
  refine va_getN (D := D) (ci := 2) (v := .int ((x 5).1 0 0)) (C := RX2) (T := TX2) (N := 20) hx hb htl inlX2 hown hK hP 21 qh_5 rfl 0 (by decide) (va_Nw.use rfl (hN _ nm_14)) (fun _ h9 => h9) rfl dX9_springs_4 ?_
  refine lv_if_ne (tgt := 13) hx hb dX9_springs_7 (by decide) (fun c_7 => ?_) (fun c_7 => ?_)
  rotate_left 1
  · rw [if_pos c_7] at hf
    refine lv_bipush (v := (-2)) hx hb dX9_springs_10 (by decide) ?_
    rw [← hQQ]
    exact rf_i hx hb hr hlocks hf dX9_springs_12
  rw [if_neg c_7] at hf
  refine lv_iconst (v := 0) hx hb dX9_springs_13 (by decide) ?_
  refine lv_istore_n (lv' := [(1, .int 0), (0, .ref (A 0))]) hx hb dX9_springs_14 rfl hl (by decide) rfl (fun ls hl => ?_)
  refine lv_iconst (v := 0) hx hb dX9_springs_15 (by decide) ?_
  refine lv_istore_n (lv' := [(2, .int 0), (1, .int 0), (0, .ref (A 0))]) hx hb dX9_springs_16 rfl hl (by decide) rfl (fun ls hl => ?_)
  refine hL17 _ fu 0 0 _ (lv_sub hl [2, 1, 0] rfl) hf (fun v1 ls hl hf => ?_)
  refine lv_iconst (v := 0) hx hb dX9_springs_51 (by decide) ?_
  refine lv_istore_n (lv' := [(2, .int 0), (0, .ref (A 0)), (1, .int v1)]) hx hb dX9_springs_52 rfl hl (by decide) rfl (fun ls hl => ?_)
  refine hL53 _ fu v1 0 _ (lv_sub hl [1, 2, 0] rfl) hf (fun v1 ls hl hf => ?_)
  refine lv_aload_n hx hb dX9_springs_87 rfl (lv_at hl 0 rfl) ?_
  obtain ⟨r_88, e_88, hf⟩ := ob_bind hf
  have hPX_88 : va_P D vwCl (csQ ct A x) s.heap := hP
  refine ro_call1 (va_runV (As := []) (rest := []) ⟨hx, hb, hml, hown, htl⟩ (c_X9_allReaches l D ct G A fu x e_88) (cw_X9_X9_allReaches htl ⟨Nat.le_of_ble_eq_true rfl, Nat.le_of_ble_eq_true rfl⟩) ⟨Bx_blind, va_recv hK hPX_88 (ci := 9) (q0 := 0) rfl rfl, Bx_pre hPX_88 hK hN hX⟩ rfl rfl hl.1 rfl (lv_room (Nat.le_of_ble_eq_true rfl)) dX9_springs_88 ⟨Nat.zero_le _, Nat.zero_le _⟩) ?_
  refine lv_iload_n hx hb dX9_springs_91 rfl (lv_at hl 1 rfl) ?_
  refine lv_iconst (v := (-1)) hx hb dX9_springs_92 (by decide) ?_
  refine lv_ixor hx hb dX9_springs_93 ?_
  refine lv_iand hx hb dX9_springs_94 ?_
  rw [← hQQ]
  exact rf_i hx hb hr hlocks hf dX9_springs_95
theorem c_X9_springs (l : Launch) (D : va_G) (ct : Nat → ClassId) (G : GT) (A : Nat → Nat) (fu : Nat) (x : Nat → Ob) {r : Int32} (hf : p_X9_springs fu x = some r)  : Met l yX9_springs (.code yX9_springs cX9_springs 3 (some .int) :: wsL_law) rm_X9_springs (va_Pc [.ref (A 0)] (Bx D ct G (csQ ct A x))) (Qro (some (.int r))) 0 0 (fun _ => False) := by
  refine Met.ofW (cc := cX9_springs) (maxL := 3) (ret := (some .int)) (by decide) rfl ?_
  intro p e s m args below meth c s₁ B hml hv
  obtain ⟨rfl, hP, hK, hN, hX⟩ := hv
  have hts := atoms_spec (ws := .code yX9_springs cX9_springs 3 (some .int) :: wsL_law) B.pre
  rw [lg_entry_eq]
  exact b_X9_springs A fu x B.exec B.bytes B.returns hml (findClass_of_methodNamed B.named) (fun w h => hts w (List.mem_cons_of_mem _ h)) B.notSynchronized hK hN hX hP hf   (lv_entry [.ref (A 0)] (n := 3) (Nat.le_of_ble_eq_true rfl))
def p_X9_depth_L15 (fu : Nat) (x : Nat → Ob)  : Nat → Int32 → Int32 → Option (Int32)
  | 0, _, _ => none
  | n + 1, v2, v3 =>
    if (10 : Int32) < v3 then some ((-1) : Int32) else (p_X9_pick fu 10 ((x 5).1 5) v2).bind fun r_29 => if r_29 = ((-1) : Int32) then some v3 else p_X9_depth_L15 fu x  n r_29 (v3 + 1)
def p_X9_depth (fu : Nat) (x : Nat → Ob) (v1 : Int32) : Option (Int32) :=
  (p_X9_isReach fu x v1).bind fun r_2 => if r_2 = 0 then some ((-2) : Int32) else p_X9_depth_L15 fu x fu v1 1
abbrev rm_X9_depth : Room := { frames := 1, cells := 0, slots := 0, locals := 21 }
set_option maxHeartbeats 4000000 in
set_option maxRecDepth 100000 in
theorem b_X9_depth {p : Program} {l : Launch} {e : Env} {s : State} {m : MethodId} {args : Array Value} {below : List Frame} {meth : Method} {c : Code} {ls : Array Slot} {D : va_G} {ct : Nat → ClassId} {G : GT} (A : Nat → Nat) (fu : Nat) (x : Nat → Ob) (v1 : Int32) {r : Int32} (hx : p.tables.exec = Jvm.exec) (hb : c.code = cX9_depth) (hr : meth.sig.returnType = (some .int)) (hml : c.maxLocals = 4) (hown : s.vm.findClass RX9 = some m.cls) (htl : ∀ w ∈ wsL_law, w.before args s = true) (hlocks : meth.locks = false) (hK : va_K D vwCl (tyl ct) s) (hN : ∀ w ∈ NW, va_Nw w s) (hX : SX G s s.heap) (hP0 : va_P D vwCl (csQ ct A x) s.heap) (hf : p_X9_depth fu x v1 = some r)  (hl : lv_has ls 4 [(0, .ref (A 0)), (1, .int v1)]) : W p l e rm_X9_depth s m args below meth c s.heap [] 0 0 (MQ below (Qro (some (.int r))) args s 0 0 (fun _ => False)) (F0 m 0 ls []) := by
  generalize hQQ : MQ below (Qro (some (.int r))) args s 0 0 (fun _ => False) = QQ
  have hP := hP0
  have hL15 : ∀ (n : Nat) (v2 : Int32) (v3 : Int32), ∀ (ls : Array Slot), lv_has ls 4 [(0, .ref (A 0)), (2, .int v2), (3, .int v3)] → p_X9_depth_L15 fu x  n v2 v3 = some r → W p l e rm_X9_depth s m args below meth c s.heap [] 0 0 QQ (F0 m 15 ls []) := by
    intro  n
    induction n with
    | zero =>
      intro v2 v3 ls hl hf 
      rw [p_X9_depth_L15] at hf
      cases hf
    | succ n ih =>
      intro v2 v3 ls hl hf 
      rw [p_X9_depth_L15] at hf
      refine lv_iload_n hx hb dX9_depth_15 rfl (lv_at hl 2 rfl) ?_
      refine lv_bipush (v := 10) hx hb dX9_depth_16 (by decide) ?_
      refine lv_icmp_gt (tgt := 46) hx hb dX9_depth_18 (by decide) (fun c_18 => ?_) (fun c_18 => ?_)
      · rw [if_pos c_18] at hf
        refine lv_iconst (v := (-1)) hx hb dX9_depth_46 (by decide) ?_
        rw [← hQQ]
        exact rf_i hx hb hr hlocks hf dX9_depth_47
      rw [if_neg c_18] at hf
      refine lv_aload_n hx hb dX9_depth_21 rfl (lv_at hl 0 rfl) ?_
      refine va_get (D := D) (ci := 9) (v := .ref (A 21)) (C := RX9) (T := TX9) (N := 14) hx hb htl inlX9 hown hK hP 0 qh_0 rfl 2 (by decide) (htl _ wq_2_0) (fun _ h9 => h9) rfl dX9_depth_22 ?_
      refine va_getN (D := D) (ci := 2) (v := .ref (A 22)) (C := RX2) (T := TX2) (N := 20) hx hb htl inlX2 hown hK hP 21 qh_5 rfl 5 (by decide) (va_Nw.use rfl (hN _ nm_4)) (fun _ h9 => h9) rfl dX9_depth_25 ?_
      refine lv_iload_n hx hb dX9_depth_28 rfl (lv_at hl 1 rfl) ?_
      obtain ⟨r_29, e_29, hf⟩ := ob_bind hf
      have hPX_29 : va_P D vwCl ([((A 22), .inl (ct 0, 10, .inl ((x 5).1 5)))]) s.heap := (P_one hP 22 qat_22)
      refine ro_call1 (va_runS (As := [.ref (A 22), .int v2]) (rest := []) ⟨hx, hb, hml, hown, htl⟩ (c_X9_pick l D ct G (A 22) fu 10 ((x 5).1 5) v2 e_29) (cw_X9_X9_pick htl ⟨Nat.le_of_ble_eq_true rfl, Nat.le_of_ble_eq_true rfl⟩) ⟨Bx_blind, Bx_pre hPX_29 hK hN hX⟩ rfl rfl hl.1 rfl (lv_room (Nat.le_of_ble_eq_true rfl)) dX9_depth_29 ⟨Nat.zero_le _, Nat.zero_le _⟩) ?_
      refine lv_istore_n (lv' := [(2, .int r_29), (0, .ref (A 0)), (3, .int v3)]) hx hb dX9_depth_32 rfl hl (by decide) rfl (fun ls hl => ?_)
      refine lv_iload_n hx hb dX9_depth_33 rfl (lv_at hl 0 rfl) ?_
      refine lv_iconst (v := (-1)) hx hb dX9_depth_34 (by decide) ?_
      refine lv_icmp_ne (tgt := 40) hx hb dX9_depth_35 (by decide) (fun c_35 => ?_) (fun c_35 => ?_)
      · rw [if_neg c_35] at hf
        refine lv_iinc (v := (v3 + 1)) (lv' := [(3, .int (v3 + 1)), (2, .int r_29), (0, .ref (A 0))]) hx hb dX9_depth_40 hl (k := 2) rfl rfl (by decide) rfl (fun ls hl => ?_)
        refine lv_goto (tgt := 15) hx hb dX9_depth_43 (by decide) ?_
        exact ih r_29 (v3 + 1) _ (lv_sub hl [2, 1, 0] rfl) hf 
      rw [if_pos c_35] at hf
      refine lv_iload_n hx hb dX9_depth_38 rfl (lv_at hl 2 rfl) ?_
      rw [← hQQ]
      exact rf_i hx hb hr hlocks hf dX9_depth_39
  rw [p_X9_depth] at hf
  refine lv_aload_n hx hb dX9_depth_0 rfl (lv_at hl 0 rfl) ?_
  refine lv_iload_n hx hb dX9_depth_1 rfl (lv_at hl 1 rfl) ?_
  obtain ⟨r_2, e_2, hf⟩ := ob_bind hf
  have hPX_2 : va_P D vwCl (csQ ct A x) s.heap := hP
  refine ro_call1 (va_runV (As := [.int v1]) (rest := []) ⟨hx, hb, hml, hown, htl⟩ (c_X9_isReach l D ct G A fu x v1 e_2) (cw_X9_X9_isReach htl ⟨Nat.le_of_ble_eq_true rfl, Nat.le_of_ble_eq_true rfl⟩) ⟨Bx_blind, va_recv hK hPX_2 (ci := 9) (q0 := 0) rfl rfl, Bx_pre hPX_2 hK hN hX⟩ rfl rfl hl.1 rfl (lv_room (Nat.le_of_ble_eq_true rfl)) dX9_depth_2 ⟨Nat.zero_le _, Nat.zero_le _⟩) ?_
  refine lv_if_ne (tgt := 11) hx hb dX9_depth_5 (by decide) (fun c_5 => ?_) (fun c_5 => ?_)
  rotate_left 1
  · rw [if_pos c_5] at hf
    refine lv_bipush (v := (-2)) hx hb dX9_depth_8 (by decide) ?_
    rw [← hQQ]
    exact rf_i hx hb hr hlocks hf dX9_depth_10
  rw [if_neg c_5] at hf
  refine lv_iload_n hx hb dX9_depth_11 rfl (lv_at hl 1 rfl) ?_
  refine lv_istore_n (lv' := [(2, .int v1), (0, .ref (A 0)), (1, .int v1)]) hx hb dX9_depth_12 rfl hl (by decide) rfl (fun ls hl => ?_)
  refine lv_iconst (v := 1) hx hb dX9_depth_13 (by decide) ?_
  refine lv_istore_n (lv' := [(3, .int 1), (2, .int v1), (0, .ref (A 0)), (1, .int v1)]) hx hb dX9_depth_14 rfl hl (by decide) rfl (fun ls hl => ?_)
  exact hL15 fu v1 1 _ (lv_sub hl [2, 1, 0] rfl) hf 
theorem c_X9_depth (l : Launch) (D : va_G) (ct : Nat → ClassId) (G : GT) (A : Nat → Nat) (fu : Nat) (x : Nat → Ob) (v1 : Int32) {r : Int32} (hf : p_X9_depth fu x v1 = some r)  : Met l yX9_depth (.code yX9_depth cX9_depth 4 (some .int) :: wsL_law) rm_X9_depth (va_Pc [.ref (A 0), .int v1] (Bx D ct G (csQ ct A x))) (Qro (some (.int r))) 0 0 (fun _ => False) := by
  refine Met.ofW (cc := cX9_depth) (maxL := 4) (ret := (some .int)) (by decide) rfl ?_
  intro p e s m args below meth c s₁ B hml hv
  obtain ⟨rfl, hP, hK, hN, hX⟩ := hv
  have hts := atoms_spec (ws := .code yX9_depth cX9_depth 4 (some .int) :: wsL_law) B.pre
  rw [lg_entry_eq]
  exact b_X9_depth A fu x v1 B.exec B.bytes B.returns hml (findClass_of_methodNamed B.named) (fun w h => hts w (List.mem_cons_of_mem _ h)) B.notSynchronized hK hN hX hP hf   (lv_entry [.ref (A 0), .int v1] (n := 4) (Nat.le_of_ble_eq_true rfl))
def p_X9_isInRing_L4 (fu : Nat) (x : Nat → Ob)  : Nat → Int32 → Int32 → Int32 → Option (Int32)
  | 0, _, _, _ => none
  | n + 1, v1, v2, v3 =>
    if (10 : Int32) ≤ v3 then some (0 : Int32) else if v2 = ((-1) : Int32) then some (0 : Int32) else (p_X9_pick fu 10 ((x 5).1 5) v2).bind fun r_23 => if r_23 = v1 then some (1 : Int32) else p_X9_isInRing_L4 fu x  n v1 r_23 (v3 + 1)
def p_X9_isInRing (fu : Nat) (x : Nat → Ob) (v1 : Int32) : Option (Int32) :=
  p_X9_isInRing_L4 fu x fu v1 v1 0
abbrev rm_X9_isInRing : Room := { frames := 1, cells := 0, slots := 0, locals := 21 }
set_option maxHeartbeats 4000000 in
set_option maxRecDepth 100000 in
theorem b_X9_isInRing {p : Program} {l : Launch} {e : Env} {s : State} {m : MethodId} {args : Array Value} {below : List Frame} {meth : Method} {c : Code} {ls : Array Slot} {D : va_G} {ct : Nat → ClassId} {G : GT} (A : Nat → Nat) (fu : Nat) (x : Nat → Ob) (v1 : Int32) {r : Int32} (hx : p.tables.exec = Jvm.exec) (hb : c.code = cX9_isInRing) (hr : meth.sig.returnType = (some .boolean)) (hml : c.maxLocals = 4) (hown : s.vm.findClass RX9 = some m.cls) (htl : ∀ w ∈ wsL_law, w.before args s = true) (hlocks : meth.locks = false) (hK : va_K D vwCl (tyl ct) s) (hN : ∀ w ∈ NW, va_Nw w s) (hX : SX G s s.heap) (hP0 : va_P D vwCl (csQ ct A x) s.heap) (hf : p_X9_isInRing fu x v1 = some r)  (hl : lv_has ls 4 [(0, .ref (A 0)), (1, .int v1)]) : W p l e rm_X9_isInRing s m args below meth c s.heap [] 0 0 (MQ below (Qro (some (.int r))) args s 0 0 (fun _ => False)) (F0 m 0 ls []) := by
  generalize hQQ : MQ below (Qro (some (.int r))) args s 0 0 (fun _ => False) = QQ
  have hP := hP0
  have hL4 : ∀ (n : Nat) (v1 : Int32) (v2 : Int32) (v3 : Int32), ∀ (ls : Array Slot), lv_has ls 4 [(0, .ref (A 0)), (1, .int v1), (2, .int v2), (3, .int v3)] → p_X9_isInRing_L4 fu x  n v1 v2 v3 = some r → W p l e rm_X9_isInRing s m args below meth c s.heap [] 0 0 QQ (F0 m 4 ls []) := by
    intro  n
    induction n with
    | zero =>
      intro v1 v2 v3 ls hl hf 
      rw [p_X9_isInRing_L4] at hf
      cases hf
    | succ n ih =>
      intro v1 v2 v3 ls hl hf 
      rw [p_X9_isInRing_L4] at hf
      refine lv_iload_n hx hb dX9_isInRing_4 rfl (lv_at hl 3 rfl) ?_
      refine lv_bipush (v := 10) hx hb dX9_isInRing_5 (by decide) ?_
      refine lv_icmp_ge (tgt := 40) hx hb dX9_isInRing_7 (by decide) (fun c_7 => ?_) (fun c_7 => ?_)
      · rw [if_pos c_7] at hf
        refine lv_iconst (v := 0) hx hb dX9_isInRing_40 (by decide) ?_
        rw [← hQQ]
        exact rf_z hx hb hr hlocks rfl hf dX9_isInRing_41
      rw [if_neg c_7] at hf
      refine lv_iload_n hx hb dX9_isInRing_10 rfl (lv_at hl 2 rfl) ?_
      refine lv_iconst (v := (-1)) hx hb dX9_isInRing_11 (by decide) ?_
      refine lv_icmp_eq (tgt := 40) hx hb dX9_isInRing_12 (by decide) (fun c_12 => ?_) (fun c_12 => ?_)
      · rw [if_pos c_12] at hf
        refine lv_iconst (v := 0) hx hb dX9_isInRing_40 (by decide) ?_
        rw [← hQQ]
        exact rf_z hx hb hr hlocks rfl hf dX9_isInRing_41
      rw [if_neg c_12] at hf
      refine lv_aload_n hx hb dX9_isInRing_15 rfl (lv_at hl 0 rfl) ?_
      refine va_get (D := D) (ci := 9) (v := .ref (A 21)) (C := RX9) (T := TX9) (N := 14) hx hb htl inlX9 hown hK hP 0 qh_0 rfl 2 (by decide) (htl _ wq_2_0) (fun _ h9 => h9) rfl dX9_isInRing_16 ?_
      refine va_getN (D := D) (ci := 2) (v := .ref (A 22)) (C := RX2) (T := TX2) (N := 20) hx hb htl inlX2 hown hK hP 21 qh_5 rfl 5 (by decide) (va_Nw.use rfl (hN _ nm_4)) (fun _ h9 => h9) rfl dX9_isInRing_19 ?_
      refine lv_iload_n hx hb dX9_isInRing_22 rfl (lv_at hl 2 rfl) ?_
      obtain ⟨r_23, e_23, hf⟩ := ob_bind hf
      have hPX_23 : va_P D vwCl ([((A 22), .inl (ct 0, 10, .inl ((x 5).1 5)))]) s.heap := (P_one hP 22 qat_22)
      refine ro_call1 (va_runS (As := [.ref (A 22), .int v2]) (rest := []) ⟨hx, hb, hml, hown, htl⟩ (c_X9_pick l D ct G (A 22) fu 10 ((x 5).1 5) v2 e_23) (cw_X9_X9_pick htl ⟨Nat.le_of_ble_eq_true rfl, Nat.le_of_ble_eq_true rfl⟩) ⟨Bx_blind, Bx_pre hPX_23 hK hN hX⟩ rfl rfl hl.1 rfl (lv_room (Nat.le_of_ble_eq_true rfl)) dX9_isInRing_23 ⟨Nat.zero_le _, Nat.zero_le _⟩) ?_
      refine lv_istore_n (lv' := [(2, .int r_23), (0, .ref (A 0)), (1, .int v1), (3, .int v3)]) hx hb dX9_isInRing_26 rfl hl (by decide) rfl (fun ls hl => ?_)
      refine lv_iload_n hx hb dX9_isInRing_27 rfl (lv_at hl 0 rfl) ?_
      refine lv_iload_n hx hb dX9_isInRing_28 rfl (lv_at hl 2 rfl) ?_
      refine lv_icmp_ne (tgt := 34) hx hb dX9_isInRing_29 (by decide) (fun c_29 => ?_) (fun c_29 => ?_)
      · rw [if_neg c_29] at hf
        refine lv_iinc (v := (v3 + 1)) (lv' := [(3, .int (v3 + 1)), (2, .int r_23), (0, .ref (A 0)), (1, .int v1)]) hx hb dX9_isInRing_34 hl (k := 3) rfl rfl (by decide) rfl (fun ls hl => ?_)
        refine lv_goto (tgt := 4) hx hb dX9_isInRing_37 (by decide) ?_
        exact ih v1 r_23 (v3 + 1) _ (lv_sub hl [2, 3, 1, 0] rfl) hf 
      rw [if_pos c_29] at hf
      refine lv_iconst (v := 1) hx hb dX9_isInRing_32 (by decide) ?_
      rw [← hQQ]
      exact rf_z hx hb hr hlocks rfl hf dX9_isInRing_33
  rw [p_X9_isInRing] at hf
  refine lv_iload_n hx hb dX9_isInRing_0 rfl (lv_at hl 1 rfl) ?_
  refine lv_istore_n (lv' := [(2, .int v1), (0, .ref (A 0)), (1, .int v1)]) hx hb dX9_isInRing_1 rfl hl (by decide) rfl (fun ls hl => ?_)
  refine lv_iconst (v := 0) hx hb dX9_isInRing_2 (by decide) ?_
  refine lv_istore_n (lv' := [(3, .int 0), (2, .int v1), (0, .ref (A 0)), (1, .int v1)]) hx hb dX9_isInRing_3 rfl hl (by decide) rfl (fun ls hl => ?_)
  exact hL4 fu v1 v1 0 _ (lv_sub hl [2, 3, 1, 0] rfl) hf 
theorem c_X9_isInRing (l : Launch) (D : va_G) (ct : Nat → ClassId) (G : GT) (A : Nat → Nat) (fu : Nat) (x : Nat → Ob) (v1 : Int32) {r : Int32} (hf : p_X9_isInRing fu x v1 = some r)  : Met l yX9_isInRing (.code yX9_isInRing cX9_isInRing 4 (some .boolean) :: wsL_law) rm_X9_isInRing (va_Pc [.ref (A 0), .int v1] (Bx D ct G (csQ ct A x))) (Qro (some (.int r))) 0 0 (fun _ => False) := by
  refine Met.ofW (cc := cX9_isInRing) (maxL := 4) (ret := (some .boolean)) (by decide) rfl ?_
  intro p e s m args below meth c s₁ B hml hv
  obtain ⟨rfl, hP, hK, hN, hX⟩ := hv
  have hts := atoms_spec (ws := .code yX9_isInRing cX9_isInRing 4 (some .boolean) :: wsL_law) B.pre
  rw [lg_entry_eq]
  exact b_X9_isInRing A fu x v1 B.exec B.bytes B.returns hml (findClass_of_methodNamed B.named) (fun w h => hts w (List.mem_cons_of_mem _ h)) B.notSynchronized hK hN hX hP hf   (lv_entry [.ref (A 0), .int v1] (n := 4) (Nat.le_of_ble_eq_true rfl))
theorem hd_X9_isInRing : yX9_isInRing.cls ≠ "java/lang/invoke/MethodHandle" ∧ yX9_isInRing.cls ≠ "java/lang/invoke/VarHandle" ∧ (parseMethodDescriptor yX9_isInRing.desc).map (fun d => d.parameters.length) = some 1 := by decide +kernel
theorem cw_X9_X9_isInRing {R : Room} {s : State} {args : Array Value} (ht : ∀ w ∈ wsL_law, w.before args s = true) (hR : rm_X9_isInRing.frames + 1 ≤ R.frames ∧ 8 + (4 + 11) + rm_X9_isInRing.locals ≤ R.locals) : CallW R s args RX9 RX9 253 yX9_isInRing cX9_isInRing 4 (some .boolean) ((.code yX9_isInRing cX9_isInRing 4 (some .boolean)) :: wsL_law) rm_X9_isInRing 0 0 1 := cwV 1 ht (GV wq_34_2 wq_34_3 wq_34_4 wq_1_2 wq_34_5) rfl rfl rfl ⟨rfl, hd_X9_isInRing⟩ hR
def p_X9_rings_L17 (fu : Nat) (x : Nat → Ob)  : Nat → Int32 → Int32 → Option (Int32)
  | 0, _, _ => none
  | n + 1, v1, v2 =>
    if ((x 5).1 4 0) ≤ v2 then some v1 else (p_X9_isInRing fu x v2).bind fun r_30 => if r_30 = 0 then p_X9_rings_L17 fu x  n v1 (v2 + 1) else (p_X9_bit fu v2).bind fun r_38 => p_X9_rings_L17 fu x  n (v1 ||| r_38) (v2 + 1)
def p_X9_rings (fu : Nat) (x : Nat → Ob) : Option (Int32) :=
  if ((x 5).1 0 0) = 0 then some ((-2) : Int32) else p_X9_rings_L17 fu x fu 0 0
abbrev rm_X9_rings : Room := { frames := 2, cells := 0, slots := 0, locals := 44 }
set_option maxHeartbeats 4000000 in
set_option maxRecDepth 100000 in
theorem b_X9_rings {p : Program} {l : Launch} {e : Env} {s : State} {m : MethodId} {args : Array Value} {below : List Frame} {meth : Method} {c : Code} {ls : Array Slot} {D : va_G} {ct : Nat → ClassId} {G : GT} (A : Nat → Nat) (fu : Nat) (x : Nat → Ob) {r : Int32} (hx : p.tables.exec = Jvm.exec) (hb : c.code = cX9_rings) (hr : meth.sig.returnType = (some .int)) (hml : c.maxLocals = 3) (hown : s.vm.findClass RX9 = some m.cls) (htl : ∀ w ∈ wsL_law, w.before args s = true) (hlocks : meth.locks = false) (hK : va_K D vwCl (tyl ct) s) (hN : ∀ w ∈ NW, va_Nw w s) (hX : SX G s s.heap) (hP0 : va_P D vwCl (csQ ct A x) s.heap) (hf : p_X9_rings fu x = some r)  (hl : lv_has ls 3 [(0, .ref (A 0))]) : W p l e rm_X9_rings s m args below meth c s.heap [] 0 0 (MQ below (Qro (some (.int r))) args s 0 0 (fun _ => False)) (F0 m 0 ls []) := by
  generalize hQQ : MQ below (Qro (some (.int r))) args s 0 0 (fun _ => False) = QQ
  have hP := hP0
  have hL17 : ∀ (n : Nat) (v1 : Int32) (v2 : Int32), ∀ (ls : Array Slot), lv_has ls 3 [(0, .ref (A 0)), (1, .int v1), (2, .int v2)] → p_X9_rings_L17 fu x  n v1 v2 = some r → W p l e rm_X9_rings s m args below meth c s.heap [] 0 0 QQ (F0 m 17 ls []) := by
    intro  n
    induction n with
    | zero =>
      intro v1 v2 ls hl hf 
      rw [p_X9_rings_L17] at hf
      cases hf
    | succ n ih =>
      intro v1 v2 ls hl hf 
      rw [p_X9_rings_L17] at hf
      refine lv_iload_n hx hb dX9_rings_17 rfl (lv_at hl 2 rfl) ?_
      refine lv_aload_n hx hb dX9_rings_18 rfl (lv_at hl 0 rfl) ?_
      refine va_get (D := D) (ci := 9) (v := .ref (A 21)) (C := RX9) (T := TX9) (N := 14) hx hb htl inlX9 hown hK hP 0 qh_0 rfl 2 (by decide) (htl _ wq_2_0) (fun _ h9 => h9) rfl dX9_rings_19 ?_
      refine va_getN (D := D) (ci := 2) (v := .int ((x 5).1 4 0)) (C := RX2) (T := TX2) (N := 20) hx hb htl inlX2 hown hK hP 21 qh_5 rfl 4 (by decide) (va_Nw.use rfl (hN _ nm_23)) (fun _ h9 => h9) rfl dX9_rings_22 ?_
      refine lv_icmp_ge (tgt := 49) hx hb dX9_rings_25 (by decide) (fun c_25 => ?_) (fun c_25 => ?_)
      · rw [if_pos c_25] at hf
        refine lv_iload_n hx hb dX9_rings_49 rfl (lv_at hl 1 rfl) ?_
        rw [← hQQ]
        exact rf_i hx hb hr hlocks hf dX9_rings_50
      rw [if_neg c_25] at hf
      refine lv_aload_n hx hb dX9_rings_28 rfl (lv_at hl 0 rfl) ?_
      refine lv_iload_n hx hb dX9_rings_29 rfl (lv_at hl 2 rfl) ?_
      obtain ⟨r_30, e_30, hf⟩ := ob_bind hf
      have hPX_30 : va_P D vwCl (csQ ct A x) s.heap := hP
      refine ro_call1 (va_runV (As := [.int v2]) (rest := []) ⟨hx, hb, hml, hown, htl⟩ (c_X9_isInRing l D ct G A fu x v2 e_30) (cw_X9_X9_isInRing htl ⟨Nat.le_of_ble_eq_true rfl, Nat.le_of_ble_eq_true rfl⟩) ⟨Bx_blind, va_recv hK hPX_30 (ci := 9) (q0 := 0) rfl rfl, Bx_pre hPX_30 hK hN hX⟩ rfl rfl hl.1 rfl (lv_room (Nat.le_of_ble_eq_true rfl)) dX9_rings_30 ⟨Nat.zero_le _, Nat.zero_le _⟩) ?_
      refine lv_if_eq (tgt := 43) hx hb dX9_rings_33 (by decide) (fun c_33 => ?_) (fun c_33 => ?_)
      · rw [if_pos c_33] at hf
        refine lv_iinc (v := (v2 + 1)) (lv' := [(2, .int (v2 + 1)), (0, .ref (A 0)), (1, .int v1)]) hx hb dX9_rings_43 hl (k := 2) rfl rfl (by decide) rfl (fun ls hl => ?_)
        refine lv_goto (tgt := 17) hx hb dX9_rings_46 (by decide) ?_
        exact ih v1 (v2 + 1) _ (lv_sub hl [1, 2, 0] rfl) hf 
      rw [if_neg c_33] at hf
      refine lv_iload_n hx hb dX9_rings_36 rfl (lv_at hl 1 rfl) ?_
      refine lv_iload_n hx hb dX9_rings_37 rfl (lv_at hl 2 rfl) ?_
      obtain ⟨r_38, e_38, hf⟩ := ob_bind hf
      have hPX_38 : va_P D vwCl ([]) s.heap := P_nil
      refine ro_call1 (va_runS (As := [.int v2]) (rest := [.int v1]) ⟨hx, hb, hml, hown, htl⟩ (c_X9_bit l D ct G fu v2 e_38) (cw_X9_X9_bit htl ⟨Nat.le_of_ble_eq_true rfl, Nat.le_of_ble_eq_true rfl⟩) ⟨Bx_blind, Bx_pre hPX_38 hK hN hX⟩ rfl rfl hl.1 rfl (lv_room (Nat.le_of_ble_eq_true rfl)) dX9_rings_38 ⟨Nat.zero_le _, Nat.zero_le _⟩) ?_
      refine lv_ior hx hb dX9_rings_41 ?_
      refine lv_istore_n (lv' := [(1, .int (v1 ||| r_38)), (0, .ref (A 0)), (2, .int v2)]) hx hb dX9_rings_42 rfl hl (by decide) rfl (fun ls hl => ?_)
      refine lv_iinc (v := (v2 + 1)) (lv' := [(2, .int (v2 + 1)), (1, .int (v1 ||| r_38)), (0, .ref (A 0))]) hx hb dX9_rings_43 hl (k := 2) rfl rfl (by decide) rfl (fun ls hl => ?_)
      refine lv_goto (tgt := 17) hx hb dX9_rings_46 (by decide) ?_
      exact ih (v1 ||| r_38) (v2 + 1) _ (lv_sub hl [2, 1, 0] rfl) hf 
  rw [p_X9_rings] at hf
  refine lv_aload_n hx hb dX9_rings_0 rfl (lv_at hl 0 rfl) ?_
  refine va_get (D := D) (ci := 9) (v := .ref (A 21)) (C := RX9) (T := TX9) (N := 14) hx hb htl inlX9 hown hK hP 0 qh_0 rfl 2 (by decide) (htl _ wq_2_0) (fun _ h9 => h9) rfl dX9_rings_1 ?_
  refine va_getN (D := D) (ci := 2) (v := .int ((x 5).1 0 0)) (C := RX2) (T := TX2) (N := 20) hx hb htl inlX2 hown hK hP 21 qh_5 rfl 0 (by decide) (va_Nw.use rfl (hN _ nm_14)) (fun _ h9 => h9) rfl dX9_rings_4 ?_
  refine lv_if_ne (tgt := 13) hx hb dX9_rings_7 (by decide) (fun c_7 => ?_) (fun c_7 => ?_)
  rotate_left 1
  · rw [if_pos c_7] at hf
    refine lv_bipush (v := (-2)) hx hb dX9_rings_10 (by decide) ?_
    rw [← hQQ]
    exact rf_i hx hb hr hlocks hf dX9_rings_12
  rw [if_neg c_7] at hf
  refine lv_iconst (v := 0) hx hb dX9_rings_13 (by decide) ?_
  refine lv_istore_n (lv' := [(1, .int 0), (0, .ref (A 0))]) hx hb dX9_rings_14 rfl hl (by decide) rfl (fun ls hl => ?_)
  refine lv_iconst (v := 0) hx hb dX9_rings_15 (by decide) ?_
  refine lv_istore_n (lv' := [(2, .int 0), (1, .int 0), (0, .ref (A 0))]) hx hb dX9_rings_16 rfl hl (by decide) rfl (fun ls hl => ?_)
  exact hL17 fu 0 0 _ (lv_sub hl [2, 1, 0] rfl) hf 
theorem c_X9_rings (l : Launch) (D : va_G) (ct : Nat → ClassId) (G : GT) (A : Nat → Nat) (fu : Nat) (x : Nat → Ob) {r : Int32} (hf : p_X9_rings fu x = some r)  : Met l yX9_rings (.code yX9_rings cX9_rings 3 (some .int) :: wsL_law) rm_X9_rings (va_Pc [.ref (A 0)] (Bx D ct G (csQ ct A x))) (Qro (some (.int r))) 0 0 (fun _ => False) := by
  refine Met.ofW (cc := cX9_rings) (maxL := 3) (ret := (some .int)) (by decide) rfl ?_
  intro p e s m args below meth c s₁ B hml hv
  obtain ⟨rfl, hP, hK, hN, hX⟩ := hv
  have hts := atoms_spec (ws := .code yX9_rings cX9_rings 3 (some .int) :: wsL_law) B.pre
  rw [lg_entry_eq]
  exact b_X9_rings A fu x B.exec B.bytes B.returns hml (findClass_of_methodNamed B.named) (fun w h => hts w (List.mem_cons_of_mem _ h)) B.notSynchronized hK hN hX hP hf   (lv_entry [.ref (A 0)] (n := 3) (Nat.le_of_ble_eq_true rfl))
theorem cw_X9_X2_takesTurn {R : Room} {s : State} {args : Array Value} (ht : ∀ w ∈ wsL_law, w.before args s = true) (hN : ∀ w ∈ NW, va_Nw w s) (hR : rm_X2_takesTurn.frames + 1 ≤ R.frames ∧ 8 + (4 + 11) + rm_X2_takesTurn.locals ≤ R.locals) : va_CN R s args RX9 259 yX2_takesTurn "QuotedRiver" cX2_takesTurn 4 (some .boolean) ((.code yX2_takesTurn cX2_takesTurn 4 (some .boolean)) :: wsL_law) rm_X2_takesTurn 0 0 2 ∧ (Cond.instanceMethod yX2_takesTurn).before args s = true ∧ (Cond.selects RX2 yX2_takesTurn yX2_takesTurn).before args s = true := ⟨va_cnB 2 ht (GL wq_26_6) rfl rfl rfl (hN _ nm_91) (ht _ wq_1_23) hd_X2_takesTurn hR, ht _ wq_26_4, ht _ wq_26_5⟩
def p_X9_goes (fu : Nat) (x : Nat → Ob) (v1 : Int32) (v2 : Int32) : Option (Int32) :=
  (p_X9_isJoin fu x v1).bind fun r_2 => if r_2 = 0 then some ((-2) : Int32) else (p_X9_isStep fu v2).bind fun r_9 => if r_9 = 0 then some ((-2) : Int32) else (p_X9_bit fu v1).bind fun r_26 => if (((x 10).1 2 0) &&& r_26) = 0 then (p_X2_takesTurn fu (x 5) v1 v2).bind fun r_39 => if r_39 = 0 then some (0 : Int32) else some (1 : Int32) else some (0 : Int32)
abbrev rm_X9_goes : Room := { frames := 2, cells := 0, slots := 0, locals := 44 }
set_option maxHeartbeats 4000000 in
set_option maxRecDepth 100000 in
theorem b_X9_goes {p : Program} {l : Launch} {e : Env} {s : State} {m : MethodId} {args : Array Value} {below : List Frame} {meth : Method} {c : Code} {ls : Array Slot} {D : va_G} {ct : Nat → ClassId} {G : GT} (A : Nat → Nat) (fu : Nat) (x : Nat → Ob) (v1 : Int32) (v2 : Int32) {r : Int32} (hx : p.tables.exec = Jvm.exec) (hb : c.code = cX9_goes) (hr : meth.sig.returnType = (some .int)) (hml : c.maxLocals = 3) (hown : s.vm.findClass RX9 = some m.cls) (htl : ∀ w ∈ wsL_law, w.before args s = true) (hlocks : meth.locks = false) (hK : va_K D vwCl (tyl ct) s) (hN : ∀ w ∈ NW, va_Nw w s) (hX : SX G s s.heap) (hP0 : va_P D vwCl (csQ ct A x) s.heap) (hf : p_X9_goes fu x v1 v2 = some r)  (hl : lv_has ls 3 [(0, .ref (A 0)), (1, .int v1), (2, .int v2)]) : W p l e rm_X9_goes s m args below meth c s.heap [] 0 0 (MQ below (Qro (some (.int r))) args s 0 0 (fun _ => False)) (F0 m 0 ls []) := by
  generalize hQQ : MQ below (Qro (some (.int r))) args s 0 0 (fun _ => False) = QQ
  have hP := hP0
  rw [p_X9_goes] at hf
  refine lv_aload_n hx hb dX9_goes_0 rfl (lv_at hl 0 rfl) ?_
  refine lv_iload_n hx hb dX9_goes_1 rfl (lv_at hl 1 rfl) ?_
  obtain ⟨r_2, e_2, hf⟩ := ob_bind hf
  have hPX_2 : va_P D vwCl (csQ ct A x) s.heap := hP
  refine ro_call1 (va_runV (As := [.int v1]) (rest := []) ⟨hx, hb, hml, hown, htl⟩ (c_X9_isJoin l D ct G A fu x v1 e_2) (cw_X9_X9_isJoin htl ⟨Nat.le_of_ble_eq_true rfl, Nat.le_of_ble_eq_true rfl⟩) ⟨Bx_blind, va_recv hK hPX_2 (ci := 9) (q0 := 0) rfl rfl, Bx_pre hPX_2 hK hN hX⟩ rfl rfl hl.1 rfl (lv_room (Nat.le_of_ble_eq_true rfl)) dX9_goes_2 ⟨Nat.zero_le _, Nat.zero_le _⟩) ?_
  refine lv_if_eq (tgt := 15) hx hb dX9_goes_5 (by decide) (fun c_5 => ?_) (fun c_5 => ?_)
  · rw [if_pos c_5] at hf
    refine lv_bipush (v := (-2)) hx hb dX9_goes_15 (by decide) ?_
    rw [← hQQ]
    exact rf_i hx hb hr hlocks hf dX9_goes_17
  rw [if_neg c_5] at hf
  refine lv_iload_n hx hb dX9_goes_8 rfl (lv_at hl 2 rfl) ?_
  obtain ⟨r_9, e_9, hf⟩ := ob_bind hf
  have hPX_9 : va_P D vwCl ([]) s.heap := P_nil
  refine ro_call1 (va_runS (As := [.int v2]) (rest := []) ⟨hx, hb, hml, hown, htl⟩ (c_X9_isStep l D ct G fu v2 e_9) (cw_X9_X9_isStep htl ⟨Nat.le_of_ble_eq_true rfl, Nat.le_of_ble_eq_true rfl⟩) ⟨Bx_blind, Bx_pre hPX_9 hK hN hX⟩ rfl rfl hl.1 rfl (lv_room (Nat.le_of_ble_eq_true rfl)) dX9_goes_9 ⟨Nat.zero_le _, Nat.zero_le _⟩) ?_
  refine lv_if_ne (tgt := 18) hx hb dX9_goes_12 (by decide) (fun c_12 => ?_) (fun c_12 => ?_)
  rotate_left 1
  · rw [if_pos c_12] at hf
    refine lv_bipush (v := (-2)) hx hb dX9_goes_15 (by decide) ?_
    rw [← hQQ]
    exact rf_i hx hb hr hlocks hf dX9_goes_17
  rw [if_neg c_12] at hf
  refine lv_aload_n hx hb dX9_goes_18 rfl (lv_at hl 0 rfl) ?_
  refine va_get (D := D) (ci := 9) (v := .ref (A 87)) (C := RX9) (T := TX9) (N := 14) hx hb htl inlX9 hown hK hP 0 qh_0 rfl 6 (by decide) (htl _ wq_2_7) (fun _ h9 => h9) rfl dX9_goes_19 ?_
  refine va_getN (D := D) (ci := 8) (v := .int ((x 10).1 2 0)) (C := RX8) (T := TX8) (N := 3) hx hb htl inlX8 hown hK hP 87 qh_10 rfl 2 (by decide) (va_Nw.use rfl (hN _ nm_25)) (fun _ h9 => h9) rfl dX9_goes_22 ?_
  refine lv_iload_n hx hb dX9_goes_25 rfl (lv_at hl 1 rfl) ?_
  obtain ⟨r_26, e_26, hf⟩ := ob_bind hf
  have hPX_26 : va_P D vwCl ([]) s.heap := P_nil
  refine ro_call1 (va_runS (As := [.int v1]) (rest := [.int ((x 10).1 2 0)]) ⟨hx, hb, hml, hown, htl⟩ (c_X9_bit l D ct G fu v1 e_26) (cw_X9_X9_bit htl ⟨Nat.le_of_ble_eq_true rfl, Nat.le_of_ble_eq_true rfl⟩) ⟨Bx_blind, Bx_pre hPX_26 hK hN hX⟩ rfl rfl hl.1 rfl (lv_room (Nat.le_of_ble_eq_true rfl)) dX9_goes_26 ⟨Nat.zero_le _, Nat.zero_le _⟩) ?_
  refine lv_iand hx hb dX9_goes_29 ?_
  refine lv_if_ne (tgt := 49) hx hb dX9_goes_30 (by decide) (fun c_30 => ?_) (fun c_30 => ?_)
  · rw [if_neg c_30] at hf
    refine lv_iconst (v := 0) hx hb dX9_goes_49 (by decide) ?_
    rw [← hQQ]
    exact rf_i hx hb hr hlocks hf dX9_goes_50
  rw [if_pos c_30] at hf
  refine lv_aload_n hx hb dX9_goes_33 rfl (lv_at hl 0 rfl) ?_
  refine va_get (D := D) (ci := 9) (v := .ref (A 21)) (C := RX9) (T := TX9) (N := 14) hx hb htl inlX9 hown hK hP 0 qh_0 rfl 2 (by decide) (htl _ wq_2_0) (fun _ h9 => h9) rfl dX9_goes_34 ?_
  refine lv_iload_n hx hb dX9_goes_37 rfl (lv_at hl 1 rfl) ?_
  refine lv_iload_n hx hb dX9_goes_38 rfl (lv_at hl 2 rfl) ?_
  obtain ⟨r_39, e_39, hf⟩ := ob_bind hf
  have hPX_39 : va_P D vwCl (cs2 ct (fun i => A (21 + i)) (x 5)) s.heap := (qs_5 hP)
  refine ro_call1 (va_runVN (As := [.int v1, .int v2]) (rest := []) ⟨hx, hb, hml, hown, htl⟩ (c_X2_takesTurn l D ct G (fun i => A (21 + i)) fu (x 5) v1 v2 e_39) (cw_X9_X2_takesTurn htl hN ⟨Nat.le_of_ble_eq_true rfl, Nat.le_of_ble_eq_true rfl⟩) ⟨Bx_blind, va_recv hK hPX_39 (ci := 2) (q0 := 0) rfl rfl, Bx_pre hPX_39 hK hN hX⟩ rfl rfl hl.1 rfl (lv_room (Nat.le_of_ble_eq_true rfl)) dX9_goes_39 ⟨Nat.zero_le _, Nat.zero_le _⟩) ?_
  refine lv_if_eq (tgt := 49) hx hb dX9_goes_42 (by decide) (fun c_42 => ?_) (fun c_42 => ?_)
  · rw [if_pos c_42] at hf
    refine lv_iconst (v := 0) hx hb dX9_goes_49 (by decide) ?_
    rw [← hQQ]
    exact rf_i hx hb hr hlocks hf dX9_goes_50
  rw [if_neg c_42] at hf
  refine lv_iconst (v := 1) hx hb dX9_goes_45 (by decide) ?_
  refine lv_goto (tgt := 50) hx hb dX9_goes_46 (by decide) ?_
  rw [← hQQ]
  exact rf_i hx hb hr hlocks hf dX9_goes_50
theorem c_X9_goes (l : Launch) (D : va_G) (ct : Nat → ClassId) (G : GT) (A : Nat → Nat) (fu : Nat) (x : Nat → Ob) (v1 : Int32) (v2 : Int32) {r : Int32} (hf : p_X9_goes fu x v1 v2 = some r)  : Met l yX9_goes (.code yX9_goes cX9_goes 3 (some .int) :: wsL_law) rm_X9_goes (va_Pc [.ref (A 0), .int v1, .int v2] (Bx D ct G (csQ ct A x))) (Qro (some (.int r))) 0 0 (fun _ => False) := by
  refine Met.ofW (cc := cX9_goes) (maxL := 3) (ret := (some .int)) (by decide) rfl ?_
  intro p e s m args below meth c s₁ B hml hv
  obtain ⟨rfl, hP, hK, hN, hX⟩ := hv
  have hts := atoms_spec (ws := .code yX9_goes cX9_goes 3 (some .int) :: wsL_law) B.pre
  rw [lg_entry_eq]
  exact b_X9_goes A fu x v1 v2 B.exec B.bytes B.returns hml (findClass_of_methodNamed B.named) (fun w h => hts w (List.mem_cons_of_mem _ h)) B.notSynchronized hK hN hX hP hf   (lv_entry [.ref (A 0), .int v1, .int v2] (n := 3) (Nat.le_of_ble_eq_true rfl))
def p_X9_can_L15 (fu : Nat)  : Nat → (Nat → Ob) → Int32 → Int32 → Int32 → Option (Int32 × (Nat → Ob))
  | 0, _, _, _, _ => none
  | n + 1, xz, v1, v2, v3 =>
    if (60 : Int32) < v3 then some (v2, xz) else (p_X5_drift fu (xz 12) (xz 5) (xz 10) v1 v3).bind fun r_35 => p_X9_can_L15 fu  n (va_up xz 12 r_35) v1 (v2 ||| (((va_up xz 12 r_35) 12).1 1 0)) (v3 + 1)
def p_X9_can (fu : Nat) (x : Nat → Ob) (v1 : Int32) : Option (Int32 × (Nat → Ob)) :=
  (p_X9_isReach fu x v1).bind fun r_2 => if r_2 = 0 then some (((-2) : Int32), x) else p_X9_can_L15 fu fu x v1 0 0
abbrev rm_X9_can : Room := { frames := 4, cells := 0, slots := 0, locals := 97 }
set_option maxHeartbeats 4000000 in
set_option maxRecDepth 100000 in
theorem b_X9_can {p : Program} {l : Launch} {e : Env} {s : State} {m : MethodId} {args : Array Value} {below : List Frame} {meth : Method} {c : Code} {ls : Array Slot} {D : va_G} {ct : Nat → ClassId} {G : GT} (A : Nat → Nat) (fu : Nat) (x : Nat → Ob) (v1 : Int32) {r : Int32 × (Nat → Ob)} (hx : p.tables.exec = Jvm.exec) (hb : c.code = cX9_can) (hr : meth.sig.returnType = (some .int)) (hml : c.maxLocals = 4) (hown : s.vm.findClass RX9 = some m.cls) (htl : ∀ w ∈ wsL_law, w.before args s = true) (hlocks : meth.locks = false) (hK : va_K D vwCl (tyl ct) s) (hN : ∀ w ∈ NW, va_Nw w s) (hX : SX G s s.heap) (hP0 : va_P D vwCl (csQ ct A x) s.heap) (hf : p_X9_can fu x v1 = some r) (hDx : ∀ x : Nat → Ob, va_D (GE G) (csQ ct A x))  (hl : lv_has ls 4 [(0, .ref (A 0)), (1, .int v1)]) : W p l e rm_X9_can s m args below meth c s.heap [] 0 0 (MQ below (Qwr (some (.int r.1)) (fun H => va_P D vwCl (csQ ct A r.2) H) (wA (csQ ct A x))) args s 0 0 (wA (csQ ct A x))) (F0 m 0 ls []) := by
  generalize hQQ : MQ below (Qwr (some (.int r.1)) (fun H => va_P D vwCl (csQ ct A r.2) H) (wA (csQ ct A x))) args s 0 0 (wA (csQ ct A x)) = QQ
  have hDW : ∀ x1 : Nat → Ob, va_D (wA (csQ ct A x)) (csQ ct A x1) := fun x1 => D_any (D_self (hDx x1)) (wA_Q x1 x)
  have hGE : ∀ q, wA (csQ ct A x) q → GE G q := wA_GE (hDx x)
  have hP := hP0
  have hS : va_S (wA (csQ ct A x)) s.heap s.heap [] := va_S.rf
  have hL15 : ∀ (n : Nat) (xz : Nat → Ob) (v1 : Int32) (v2 : Int32) (v3 : Int32), ∀ (H : Heap) (locs : List Loc) (ls : Array Slot), va_P D vwCl (csQ ct A xz) H → va_S (wA (csQ ct A x)) s.heap H locs → lv_has ls 4 [(0, .ref (A 0)), (1, .int v1), (2, .int v2), (3, .int v3)] → p_X9_can_L15 fu  n xz v1 v2 v3 = some r → W p l e rm_X9_can s m args below meth c H locs 0 0 QQ (F0 m 15 ls []) := by
    intro  n
    induction n with
    | zero =>
      intro xz v1 v2 v3 H locs ls hP hS hl hf 
      rw [p_X9_can_L15] at hf
      cases hf
    | succ n ih =>
      intro xz v1 v2 v3 H locs ls hP hS hl hf 
      rw [p_X9_can_L15] at hf
      refine lv_iload_n hx hb dX9_can_15 rfl (lv_at hl 3 rfl) ?_
      refine lv_bipush (v := 60) hx hb dX9_can_16 (by decide) ?_
      refine lv_icmp_gt (tgt := 54) hx hb dX9_can_18 (by decide) (fun c_18 => ?_) (fun c_18 => ?_)
      · rw [if_pos c_18] at hf
        refine lv_iload_n hx hb dX9_can_54 rfl (lv_at hl 2 rfl) ?_
        rw [← hQQ]
        cases hf
        exact rw_i hx hb hr hlocks hP hS dX9_can_55
      rw [if_neg c_18] at hf
      refine lv_aload_n hx hb dX9_can_21 rfl (lv_at hl 0 rfl) ?_
      refine va_get (D := D) (ci := 9) (v := .ref (A 93)) (C := RX9) (T := TX9) (N := 14) hx hb htl inlX9 hown hK hP 0 qh_0 rfl 8 (by decide) (htl _ wq_2_12) (fun _ h9 => h9) rfl dX9_can_22 ?_
      refine lv_aload_n hx hb dX9_can_25 rfl (lv_at hl 0 rfl) ?_
      refine va_get (D := D) (ci := 9) (v := .ref (A 21)) (C := RX9) (T := TX9) (N := 14) hx hb htl inlX9 hown hK hP 0 qh_0 rfl 2 (by decide) (htl _ wq_2_0) (fun _ h9 => h9) rfl dX9_can_26 ?_
      refine lv_aload_n hx hb dX9_can_29 rfl (lv_at hl 0 rfl) ?_
      refine va_get (D := D) (ci := 9) (v := .ref (A 87)) (C := RX9) (T := TX9) (N := 14) hx hb htl inlX9 hown hK hP 0 qh_0 rfl 6 (by decide) (htl _ wq_2_7) (fun _ h9 => h9) rfl dX9_can_30 ?_
      refine lv_iload_n hx hb dX9_can_33 rfl (lv_at hl 1 rfl) ?_
      refine lv_iload_n hx hb dX9_can_34 rfl (lv_at hl 3 rfl) ?_
      obtain ⟨r_35, e_35, hf⟩ := ob_bind hf
      have hPX_35 : va_P D vwCl (cs5 ct (fun i => A (93 + i)) (xz 12) ++ (cs2 ct (fun i => A (21 + i)) (xz 5) ++ (cs8 ct (fun i => A (87 + i)) (xz 10)))) H := (va_P.app (qs_12 hP) (va_P.app (qs_5 hP) (qs_10 hP)))
      refine wr_call0 (va_runVN (As := [.ref (A 21), .ref (A 87), .int v1, .int v3]) (rest := []) ⟨hx, hb, hml, hown, htl⟩ (c_X5_drift l D ct G (fun i => A (93 + i)) (fun i => A (21 + i)) (fun i => A (87 + i)) fu (xz 12) (xz 5) (xz 10) v1 v3 e_35 ((hDx xz).sub (ws' := cs5 ct (fun i => A (93 + i)) (xz 12) ++ (cs2 ct (fun i => A (21 + i)) (xz 5) ++ (cs8 ct (fun i => A (87 + i)) (xz 10)))) [93, 94, 21, 22, 23, 24, 25, 26, 27, 28, 29, 30, 31, 32, 33, 87, 88, 89] (by decide) rfl)) (cw_X9_X5_drift htl hN ⟨Nat.le_of_ble_eq_true rfl, Nat.le_of_ble_eq_true rfl⟩) ⟨Bx_blind, va_recv hK hPX_35 (ci := 5) (q0 := 0) rfl rfl, Bx_pre hPX_35 hK hN (hX.stay hS hGE)⟩ rfl rfl hl.1 rfl (lv_room (Nat.le_of_ble_eq_true rfl)) dX9_can_35 ⟨Nat.zero_le _, Nat.zero_le _⟩) hS qa_12 (fun H_35 locs_35 hB_35 _ hk_35 hS => ?_)
      have hP : va_P D vwCl (csQ ct A (va_up xz 12 r_35)) H_35 := qj_12 hP (hDW xz) hk_35 hB_35
      refine lv_iload_n hx hb dX9_can_38 rfl (lv_at hl 2 rfl) ?_
      refine lv_aload_n hx hb dX9_can_39 rfl (lv_at hl 0 rfl) ?_
      refine va_get (D := D) (ci := 9) (v := .ref (A 93)) (C := RX9) (T := TX9) (N := 14) hx hb htl inlX9 hown hK hP 0 qh_0 rfl 8 (by decide) (htl _ wq_2_12) (fun _ h9 => h9) rfl dX9_can_40 ?_
      refine va_getN (D := D) (ci := 5) (v := .int (((va_up xz 12 r_35) 12).1 1 0)) (C := RX5) (T := TX5) (N := 9) hx hb htl inlX5 hown hK hP 93 qh_12 rfl 1 (by decide) (va_Nw.use rfl (hN _ nm_16)) (fun _ h9 => h9) rfl dX9_can_43 ?_
      refine lv_ior hx hb dX9_can_46 ?_
      refine lv_istore_n (lv' := [(2, .int (v2 ||| (((va_up xz 12 r_35) 12).1 1 0))), (0, .ref (A 0)), (1, .int v1), (3, .int v3)]) hx hb dX9_can_47 rfl hl (by decide) rfl (fun ls hl => ?_)
      refine lv_iinc (v := (v3 + 1)) (lv' := [(3, .int (v3 + 1)), (2, .int (v2 ||| (((va_up xz 12 r_35) 12).1 1 0))), (0, .ref (A 0)), (1, .int v1)]) hx hb dX9_can_48 hl (k := 3) rfl rfl (by decide) rfl (fun ls hl => ?_)
      refine lv_goto (tgt := 15) hx hb dX9_can_51 (by decide) ?_
      exact ih (va_up xz 12 r_35) v1 (v2 ||| (((va_up xz 12 r_35) 12).1 1 0)) (v3 + 1) _ _ _ hP hS (lv_sub hl [2, 3, 1, 0] rfl) hf 
  rw [p_X9_can] at hf
  refine lv_aload_n hx hb dX9_can_0 rfl (lv_at hl 0 rfl) ?_
  refine lv_iload_n hx hb dX9_can_1 rfl (lv_at hl 1 rfl) ?_
  obtain ⟨r_2, e_2, hf⟩ := ob_bind hf
  have hPX_2 : va_P D vwCl (csQ ct A x) s.heap := hP
  refine ro_call1 (va_runV (As := [.int v1]) (rest := []) ⟨hx, hb, hml, hown, htl⟩ (c_X9_isReach l D ct G A fu x v1 e_2) (cw_X9_X9_isReach htl ⟨Nat.le_of_ble_eq_true rfl, Nat.le_of_ble_eq_true rfl⟩) ⟨Bx_blind, va_recv hK hPX_2 (ci := 9) (q0 := 0) rfl rfl, Bx_pre hPX_2 hK hN (hX.stay hS hGE)⟩ rfl rfl hl.1 rfl (lv_room (Nat.le_of_ble_eq_true rfl)) dX9_can_2 ⟨Nat.zero_le _, Nat.zero_le _⟩) ?_
  refine lv_if_ne (tgt := 11) hx hb dX9_can_5 (by decide) (fun c_5 => ?_) (fun c_5 => ?_)
  rotate_left 1
  · rw [if_pos c_5] at hf
    refine lv_bipush (v := (-2)) hx hb dX9_can_8 (by decide) ?_
    rw [← hQQ]
    cases hf
    exact rw_i hx hb hr hlocks hP hS dX9_can_10
  rw [if_neg c_5] at hf
  refine lv_iconst (v := 0) hx hb dX9_can_11 (by decide) ?_
  refine lv_istore_n (lv' := [(2, .int 0), (0, .ref (A 0)), (1, .int v1)]) hx hb dX9_can_12 rfl hl (by decide) rfl (fun ls hl => ?_)
  refine lv_iconst (v := 0) hx hb dX9_can_13 (by decide) ?_
  refine lv_istore_n (lv' := [(3, .int 0), (2, .int 0), (0, .ref (A 0)), (1, .int v1)]) hx hb dX9_can_14 rfl hl (by decide) rfl (fun ls hl => ?_)
  exact hL15 fu x v1 0 0 _ _ _ hP hS (lv_sub hl [2, 3, 1, 0] rfl) hf 
theorem c_X9_can (l : Launch) (D : va_G) (ct : Nat → ClassId) (G : GT) (A : Nat → Nat) (fu : Nat) (x : Nat → Ob) (v1 : Int32) {r : Int32 × (Nat → Ob)} (hf : p_X9_can fu x v1 = some r)  (hDx : ∀ x : Nat → Ob, va_D (GE G) (csQ ct A x)) : Met l yX9_can (.code yX9_can cX9_can 4 (some .int) :: wsL_law) rm_X9_can (va_Pc [.ref (A 0), .int v1] (Bx D ct G (csQ ct A x))) (Qwr (some (.int r.1)) (fun H => va_P D vwCl (csQ ct A r.2) H) (wA (csQ ct A x))) 0 0 (wA (csQ ct A x)) := by
  refine Met.ofW (cc := cX9_can) (maxL := 4) (ret := (some .int)) (by decide) rfl ?_
  intro p e s m args below meth c s₁ B hml hv
  obtain ⟨rfl, hP, hK, hN, hX⟩ := hv
  have hts := atoms_spec (ws := .code yX9_can cX9_can 4 (some .int) :: wsL_law) B.pre
  rw [lg_entry_eq]
  exact b_X9_can A fu x v1 B.exec B.bytes B.returns hml (findClass_of_methodNamed B.named) (fun w h => hts w (List.mem_cons_of_mem _ h)) B.notSynchronized hK hN hX hP hf hDx  (lv_entry [.ref (A 0), .int v1] (n := 4) (Nat.le_of_ble_eq_true rfl))
def p_X9_coming (fu : Nat) (x : Nat → Ob) (v1 : Int32) (v2 : Int32) (v3 : Int32) : Option (Int32 × (Nat → Ob)) :=
  (p_X5_drift fu (x 12) (x 5) (x 10) v1 v2).bind fun r_14 => (p_X5_firstIn fu ((va_up x 12 r_14) 12) v3).bind fun r_22 => some (r_22, (va_up x 12 r_14))
abbrev rm_X9_coming : Room := { frames := 4, cells := 0, slots := 0, locals := 97 }
set_option maxHeartbeats 4000000 in
set_option maxRecDepth 100000 in
theorem b_X9_coming {p : Program} {l : Launch} {e : Env} {s : State} {m : MethodId} {args : Array Value} {below : List Frame} {meth : Method} {c : Code} {ls : Array Slot} {D : va_G} {ct : Nat → ClassId} {G : GT} (A : Nat → Nat) (fu : Nat) (x : Nat → Ob) (v1 : Int32) (v2 : Int32) (v3 : Int32) {r : Int32 × (Nat → Ob)} (hx : p.tables.exec = Jvm.exec) (hb : c.code = cX9_coming) (hr : meth.sig.returnType = (some .int)) (hml : c.maxLocals = 4) (hown : s.vm.findClass RX9 = some m.cls) (htl : ∀ w ∈ wsL_law, w.before args s = true) (hlocks : meth.locks = false) (hK : va_K D vwCl (tyl ct) s) (hN : ∀ w ∈ NW, va_Nw w s) (hX : SX G s s.heap) (hP0 : va_P D vwCl (csQ ct A x) s.heap) (hf : p_X9_coming fu x v1 v2 v3 = some r) (hDx : ∀ x : Nat → Ob, va_D (GE G) (csQ ct A x))  (hl : lv_has ls 4 [(0, .ref (A 0)), (1, .int v1), (2, .int v2), (3, .int v3)]) : W p l e rm_X9_coming s m args below meth c s.heap [] 0 0 (MQ below (Qwr (some (.int r.1)) (fun H => va_P D vwCl (csQ ct A r.2) H) (wA (csQ ct A x))) args s 0 0 (wA (csQ ct A x))) (F0 m 0 ls []) := by
  generalize hQQ : MQ below (Qwr (some (.int r.1)) (fun H => va_P D vwCl (csQ ct A r.2) H) (wA (csQ ct A x))) args s 0 0 (wA (csQ ct A x)) = QQ
  have hDW : ∀ x1 : Nat → Ob, va_D (wA (csQ ct A x)) (csQ ct A x1) := fun x1 => D_any (D_self (hDx x1)) (wA_Q x1 x)
  have hGE : ∀ q, wA (csQ ct A x) q → GE G q := wA_GE (hDx x)
  have hP := hP0
  have hS : va_S (wA (csQ ct A x)) s.heap s.heap [] := va_S.rf
  rw [p_X9_coming] at hf
  refine lv_aload_n hx hb dX9_coming_0 rfl (lv_at hl 0 rfl) ?_
  refine va_get (D := D) (ci := 9) (v := .ref (A 93)) (C := RX9) (T := TX9) (N := 14) hx hb htl inlX9 hown hK hP 0 qh_0 rfl 8 (by decide) (htl _ wq_2_12) (fun _ h9 => h9) rfl dX9_coming_1 ?_
  refine lv_aload_n hx hb dX9_coming_4 rfl (lv_at hl 0 rfl) ?_
  refine va_get (D := D) (ci := 9) (v := .ref (A 21)) (C := RX9) (T := TX9) (N := 14) hx hb htl inlX9 hown hK hP 0 qh_0 rfl 2 (by decide) (htl _ wq_2_0) (fun _ h9 => h9) rfl dX9_coming_5 ?_
  refine lv_aload_n hx hb dX9_coming_8 rfl (lv_at hl 0 rfl) ?_
  refine va_get (D := D) (ci := 9) (v := .ref (A 87)) (C := RX9) (T := TX9) (N := 14) hx hb htl inlX9 hown hK hP 0 qh_0 rfl 6 (by decide) (htl _ wq_2_7) (fun _ h9 => h9) rfl dX9_coming_9 ?_
  refine lv_iload_n hx hb dX9_coming_12 rfl (lv_at hl 1 rfl) ?_
  refine lv_iload_n hx hb dX9_coming_13 rfl (lv_at hl 2 rfl) ?_
  obtain ⟨r_14, e_14, hf⟩ := ob_bind hf
  have hPX_14 : va_P D vwCl (cs5 ct (fun i => A (93 + i)) (x 12) ++ (cs2 ct (fun i => A (21 + i)) (x 5) ++ (cs8 ct (fun i => A (87 + i)) (x 10)))) s.heap := (va_P.app (qs_12 hP) (va_P.app (qs_5 hP) (qs_10 hP)))
  refine wr_call0 (va_runVN (As := [.ref (A 21), .ref (A 87), .int v1, .int v2]) (rest := []) ⟨hx, hb, hml, hown, htl⟩ (c_X5_drift l D ct G (fun i => A (93 + i)) (fun i => A (21 + i)) (fun i => A (87 + i)) fu (x 12) (x 5) (x 10) v1 v2 e_14 ((hDx x).sub (ws' := cs5 ct (fun i => A (93 + i)) (x 12) ++ (cs2 ct (fun i => A (21 + i)) (x 5) ++ (cs8 ct (fun i => A (87 + i)) (x 10)))) [93, 94, 21, 22, 23, 24, 25, 26, 27, 28, 29, 30, 31, 32, 33, 87, 88, 89] (by decide) rfl)) (cw_X9_X5_drift htl hN ⟨Nat.le_of_ble_eq_true rfl, Nat.le_of_ble_eq_true rfl⟩) ⟨Bx_blind, va_recv hK hPX_14 (ci := 5) (q0 := 0) rfl rfl, Bx_pre hPX_14 hK hN (hX.stay hS hGE)⟩ rfl rfl hl.1 rfl (lv_room (Nat.le_of_ble_eq_true rfl)) dX9_coming_14 ⟨Nat.zero_le _, Nat.zero_le _⟩) hS qa_12 (fun H_14 locs_14 hB_14 _ hk_14 hS => ?_)
  have hP : va_P D vwCl (csQ ct A (va_up x 12 r_14)) H_14 := qj_12 hP (hDW x) hk_14 hB_14
  refine lv_aload_n hx hb dX9_coming_17 rfl (lv_at hl 0 rfl) ?_
  refine va_get (D := D) (ci := 9) (v := .ref (A 93)) (C := RX9) (T := TX9) (N := 14) hx hb htl inlX9 hown hK hP 0 qh_0 rfl 8 (by decide) (htl _ wq_2_12) (fun _ h9 => h9) rfl dX9_coming_18 ?_
  refine lv_iload_n hx hb dX9_coming_21 rfl (lv_at hl 3 rfl) ?_
  obtain ⟨r_22, e_22, hf⟩ := ob_bind hf
  have hPX_22 : va_P D vwCl (cs5 ct (fun i => A (93 + i)) ((va_up x 12 r_14) 12)) H_14 := (qs_12 hP)
  refine ro_call1 (va_runVN (As := [.int v3]) (rest := []) ⟨hx, hb, hml, hown, htl⟩ (c_X5_firstIn l D ct G (fun i => A (93 + i)) fu ((va_up x 12 r_14) 12) v3 e_22) (cw_X9_X5_firstIn htl hN ⟨Nat.le_of_ble_eq_true rfl, Nat.le_of_ble_eq_true rfl⟩) ⟨Bx_blind, va_recv hK hPX_22 (ci := 5) (q0 := 0) rfl rfl, Bx_pre hPX_22 hK hN (hX.stay hS hGE)⟩ rfl rfl hl.1 rfl (lv_room (Nat.le_of_ble_eq_true rfl)) dX9_coming_22 ⟨Nat.zero_le _, Nat.zero_le _⟩) ?_
  rw [← hQQ]
  cases hf
  exact rw_i hx hb hr hlocks hP hS dX9_coming_25
theorem c_X9_coming (l : Launch) (D : va_G) (ct : Nat → ClassId) (G : GT) (A : Nat → Nat) (fu : Nat) (x : Nat → Ob) (v1 : Int32) (v2 : Int32) (v3 : Int32) {r : Int32 × (Nat → Ob)} (hf : p_X9_coming fu x v1 v2 v3 = some r)  (hDx : ∀ x : Nat → Ob, va_D (GE G) (csQ ct A x)) : Met l yX9_coming (.code yX9_coming cX9_coming 4 (some .int) :: wsL_law) rm_X9_coming (va_Pc [.ref (A 0), .int v1, .int v2, .int v3] (Bx D ct G (csQ ct A x))) (Qwr (some (.int r.1)) (fun H => va_P D vwCl (csQ ct A r.2) H) (wA (csQ ct A x))) 0 0 (wA (csQ ct A x)) := by
  refine Met.ofW (cc := cX9_coming) (maxL := 4) (ret := (some .int)) (by decide) rfl ?_
  intro p e s m args below meth c s₁ B hml hv
  obtain ⟨rfl, hP, hK, hN, hX⟩ := hv
  have hts := atoms_spec (ws := .code yX9_coming cX9_coming 4 (some .int) :: wsL_law) B.pre
  rw [lg_entry_eq]
  exact b_X9_coming A fu x v1 v2 v3 B.exec B.bytes B.returns hml (findClass_of_methodNamed B.named) (fun w h => hts w (List.mem_cons_of_mem _ h)) B.notSynchronized hK hN hX hP hf hDx  (lv_entry [.ref (A 0), .int v1, .int v2, .int v3] (n := 4) (Nat.le_of_ble_eq_true rfl))
theorem hd_X9_coming : yX9_coming.cls ≠ "java/lang/invoke/MethodHandle" ∧ yX9_coming.cls ≠ "java/lang/invoke/VarHandle" ∧ (parseMethodDescriptor yX9_coming.desc).map (fun d => d.parameters.length) = some 3 := by decide +kernel
theorem cw_X9_X9_coming {R : Room} {s : State} {args : Array Value} (ht : ∀ w ∈ wsL_law, w.before args s = true) (hR : rm_X9_coming.frames + 1 ≤ R.frames ∧ 8 + (4 + 11) + rm_X9_coming.locals ≤ R.locals) : CallW R s args RX9 RX9 262 yX9_coming cX9_coming 4 (some .int) ((.code yX9_coming cX9_coming 4 (some .int)) :: wsL_law) rm_X9_coming 0 0 3 := cwV 3 ht (GV wq_37_16 wq_37_17 wq_37_18 wq_1_2 wq_37_19) rfl rfl rfl ⟨rfl, hd_X9_coming⟩ hR
def p_X9_slowly_L24 (fu : Nat)  : Nat → (Nat → Ob) → Int32 → Int32 → Int32 → Int32 → Option (Int32 × (Nat → Ob))
  | 0, _, _, _, _, _ => none
  | n + 1, xz, v1, v2, v3, v4 =>
    if (60 : Int32) < v4 then some (v3, xz) else (p_X9_coming fu xz v1 v4 v2).bind fun r_36 => if r_36.1 = ((-1) : Int32) then p_X9_slowly_L24 fu  n r_36.2 v1 v2 v3 (v4 + 1) else p_X9_slowly_L24 fu  n r_36.2 v1 v2 (if v3 < (r_36.1 - v4) then (r_36.1 - v4) else v3) (v4 + 1)
def p_X9_slowly (fu : Nat) (x : Nat → Ob) (v1 : Int32) (v2 : Int32) : Option (Int32 × (Nat → Ob)) :=
  (p_X9_isReach fu x v1).bind fun r_2 => if r_2 = 0 then some (((-2) : Int32), x) else (p_X9_isReach fu x v2).bind fun r_10 => if r_10 = 0 then some (((-2) : Int32), x) else p_X9_slowly_L24 fu fu x v1 v2 (-1) 0
abbrev rm_X9_slowly : Room := { frames := 5, cells := 0, slots := 0, locals := 120 }
set_option maxHeartbeats 4000000 in
set_option maxRecDepth 100000 in
theorem b_X9_slowly {p : Program} {l : Launch} {e : Env} {s : State} {m : MethodId} {args : Array Value} {below : List Frame} {meth : Method} {c : Code} {ls : Array Slot} {D : va_G} {ct : Nat → ClassId} {G : GT} (A : Nat → Nat) (fu : Nat) (x : Nat → Ob) (v1 : Int32) (v2 : Int32) {r : Int32 × (Nat → Ob)} (hx : p.tables.exec = Jvm.exec) (hb : c.code = cX9_slowly) (hr : meth.sig.returnType = (some .int)) (hml : c.maxLocals = 6) (hown : s.vm.findClass RX9 = some m.cls) (htl : ∀ w ∈ wsL_law, w.before args s = true) (hlocks : meth.locks = false) (hK : va_K D vwCl (tyl ct) s) (hN : ∀ w ∈ NW, va_Nw w s) (hX : SX G s s.heap) (hP0 : va_P D vwCl (csQ ct A x) s.heap) (hf : p_X9_slowly fu x v1 v2 = some r) (hDx : ∀ x : Nat → Ob, va_D (GE G) (csQ ct A x))  (hl : lv_has ls 6 [(0, .ref (A 0)), (1, .int v1), (2, .int v2)]) : W p l e rm_X9_slowly s m args below meth c s.heap [] 0 0 (MQ below (Qwr (some (.int r.1)) (fun H => va_P D vwCl (csQ ct A r.2) H) (wA (csQ ct A x))) args s 0 0 (wA (csQ ct A x))) (F0 m 0 ls []) := by
  generalize hQQ : MQ below (Qwr (some (.int r.1)) (fun H => va_P D vwCl (csQ ct A r.2) H) (wA (csQ ct A x))) args s 0 0 (wA (csQ ct A x)) = QQ
  have hDW : ∀ x1 : Nat → Ob, va_D (wA (csQ ct A x)) (csQ ct A x1) := fun x1 => D_any (D_self (hDx x1)) (wA_Q x1 x)
  have hGE : ∀ q, wA (csQ ct A x) q → GE G q := wA_GE (hDx x)
  have hP := hP0
  have hS : va_S (wA (csQ ct A x)) s.heap s.heap [] := va_S.rf
  have hL24 : ∀ (n : Nat) (xz : Nat → Ob) (v1 : Int32) (v2 : Int32) (v3 : Int32) (v4 : Int32), ∀ (H : Heap) (locs : List Loc) (ls : Array Slot), va_P D vwCl (csQ ct A xz) H → va_S (wA (csQ ct A x)) s.heap H locs → lv_has ls 6 [(0, .ref (A 0)), (1, .int v1), (2, .int v2), (3, .int v3), (4, .int v4)] → p_X9_slowly_L24 fu  n xz v1 v2 v3 v4 = some r → W p l e rm_X9_slowly s m args below meth c H locs 0 0 QQ (F0 m 24 ls []) := by
    intro  n
    induction n with
    | zero =>
      intro xz v1 v2 v3 v4 H locs ls hP hS hl hf 
      rw [p_X9_slowly_L24] at hf
      cases hf
    | succ n ih =>
      intro xz v1 v2 v3 v4 H locs ls hP hS hl hf 
      rw [p_X9_slowly_L24] at hf
      refine lv_iload hx hb dX9_slowly_24 (lv_at hl 4 rfl) ?_
      refine lv_bipush (v := 60) hx hb dX9_slowly_26 (by decide) ?_
      refine lv_icmp_gt (tgt := 63) hx hb dX9_slowly_28 (by decide) (fun c_28 => ?_) (fun c_28 => ?_)
      · rw [if_pos c_28] at hf
        refine lv_iload_n hx hb dX9_slowly_63 rfl (lv_at hl 3 rfl) ?_
        rw [← hQQ]
        cases hf
        exact rw_i hx hb hr hlocks hP hS dX9_slowly_64
      rw [if_neg c_28] at hf
      refine lv_aload_n hx hb dX9_slowly_31 rfl (lv_at hl 0 rfl) ?_
      refine lv_iload_n hx hb dX9_slowly_32 rfl (lv_at hl 1 rfl) ?_
      refine lv_iload hx hb dX9_slowly_33 (lv_at hl 4 rfl) ?_
      refine lv_iload_n hx hb dX9_slowly_35 rfl (lv_at hl 2 rfl) ?_
      obtain ⟨r_36, e_36, hf⟩ := ob_bind hf
      have hPX_36 : va_P D vwCl (csQ ct A xz) H := hP
      refine wr_call1 (va_runV (As := [.int v1, .int v4, .int v2]) (rest := []) ⟨hx, hb, hml, hown, htl⟩ (c_X9_coming l D ct G A fu xz v1 v4 v2 e_36 hDx) (cw_X9_X9_coming htl ⟨Nat.le_of_ble_eq_true rfl, Nat.le_of_ble_eq_true rfl⟩) ⟨Bx_blind, va_recv hK hPX_36 (ci := 9) (q0 := 0) rfl rfl, Bx_pre hPX_36 hK hN (hX.stay hS hGE)⟩ rfl rfl hl.1 rfl (lv_room (Nat.le_of_ble_eq_true rfl)) dX9_slowly_36 ⟨Nat.zero_le _, Nat.zero_le _⟩) hS (wA_Q _ _) (fun H_36 locs_36 hB_36 _ hk_36 hS => ?_)
      have hP : va_P D vwCl (csQ ct A r_36.2) H_36 := hB_36
      refine lv_istore (lv' := [(5, .int r_36.1), (0, .ref (A 0)), (1, .int v1), (2, .int v2), (3, .int v3), (4, .int v4)]) hx hb dX9_slowly_39 hl (by decide) rfl (fun ls hl => ?_)
      refine lv_iload hx hb dX9_slowly_41 (lv_at hl 0 rfl) ?_
      refine lv_iconst (v := (-1)) hx hb dX9_slowly_43 (by decide) ?_
      refine lv_icmp_eq (tgt := 57) hx hb dX9_slowly_44 (by decide) (fun c_44 => ?_) (fun c_44 => ?_)
      · rw [if_pos c_44] at hf
        refine lv_iinc (v := (v4 + 1)) (lv' := [(4, .int (v4 + 1)), (5, .int r_36.1), (0, .ref (A 0)), (1, .int v1), (2, .int v2), (3, .int v3)]) hx hb dX9_slowly_57 hl (k := 5) rfl rfl (by decide) rfl (fun ls hl => ?_)
        refine lv_goto (tgt := 24) hx hb dX9_slowly_60 (by decide) ?_
        exact ih r_36.2 v1 v2 v3 (v4 + 1) _ _ _ hP hS (lv_sub hl [2, 3, 4, 5, 0] rfl) hf 
      rw [if_neg c_44] at hf
      refine lv_iload_n hx hb dX9_slowly_47 rfl (lv_at hl 4 rfl) ?_
      refine lv_iload hx hb dX9_slowly_48 (lv_at hl 0 rfl) ?_
      refine lv_iload hx hb dX9_slowly_50 (lv_at hl 5 rfl) ?_
      refine lv_isub hx hb dX9_slowly_52 ?_
      refine va_mmax hx hb (hml.trans hl.1.symm) hown (htl _ wq_25_4) (htl _ wq_15_21) (htl _ wq_12_23) (htl _ wq_15_22) (Nat.le_of_ble_eq_true rfl) (Nat.le_of_ble_eq_true rfl) (Nat.zero_le _) (Nat.zero_le _) dX9_slowly_53 ?_
      refine lv_istore_n (lv' := [(3, .int (if v3 < (r_36.1 - v4) then (r_36.1 - v4) else v3)), (5, .int r_36.1), (0, .ref (A 0)), (1, .int v1), (2, .int v2), (4, .int v4)]) hx hb dX9_slowly_56 rfl hl (by decide) rfl (fun ls hl => ?_)
      refine lv_iinc (v := (v4 + 1)) (lv' := [(4, .int (v4 + 1)), (3, .int (if v3 < (r_36.1 - v4) then (r_36.1 - v4) else v3)), (5, .int r_36.1), (0, .ref (A 0)), (1, .int v1), (2, .int v2)]) hx hb dX9_slowly_57 hl (k := 5) rfl rfl (by decide) rfl (fun ls hl => ?_)
      refine lv_goto (tgt := 24) hx hb dX9_slowly_60 (by decide) ?_
      exact ih r_36.2 v1 v2 (if v3 < (r_36.1 - v4) then (r_36.1 - v4) else v3) (v4 + 1) _ _ _ hP hS (lv_sub hl [3, 4, 5, 1, 0] rfl) hf 
  rw [p_X9_slowly] at hf
  refine lv_aload_n hx hb dX9_slowly_0 rfl (lv_at hl 0 rfl) ?_
  refine lv_iload_n hx hb dX9_slowly_1 rfl (lv_at hl 1 rfl) ?_
  obtain ⟨r_2, e_2, hf⟩ := ob_bind hf
  have hPX_2 : va_P D vwCl (csQ ct A x) s.heap := hP
  refine ro_call1 (va_runV (As := [.int v1]) (rest := []) ⟨hx, hb, hml, hown, htl⟩ (c_X9_isReach l D ct G A fu x v1 e_2) (cw_X9_X9_isReach htl ⟨Nat.le_of_ble_eq_true rfl, Nat.le_of_ble_eq_true rfl⟩) ⟨Bx_blind, va_recv hK hPX_2 (ci := 9) (q0 := 0) rfl rfl, Bx_pre hPX_2 hK hN (hX.stay hS hGE)⟩ rfl rfl hl.1 rfl (lv_room (Nat.le_of_ble_eq_true rfl)) dX9_slowly_2 ⟨Nat.zero_le _, Nat.zero_le _⟩) ?_
  refine lv_if_eq (tgt := 16) hx hb dX9_slowly_5 (by decide) (fun c_5 => ?_) (fun c_5 => ?_)
  · rw [if_pos c_5] at hf
    refine lv_bipush (v := (-2)) hx hb dX9_slowly_16 (by decide) ?_
    rw [← hQQ]
    cases hf
    exact rw_i hx hb hr hlocks hP hS dX9_slowly_18
  rw [if_neg c_5] at hf
  refine lv_aload_n hx hb dX9_slowly_8 rfl (lv_at hl 0 rfl) ?_
  refine lv_iload_n hx hb dX9_slowly_9 rfl (lv_at hl 2 rfl) ?_
  obtain ⟨r_10, e_10, hf⟩ := ob_bind hf
  have hPX_10 : va_P D vwCl (csQ ct A x) s.heap := hP
  refine ro_call1 (va_runV (As := [.int v2]) (rest := []) ⟨hx, hb, hml, hown, htl⟩ (c_X9_isReach l D ct G A fu x v2 e_10) (cw_X9_X9_isReach htl ⟨Nat.le_of_ble_eq_true rfl, Nat.le_of_ble_eq_true rfl⟩) ⟨Bx_blind, va_recv hK hPX_10 (ci := 9) (q0 := 0) rfl rfl, Bx_pre hPX_10 hK hN (hX.stay hS hGE)⟩ rfl rfl hl.1 rfl (lv_room (Nat.le_of_ble_eq_true rfl)) dX9_slowly_10 ⟨Nat.zero_le _, Nat.zero_le _⟩) ?_
  refine lv_if_ne (tgt := 19) hx hb dX9_slowly_13 (by decide) (fun c_13 => ?_) (fun c_13 => ?_)
  rotate_left 1
  · rw [if_pos c_13] at hf
    refine lv_bipush (v := (-2)) hx hb dX9_slowly_16 (by decide) ?_
    rw [← hQQ]
    cases hf
    exact rw_i hx hb hr hlocks hP hS dX9_slowly_18
  rw [if_neg c_13] at hf
  refine lv_iconst (v := (-1)) hx hb dX9_slowly_19 (by decide) ?_
  refine lv_istore_n (lv' := [(3, .int (-1)), (0, .ref (A 0)), (1, .int v1), (2, .int v2)]) hx hb dX9_slowly_20 rfl hl (by decide) rfl (fun ls hl => ?_)
  refine lv_iconst (v := 0) hx hb dX9_slowly_21 (by decide) ?_
  refine lv_istore (lv' := [(4, .int 0), (3, .int (-1)), (0, .ref (A 0)), (1, .int v1), (2, .int v2)]) hx hb dX9_slowly_22 hl (by decide) rfl (fun ls hl => ?_)
  exact hL24 fu x v1 v2 (-1) 0 _ _ _ hP hS (lv_sub hl [2, 3, 4, 1, 0] rfl) hf 
theorem c_X9_slowly (l : Launch) (D : va_G) (ct : Nat → ClassId) (G : GT) (A : Nat → Nat) (fu : Nat) (x : Nat → Ob) (v1 : Int32) (v2 : Int32) {r : Int32 × (Nat → Ob)} (hf : p_X9_slowly fu x v1 v2 = some r)  (hDx : ∀ x : Nat → Ob, va_D (GE G) (csQ ct A x)) : Met l yX9_slowly (.code yX9_slowly cX9_slowly 6 (some .int) :: wsL_law) rm_X9_slowly (va_Pc [.ref (A 0), .int v1, .int v2] (Bx D ct G (csQ ct A x))) (Qwr (some (.int r.1)) (fun H => va_P D vwCl (csQ ct A r.2) H) (wA (csQ ct A x))) 0 0 (wA (csQ ct A x)) := by
  refine Met.ofW (cc := cX9_slowly) (maxL := 6) (ret := (some .int)) (by decide) rfl ?_
  intro p e s m args below meth c s₁ B hml hv
  obtain ⟨rfl, hP, hK, hN, hX⟩ := hv
  have hts := atoms_spec (ws := .code yX9_slowly cX9_slowly 6 (some .int) :: wsL_law) B.pre
  rw [lg_entry_eq]
  exact b_X9_slowly A fu x v1 v2 B.exec B.bytes B.returns hml (findClass_of_methodNamed B.named) (fun w h => hts w (List.mem_cons_of_mem _ h)) B.notSynchronized hK hN hX hP hf hDx  (lv_entry [.ref (A 0), .int v1, .int v2] (n := 6) (Nat.le_of_ble_eq_true rfl))
def p_X9_soon_L29 (fu : Nat)  : Nat → (Nat → Ob) → Int32 → Int32 → Int32 → Int32 → Int32 → Option (Int32 × (Nat → Ob))
  | 0, _, _, _, _, _, _ => none
  | n + 1, xz, v1, v2, v3, v4, v5 =>
    if (60 : Int32) < v5 then some (v3, xz) else (p_X9_coming fu xz v1 v5 v2).bind fun r_41 => if r_41.1 = ((-1) : Int32) then p_X9_soon_L29 fu  n r_41.2 v1 v2 v3 v4 (v5 + 1) else if v4 < r_41.1 then p_X9_soon_L29 fu  n r_41.2 v1 v2 v3 v4 (v5 + 1) else p_X9_soon_L29 fu  n r_41.2 v1 v2 v5 r_41.1 (v5 + 1)
def p_X9_soon (fu : Nat) (x : Nat → Ob) (v1 : Int32) (v2 : Int32) : Option (Int32 × (Nat → Ob)) :=
  (p_X9_isReach fu x v1).bind fun r_2 => if r_2 = 0 then some (((-2) : Int32), x) else (p_X9_isReach fu x v2).bind fun r_10 => if r_10 = 0 then some (((-2) : Int32), x) else p_X9_soon_L29 fu fu x v1 v2 (-1) 1000 0
abbrev rm_X9_soon : Room := { frames := 5, cells := 0, slots := 0, locals := 120 }
set_option maxHeartbeats 4000000 in
set_option maxRecDepth 100000 in
theorem b_X9_soon {p : Program} {l : Launch} {e : Env} {s : State} {m : MethodId} {args : Array Value} {below : List Frame} {meth : Method} {c : Code} {ls : Array Slot} {D : va_G} {ct : Nat → ClassId} {G : GT} (A : Nat → Nat) (fu : Nat) (x : Nat → Ob) (v1 : Int32) (v2 : Int32) {r : Int32 × (Nat → Ob)} (hx : p.tables.exec = Jvm.exec) (hb : c.code = cX9_soon) (hr : meth.sig.returnType = (some .int)) (hml : c.maxLocals = 7) (hown : s.vm.findClass RX9 = some m.cls) (htl : ∀ w ∈ wsL_law, w.before args s = true) (hlocks : meth.locks = false) (hK : va_K D vwCl (tyl ct) s) (hN : ∀ w ∈ NW, va_Nw w s) (hX : SX G s s.heap) (hP0 : va_P D vwCl (csQ ct A x) s.heap) (hf : p_X9_soon fu x v1 v2 = some r) (hDx : ∀ x : Nat → Ob, va_D (GE G) (csQ ct A x))  (hl : lv_has ls 7 [(0, .ref (A 0)), (1, .int v1), (2, .int v2)]) : W p l e rm_X9_soon s m args below meth c s.heap [] 0 0 (MQ below (Qwr (some (.int r.1)) (fun H => va_P D vwCl (csQ ct A r.2) H) (wA (csQ ct A x))) args s 0 0 (wA (csQ ct A x))) (F0 m 0 ls []) := by
  generalize hQQ : MQ below (Qwr (some (.int r.1)) (fun H => va_P D vwCl (csQ ct A r.2) H) (wA (csQ ct A x))) args s 0 0 (wA (csQ ct A x)) = QQ
  have hDW : ∀ x1 : Nat → Ob, va_D (wA (csQ ct A x)) (csQ ct A x1) := fun x1 => D_any (D_self (hDx x1)) (wA_Q x1 x)
  have hGE : ∀ q, wA (csQ ct A x) q → GE G q := wA_GE (hDx x)
  have hP := hP0
  have hS : va_S (wA (csQ ct A x)) s.heap s.heap [] := va_S.rf
  have hL29 : ∀ (n : Nat) (xz : Nat → Ob) (v1 : Int32) (v2 : Int32) (v3 : Int32) (v4 : Int32) (v5 : Int32), ∀ (H : Heap) (locs : List Loc) (ls : Array Slot), va_P D vwCl (csQ ct A xz) H → va_S (wA (csQ ct A x)) s.heap H locs → lv_has ls 7 [(0, .ref (A 0)), (1, .int v1), (2, .int v2), (3, .int v3), (4, .int v4), (5, .int v5)] → p_X9_soon_L29 fu  n xz v1 v2 v3 v4 v5 = some r → W p l e rm_X9_soon s m args below meth c H locs 0 0 QQ (F0 m 29 ls []) := by
    intro  n
    induction n with
    | zero =>
      intro xz v1 v2 v3 v4 v5 H locs ls hP hS hl hf 
      rw [p_X9_soon_L29] at hf
      cases hf
    | succ n ih =>
      intro xz v1 v2 v3 v4 v5 H locs ls hP hS hl hf 
      rw [p_X9_soon_L29] at hf
      refine lv_iload hx hb dX9_soon_29 (lv_at hl 5 rfl) ?_
      refine lv_bipush (v := 60) hx hb dX9_soon_31 (by decide) ?_
      refine lv_icmp_gt (tgt := 72) hx hb dX9_soon_33 (by decide) (fun c_33 => ?_) (fun c_33 => ?_)
      · rw [if_pos c_33] at hf
        refine lv_iload_n hx hb dX9_soon_72 rfl (lv_at hl 3 rfl) ?_
        rw [← hQQ]
        cases hf
        exact rw_i hx hb hr hlocks hP hS dX9_soon_73
      rw [if_neg c_33] at hf
      refine lv_aload_n hx hb dX9_soon_36 rfl (lv_at hl 0 rfl) ?_
      refine lv_iload_n hx hb dX9_soon_37 rfl (lv_at hl 1 rfl) ?_
      refine lv_iload hx hb dX9_soon_38 (lv_at hl 5 rfl) ?_
      refine lv_iload_n hx hb dX9_soon_40 rfl (lv_at hl 2 rfl) ?_
      obtain ⟨r_41, e_41, hf⟩ := ob_bind hf
      have hPX_41 : va_P D vwCl (csQ ct A xz) H := hP
      refine wr_call1 (va_runV (As := [.int v1, .int v5, .int v2]) (rest := []) ⟨hx, hb, hml, hown, htl⟩ (c_X9_coming l D ct G A fu xz v1 v5 v2 e_41 hDx) (cw_X9_X9_coming htl ⟨Nat.le_of_ble_eq_true rfl, Nat.le_of_ble_eq_true rfl⟩) ⟨Bx_blind, va_recv hK hPX_41 (ci := 9) (q0 := 0) rfl rfl, Bx_pre hPX_41 hK hN (hX.stay hS hGE)⟩ rfl rfl hl.1 rfl (lv_room (Nat.le_of_ble_eq_true rfl)) dX9_soon_41 ⟨Nat.zero_le _, Nat.zero_le _⟩) hS (wA_Q _ _) (fun H_41 locs_41 hB_41 _ hk_41 hS => ?_)
      have hP : va_P D vwCl (csQ ct A r_41.2) H_41 := hB_41
      refine lv_istore (lv' := [(6, .int r_41.1), (0, .ref (A 0)), (1, .int v1), (2, .int v2), (3, .int v3), (4, .int v4), (5, .int v5)]) hx hb dX9_soon_44 hl (by decide) rfl (fun ls hl => ?_)
      refine lv_iload hx hb dX9_soon_46 (lv_at hl 0 rfl) ?_
      refine lv_iconst (v := (-1)) hx hb dX9_soon_48 (by decide) ?_
      refine lv_icmp_eq (tgt := 66) hx hb dX9_soon_49 (by decide) (fun c_49 => ?_) (fun c_49 => ?_)
      · rw [if_pos c_49] at hf
        refine lv_iinc (v := (v5 + 1)) (lv' := [(5, .int (v5 + 1)), (6, .int r_41.1), (0, .ref (A 0)), (1, .int v1), (2, .int v2), (3, .int v3), (4, .int v4)]) hx hb dX9_soon_66 hl (k := 6) rfl rfl (by decide) rfl (fun ls hl => ?_)
        refine lv_goto (tgt := 29) hx hb dX9_soon_69 (by decide) ?_
        exact ih r_41.2 v1 v2 v3 v4 (v5 + 1) _ _ _ hP hS (lv_sub hl [2, 3, 4, 5, 6, 0] rfl) hf 
      rw [if_neg c_49] at hf
      refine lv_iload hx hb dX9_soon_52 (lv_at hl 0 rfl) ?_
      refine lv_iload hx hb dX9_soon_54 (lv_at hl 5 rfl) ?_
      refine lv_icmp_gt (tgt := 66) hx hb dX9_soon_56 (by decide) (fun c_56 => ?_) (fun c_56 => ?_)
      · rw [if_pos c_56] at hf
        refine lv_iinc (v := (v5 + 1)) (lv' := [(5, .int (v5 + 1)), (6, .int r_41.1), (0, .ref (A 0)), (1, .int v1), (2, .int v2), (3, .int v3), (4, .int v4)]) hx hb dX9_soon_66 hl (k := 6) rfl rfl (by decide) rfl (fun ls hl => ?_)
        refine lv_goto (tgt := 29) hx hb dX9_soon_69 (by decide) ?_
        exact ih r_41.2 v1 v2 v3 v4 (v5 + 1) _ _ _ hP hS (lv_sub hl [2, 3, 4, 5, 6, 0] rfl) hf 
      rw [if_neg c_56] at hf
      refine lv_iload hx hb dX9_soon_59 (lv_at hl 0 rfl) ?_
      refine lv_istore (lv' := [(4, .int r_41.1), (6, .int r_41.1), (0, .ref (A 0)), (1, .int v1), (2, .int v2), (3, .int v3), (5, .int v5)]) hx hb dX9_soon_61 hl (by decide) rfl (fun ls hl => ?_)
      refine lv_iload hx hb dX9_soon_63 (lv_at hl 6 rfl) ?_
      refine lv_istore_n (lv' := [(3, .int v5), (4, .int r_41.1), (6, .int r_41.1), (0, .ref (A 0)), (1, .int v1), (2, .int v2), (5, .int v5)]) hx hb dX9_soon_65 rfl hl (by decide) rfl (fun ls hl => ?_)
      refine lv_iinc (v := (v5 + 1)) (lv' := [(5, .int (v5 + 1)), (3, .int v5), (4, .int r_41.1), (6, .int r_41.1), (0, .ref (A 0)), (1, .int v1), (2, .int v2)]) hx hb dX9_soon_66 hl (k := 6) rfl rfl (by decide) rfl (fun ls hl => ?_)
      refine lv_goto (tgt := 29) hx hb dX9_soon_69 (by decide) ?_
      exact ih r_41.2 v1 v2 v5 r_41.1 (v5 + 1) _ _ _ hP hS (lv_sub hl [4, 5, 6, 1, 2, 0] rfl) hf 
  rw [p_X9_soon] at hf
  refine lv_aload_n hx hb dX9_soon_0 rfl (lv_at hl 0 rfl) ?_
  refine lv_iload_n hx hb dX9_soon_1 rfl (lv_at hl 1 rfl) ?_
  obtain ⟨r_2, e_2, hf⟩ := ob_bind hf
  have hPX_2 : va_P D vwCl (csQ ct A x) s.heap := hP
  refine ro_call1 (va_runV (As := [.int v1]) (rest := []) ⟨hx, hb, hml, hown, htl⟩ (c_X9_isReach l D ct G A fu x v1 e_2) (cw_X9_X9_isReach htl ⟨Nat.le_of_ble_eq_true rfl, Nat.le_of_ble_eq_true rfl⟩) ⟨Bx_blind, va_recv hK hPX_2 (ci := 9) (q0 := 0) rfl rfl, Bx_pre hPX_2 hK hN (hX.stay hS hGE)⟩ rfl rfl hl.1 rfl (lv_room (Nat.le_of_ble_eq_true rfl)) dX9_soon_2 ⟨Nat.zero_le _, Nat.zero_le _⟩) ?_
  refine lv_if_eq (tgt := 16) hx hb dX9_soon_5 (by decide) (fun c_5 => ?_) (fun c_5 => ?_)
  · rw [if_pos c_5] at hf
    refine lv_bipush (v := (-2)) hx hb dX9_soon_16 (by decide) ?_
    rw [← hQQ]
    cases hf
    exact rw_i hx hb hr hlocks hP hS dX9_soon_18
  rw [if_neg c_5] at hf
  refine lv_aload_n hx hb dX9_soon_8 rfl (lv_at hl 0 rfl) ?_
  refine lv_iload_n hx hb dX9_soon_9 rfl (lv_at hl 2 rfl) ?_
  obtain ⟨r_10, e_10, hf⟩ := ob_bind hf
  have hPX_10 : va_P D vwCl (csQ ct A x) s.heap := hP
  refine ro_call1 (va_runV (As := [.int v2]) (rest := []) ⟨hx, hb, hml, hown, htl⟩ (c_X9_isReach l D ct G A fu x v2 e_10) (cw_X9_X9_isReach htl ⟨Nat.le_of_ble_eq_true rfl, Nat.le_of_ble_eq_true rfl⟩) ⟨Bx_blind, va_recv hK hPX_10 (ci := 9) (q0 := 0) rfl rfl, Bx_pre hPX_10 hK hN (hX.stay hS hGE)⟩ rfl rfl hl.1 rfl (lv_room (Nat.le_of_ble_eq_true rfl)) dX9_soon_10 ⟨Nat.zero_le _, Nat.zero_le _⟩) ?_
  refine lv_if_ne (tgt := 19) hx hb dX9_soon_13 (by decide) (fun c_13 => ?_) (fun c_13 => ?_)
  rotate_left 1
  · rw [if_pos c_13] at hf
    refine lv_bipush (v := (-2)) hx hb dX9_soon_16 (by decide) ?_
    rw [← hQQ]
    cases hf
    exact rw_i hx hb hr hlocks hP hS dX9_soon_18
  rw [if_neg c_13] at hf
  refine lv_iconst (v := (-1)) hx hb dX9_soon_19 (by decide) ?_
  refine lv_istore_n (lv' := [(3, .int (-1)), (0, .ref (A 0)), (1, .int v1), (2, .int v2)]) hx hb dX9_soon_20 rfl hl (by decide) rfl (fun ls hl => ?_)
  refine lv_sipush (v := 1000) hx hb dX9_soon_21 (by decide) ?_
  refine lv_istore (lv' := [(4, .int 1000), (3, .int (-1)), (0, .ref (A 0)), (1, .int v1), (2, .int v2)]) hx hb dX9_soon_24 hl (by decide) rfl (fun ls hl => ?_)
  refine lv_iconst (v := 0) hx hb dX9_soon_26 (by decide) ?_
  refine lv_istore (lv' := [(5, .int 0), (4, .int 1000), (3, .int (-1)), (0, .ref (A 0)), (1, .int v1), (2, .int v2)]) hx hb dX9_soon_27 hl (by decide) rfl (fun ls hl => ?_)
  exact hL29 fu x v1 v2 (-1) 1000 0 _ _ _ hP hS (lv_sub hl [3, 4, 5, 2, 1, 0] rfl) hf 
theorem c_X9_soon (l : Launch) (D : va_G) (ct : Nat → ClassId) (G : GT) (A : Nat → Nat) (fu : Nat) (x : Nat → Ob) (v1 : Int32) (v2 : Int32) {r : Int32 × (Nat → Ob)} (hf : p_X9_soon fu x v1 v2 = some r)  (hDx : ∀ x : Nat → Ob, va_D (GE G) (csQ ct A x)) : Met l yX9_soon (.code yX9_soon cX9_soon 7 (some .int) :: wsL_law) rm_X9_soon (va_Pc [.ref (A 0), .int v1, .int v2] (Bx D ct G (csQ ct A x))) (Qwr (some (.int r.1)) (fun H => va_P D vwCl (csQ ct A r.2) H) (wA (csQ ct A x))) 0 0 (wA (csQ ct A x)) := by
  refine Met.ofW (cc := cX9_soon) (maxL := 7) (ret := (some .int)) (by decide) rfl ?_
  intro p e s m args below meth c s₁ B hml hv
  obtain ⟨rfl, hP, hK, hN, hX⟩ := hv
  have hts := atoms_spec (ws := .code yX9_soon cX9_soon 7 (some .int) :: wsL_law) B.pre
  rw [lg_entry_eq]
  exact b_X9_soon A fu x v1 v2 B.exec B.bytes B.returns hml (findClass_of_methodNamed B.named) (fun w h => hts w (List.mem_cons_of_mem _ h)) B.notSynchronized hK hN hX hP hf hDx  (lv_entry [.ref (A 0), .int v1, .int v2] (n := 7) (Nat.le_of_ble_eq_true rfl))
def p_X9_quickestStep_L10 (fu : Nat)  : Nat → (Nat → Ob) → Int32 → Int32 → Int32 → Int32 → Int32 → Option (Int32 × (Nat → Ob))
  | 0, _, _, _, _, _, _ => none
  | n + 1, xz, v1, v2, v3, v4, v5 =>
    if (60 : Int32) < v5 then some (v3, xz) else (p_X9_coming fu xz v1 v5 v2).bind fun r_22 => if r_22.1 = ((-1) : Int32) then p_X9_quickestStep_L10 fu  n r_22.2 v1 v2 v3 v4 (v5 + 1) else if v4 ≤ (r_22.1 - v5) then p_X9_quickestStep_L10 fu  n r_22.2 v1 v2 v3 v4 (v5 + 1) else p_X9_quickestStep_L10 fu  n r_22.2 v1 v2 v5 (r_22.1 - v5) (v5 + 1)
def p_X9_quickestStep (fu : Nat) (x : Nat → Ob) (v1 : Int32) (v2 : Int32) : Option (Int32 × (Nat → Ob)) :=
  p_X9_quickestStep_L10 fu fu x v1 v2 (-1) 1000 0
abbrev rm_X9_quickestStep : Room := { frames := 5, cells := 0, slots := 0, locals := 120 }
set_option maxHeartbeats 4000000 in
set_option maxRecDepth 100000 in
theorem b_X9_quickestStep {p : Program} {l : Launch} {e : Env} {s : State} {m : MethodId} {args : Array Value} {below : List Frame} {meth : Method} {c : Code} {ls : Array Slot} {D : va_G} {ct : Nat → ClassId} {G : GT} (A : Nat → Nat) (fu : Nat) (x : Nat → Ob) (v1 : Int32) (v2 : Int32) {r : Int32 × (Nat → Ob)} (hx : p.tables.exec = Jvm.exec) (hb : c.code = cX9_quickestStep) (hr : meth.sig.returnType = (some .int)) (hml : c.maxLocals = 7) (hown : s.vm.findClass RX9 = some m.cls) (htl : ∀ w ∈ wsL_law, w.before args s = true) (hlocks : meth.locks = false) (hK : va_K D vwCl (tyl ct) s) (hN : ∀ w ∈ NW, va_Nw w s) (hX : SX G s s.heap) (hP0 : va_P D vwCl (csQ ct A x) s.heap) (hf : p_X9_quickestStep fu x v1 v2 = some r) (hDx : ∀ x : Nat → Ob, va_D (GE G) (csQ ct A x))  (hl : lv_has ls 7 [(0, .ref (A 0)), (1, .int v1), (2, .int v2)]) : W p l e rm_X9_quickestStep s m args below meth c s.heap [] 0 0 (MQ below (Qwr (some (.int r.1)) (fun H => va_P D vwCl (csQ ct A r.2) H) (wA (csQ ct A x))) args s 0 0 (wA (csQ ct A x))) (F0 m 0 ls []) := by
  generalize hQQ : MQ below (Qwr (some (.int r.1)) (fun H => va_P D vwCl (csQ ct A r.2) H) (wA (csQ ct A x))) args s 0 0 (wA (csQ ct A x)) = QQ
  have hDW : ∀ x1 : Nat → Ob, va_D (wA (csQ ct A x)) (csQ ct A x1) := fun x1 => D_any (D_self (hDx x1)) (wA_Q x1 x)
  have hGE : ∀ q, wA (csQ ct A x) q → GE G q := wA_GE (hDx x)
  have hP := hP0
  have hS : va_S (wA (csQ ct A x)) s.heap s.heap [] := va_S.rf
  have hL10 : ∀ (n : Nat) (xz : Nat → Ob) (v1 : Int32) (v2 : Int32) (v3 : Int32) (v4 : Int32) (v5 : Int32), ∀ (H : Heap) (locs : List Loc) (ls : Array Slot), va_P D vwCl (csQ ct A xz) H → va_S (wA (csQ ct A x)) s.heap H locs → lv_has ls 7 [(0, .ref (A 0)), (1, .int v1), (2, .int v2), (3, .int v3), (4, .int v4), (5, .int v5)] → p_X9_quickestStep_L10 fu  n xz v1 v2 v3 v4 v5 = some r → W p l e rm_X9_quickestStep s m args below meth c H locs 0 0 QQ (F0 m 10 ls []) := by
    intro  n
    induction n with
    | zero =>
      intro xz v1 v2 v3 v4 v5 H locs ls hP hS hl hf 
      rw [p_X9_quickestStep_L10] at hf
      cases hf
    | succ n ih =>
      intro xz v1 v2 v3 v4 v5 H locs ls hP hS hl hf 
      rw [p_X9_quickestStep_L10] at hf
      refine lv_iload hx hb dX9_quickestStep_10 (lv_at hl 5 rfl) ?_
      refine lv_bipush (v := 60) hx hb dX9_quickestStep_12 (by decide) ?_
      refine lv_icmp_gt (tgt := 59) hx hb dX9_quickestStep_14 (by decide) (fun c_14 => ?_) (fun c_14 => ?_)
      · rw [if_pos c_14] at hf
        refine lv_iload_n hx hb dX9_quickestStep_59 rfl (lv_at hl 3 rfl) ?_
        rw [← hQQ]
        cases hf
        exact rw_i hx hb hr hlocks hP hS dX9_quickestStep_60
      rw [if_neg c_14] at hf
      refine lv_aload_n hx hb dX9_quickestStep_17 rfl (lv_at hl 0 rfl) ?_
      refine lv_iload_n hx hb dX9_quickestStep_18 rfl (lv_at hl 1 rfl) ?_
      refine lv_iload hx hb dX9_quickestStep_19 (lv_at hl 5 rfl) ?_
      refine lv_iload_n hx hb dX9_quickestStep_21 rfl (lv_at hl 2 rfl) ?_
      obtain ⟨r_22, e_22, hf⟩ := ob_bind hf
      have hPX_22 : va_P D vwCl (csQ ct A xz) H := hP
      refine wr_call1 (va_runV (As := [.int v1, .int v5, .int v2]) (rest := []) ⟨hx, hb, hml, hown, htl⟩ (c_X9_coming l D ct G A fu xz v1 v5 v2 e_22 hDx) (cw_X9_X9_coming htl ⟨Nat.le_of_ble_eq_true rfl, Nat.le_of_ble_eq_true rfl⟩) ⟨Bx_blind, va_recv hK hPX_22 (ci := 9) (q0 := 0) rfl rfl, Bx_pre hPX_22 hK hN (hX.stay hS hGE)⟩ rfl rfl hl.1 rfl (lv_room (Nat.le_of_ble_eq_true rfl)) dX9_quickestStep_22 ⟨Nat.zero_le _, Nat.zero_le _⟩) hS (wA_Q _ _) (fun H_22 locs_22 hB_22 _ hk_22 hS => ?_)
      have hP : va_P D vwCl (csQ ct A r_22.2) H_22 := hB_22
      refine lv_istore (lv' := [(6, .int r_22.1), (0, .ref (A 0)), (1, .int v1), (2, .int v2), (3, .int v3), (4, .int v4), (5, .int v5)]) hx hb dX9_quickestStep_25 hl (by decide) rfl (fun ls hl => ?_)
      refine lv_iload hx hb dX9_quickestStep_27 (lv_at hl 0 rfl) ?_
      refine lv_iconst (v := (-1)) hx hb dX9_quickestStep_29 (by decide) ?_
      refine lv_icmp_eq (tgt := 53) hx hb dX9_quickestStep_30 (by decide) (fun c_30 => ?_) (fun c_30 => ?_)
      · rw [if_pos c_30] at hf
        refine lv_iinc (v := (v5 + 1)) (lv' := [(5, .int (v5 + 1)), (6, .int r_22.1), (0, .ref (A 0)), (1, .int v1), (2, .int v2), (3, .int v3), (4, .int v4)]) hx hb dX9_quickestStep_53 hl (k := 6) rfl rfl (by decide) rfl (fun ls hl => ?_)
        refine lv_goto (tgt := 10) hx hb dX9_quickestStep_56 (by decide) ?_
        exact ih r_22.2 v1 v2 v3 v4 (v5 + 1) _ _ _ hP hS (lv_sub hl [2, 3, 4, 5, 6, 0] rfl) hf 
      rw [if_neg c_30] at hf
      refine lv_iload hx hb dX9_quickestStep_33 (lv_at hl 0 rfl) ?_
      refine lv_iload hx hb dX9_quickestStep_35 (lv_at hl 6 rfl) ?_
      refine lv_isub hx hb dX9_quickestStep_37 ?_
      refine lv_iload hx hb dX9_quickestStep_38 (lv_at hl 5 rfl) ?_
      refine lv_icmp_ge (tgt := 53) hx hb dX9_quickestStep_40 (by decide) (fun c_40 => ?_) (fun c_40 => ?_)
      · rw [if_pos c_40] at hf
        refine lv_iinc (v := (v5 + 1)) (lv' := [(5, .int (v5 + 1)), (6, .int r_22.1), (0, .ref (A 0)), (1, .int v1), (2, .int v2), (3, .int v3), (4, .int v4)]) hx hb dX9_quickestStep_53 hl (k := 6) rfl rfl (by decide) rfl (fun ls hl => ?_)
        refine lv_goto (tgt := 10) hx hb dX9_quickestStep_56 (by decide) ?_
        exact ih r_22.2 v1 v2 v3 v4 (v5 + 1) _ _ _ hP hS (lv_sub hl [2, 3, 4, 5, 6, 0] rfl) hf 
      rw [if_neg c_40] at hf
      refine lv_iload hx hb dX9_quickestStep_43 (lv_at hl 0 rfl) ?_
      refine lv_iload hx hb dX9_quickestStep_45 (lv_at hl 6 rfl) ?_
      refine lv_isub hx hb dX9_quickestStep_47 ?_
      refine lv_istore (lv' := [(4, .int (r_22.1 - v5)), (6, .int r_22.1), (0, .ref (A 0)), (1, .int v1), (2, .int v2), (3, .int v3), (5, .int v5)]) hx hb dX9_quickestStep_48 hl (by decide) rfl (fun ls hl => ?_)
      refine lv_iload hx hb dX9_quickestStep_50 (lv_at hl 6 rfl) ?_
      refine lv_istore_n (lv' := [(3, .int v5), (4, .int (r_22.1 - v5)), (6, .int r_22.1), (0, .ref (A 0)), (1, .int v1), (2, .int v2), (5, .int v5)]) hx hb dX9_quickestStep_52 rfl hl (by decide) rfl (fun ls hl => ?_)
      refine lv_iinc (v := (v5 + 1)) (lv' := [(5, .int (v5 + 1)), (3, .int v5), (4, .int (r_22.1 - v5)), (6, .int r_22.1), (0, .ref (A 0)), (1, .int v1), (2, .int v2)]) hx hb dX9_quickestStep_53 hl (k := 6) rfl rfl (by decide) rfl (fun ls hl => ?_)
      refine lv_goto (tgt := 10) hx hb dX9_quickestStep_56 (by decide) ?_
      exact ih r_22.2 v1 v2 v5 (r_22.1 - v5) (v5 + 1) _ _ _ hP hS (lv_sub hl [4, 5, 6, 1, 2, 0] rfl) hf 
  rw [p_X9_quickestStep] at hf
  refine lv_iconst (v := (-1)) hx hb dX9_quickestStep_0 (by decide) ?_
  refine lv_istore_n (lv' := [(3, .int (-1)), (0, .ref (A 0)), (1, .int v1), (2, .int v2)]) hx hb dX9_quickestStep_1 rfl hl (by decide) rfl (fun ls hl => ?_)
  refine lv_sipush (v := 1000) hx hb dX9_quickestStep_2 (by decide) ?_
  refine lv_istore (lv' := [(4, .int 1000), (3, .int (-1)), (0, .ref (A 0)), (1, .int v1), (2, .int v2)]) hx hb dX9_quickestStep_5 hl (by decide) rfl (fun ls hl => ?_)
  refine lv_iconst (v := 0) hx hb dX9_quickestStep_7 (by decide) ?_
  refine lv_istore (lv' := [(5, .int 0), (4, .int 1000), (3, .int (-1)), (0, .ref (A 0)), (1, .int v1), (2, .int v2)]) hx hb dX9_quickestStep_8 hl (by decide) rfl (fun ls hl => ?_)
  exact hL10 fu x v1 v2 (-1) 1000 0 _ _ _ hP hS (lv_sub hl [3, 4, 5, 2, 1, 0] rfl) hf 
theorem c_X9_quickestStep (l : Launch) (D : va_G) (ct : Nat → ClassId) (G : GT) (A : Nat → Nat) (fu : Nat) (x : Nat → Ob) (v1 : Int32) (v2 : Int32) {r : Int32 × (Nat → Ob)} (hf : p_X9_quickestStep fu x v1 v2 = some r)  (hDx : ∀ x : Nat → Ob, va_D (GE G) (csQ ct A x)) : Met l yX9_quickestStep (.code yX9_quickestStep cX9_quickestStep 7 (some .int) :: wsL_law) rm_X9_quickestStep (va_Pc [.ref (A 0), .int v1, .int v2] (Bx D ct G (csQ ct A x))) (Qwr (some (.int r.1)) (fun H => va_P D vwCl (csQ ct A r.2) H) (wA (csQ ct A x))) 0 0 (wA (csQ ct A x)) := by
  refine Met.ofW (cc := cX9_quickestStep) (maxL := 7) (ret := (some .int)) (by decide) rfl ?_
  intro p e s m args below meth c s₁ B hml hv
  obtain ⟨rfl, hP, hK, hN, hX⟩ := hv
  have hts := atoms_spec (ws := .code yX9_quickestStep cX9_quickestStep 7 (some .int) :: wsL_law) B.pre
  rw [lg_entry_eq]
  exact b_X9_quickestStep A fu x v1 v2 B.exec B.bytes B.returns hml (findClass_of_methodNamed B.named) (fun w h => hts w (List.mem_cons_of_mem _ h)) B.notSynchronized hK hN hX hP hf hDx  (lv_entry [.ref (A 0), .int v1, .int v2] (n := 7) (Nat.le_of_ble_eq_true rfl))
theorem hd_X9_quickestStep : yX9_quickestStep.cls ≠ "java/lang/invoke/MethodHandle" ∧ yX9_quickestStep.cls ≠ "java/lang/invoke/VarHandle" ∧ (parseMethodDescriptor yX9_quickestStep.desc).map (fun d => d.parameters.length) = some 2 := by decide +kernel
theorem cw_X9_X9_quickestStep {R : Room} {s : State} {args : Array Value} (ht : ∀ w ∈ wsL_law, w.before args s = true) (hR : rm_X9_quickestStep.frames + 1 ≤ R.frames ∧ 8 + (7 + 11) + rm_X9_quickestStep.locals ≤ R.locals) : CallW R s args RX9 RX9 266 yX9_quickestStep cX9_quickestStep 7 (some .int) ((.code yX9_quickestStep cX9_quickestStep 7 (some .int)) :: wsL_law) rm_X9_quickestStep 0 0 2 := cwV 2 ht (GV wq_42_3 wq_42_4 wq_42_5 wq_1_2 wq_42_6) rfl rfl rfl ⟨rfl, hd_X9_quickestStep⟩ hR
def p_X9_quick (fu : Nat) (x : Nat → Ob) (v1 : Int32) (v2 : Int32) : Option (Int32 × (Nat → Ob)) :=
  (p_X9_isReach fu x v1).bind fun r_2 => if r_2 = 0 then some (((-2) : Int32), x) else (p_X9_isReach fu x v2).bind fun r_10 => if r_10 = 0 then some (((-2) : Int32), x) else (p_X9_quickestStep fu x v1 v2).bind fun r_22 => if r_22.1 = ((-1) : Int32) then some (((-1) : Int32), r_22.2) else (p_X9_coming fu r_22.2 v1 r_22.1 v2).bind fun r_39 => some ((r_39.1 - r_22.1), r_39.2)
abbrev rm_X9_quick : Room := { frames := 6, cells := 0, slots := 0, locals := 146 }
set_option maxHeartbeats 4000000 in
set_option maxRecDepth 100000 in
theorem b_X9_quick {p : Program} {l : Launch} {e : Env} {s : State} {m : MethodId} {args : Array Value} {below : List Frame} {meth : Method} {c : Code} {ls : Array Slot} {D : va_G} {ct : Nat → ClassId} {G : GT} (A : Nat → Nat) (fu : Nat) (x : Nat → Ob) (v1 : Int32) (v2 : Int32) {r : Int32 × (Nat → Ob)} (hx : p.tables.exec = Jvm.exec) (hb : c.code = cX9_quick) (hr : meth.sig.returnType = (some .int)) (hml : c.maxLocals = 4) (hown : s.vm.findClass RX9 = some m.cls) (htl : ∀ w ∈ wsL_law, w.before args s = true) (hlocks : meth.locks = false) (hK : va_K D vwCl (tyl ct) s) (hN : ∀ w ∈ NW, va_Nw w s) (hX : SX G s s.heap) (hP0 : va_P D vwCl (csQ ct A x) s.heap) (hf : p_X9_quick fu x v1 v2 = some r) (hDx : ∀ x : Nat → Ob, va_D (GE G) (csQ ct A x))  (hl : lv_has ls 4 [(0, .ref (A 0)), (1, .int v1), (2, .int v2)]) : W p l e rm_X9_quick s m args below meth c s.heap [] 0 0 (MQ below (Qwr (some (.int r.1)) (fun H => va_P D vwCl (csQ ct A r.2) H) (wA (csQ ct A x))) args s 0 0 (wA (csQ ct A x))) (F0 m 0 ls []) := by
  generalize hQQ : MQ below (Qwr (some (.int r.1)) (fun H => va_P D vwCl (csQ ct A r.2) H) (wA (csQ ct A x))) args s 0 0 (wA (csQ ct A x)) = QQ
  have hDW : ∀ x1 : Nat → Ob, va_D (wA (csQ ct A x)) (csQ ct A x1) := fun x1 => D_any (D_self (hDx x1)) (wA_Q x1 x)
  have hGE : ∀ q, wA (csQ ct A x) q → GE G q := wA_GE (hDx x)
  have hP := hP0
  have hS : va_S (wA (csQ ct A x)) s.heap s.heap [] := va_S.rf
  rw [p_X9_quick] at hf
  refine lv_aload_n hx hb dX9_quick_0 rfl (lv_at hl 0 rfl) ?_
  refine lv_iload_n hx hb dX9_quick_1 rfl (lv_at hl 1 rfl) ?_
  obtain ⟨r_2, e_2, hf⟩ := ob_bind hf
  have hPX_2 : va_P D vwCl (csQ ct A x) s.heap := hP
  refine ro_call1 (va_runV (As := [.int v1]) (rest := []) ⟨hx, hb, hml, hown, htl⟩ (c_X9_isReach l D ct G A fu x v1 e_2) (cw_X9_X9_isReach htl ⟨Nat.le_of_ble_eq_true rfl, Nat.le_of_ble_eq_true rfl⟩) ⟨Bx_blind, va_recv hK hPX_2 (ci := 9) (q0 := 0) rfl rfl, Bx_pre hPX_2 hK hN (hX.stay hS hGE)⟩ rfl rfl hl.1 rfl (lv_room (Nat.le_of_ble_eq_true rfl)) dX9_quick_2 ⟨Nat.zero_le _, Nat.zero_le _⟩) ?_
  refine lv_if_eq (tgt := 16) hx hb dX9_quick_5 (by decide) (fun c_5 => ?_) (fun c_5 => ?_)
  · rw [if_pos c_5] at hf
    refine lv_bipush (v := (-2)) hx hb dX9_quick_16 (by decide) ?_
    rw [← hQQ]
    cases hf
    exact rw_i hx hb hr hlocks hP hS dX9_quick_18
  rw [if_neg c_5] at hf
  refine lv_aload_n hx hb dX9_quick_8 rfl (lv_at hl 0 rfl) ?_
  refine lv_iload_n hx hb dX9_quick_9 rfl (lv_at hl 2 rfl) ?_
  obtain ⟨r_10, e_10, hf⟩ := ob_bind hf
  have hPX_10 : va_P D vwCl (csQ ct A x) s.heap := hP
  refine ro_call1 (va_runV (As := [.int v2]) (rest := []) ⟨hx, hb, hml, hown, htl⟩ (c_X9_isReach l D ct G A fu x v2 e_10) (cw_X9_X9_isReach htl ⟨Nat.le_of_ble_eq_true rfl, Nat.le_of_ble_eq_true rfl⟩) ⟨Bx_blind, va_recv hK hPX_10 (ci := 9) (q0 := 0) rfl rfl, Bx_pre hPX_10 hK hN (hX.stay hS hGE)⟩ rfl rfl hl.1 rfl (lv_room (Nat.le_of_ble_eq_true rfl)) dX9_quick_10 ⟨Nat.zero_le _, Nat.zero_le _⟩) ?_
  refine lv_if_ne (tgt := 19) hx hb dX9_quick_13 (by decide) (fun c_13 => ?_) (fun c_13 => ?_)
  rotate_left 1
  · rw [if_pos c_13] at hf
    refine lv_bipush (v := (-2)) hx hb dX9_quick_16 (by decide) ?_
    rw [← hQQ]
    cases hf
    exact rw_i hx hb hr hlocks hP hS dX9_quick_18
  rw [if_neg c_13] at hf
  refine lv_aload_n hx hb dX9_quick_19 rfl (lv_at hl 0 rfl) ?_
  refine lv_iload_n hx hb dX9_quick_20 rfl (lv_at hl 1 rfl) ?_
  refine lv_iload_n hx hb dX9_quick_21 rfl (lv_at hl 2 rfl) ?_
  obtain ⟨r_22, e_22, hf⟩ := ob_bind hf
  have hPX_22 : va_P D vwCl (csQ ct A x) s.heap := hP
  refine wr_call1 (va_runV (As := [.int v1, .int v2]) (rest := []) ⟨hx, hb, hml, hown, htl⟩ (c_X9_quickestStep l D ct G A fu x v1 v2 e_22 hDx) (cw_X9_X9_quickestStep htl ⟨Nat.le_of_ble_eq_true rfl, Nat.le_of_ble_eq_true rfl⟩) ⟨Bx_blind, va_recv hK hPX_22 (ci := 9) (q0 := 0) rfl rfl, Bx_pre hPX_22 hK hN (hX.stay hS hGE)⟩ rfl rfl hl.1 rfl (lv_room (Nat.le_of_ble_eq_true rfl)) dX9_quick_22 ⟨Nat.zero_le _, Nat.zero_le _⟩) hS (wA_Q _ _) (fun H_22 locs_22 hB_22 _ hk_22 hS => ?_)
  have hP : va_P D vwCl (csQ ct A r_22.2) H_22 := hB_22
  refine lv_istore_n (lv' := [(3, .int r_22.1), (0, .ref (A 0)), (1, .int v1), (2, .int v2)]) hx hb dX9_quick_25 rfl hl (by decide) rfl (fun ls hl => ?_)
  refine lv_iload_n hx hb dX9_quick_26 rfl (lv_at hl 0 rfl) ?_
  refine lv_iconst (v := (-1)) hx hb dX9_quick_27 (by decide) ?_
  refine lv_icmp_ne (tgt := 35) hx hb dX9_quick_28 (by decide) (fun c_28 => ?_) (fun c_28 => ?_)
  rotate_left 1
  · rw [if_pos c_28] at hf
    refine lv_iconst (v := (-1)) hx hb dX9_quick_31 (by decide) ?_
    refine lv_goto (tgt := 44) hx hb dX9_quick_32 (by decide) ?_
    rw [← hQQ]
    cases hf
    exact rw_i hx hb hr hlocks hP hS dX9_quick_44
  rw [if_neg c_28] at hf
  refine lv_aload_n hx hb dX9_quick_35 rfl (lv_at hl 1 rfl) ?_
  refine lv_iload_n hx hb dX9_quick_36 rfl (lv_at hl 2 rfl) ?_
  refine lv_iload_n hx hb dX9_quick_37 rfl (lv_at hl 0 rfl) ?_
  refine lv_iload_n hx hb dX9_quick_38 rfl (lv_at hl 3 rfl) ?_
  obtain ⟨r_39, e_39, hf⟩ := ob_bind hf
  have hPX_39 : va_P D vwCl (csQ ct A r_22.2) H_22 := hP
  refine wr_call1 (va_runV (As := [.int v1, .int r_22.1, .int v2]) (rest := []) ⟨hx, hb, hml, hown, htl⟩ (c_X9_coming l D ct G A fu r_22.2 v1 r_22.1 v2 e_39 hDx) (cw_X9_X9_coming htl ⟨Nat.le_of_ble_eq_true rfl, Nat.le_of_ble_eq_true rfl⟩) ⟨Bx_blind, va_recv hK hPX_39 (ci := 9) (q0 := 0) rfl rfl, Bx_pre hPX_39 hK hN (hX.stay hS hGE)⟩ rfl rfl hl.1 rfl (lv_room (Nat.le_of_ble_eq_true rfl)) dX9_quick_39 ⟨Nat.zero_le _, Nat.zero_le _⟩) hS (wA_Q _ _) (fun H_39 locs_39 hB_39 _ hk_39 hS => ?_)
  have hP : va_P D vwCl (csQ ct A r_39.2) H_39 := hB_39
  refine lv_iload_n hx hb dX9_quick_42 rfl (lv_at hl 0 rfl) ?_
  refine lv_isub hx hb dX9_quick_43 ?_
  rw [← hQQ]
  cases hf
  exact rw_i hx hb hr hlocks hP hS dX9_quick_44
theorem c_X9_quick (l : Launch) (D : va_G) (ct : Nat → ClassId) (G : GT) (A : Nat → Nat) (fu : Nat) (x : Nat → Ob) (v1 : Int32) (v2 : Int32) {r : Int32 × (Nat → Ob)} (hf : p_X9_quick fu x v1 v2 = some r)  (hDx : ∀ x : Nat → Ob, va_D (GE G) (csQ ct A x)) : Met l yX9_quick (.code yX9_quick cX9_quick 4 (some .int) :: wsL_law) rm_X9_quick (va_Pc [.ref (A 0), .int v1, .int v2] (Bx D ct G (csQ ct A x))) (Qwr (some (.int r.1)) (fun H => va_P D vwCl (csQ ct A r.2) H) (wA (csQ ct A x))) 0 0 (wA (csQ ct A x)) := by
  refine Met.ofW (cc := cX9_quick) (maxL := 4) (ret := (some .int)) (by decide) rfl ?_
  intro p e s m args below meth c s₁ B hml hv
  obtain ⟨rfl, hP, hK, hN, hX⟩ := hv
  have hts := atoms_spec (ws := .code yX9_quick cX9_quick 4 (some .int) :: wsL_law) B.pre
  rw [lg_entry_eq]
  exact b_X9_quick A fu x v1 v2 B.exec B.bytes B.returns hml (findClass_of_methodNamed B.named) (fun w h => hts w (List.mem_cons_of_mem _ h)) B.notSynchronized hK hN hX hP hf hDx  (lv_entry [.ref (A 0), .int v1, .int v2] (n := 4) (Nat.le_of_ble_eq_true rfl))
def p_X9_quickly (fu : Nat) (x : Nat → Ob) (v1 : Int32) (v2 : Int32) : Option (Int32 × (Nat → Ob)) :=
  (p_X9_isReach fu x v1).bind fun r_2 => if r_2 = 0 then some (((-2) : Int32), x) else (p_X9_isReach fu x v2).bind fun r_10 => if r_10 = 0 then some (((-2) : Int32), x) else (p_X9_quickestStep fu x v1 v2).bind fun r_22 => some (r_22.1, r_22.2)
abbrev rm_X9_quickly : Room := { frames := 6, cells := 0, slots := 0, locals := 146 }
set_option maxHeartbeats 4000000 in
set_option maxRecDepth 100000 in
theorem b_X9_quickly {p : Program} {l : Launch} {e : Env} {s : State} {m : MethodId} {args : Array Value} {below : List Frame} {meth : Method} {c : Code} {ls : Array Slot} {D : va_G} {ct : Nat → ClassId} {G : GT} (A : Nat → Nat) (fu : Nat) (x : Nat → Ob) (v1 : Int32) (v2 : Int32) {r : Int32 × (Nat → Ob)} (hx : p.tables.exec = Jvm.exec) (hb : c.code = cX9_quickly) (hr : meth.sig.returnType = (some .int)) (hml : c.maxLocals = 3) (hown : s.vm.findClass RX9 = some m.cls) (htl : ∀ w ∈ wsL_law, w.before args s = true) (hlocks : meth.locks = false) (hK : va_K D vwCl (tyl ct) s) (hN : ∀ w ∈ NW, va_Nw w s) (hX : SX G s s.heap) (hP0 : va_P D vwCl (csQ ct A x) s.heap) (hf : p_X9_quickly fu x v1 v2 = some r) (hDx : ∀ x : Nat → Ob, va_D (GE G) (csQ ct A x))  (hl : lv_has ls 3 [(0, .ref (A 0)), (1, .int v1), (2, .int v2)]) : W p l e rm_X9_quickly s m args below meth c s.heap [] 0 0 (MQ below (Qwr (some (.int r.1)) (fun H => va_P D vwCl (csQ ct A r.2) H) (wA (csQ ct A x))) args s 0 0 (wA (csQ ct A x))) (F0 m 0 ls []) := by
  generalize hQQ : MQ below (Qwr (some (.int r.1)) (fun H => va_P D vwCl (csQ ct A r.2) H) (wA (csQ ct A x))) args s 0 0 (wA (csQ ct A x)) = QQ
  have hDW : ∀ x1 : Nat → Ob, va_D (wA (csQ ct A x)) (csQ ct A x1) := fun x1 => D_any (D_self (hDx x1)) (wA_Q x1 x)
  have hGE : ∀ q, wA (csQ ct A x) q → GE G q := wA_GE (hDx x)
  have hP := hP0
  have hS : va_S (wA (csQ ct A x)) s.heap s.heap [] := va_S.rf
  rw [p_X9_quickly] at hf
  refine lv_aload_n hx hb dX9_quickly_0 rfl (lv_at hl 0 rfl) ?_
  refine lv_iload_n hx hb dX9_quickly_1 rfl (lv_at hl 1 rfl) ?_
  obtain ⟨r_2, e_2, hf⟩ := ob_bind hf
  have hPX_2 : va_P D vwCl (csQ ct A x) s.heap := hP
  refine ro_call1 (va_runV (As := [.int v1]) (rest := []) ⟨hx, hb, hml, hown, htl⟩ (c_X9_isReach l D ct G A fu x v1 e_2) (cw_X9_X9_isReach htl ⟨Nat.le_of_ble_eq_true rfl, Nat.le_of_ble_eq_true rfl⟩) ⟨Bx_blind, va_recv hK hPX_2 (ci := 9) (q0 := 0) rfl rfl, Bx_pre hPX_2 hK hN (hX.stay hS hGE)⟩ rfl rfl hl.1 rfl (lv_room (Nat.le_of_ble_eq_true rfl)) dX9_quickly_2 ⟨Nat.zero_le _, Nat.zero_le _⟩) ?_
  refine lv_if_eq (tgt := 16) hx hb dX9_quickly_5 (by decide) (fun c_5 => ?_) (fun c_5 => ?_)
  · rw [if_pos c_5] at hf
    refine lv_bipush (v := (-2)) hx hb dX9_quickly_16 (by decide) ?_
    rw [← hQQ]
    cases hf
    exact rw_i hx hb hr hlocks hP hS dX9_quickly_18
  rw [if_neg c_5] at hf
  refine lv_aload_n hx hb dX9_quickly_8 rfl (lv_at hl 0 rfl) ?_
  refine lv_iload_n hx hb dX9_quickly_9 rfl (lv_at hl 2 rfl) ?_
  obtain ⟨r_10, e_10, hf⟩ := ob_bind hf
  have hPX_10 : va_P D vwCl (csQ ct A x) s.heap := hP
  refine ro_call1 (va_runV (As := [.int v2]) (rest := []) ⟨hx, hb, hml, hown, htl⟩ (c_X9_isReach l D ct G A fu x v2 e_10) (cw_X9_X9_isReach htl ⟨Nat.le_of_ble_eq_true rfl, Nat.le_of_ble_eq_true rfl⟩) ⟨Bx_blind, va_recv hK hPX_10 (ci := 9) (q0 := 0) rfl rfl, Bx_pre hPX_10 hK hN (hX.stay hS hGE)⟩ rfl rfl hl.1 rfl (lv_room (Nat.le_of_ble_eq_true rfl)) dX9_quickly_10 ⟨Nat.zero_le _, Nat.zero_le _⟩) ?_
  refine lv_if_ne (tgt := 19) hx hb dX9_quickly_13 (by decide) (fun c_13 => ?_) (fun c_13 => ?_)
  rotate_left 1
  · rw [if_pos c_13] at hf
    refine lv_bipush (v := (-2)) hx hb dX9_quickly_16 (by decide) ?_
    rw [← hQQ]
    cases hf
    exact rw_i hx hb hr hlocks hP hS dX9_quickly_18
  rw [if_neg c_13] at hf
  refine lv_aload_n hx hb dX9_quickly_19 rfl (lv_at hl 0 rfl) ?_
  refine lv_iload_n hx hb dX9_quickly_20 rfl (lv_at hl 1 rfl) ?_
  refine lv_iload_n hx hb dX9_quickly_21 rfl (lv_at hl 2 rfl) ?_
  obtain ⟨r_22, e_22, hf⟩ := ob_bind hf
  have hPX_22 : va_P D vwCl (csQ ct A x) s.heap := hP
  refine wr_call1 (va_runV (As := [.int v1, .int v2]) (rest := []) ⟨hx, hb, hml, hown, htl⟩ (c_X9_quickestStep l D ct G A fu x v1 v2 e_22 hDx) (cw_X9_X9_quickestStep htl ⟨Nat.le_of_ble_eq_true rfl, Nat.le_of_ble_eq_true rfl⟩) ⟨Bx_blind, va_recv hK hPX_22 (ci := 9) (q0 := 0) rfl rfl, Bx_pre hPX_22 hK hN (hX.stay hS hGE)⟩ rfl rfl hl.1 rfl (lv_room (Nat.le_of_ble_eq_true rfl)) dX9_quickly_22 ⟨Nat.zero_le _, Nat.zero_le _⟩) hS (wA_Q _ _) (fun H_22 locs_22 hB_22 _ hk_22 hS => ?_)
  have hP : va_P D vwCl (csQ ct A r_22.2) H_22 := hB_22
  rw [← hQQ]
  cases hf
  exact rw_i hx hb hr hlocks hP hS dX9_quickly_25
theorem c_X9_quickly (l : Launch) (D : va_G) (ct : Nat → ClassId) (G : GT) (A : Nat → Nat) (fu : Nat) (x : Nat → Ob) (v1 : Int32) (v2 : Int32) {r : Int32 × (Nat → Ob)} (hf : p_X9_quickly fu x v1 v2 = some r)  (hDx : ∀ x : Nat → Ob, va_D (GE G) (csQ ct A x)) : Met l yX9_quickly (.code yX9_quickly cX9_quickly 3 (some .int) :: wsL_law) rm_X9_quickly (va_Pc [.ref (A 0), .int v1, .int v2] (Bx D ct G (csQ ct A x))) (Qwr (some (.int r.1)) (fun H => va_P D vwCl (csQ ct A r.2) H) (wA (csQ ct A x))) 0 0 (wA (csQ ct A x)) := by
  refine Met.ofW (cc := cX9_quickly) (maxL := 3) (ret := (some .int)) (by decide) rfl ?_
  intro p e s m args below meth c s₁ B hml hv
  obtain ⟨rfl, hP, hK, hN, hX⟩ := hv
  have hts := atoms_spec (ws := .code yX9_quickly cX9_quickly 3 (some .int) :: wsL_law) B.pre
  rw [lg_entry_eq]
  exact b_X9_quickly A fu x v1 v2 B.exec B.bytes B.returns hml (findClass_of_methodNamed B.named) (fun w h => hts w (List.mem_cons_of_mem _ h)) B.notSynchronized hK hN hX hP hf hDx  (lv_entry [.ref (A 0), .int v1, .int v2] (n := 3) (Nat.le_of_ble_eq_true rfl))
def p_X9_late_L29 (fu : Nat)  : Nat → (Nat → Ob) → Int32 → Int32 → Int32 → Int32 → Option (Int32 × (Nat → Ob))
  | 0, _, _, _, _, _ => none
  | n + 1, xz, v1, v2, v3, v4 =>
    if v4 < 0 then some (((-1) : Int32), xz) else (p_X5_drift fu (xz 12) (xz 5) (xz 10) v1 v4).bind fun r_49 => (p_X5_spotAt fu ((va_up xz 12 r_49) 12) v3).bind fun r_57 => if r_57 = v2 then some (v4, (va_up xz 12 r_49)) else p_X9_late_L29 fu  n (va_up xz 12 r_49) v1 v2 v3 (v4 + (-1))
def p_X9_late (fu : Nat) (x : Nat → Ob) (v1 : Int32) (v2 : Int32) (v3 : Int32) : Option (Int32 × (Nat → Ob)) :=
  (p_X9_isReach fu x v1).bind fun r_2 => if r_2 = 0 then some (((-2) : Int32), x) else (p_X9_isReach fu x v2).bind fun r_10 => if r_10 = 0 then some (((-2) : Int32), x) else (p_X9_isStep fu v3).bind fun r_17 => if r_17 = 0 then some (((-2) : Int32), x) else p_X9_late_L29 fu fu x v1 v2 v3 v3
abbrev rm_X9_late : Room := { frames := 4, cells := 0, slots := 0, locals := 97 }
set_option maxHeartbeats 4000000 in
set_option maxRecDepth 100000 in
theorem b_X9_late {p : Program} {l : Launch} {e : Env} {s : State} {m : MethodId} {args : Array Value} {below : List Frame} {meth : Method} {c : Code} {ls : Array Slot} {D : va_G} {ct : Nat → ClassId} {G : GT} (A : Nat → Nat) (fu : Nat) (x : Nat → Ob) (v1 : Int32) (v2 : Int32) (v3 : Int32) {r : Int32 × (Nat → Ob)} (hx : p.tables.exec = Jvm.exec) (hb : c.code = cX9_late) (hr : meth.sig.returnType = (some .int)) (hml : c.maxLocals = 5) (hown : s.vm.findClass RX9 = some m.cls) (htl : ∀ w ∈ wsL_law, w.before args s = true) (hlocks : meth.locks = false) (hK : va_K D vwCl (tyl ct) s) (hN : ∀ w ∈ NW, va_Nw w s) (hX : SX G s s.heap) (hP0 : va_P D vwCl (csQ ct A x) s.heap) (hf : p_X9_late fu x v1 v2 v3 = some r) (hDx : ∀ x : Nat → Ob, va_D (GE G) (csQ ct A x))  (hl : lv_has ls 5 [(0, .ref (A 0)), (1, .int v1), (2, .int v2), (3, .int v3)]) : W p l e rm_X9_late s m args below meth c s.heap [] 0 0 (MQ below (Qwr (some (.int r.1)) (fun H => va_P D vwCl (csQ ct A r.2) H) (wA (csQ ct A x))) args s 0 0 (wA (csQ ct A x))) (F0 m 0 ls []) := by
  generalize hQQ : MQ below (Qwr (some (.int r.1)) (fun H => va_P D vwCl (csQ ct A r.2) H) (wA (csQ ct A x))) args s 0 0 (wA (csQ ct A x)) = QQ
  have hDW : ∀ x1 : Nat → Ob, va_D (wA (csQ ct A x)) (csQ ct A x1) := fun x1 => D_any (D_self (hDx x1)) (wA_Q x1 x)
  have hGE : ∀ q, wA (csQ ct A x) q → GE G q := wA_GE (hDx x)
  have hP := hP0
  have hS : va_S (wA (csQ ct A x)) s.heap s.heap [] := va_S.rf
  have hL29 : ∀ (n : Nat) (xz : Nat → Ob) (v1 : Int32) (v2 : Int32) (v3 : Int32) (v4 : Int32), ∀ (H : Heap) (locs : List Loc) (ls : Array Slot), va_P D vwCl (csQ ct A xz) H → va_S (wA (csQ ct A x)) s.heap H locs → lv_has ls 5 [(0, .ref (A 0)), (1, .int v1), (2, .int v2), (3, .int v3), (4, .int v4)] → p_X9_late_L29 fu  n xz v1 v2 v3 v4 = some r → W p l e rm_X9_late s m args below meth c H locs 0 0 QQ (F0 m 29 ls []) := by
    intro  n
    induction n with
    | zero =>
      intro xz v1 v2 v3 v4 H locs ls hP hS hl hf 
      rw [p_X9_late_L29] at hf
      cases hf
    | succ n ih =>
      intro xz v1 v2 v3 v4 H locs ls hP hS hl hf 
      rw [p_X9_late_L29] at hf
      refine lv_iload hx hb dX9_late_29 (lv_at hl 4 rfl) ?_
      refine lv_if_lt (tgt := 73) hx hb dX9_late_31 (by decide) (fun c_31 => ?_) (fun c_31 => ?_)
      · rw [if_pos c_31] at hf
        refine lv_iconst (v := (-1)) hx hb dX9_late_73 (by decide) ?_
        rw [← hQQ]
        cases hf
        exact rw_i hx hb hr hlocks hP hS dX9_late_74
      rw [if_neg c_31] at hf
      refine lv_aload_n hx hb dX9_late_34 rfl (lv_at hl 0 rfl) ?_
      refine va_get (D := D) (ci := 9) (v := .ref (A 93)) (C := RX9) (T := TX9) (N := 14) hx hb htl inlX9 hown hK hP 0 qh_0 rfl 8 (by decide) (htl _ wq_2_12) (fun _ h9 => h9) rfl dX9_late_35 ?_
      refine lv_aload_n hx hb dX9_late_38 rfl (lv_at hl 0 rfl) ?_
      refine va_get (D := D) (ci := 9) (v := .ref (A 21)) (C := RX9) (T := TX9) (N := 14) hx hb htl inlX9 hown hK hP 0 qh_0 rfl 2 (by decide) (htl _ wq_2_0) (fun _ h9 => h9) rfl dX9_late_39 ?_
      refine lv_aload_n hx hb dX9_late_42 rfl (lv_at hl 0 rfl) ?_
      refine va_get (D := D) (ci := 9) (v := .ref (A 87)) (C := RX9) (T := TX9) (N := 14) hx hb htl inlX9 hown hK hP 0 qh_0 rfl 6 (by decide) (htl _ wq_2_7) (fun _ h9 => h9) rfl dX9_late_43 ?_
      refine lv_iload_n hx hb dX9_late_46 rfl (lv_at hl 1 rfl) ?_
      refine lv_iload hx hb dX9_late_47 (lv_at hl 4 rfl) ?_
      obtain ⟨r_49, e_49, hf⟩ := ob_bind hf
      have hPX_49 : va_P D vwCl (cs5 ct (fun i => A (93 + i)) (xz 12) ++ (cs2 ct (fun i => A (21 + i)) (xz 5) ++ (cs8 ct (fun i => A (87 + i)) (xz 10)))) H := (va_P.app (qs_12 hP) (va_P.app (qs_5 hP) (qs_10 hP)))
      refine wr_call0 (va_runVN (As := [.ref (A 21), .ref (A 87), .int v1, .int v4]) (rest := []) ⟨hx, hb, hml, hown, htl⟩ (c_X5_drift l D ct G (fun i => A (93 + i)) (fun i => A (21 + i)) (fun i => A (87 + i)) fu (xz 12) (xz 5) (xz 10) v1 v4 e_49 ((hDx xz).sub (ws' := cs5 ct (fun i => A (93 + i)) (xz 12) ++ (cs2 ct (fun i => A (21 + i)) (xz 5) ++ (cs8 ct (fun i => A (87 + i)) (xz 10)))) [93, 94, 21, 22, 23, 24, 25, 26, 27, 28, 29, 30, 31, 32, 33, 87, 88, 89] (by decide) rfl)) (cw_X9_X5_drift htl hN ⟨Nat.le_of_ble_eq_true rfl, Nat.le_of_ble_eq_true rfl⟩) ⟨Bx_blind, va_recv hK hPX_49 (ci := 5) (q0 := 0) rfl rfl, Bx_pre hPX_49 hK hN (hX.stay hS hGE)⟩ rfl rfl hl.1 rfl (lv_room (Nat.le_of_ble_eq_true rfl)) dX9_late_49 ⟨Nat.zero_le _, Nat.zero_le _⟩) hS qa_12 (fun H_49 locs_49 hB_49 _ hk_49 hS => ?_)
      have hP : va_P D vwCl (csQ ct A (va_up xz 12 r_49)) H_49 := qj_12 hP (hDW xz) hk_49 hB_49
      refine lv_aload_n hx hb dX9_late_52 rfl (lv_at hl 0 rfl) ?_
      refine va_get (D := D) (ci := 9) (v := .ref (A 93)) (C := RX9) (T := TX9) (N := 14) hx hb htl inlX9 hown hK hP 0 qh_0 rfl 8 (by decide) (htl _ wq_2_12) (fun _ h9 => h9) rfl dX9_late_53 ?_
      refine lv_iload_n hx hb dX9_late_56 rfl (lv_at hl 3 rfl) ?_
      obtain ⟨r_57, e_57, hf⟩ := ob_bind hf
      have hPX_57 : va_P D vwCl (cs5 ct (fun i => A (93 + i)) ((va_up xz 12 r_49) 12)) H_49 := (qs_12 hP)
      refine ro_call1 (va_runVN (As := [.int v3]) (rest := []) ⟨hx, hb, hml, hown, htl⟩ (c_X5_spotAt l D ct G (fun i => A (93 + i)) fu ((va_up xz 12 r_49) 12) v3 e_57) (cw_X9_X5_spotAt htl hN ⟨Nat.le_of_ble_eq_true rfl, Nat.le_of_ble_eq_true rfl⟩) ⟨Bx_blind, va_recv hK hPX_57 (ci := 5) (q0 := 0) rfl rfl, Bx_pre hPX_57 hK hN (hX.stay hS hGE)⟩ rfl rfl hl.1 rfl (lv_room (Nat.le_of_ble_eq_true rfl)) dX9_late_57 ⟨Nat.zero_le _, Nat.zero_le _⟩) ?_
      refine lv_iload_n hx hb dX9_late_60 rfl (lv_at hl 2 rfl) ?_
      refine lv_icmp_ne (tgt := 67) hx hb dX9_late_61 (by decide) (fun c_61 => ?_) (fun c_61 => ?_)
      · rw [if_neg c_61] at hf
        refine lv_iinc (v := (v4 + (-1))) (lv' := [(4, .int (v4 + (-1))), (0, .ref (A 0)), (1, .int v1), (2, .int v2), (3, .int v3)]) hx hb dX9_late_67 hl (k := 4) rfl rfl (by decide) rfl (fun ls hl => ?_)
        refine lv_goto (tgt := 29) hx hb dX9_late_70 (by decide) ?_
        exact ih (va_up xz 12 r_49) v1 v2 v3 (v4 + (-1)) _ _ _ hP hS (lv_sub hl [1, 2, 3, 4, 0] rfl) hf 
      rw [if_pos c_61] at hf
      refine lv_iload hx hb dX9_late_64 (lv_at hl 4 rfl) ?_
      rw [← hQQ]
      cases hf
      exact rw_i hx hb hr hlocks hP hS dX9_late_66
  rw [p_X9_late] at hf
  refine lv_aload_n hx hb dX9_late_0 rfl (lv_at hl 0 rfl) ?_
  refine lv_iload_n hx hb dX9_late_1 rfl (lv_at hl 1 rfl) ?_
  obtain ⟨r_2, e_2, hf⟩ := ob_bind hf
  have hPX_2 : va_P D vwCl (csQ ct A x) s.heap := hP
  refine ro_call1 (va_runV (As := [.int v1]) (rest := []) ⟨hx, hb, hml, hown, htl⟩ (c_X9_isReach l D ct G A fu x v1 e_2) (cw_X9_X9_isReach htl ⟨Nat.le_of_ble_eq_true rfl, Nat.le_of_ble_eq_true rfl⟩) ⟨Bx_blind, va_recv hK hPX_2 (ci := 9) (q0 := 0) rfl rfl, Bx_pre hPX_2 hK hN (hX.stay hS hGE)⟩ rfl rfl hl.1 rfl (lv_room (Nat.le_of_ble_eq_true rfl)) dX9_late_2 ⟨Nat.zero_le _, Nat.zero_le _⟩) ?_
  refine lv_if_eq (tgt := 23) hx hb dX9_late_5 (by decide) (fun c_5 => ?_) (fun c_5 => ?_)
  · rw [if_pos c_5] at hf
    refine lv_bipush (v := (-2)) hx hb dX9_late_23 (by decide) ?_
    rw [← hQQ]
    cases hf
    exact rw_i hx hb hr hlocks hP hS dX9_late_25
  rw [if_neg c_5] at hf
  refine lv_aload_n hx hb dX9_late_8 rfl (lv_at hl 0 rfl) ?_
  refine lv_iload_n hx hb dX9_late_9 rfl (lv_at hl 2 rfl) ?_
  obtain ⟨r_10, e_10, hf⟩ := ob_bind hf
  have hPX_10 : va_P D vwCl (csQ ct A x) s.heap := hP
  refine ro_call1 (va_runV (As := [.int v2]) (rest := []) ⟨hx, hb, hml, hown, htl⟩ (c_X9_isReach l D ct G A fu x v2 e_10) (cw_X9_X9_isReach htl ⟨Nat.le_of_ble_eq_true rfl, Nat.le_of_ble_eq_true rfl⟩) ⟨Bx_blind, va_recv hK hPX_10 (ci := 9) (q0 := 0) rfl rfl, Bx_pre hPX_10 hK hN (hX.stay hS hGE)⟩ rfl rfl hl.1 rfl (lv_room (Nat.le_of_ble_eq_true rfl)) dX9_late_10 ⟨Nat.zero_le _, Nat.zero_le _⟩) ?_
  refine lv_if_eq (tgt := 23) hx hb dX9_late_13 (by decide) (fun c_13 => ?_) (fun c_13 => ?_)
  · rw [if_pos c_13] at hf
    refine lv_bipush (v := (-2)) hx hb dX9_late_23 (by decide) ?_
    rw [← hQQ]
    cases hf
    exact rw_i hx hb hr hlocks hP hS dX9_late_25
  rw [if_neg c_13] at hf
  refine lv_iload_n hx hb dX9_late_16 rfl (lv_at hl 3 rfl) ?_
  obtain ⟨r_17, e_17, hf⟩ := ob_bind hf
  have hPX_17 : va_P D vwCl ([]) s.heap := P_nil
  refine ro_call1 (va_runS (As := [.int v3]) (rest := []) ⟨hx, hb, hml, hown, htl⟩ (c_X9_isStep l D ct G fu v3 e_17) (cw_X9_X9_isStep htl ⟨Nat.le_of_ble_eq_true rfl, Nat.le_of_ble_eq_true rfl⟩) ⟨Bx_blind, Bx_pre hPX_17 hK hN (hX.stay hS hGE)⟩ rfl rfl hl.1 rfl (lv_room (Nat.le_of_ble_eq_true rfl)) dX9_late_17 ⟨Nat.zero_le _, Nat.zero_le _⟩) ?_
  refine lv_if_ne (tgt := 26) hx hb dX9_late_20 (by decide) (fun c_20 => ?_) (fun c_20 => ?_)
  · rw [if_neg c_20] at hf
    refine lv_iload_n hx hb dX9_late_26 rfl (lv_at hl 3 rfl) ?_
    refine lv_istore (lv' := [(4, .int v3), (0, .ref (A 0)), (1, .int v1), (2, .int v2), (3, .int v3)]) hx hb dX9_late_27 hl (by decide) rfl (fun ls hl => ?_)
    exact hL29 fu x v1 v2 v3 v3 _ _ _ hP hS (lv_sub hl [1, 2, 3, 4, 0] rfl) hf 
  rw [if_pos c_20] at hf
  refine lv_bipush (v := (-2)) hx hb dX9_late_23 (by decide) ?_
  rw [← hQQ]
  cases hf
  exact rw_i hx hb hr hlocks hP hS dX9_late_25
theorem c_X9_late (l : Launch) (D : va_G) (ct : Nat → ClassId) (G : GT) (A : Nat → Nat) (fu : Nat) (x : Nat → Ob) (v1 : Int32) (v2 : Int32) (v3 : Int32) {r : Int32 × (Nat → Ob)} (hf : p_X9_late fu x v1 v2 v3 = some r)  (hDx : ∀ x : Nat → Ob, va_D (GE G) (csQ ct A x)) : Met l yX9_late (.code yX9_late cX9_late 5 (some .int) :: wsL_law) rm_X9_late (va_Pc [.ref (A 0), .int v1, .int v2, .int v3] (Bx D ct G (csQ ct A x))) (Qwr (some (.int r.1)) (fun H => va_P D vwCl (csQ ct A r.2) H) (wA (csQ ct A x))) 0 0 (wA (csQ ct A x)) := by
  refine Met.ofW (cc := cX9_late) (maxL := 5) (ret := (some .int)) (by decide) rfl ?_
  intro p e s m args below meth c s₁ B hml hv
  obtain ⟨rfl, hP, hK, hN, hX⟩ := hv
  have hts := atoms_spec (ws := .code yX9_late cX9_late 5 (some .int) :: wsL_law) B.pre
  rw [lg_entry_eq]
  exact b_X9_late A fu x v1 v2 v3 B.exec B.bytes B.returns hml (findClass_of_methodNamed B.named) (fun w h => hts w (List.mem_cons_of_mem _ h)) B.notSynchronized hK hN hX hP hf hDx  (lv_entry [.ref (A 0), .int v1, .int v2, .int v3] (n := 5) (Nat.le_of_ble_eq_true rfl))
def p_X9_often_L24 (fu : Nat)  : Nat → (Nat → Ob) → Int32 → Int32 → Int32 → Int32 → Option (Int32 × (Nat → Ob))
  | 0, _, _, _, _, _ => none
  | n + 1, xz, v1, v2, v3, v4 =>
    if (60 : Int32) < v4 then some (v3, xz) else (p_X9_coming fu xz v1 v4 v2).bind fun r_36 => if r_36.1 = ((-1) : Int32) then p_X9_often_L24 fu  n r_36.2 v1 v2 v3 (v4 + 1) else p_X9_often_L24 fu  n r_36.2 v1 v2 (v3 + 1) (v4 + 1)
def p_X9_often (fu : Nat) (x : Nat → Ob) (v1 : Int32) (v2 : Int32) : Option (Int32 × (Nat → Ob)) :=
  (p_X9_isReach fu x v1).bind fun r_2 => if r_2 = 0 then some (((-2) : Int32), x) else (p_X9_isReach fu x v2).bind fun r_10 => if r_10 = 0 then some (((-2) : Int32), x) else p_X9_often_L24 fu fu x v1 v2 0 0
abbrev rm_X9_often : Room := { frames := 5, cells := 0, slots := 0, locals := 120 }
set_option maxHeartbeats 4000000 in
set_option maxRecDepth 100000 in
theorem b_X9_often {p : Program} {l : Launch} {e : Env} {s : State} {m : MethodId} {args : Array Value} {below : List Frame} {meth : Method} {c : Code} {ls : Array Slot} {D : va_G} {ct : Nat → ClassId} {G : GT} (A : Nat → Nat) (fu : Nat) (x : Nat → Ob) (v1 : Int32) (v2 : Int32) {r : Int32 × (Nat → Ob)} (hx : p.tables.exec = Jvm.exec) (hb : c.code = cX9_often) (hr : meth.sig.returnType = (some .int)) (hml : c.maxLocals = 5) (hown : s.vm.findClass RX9 = some m.cls) (htl : ∀ w ∈ wsL_law, w.before args s = true) (hlocks : meth.locks = false) (hK : va_K D vwCl (tyl ct) s) (hN : ∀ w ∈ NW, va_Nw w s) (hX : SX G s s.heap) (hP0 : va_P D vwCl (csQ ct A x) s.heap) (hf : p_X9_often fu x v1 v2 = some r) (hDx : ∀ x : Nat → Ob, va_D (GE G) (csQ ct A x))  (hl : lv_has ls 5 [(0, .ref (A 0)), (1, .int v1), (2, .int v2)]) : W p l e rm_X9_often s m args below meth c s.heap [] 0 0 (MQ below (Qwr (some (.int r.1)) (fun H => va_P D vwCl (csQ ct A r.2) H) (wA (csQ ct A x))) args s 0 0 (wA (csQ ct A x))) (F0 m 0 ls []) := by
  generalize hQQ : MQ below (Qwr (some (.int r.1)) (fun H => va_P D vwCl (csQ ct A r.2) H) (wA (csQ ct A x))) args s 0 0 (wA (csQ ct A x)) = QQ
  have hDW : ∀ x1 : Nat → Ob, va_D (wA (csQ ct A x)) (csQ ct A x1) := fun x1 => D_any (D_self (hDx x1)) (wA_Q x1 x)
  have hGE : ∀ q, wA (csQ ct A x) q → GE G q := wA_GE (hDx x)
  have hP := hP0
  have hS : va_S (wA (csQ ct A x)) s.heap s.heap [] := va_S.rf
  have hL24 : ∀ (n : Nat) (xz : Nat → Ob) (v1 : Int32) (v2 : Int32) (v3 : Int32) (v4 : Int32), ∀ (H : Heap) (locs : List Loc) (ls : Array Slot), va_P D vwCl (csQ ct A xz) H → va_S (wA (csQ ct A x)) s.heap H locs → lv_has ls 5 [(0, .ref (A 0)), (1, .int v1), (2, .int v2), (3, .int v3), (4, .int v4)] → p_X9_often_L24 fu  n xz v1 v2 v3 v4 = some r → W p l e rm_X9_often s m args below meth c H locs 0 0 QQ (F0 m 24 ls []) := by
    intro  n
    induction n with
    | zero =>
      intro xz v1 v2 v3 v4 H locs ls hP hS hl hf 
      rw [p_X9_often_L24] at hf
      cases hf
    | succ n ih =>
      intro xz v1 v2 v3 v4 H locs ls hP hS hl hf 
      rw [p_X9_often_L24] at hf
      refine lv_iload hx hb dX9_often_24 (lv_at hl 4 rfl) ?_
      refine lv_bipush (v := 60) hx hb dX9_often_26 (by decide) ?_
      refine lv_icmp_gt (tgt := 52) hx hb dX9_often_28 (by decide) (fun c_28 => ?_) (fun c_28 => ?_)
      · rw [if_pos c_28] at hf
        refine lv_iload_n hx hb dX9_often_52 rfl (lv_at hl 3 rfl) ?_
        rw [← hQQ]
        cases hf
        exact rw_i hx hb hr hlocks hP hS dX9_often_53
      rw [if_neg c_28] at hf
      refine lv_aload_n hx hb dX9_often_31 rfl (lv_at hl 0 rfl) ?_
      refine lv_iload_n hx hb dX9_often_32 rfl (lv_at hl 1 rfl) ?_
      refine lv_iload hx hb dX9_often_33 (lv_at hl 4 rfl) ?_
      refine lv_iload_n hx hb dX9_often_35 rfl (lv_at hl 2 rfl) ?_
      obtain ⟨r_36, e_36, hf⟩ := ob_bind hf
      have hPX_36 : va_P D vwCl (csQ ct A xz) H := hP
      refine wr_call1 (va_runV (As := [.int v1, .int v4, .int v2]) (rest := []) ⟨hx, hb, hml, hown, htl⟩ (c_X9_coming l D ct G A fu xz v1 v4 v2 e_36 hDx) (cw_X9_X9_coming htl ⟨Nat.le_of_ble_eq_true rfl, Nat.le_of_ble_eq_true rfl⟩) ⟨Bx_blind, va_recv hK hPX_36 (ci := 9) (q0 := 0) rfl rfl, Bx_pre hPX_36 hK hN (hX.stay hS hGE)⟩ rfl rfl hl.1 rfl (lv_room (Nat.le_of_ble_eq_true rfl)) dX9_often_36 ⟨Nat.zero_le _, Nat.zero_le _⟩) hS (wA_Q _ _) (fun H_36 locs_36 hB_36 _ hk_36 hS => ?_)
      have hP : va_P D vwCl (csQ ct A r_36.2) H_36 := hB_36
      refine lv_iconst (v := (-1)) hx hb dX9_often_39 (by decide) ?_
      refine lv_icmp_eq (tgt := 46) hx hb dX9_often_40 (by decide) (fun c_40 => ?_) (fun c_40 => ?_)
      · rw [if_pos c_40] at hf
        refine lv_iinc (v := (v4 + 1)) (lv' := [(4, .int (v4 + 1)), (0, .ref (A 0)), (1, .int v1), (2, .int v2), (3, .int v3)]) hx hb dX9_often_46 hl (k := 4) rfl rfl (by decide) rfl (fun ls hl => ?_)
        refine lv_goto (tgt := 24) hx hb dX9_often_49 (by decide) ?_
        exact ih r_36.2 v1 v2 v3 (v4 + 1) _ _ _ hP hS (lv_sub hl [1, 2, 3, 4, 0] rfl) hf 
      rw [if_neg c_40] at hf
      refine lv_iinc (v := (v3 + 1)) (lv' := [(3, .int (v3 + 1)), (0, .ref (A 0)), (1, .int v1), (2, .int v2), (4, .int v4)]) hx hb dX9_often_43 hl (k := 3) rfl rfl (by decide) rfl (fun ls hl => ?_)
      refine lv_iinc (v := (v4 + 1)) (lv' := [(4, .int (v4 + 1)), (3, .int (v3 + 1)), (0, .ref (A 0)), (1, .int v1), (2, .int v2)]) hx hb dX9_often_46 hl (k := 4) rfl rfl (by decide) rfl (fun ls hl => ?_)
      refine lv_goto (tgt := 24) hx hb dX9_often_49 (by decide) ?_
      exact ih r_36.2 v1 v2 (v3 + 1) (v4 + 1) _ _ _ hP hS (lv_sub hl [2, 3, 4, 1, 0] rfl) hf 
  rw [p_X9_often] at hf
  refine lv_aload_n hx hb dX9_often_0 rfl (lv_at hl 0 rfl) ?_
  refine lv_iload_n hx hb dX9_often_1 rfl (lv_at hl 1 rfl) ?_
  obtain ⟨r_2, e_2, hf⟩ := ob_bind hf
  have hPX_2 : va_P D vwCl (csQ ct A x) s.heap := hP
  refine ro_call1 (va_runV (As := [.int v1]) (rest := []) ⟨hx, hb, hml, hown, htl⟩ (c_X9_isReach l D ct G A fu x v1 e_2) (cw_X9_X9_isReach htl ⟨Nat.le_of_ble_eq_true rfl, Nat.le_of_ble_eq_true rfl⟩) ⟨Bx_blind, va_recv hK hPX_2 (ci := 9) (q0 := 0) rfl rfl, Bx_pre hPX_2 hK hN (hX.stay hS hGE)⟩ rfl rfl hl.1 rfl (lv_room (Nat.le_of_ble_eq_true rfl)) dX9_often_2 ⟨Nat.zero_le _, Nat.zero_le _⟩) ?_
  refine lv_if_eq (tgt := 16) hx hb dX9_often_5 (by decide) (fun c_5 => ?_) (fun c_5 => ?_)
  · rw [if_pos c_5] at hf
    refine lv_bipush (v := (-2)) hx hb dX9_often_16 (by decide) ?_
    rw [← hQQ]
    cases hf
    exact rw_i hx hb hr hlocks hP hS dX9_often_18
  rw [if_neg c_5] at hf
  refine lv_aload_n hx hb dX9_often_8 rfl (lv_at hl 0 rfl) ?_
  refine lv_iload_n hx hb dX9_often_9 rfl (lv_at hl 2 rfl) ?_
  obtain ⟨r_10, e_10, hf⟩ := ob_bind hf
  have hPX_10 : va_P D vwCl (csQ ct A x) s.heap := hP
  refine ro_call1 (va_runV (As := [.int v2]) (rest := []) ⟨hx, hb, hml, hown, htl⟩ (c_X9_isReach l D ct G A fu x v2 e_10) (cw_X9_X9_isReach htl ⟨Nat.le_of_ble_eq_true rfl, Nat.le_of_ble_eq_true rfl⟩) ⟨Bx_blind, va_recv hK hPX_10 (ci := 9) (q0 := 0) rfl rfl, Bx_pre hPX_10 hK hN (hX.stay hS hGE)⟩ rfl rfl hl.1 rfl (lv_room (Nat.le_of_ble_eq_true rfl)) dX9_often_10 ⟨Nat.zero_le _, Nat.zero_le _⟩) ?_
  refine lv_if_ne (tgt := 19) hx hb dX9_often_13 (by decide) (fun c_13 => ?_) (fun c_13 => ?_)
  rotate_left 1
  · rw [if_pos c_13] at hf
    refine lv_bipush (v := (-2)) hx hb dX9_often_16 (by decide) ?_
    rw [← hQQ]
    cases hf
    exact rw_i hx hb hr hlocks hP hS dX9_often_18
  rw [if_neg c_13] at hf
  refine lv_iconst (v := 0) hx hb dX9_often_19 (by decide) ?_
  refine lv_istore_n (lv' := [(3, .int 0), (0, .ref (A 0)), (1, .int v1), (2, .int v2)]) hx hb dX9_often_20 rfl hl (by decide) rfl (fun ls hl => ?_)
  refine lv_iconst (v := 0) hx hb dX9_often_21 (by decide) ?_
  refine lv_istore (lv' := [(4, .int 0), (3, .int 0), (0, .ref (A 0)), (1, .int v1), (2, .int v2)]) hx hb dX9_often_22 hl (by decide) rfl (fun ls hl => ?_)
  exact hL24 fu x v1 v2 0 0 _ _ _ hP hS (lv_sub hl [2, 3, 4, 1, 0] rfl) hf 
theorem c_X9_often (l : Launch) (D : va_G) (ct : Nat → ClassId) (G : GT) (A : Nat → Nat) (fu : Nat) (x : Nat → Ob) (v1 : Int32) (v2 : Int32) {r : Int32 × (Nat → Ob)} (hf : p_X9_often fu x v1 v2 = some r)  (hDx : ∀ x : Nat → Ob, va_D (GE G) (csQ ct A x)) : Met l yX9_often (.code yX9_often cX9_often 5 (some .int) :: wsL_law) rm_X9_often (va_Pc [.ref (A 0), .int v1, .int v2] (Bx D ct G (csQ ct A x))) (Qwr (some (.int r.1)) (fun H => va_P D vwCl (csQ ct A r.2) H) (wA (csQ ct A x))) 0 0 (wA (csQ ct A x)) := by
  refine Met.ofW (cc := cX9_often) (maxL := 5) (ret := (some .int)) (by decide) rfl ?_
  intro p e s m args below meth c s₁ B hml hv
  obtain ⟨rfl, hP, hK, hN, hX⟩ := hv
  have hts := atoms_spec (ws := .code yX9_often cX9_often 5 (some .int) :: wsL_law) B.pre
  rw [lg_entry_eq]
  exact b_X9_often A fu x v1 v2 B.exec B.bytes B.returns hml (findClass_of_methodNamed B.named) (fun w h => hts w (List.mem_cons_of_mem _ h)) B.notSynchronized hK hN hX hP hf hDx  (lv_entry [.ref (A 0), .int v1, .int v2] (n := 5) (Nat.le_of_ble_eq_true rfl))
def p_X9_cutsAll_L2 (fu : Nat) (x : Nat → Ob)  : Nat → Int32 → Int32 → Int32 → Option (Int32)
  | 0, _, _, _ => none
  | n + 1, v1, v2, v3 =>
    if v2 ≤ v3 then some (1 : Int32) else (p_X9_pick fu 61 ((x 0).1 13) v3).bind fun r_12 => if (r_12 &&& v1) = 0 then some (0 : Int32) else p_X9_cutsAll_L2 fu x  n v1 v2 (v3 + 1)
def p_X9_cutsAll (fu : Nat) (x : Nat → Ob) (v1 : Int32) (v2 : Int32) : Option (Int32) :=
  p_X9_cutsAll_L2 fu x fu v1 v2 0
abbrev rm_X9_cutsAll : Room := { frames := 1, cells := 0, slots := 0, locals := 21 }
set_option maxHeartbeats 4000000 in
set_option maxRecDepth 100000 in
theorem b_X9_cutsAll {p : Program} {l : Launch} {e : Env} {s : State} {m : MethodId} {args : Array Value} {below : List Frame} {meth : Method} {c : Code} {ls : Array Slot} {D : va_G} {ct : Nat → ClassId} {G : GT} (A : Nat → Nat) (fu : Nat) (x : Nat → Ob) (v1 : Int32) (v2 : Int32) {r : Int32} (hx : p.tables.exec = Jvm.exec) (hb : c.code = cX9_cutsAll) (hr : meth.sig.returnType = (some .boolean)) (hml : c.maxLocals = 4) (hown : s.vm.findClass RX9 = some m.cls) (htl : ∀ w ∈ wsL_law, w.before args s = true) (hlocks : meth.locks = false) (hK : va_K D vwCl (tyl ct) s) (hN : ∀ w ∈ NW, va_Nw w s) (hX : SX G s s.heap) (hP0 : va_P D vwCl (csQ ct A x) s.heap) (hf : p_X9_cutsAll fu x v1 v2 = some r)  (hl : lv_has ls 4 [(0, .ref (A 0)), (1, .int v1), (2, .int v2)]) : W p l e rm_X9_cutsAll s m args below meth c s.heap [] 0 0 (MQ below (Qro (some (.int r))) args s 0 0 (fun _ => False)) (F0 m 0 ls []) := by
  generalize hQQ : MQ below (Qro (some (.int r))) args s 0 0 (fun _ => False) = QQ
  have hP := hP0
  have hL2 : ∀ (n : Nat) (v1 : Int32) (v2 : Int32) (v3 : Int32), ∀ (ls : Array Slot), lv_has ls 4 [(0, .ref (A 0)), (1, .int v1), (2, .int v2), (3, .int v3)] → p_X9_cutsAll_L2 fu x  n v1 v2 v3 = some r → W p l e rm_X9_cutsAll s m args below meth c s.heap [] 0 0 QQ (F0 m 2 ls []) := by
    intro  n
    induction n with
    | zero =>
      intro v1 v2 v3 ls hl hf 
      rw [p_X9_cutsAll_L2] at hf
      cases hf
    | succ n ih =>
      intro v1 v2 v3 ls hl hf 
      rw [p_X9_cutsAll_L2] at hf
      refine lv_iload_n hx hb dX9_cutsAll_2 rfl (lv_at hl 3 rfl) ?_
      refine lv_iload_n hx hb dX9_cutsAll_3 rfl (lv_at hl 2 rfl) ?_
      refine lv_icmp_ge (tgt := 28) hx hb dX9_cutsAll_4 (by decide) (fun c_4 => ?_) (fun c_4 => ?_)
      · rw [if_pos c_4] at hf
        refine lv_iconst (v := 1) hx hb dX9_cutsAll_28 (by decide) ?_
        rw [← hQQ]
        exact rf_z hx hb hr hlocks rfl hf dX9_cutsAll_29
      rw [if_neg c_4] at hf
      refine lv_aload_n hx hb dX9_cutsAll_7 rfl (lv_at hl 0 rfl) ?_
      refine va_get (D := D) (ci := 9) (v := .ref (A 111)) (C := RX9) (T := TX9) (N := 14) hx hb htl inlX9 hown hK hP 0 qh_0 rfl 13 (by decide) (htl _ wq_3_1) (fun _ h9 => h9) rfl dX9_cutsAll_8 ?_
      refine lv_iload_n hx hb dX9_cutsAll_11 rfl (lv_at hl 3 rfl) ?_
      obtain ⟨r_12, e_12, hf⟩ := ob_bind hf
      have hPX_12 : va_P D vwCl ([((A 111), .inl (ct 0, 61, .inl ((x 0).1 13)))]) s.heap := (P_one hP 111 qat_111)
      refine ro_call1 (va_runS (As := [.ref (A 111), .int v3]) (rest := []) ⟨hx, hb, hml, hown, htl⟩ (c_X9_pick l D ct G (A 111) fu 61 ((x 0).1 13) v3 e_12) (cw_X9_X9_pick htl ⟨Nat.le_of_ble_eq_true rfl, Nat.le_of_ble_eq_true rfl⟩) ⟨Bx_blind, Bx_pre hPX_12 hK hN hX⟩ rfl rfl hl.1 rfl (lv_room (Nat.le_of_ble_eq_true rfl)) dX9_cutsAll_12 ⟨Nat.zero_le _, Nat.zero_le _⟩) ?_
      refine lv_iload_n hx hb dX9_cutsAll_15 rfl (lv_at hl 1 rfl) ?_
      refine lv_iand hx hb dX9_cutsAll_16 ?_
      refine lv_if_ne (tgt := 22) hx hb dX9_cutsAll_17 (by decide) (fun c_17 => ?_) (fun c_17 => ?_)
      · rw [if_neg c_17] at hf
        refine lv_iinc (v := (v3 + 1)) (lv' := [(3, .int (v3 + 1)), (0, .ref (A 0)), (1, .int v1), (2, .int v2)]) hx hb dX9_cutsAll_22 hl (k := 3) rfl rfl (by decide) rfl (fun ls hl => ?_)
        refine lv_goto (tgt := 2) hx hb dX9_cutsAll_25 (by decide) ?_
        exact ih v1 v2 (v3 + 1) _ (lv_sub hl [1, 2, 3, 0] rfl) hf 
      rw [if_pos c_17] at hf
      refine lv_iconst (v := 0) hx hb dX9_cutsAll_20 (by decide) ?_
      rw [← hQQ]
      exact rf_z hx hb hr hlocks rfl hf dX9_cutsAll_21
  rw [p_X9_cutsAll] at hf
  refine lv_iconst (v := 0) hx hb dX9_cutsAll_0 (by decide) ?_
  refine lv_istore_n (lv' := [(3, .int 0), (0, .ref (A 0)), (1, .int v1), (2, .int v2)]) hx hb dX9_cutsAll_1 rfl hl (by decide) rfl (fun ls hl => ?_)
  exact hL2 fu v1 v2 0 _ (lv_sub hl [1, 2, 3, 0] rfl) hf 
theorem c_X9_cutsAll (l : Launch) (D : va_G) (ct : Nat → ClassId) (G : GT) (A : Nat → Nat) (fu : Nat) (x : Nat → Ob) (v1 : Int32) (v2 : Int32) {r : Int32} (hf : p_X9_cutsAll fu x v1 v2 = some r)  : Met l yX9_cutsAll (.code yX9_cutsAll cX9_cutsAll 4 (some .boolean) :: wsL_law) rm_X9_cutsAll (va_Pc [.ref (A 0), .int v1, .int v2] (Bx D ct G (csQ ct A x))) (Qro (some (.int r))) 0 0 (fun _ => False) := by
  refine Met.ofW (cc := cX9_cutsAll) (maxL := 4) (ret := (some .boolean)) (by decide) rfl ?_
  intro p e s m args below meth c s₁ B hml hv
  obtain ⟨rfl, hP, hK, hN, hX⟩ := hv
  have hts := atoms_spec (ws := .code yX9_cutsAll cX9_cutsAll 4 (some .boolean) :: wsL_law) B.pre
  rw [lg_entry_eq]
  exact b_X9_cutsAll A fu x v1 v2 B.exec B.bytes B.returns hml (findClass_of_methodNamed B.named) (fun w h => hts w (List.mem_cons_of_mem _ h)) B.notSynchronized hK hN hX hP hf   (lv_entry [.ref (A 0), .int v1, .int v2] (n := 4) (Nat.le_of_ble_eq_true rfl))
theorem hd_X5_visitedAhead : yX5_visitedAhead.cls ≠ "java/lang/invoke/MethodHandle" ∧ yX5_visitedAhead.cls ≠ "java/lang/invoke/VarHandle" ∧ (parseMethodDescriptor yX5_visitedAhead.desc).map (fun d => d.parameters.length) = some 2 := by decide +kernel
theorem cw_X9_X5_visitedAhead {R : Room} {s : State} {args : Array Value} (ht : ∀ w ∈ wsL_law, w.before args s = true) (hN : ∀ w ∈ NW, va_Nw w s) (hR : rm_X5_visitedAhead.frames + 1 ≤ R.frames ∧ 8 + (5 + 11) + rm_X5_visitedAhead.locals ≤ R.locals) : va_CN R s args RX9 420 yX5_visitedAhead "QuotedRiver" cX5_visitedAhead 5 (some .int) ((.code yX5_visitedAhead cX5_visitedAhead 5 (some .int)) :: wsL_law) rm_X5_visitedAhead 0 0 2 ∧ (Cond.instanceMethod yX5_visitedAhead).before args s = true ∧ (Cond.selects RX5 yX5_visitedAhead yX5_visitedAhead).before args s = true := ⟨va_cnB 2 ht (GL wq_44_10) rfl rfl rfl (hN _ nm_104) (ht _ wq_2_11) hd_X5_visitedAhead hR, ht _ wq_44_8, ht _ wq_44_9⟩
def p_X9_noteWays_L5 (fu : Nat)  : Nat → (Nat → Ob) → Int32 → Int32 → Int32 → Int32 → Option (Int32 × (Nat → Ob))
  | 0, _, _, _, _, _ => none
  | n + 1, xz, v1, v2, v3, v4 =>
    if (60 : Int32) < v4 then some (v3, xz) else (p_X5_drift fu (xz 12) (xz 5) (xz 10) v1 v4).bind fun r_27 => (p_X5_firstIn fu ((va_up xz 12 r_27) 12) v2).bind fun r_35 => if r_35 = ((-1) : Int32) then p_X9_noteWays_L5 fu  n (va_up xz 12 r_27) v1 v2 v3 (v4 + 1) else (p_X5_visitedAhead fu ((va_up xz 12 r_27) 12) v4 r_35).bind fun r_59 => (p_X9_put fu 61 (((va_up xz 12 r_27) 0).1 13) v3 r_59).bind fun r_62 => p_X9_noteWays_L5 fu  n (va_up (va_up xz 12 r_27) 0 (oA ((va_up xz 12 r_27) 0) 13 r_62)) v1 v2 (v3 + 1) (v4 + 1)
def p_X9_noteWays (fu : Nat) (x : Nat → Ob) (v1 : Int32) (v2 : Int32) : Option (Int32 × (Nat → Ob)) :=
  p_X9_noteWays_L5 fu fu x v1 v2 0 0
abbrev rm_X9_noteWays : Room := { frames := 4, cells := 0, slots := 0, locals := 97 }
set_option maxHeartbeats 4000000 in
set_option maxRecDepth 100000 in
theorem b_X9_noteWays {p : Program} {l : Launch} {e : Env} {s : State} {m : MethodId} {args : Array Value} {below : List Frame} {meth : Method} {c : Code} {ls : Array Slot} {D : va_G} {ct : Nat → ClassId} {G : GT} (A : Nat → Nat) (fu : Nat) (x : Nat → Ob) (v1 : Int32) (v2 : Int32) {r : Int32 × (Nat → Ob)} (hx : p.tables.exec = Jvm.exec) (hb : c.code = cX9_noteWays) (hr : meth.sig.returnType = (some .int)) (hml : c.maxLocals = 6) (hown : s.vm.findClass RX9 = some m.cls) (htl : ∀ w ∈ wsL_law, w.before args s = true) (hlocks : meth.locks = false) (hK : va_K D vwCl (tyl ct) s) (hN : ∀ w ∈ NW, va_Nw w s) (hX : SX G s s.heap) (hP0 : va_P D vwCl (csQ ct A x) s.heap) (hf : p_X9_noteWays fu x v1 v2 = some r) (hDx : ∀ x : Nat → Ob, va_D (GE G) (csQ ct A x))  (hl : lv_has ls 6 [(0, .ref (A 0)), (1, .int v1), (2, .int v2)]) : W p l e rm_X9_noteWays s m args below meth c s.heap [] 0 0 (MQ below (Qwr (some (.int r.1)) (fun H => va_P D vwCl (csQ ct A r.2) H) (wA (csQ ct A x))) args s 0 0 (wA (csQ ct A x))) (F0 m 0 ls []) := by
  generalize hQQ : MQ below (Qwr (some (.int r.1)) (fun H => va_P D vwCl (csQ ct A r.2) H) (wA (csQ ct A x))) args s 0 0 (wA (csQ ct A x)) = QQ
  have hDW : ∀ x1 : Nat → Ob, va_D (wA (csQ ct A x)) (csQ ct A x1) := fun x1 => D_any (D_self (hDx x1)) (wA_Q x1 x)
  have hGE : ∀ q, wA (csQ ct A x) q → GE G q := wA_GE (hDx x)
  have hP := hP0
  have hS : va_S (wA (csQ ct A x)) s.heap s.heap [] := va_S.rf
  have hL5 : ∀ (n : Nat) (xz : Nat → Ob) (v1 : Int32) (v2 : Int32) (v3 : Int32) (v4 : Int32), ∀ (H : Heap) (locs : List Loc) (ls : Array Slot), va_P D vwCl (csQ ct A xz) H → va_S (wA (csQ ct A x)) s.heap H locs → lv_has ls 6 [(0, .ref (A 0)), (1, .int v1), (2, .int v2), (3, .int v3), (4, .int v4)] → p_X9_noteWays_L5 fu  n xz v1 v2 v3 v4 = some r → W p l e rm_X9_noteWays s m args below meth c H locs 0 0 QQ (F0 m 5 ls []) := by
    intro  n
    induction n with
    | zero =>
      intro xz v1 v2 v3 v4 H locs ls hP hS hl hf 
      rw [p_X9_noteWays_L5] at hf
      cases hf
    | succ n ih =>
      intro xz v1 v2 v3 v4 H locs ls hP hS hl hf 
      rw [p_X9_noteWays_L5] at hf
      refine lv_iload hx hb dX9_noteWays_5 (lv_at hl 4 rfl) ?_
      refine lv_bipush (v := 60) hx hb dX9_noteWays_7 (by decide) ?_
      refine lv_icmp_gt (tgt := 74) hx hb dX9_noteWays_9 (by decide) (fun c_9 => ?_) (fun c_9 => ?_)
      · rw [if_pos c_9] at hf
        refine lv_iload_n hx hb dX9_noteWays_74 rfl (lv_at hl 3 rfl) ?_
        rw [← hQQ]
        cases hf
        exact rw_i hx hb hr hlocks hP hS dX9_noteWays_75
      rw [if_neg c_9] at hf
      refine lv_aload_n hx hb dX9_noteWays_12 rfl (lv_at hl 0 rfl) ?_
      refine va_get (D := D) (ci := 9) (v := .ref (A 93)) (C := RX9) (T := TX9) (N := 14) hx hb htl inlX9 hown hK hP 0 qh_0 rfl 8 (by decide) (htl _ wq_2_12) (fun _ h9 => h9) rfl dX9_noteWays_13 ?_
      refine lv_aload_n hx hb dX9_noteWays_16 rfl (lv_at hl 0 rfl) ?_
      refine va_get (D := D) (ci := 9) (v := .ref (A 21)) (C := RX9) (T := TX9) (N := 14) hx hb htl inlX9 hown hK hP 0 qh_0 rfl 2 (by decide) (htl _ wq_2_0) (fun _ h9 => h9) rfl dX9_noteWays_17 ?_
      refine lv_aload_n hx hb dX9_noteWays_20 rfl (lv_at hl 0 rfl) ?_
      refine va_get (D := D) (ci := 9) (v := .ref (A 87)) (C := RX9) (T := TX9) (N := 14) hx hb htl inlX9 hown hK hP 0 qh_0 rfl 6 (by decide) (htl _ wq_2_7) (fun _ h9 => h9) rfl dX9_noteWays_21 ?_
      refine lv_iload_n hx hb dX9_noteWays_24 rfl (lv_at hl 1 rfl) ?_
      refine lv_iload hx hb dX9_noteWays_25 (lv_at hl 4 rfl) ?_
      obtain ⟨r_27, e_27, hf⟩ := ob_bind hf
      have hPX_27 : va_P D vwCl (cs5 ct (fun i => A (93 + i)) (xz 12) ++ (cs2 ct (fun i => A (21 + i)) (xz 5) ++ (cs8 ct (fun i => A (87 + i)) (xz 10)))) H := (va_P.app (qs_12 hP) (va_P.app (qs_5 hP) (qs_10 hP)))
      refine wr_call0 (va_runVN (As := [.ref (A 21), .ref (A 87), .int v1, .int v4]) (rest := []) ⟨hx, hb, hml, hown, htl⟩ (c_X5_drift l D ct G (fun i => A (93 + i)) (fun i => A (21 + i)) (fun i => A (87 + i)) fu (xz 12) (xz 5) (xz 10) v1 v4 e_27 ((hDx xz).sub (ws' := cs5 ct (fun i => A (93 + i)) (xz 12) ++ (cs2 ct (fun i => A (21 + i)) (xz 5) ++ (cs8 ct (fun i => A (87 + i)) (xz 10)))) [93, 94, 21, 22, 23, 24, 25, 26, 27, 28, 29, 30, 31, 32, 33, 87, 88, 89] (by decide) rfl)) (cw_X9_X5_drift htl hN ⟨Nat.le_of_ble_eq_true rfl, Nat.le_of_ble_eq_true rfl⟩) ⟨Bx_blind, va_recv hK hPX_27 (ci := 5) (q0 := 0) rfl rfl, Bx_pre hPX_27 hK hN (hX.stay hS hGE)⟩ rfl rfl hl.1 rfl (lv_room (Nat.le_of_ble_eq_true rfl)) dX9_noteWays_27 ⟨Nat.zero_le _, Nat.zero_le _⟩) hS qa_12 (fun H_27 locs_27 hB_27 _ hk_27 hS => ?_)
      have hP : va_P D vwCl (csQ ct A (va_up xz 12 r_27)) H_27 := qj_12 hP (hDW xz) hk_27 hB_27
      refine lv_aload_n hx hb dX9_noteWays_30 rfl (lv_at hl 0 rfl) ?_
      refine va_get (D := D) (ci := 9) (v := .ref (A 93)) (C := RX9) (T := TX9) (N := 14) hx hb htl inlX9 hown hK hP 0 qh_0 rfl 8 (by decide) (htl _ wq_2_12) (fun _ h9 => h9) rfl dX9_noteWays_31 ?_
      refine lv_iload_n hx hb dX9_noteWays_34 rfl (lv_at hl 2 rfl) ?_
      obtain ⟨r_35, e_35, hf⟩ := ob_bind hf
      have hPX_35 : va_P D vwCl (cs5 ct (fun i => A (93 + i)) ((va_up xz 12 r_27) 12)) H_27 := (qs_12 hP)
      refine ro_call1 (va_runVN (As := [.int v2]) (rest := []) ⟨hx, hb, hml, hown, htl⟩ (c_X5_firstIn l D ct G (fun i => A (93 + i)) fu ((va_up xz 12 r_27) 12) v2 e_35) (cw_X9_X5_firstIn htl hN ⟨Nat.le_of_ble_eq_true rfl, Nat.le_of_ble_eq_true rfl⟩) ⟨Bx_blind, va_recv hK hPX_35 (ci := 5) (q0 := 0) rfl rfl, Bx_pre hPX_35 hK hN (hX.stay hS hGE)⟩ rfl rfl hl.1 rfl (lv_room (Nat.le_of_ble_eq_true rfl)) dX9_noteWays_35 ⟨Nat.zero_le _, Nat.zero_le _⟩) ?_
      refine lv_istore (lv' := [(5, .int r_35), (0, .ref (A 0)), (1, .int v1), (2, .int v2), (3, .int v3), (4, .int v4)]) hx hb dX9_noteWays_38 hl (by decide) rfl (fun ls hl => ?_)
      refine lv_iload hx hb dX9_noteWays_40 (lv_at hl 0 rfl) ?_
      refine lv_iconst (v := (-1)) hx hb dX9_noteWays_42 (by decide) ?_
      refine lv_icmp_eq (tgt := 68) hx hb dX9_noteWays_43 (by decide) (fun c_43 => ?_) (fun c_43 => ?_)
      · rw [if_pos c_43] at hf
        refine lv_iinc (v := (v4 + 1)) (lv' := [(4, .int (v4 + 1)), (5, .int r_35), (0, .ref (A 0)), (1, .int v1), (2, .int v2), (3, .int v3)]) hx hb dX9_noteWays_68 hl (k := 5) rfl rfl (by decide) rfl (fun ls hl => ?_)
        refine lv_goto (tgt := 5) hx hb dX9_noteWays_71 (by decide) ?_
        exact ih (va_up xz 12 r_27) v1 v2 v3 (v4 + 1) _ _ _ hP hS (lv_sub hl [2, 3, 4, 5, 0] rfl) hf 
      rw [if_neg c_43] at hf
      refine lv_aload_n hx hb dX9_noteWays_46 rfl (lv_at hl 1 rfl) ?_
      refine va_get (D := D) (ci := 9) (v := .ref (A 111)) (C := RX9) (T := TX9) (N := 14) hx hb htl inlX9 hown hK hP 0 qh_0 rfl 13 (by decide) (htl _ wq_3_1) (fun _ h9 => h9) rfl dX9_noteWays_47 ?_
      refine lv_iload_n hx hb dX9_noteWays_50 rfl (lv_at hl 4 rfl) ?_
      refine lv_aload_n hx hb dX9_noteWays_51 rfl (lv_at hl 1 rfl) ?_
      refine va_get (D := D) (ci := 9) (v := .ref (A 93)) (C := RX9) (T := TX9) (N := 14) hx hb htl inlX9 hown hK hP 0 qh_0 rfl 8 (by decide) (htl _ wq_2_12) (fun _ h9 => h9) rfl dX9_noteWays_52 ?_
      refine lv_iload hx hb dX9_noteWays_55 (lv_at hl 5 rfl) ?_
      refine lv_iload hx hb dX9_noteWays_57 (lv_at hl 0 rfl) ?_
      obtain ⟨r_59, e_59, hf⟩ := ob_bind hf
      have hPX_59 : va_P D vwCl (cs5 ct (fun i => A (93 + i)) ((va_up xz 12 r_27) 12)) H_27 := (qs_12 hP)
      refine ro_call1 (va_runVN (As := [.int v4, .int r_35]) (rest := [.int v3, .ref (A 111)]) ⟨hx, hb, hml, hown, htl⟩ (c_X5_visitedAhead l D ct G (fun i => A (93 + i)) fu ((va_up xz 12 r_27) 12) v4 r_35 e_59) (cw_X9_X5_visitedAhead htl hN ⟨Nat.le_of_ble_eq_true rfl, Nat.le_of_ble_eq_true rfl⟩) ⟨Bx_blind, va_recv hK hPX_59 (ci := 5) (q0 := 0) rfl rfl, Bx_pre hPX_59 hK hN (hX.stay hS hGE)⟩ rfl rfl hl.1 rfl (lv_room (Nat.le_of_ble_eq_true rfl)) dX9_noteWays_59 ⟨Nat.zero_le _, Nat.zero_le _⟩) ?_
      obtain ⟨r_62, e_62, hf⟩ := ob_bind hf
      have hPX_62 : va_P D vwCl ([((A 111), .inl (ct 0, 61, .inl (((va_up xz 12 r_27) 0).1 13)))]) H_27 := (P_one hP 111 qat_111)
      refine wr_call0 (va_runS (As := [.ref (A 111), .int v3, .int r_59]) (rest := []) ⟨hx, hb, hml, hown, htl⟩ (c_X9_put l D ct G (A 111) fu 61 (((va_up xz 12 r_27) 0).1 13) v3 r_59 e_62 (qdA_111 (hDx (va_up xz 12 r_27)))) (cw_X9_X9_put htl ⟨Nat.le_of_ble_eq_true rfl, Nat.le_of_ble_eq_true rfl⟩) ⟨Bx_blind, Bx_pre hPX_62 hK hN (hX.stay hS hGE)⟩ rfl rfl hl.1 rfl (lv_room (Nat.le_of_ble_eq_true rfl)) dX9_noteWays_62 ⟨Nat.zero_le _, Nat.zero_le _⟩) hS qaA_111 (fun H_62 locs_62 hB_62 _ hk_62 hS => ?_)
      have hP : va_P D vwCl (csQ ct A (va_up (va_up xz 12 r_27) 0 (oA ((va_up xz 12 r_27) 0) 13 r_62))) H_62 := qjA_111 hP (hDW (va_up xz 12 r_27)) hk_62 hB_62
      refine lv_iinc (v := (v3 + 1)) (lv' := [(3, .int (v3 + 1)), (5, .int r_35), (0, .ref (A 0)), (1, .int v1), (2, .int v2), (4, .int v4)]) hx hb dX9_noteWays_65 hl (k := 4) rfl rfl (by decide) rfl (fun ls hl => ?_)
      refine lv_iinc (v := (v4 + 1)) (lv' := [(4, .int (v4 + 1)), (3, .int (v3 + 1)), (5, .int r_35), (0, .ref (A 0)), (1, .int v1), (2, .int v2)]) hx hb dX9_noteWays_68 hl (k := 5) rfl rfl (by decide) rfl (fun ls hl => ?_)
      refine lv_goto (tgt := 5) hx hb dX9_noteWays_71 (by decide) ?_
      exact ih (va_up (va_up xz 12 r_27) 0 (oA ((va_up xz 12 r_27) 0) 13 r_62)) v1 v2 (v3 + 1) (v4 + 1) _ _ _ hP hS (lv_sub hl [3, 4, 5, 1, 0] rfl) hf 
  rw [p_X9_noteWays] at hf
  refine lv_iconst (v := 0) hx hb dX9_noteWays_0 (by decide) ?_
  refine lv_istore_n (lv' := [(3, .int 0), (0, .ref (A 0)), (1, .int v1), (2, .int v2)]) hx hb dX9_noteWays_1 rfl hl (by decide) rfl (fun ls hl => ?_)
  refine lv_iconst (v := 0) hx hb dX9_noteWays_2 (by decide) ?_
  refine lv_istore (lv' := [(4, .int 0), (3, .int 0), (0, .ref (A 0)), (1, .int v1), (2, .int v2)]) hx hb dX9_noteWays_3 hl (by decide) rfl (fun ls hl => ?_)
  exact hL5 fu x v1 v2 0 0 _ _ _ hP hS (lv_sub hl [2, 3, 4, 1, 0] rfl) hf 
theorem c_X9_noteWays (l : Launch) (D : va_G) (ct : Nat → ClassId) (G : GT) (A : Nat → Nat) (fu : Nat) (x : Nat → Ob) (v1 : Int32) (v2 : Int32) {r : Int32 × (Nat → Ob)} (hf : p_X9_noteWays fu x v1 v2 = some r)  (hDx : ∀ x : Nat → Ob, va_D (GE G) (csQ ct A x)) : Met l yX9_noteWays (.code yX9_noteWays cX9_noteWays 6 (some .int) :: wsL_law) rm_X9_noteWays (va_Pc [.ref (A 0), .int v1, .int v2] (Bx D ct G (csQ ct A x))) (Qwr (some (.int r.1)) (fun H => va_P D vwCl (csQ ct A r.2) H) (wA (csQ ct A x))) 0 0 (wA (csQ ct A x)) := by
  refine Met.ofW (cc := cX9_noteWays) (maxL := 6) (ret := (some .int)) (by decide) rfl ?_
  intro p e s m args below meth c s₁ B hml hv
  obtain ⟨rfl, hP, hK, hN, hX⟩ := hv
  have hts := atoms_spec (ws := .code yX9_noteWays cX9_noteWays 6 (some .int) :: wsL_law) B.pre
  rw [lg_entry_eq]
  exact b_X9_noteWays A fu x v1 v2 B.exec B.bytes B.returns hml (findClass_of_methodNamed B.named) (fun w h => hts w (List.mem_cons_of_mem _ h)) B.notSynchronized hK hN hX hP hf hDx  (lv_entry [.ref (A 0), .int v1, .int v2] (n := 6) (Nat.le_of_ble_eq_true rfl))
theorem hd_X9_noteWays : yX9_noteWays.cls ≠ "java/lang/invoke/MethodHandle" ∧ yX9_noteWays.cls ≠ "java/lang/invoke/VarHandle" ∧ (parseMethodDescriptor yX9_noteWays.desc).map (fun d => d.parameters.length) = some 2 := by decide +kernel
theorem cw_X9_X9_noteWays {R : Room} {s : State} {args : Array Value} (ht : ∀ w ∈ wsL_law, w.before args s = true) (hR : rm_X9_noteWays.frames + 1 ≤ R.frames ∧ 8 + (6 + 11) + rm_X9_noteWays.locals ≤ R.locals) : CallW R s args RX9 RX9 414 yX9_noteWays cX9_noteWays 6 (some .int) ((.code yX9_noteWays cX9_noteWays 6 (some .int)) :: wsL_law) rm_X9_noteWays 0 0 2 := cwV 2 ht (GV wq_44_4 wq_44_5 wq_44_6 wq_1_2 wq_44_7) rfl rfl rfl ⟨rfl, hd_X9_noteWays⟩ hR
theorem hd_J6_bitCount_0f7a4 : yJ6_bitCount_0f7a4.cls ≠ "java/lang/invoke/MethodHandle" ∧ yJ6_bitCount_0f7a4.cls ≠ "java/lang/invoke/VarHandle" ∧ (parseMethodDescriptor yJ6_bitCount_0f7a4.desc).map (fun d => d.parameters.length) = some 1 := by decide +kernel
theorem cw_X9_J6_bitCount_0f7a4 {R : Room} {s : State} {args : Array Value} (ht : ∀ w ∈ wsL_law, w.before args s = true) (hR : rm_J6_bitCount_0f7a4.frames + 1 ≤ R.frames ∧ 8 + (1 + 11) + rm_J6_bitCount_0f7a4.locals ≤ R.locals) : CallB R s args RX9 272 yJ6_bitCount_0f7a4 cJ6_bitCount_0f7a4 1 (some .int) ((.code yJ6_bitCount_0f7a4 cJ6_bitCount_0f7a4 1 (some .int)) :: wsL_law) rm_J6_bitCount_0f7a4 0 0 1 ∧ (Cond.static yJ6_bitCount_0f7a4).before args s = true := va_cwS 1 ht (GS wq_44_11 wq_44_12 wq_44_13 wq_44_14) rfl rfl rfl hd_J6_bitCount_0f7a4 hR
theorem hd_X9_cutsAll : yX9_cutsAll.cls ≠ "java/lang/invoke/MethodHandle" ∧ yX9_cutsAll.cls ≠ "java/lang/invoke/VarHandle" ∧ (parseMethodDescriptor yX9_cutsAll.desc).map (fun d => d.parameters.length) = some 2 := by decide +kernel
theorem cw_X9_X9_cutsAll {R : Room} {s : State} {args : Array Value} (ht : ∀ w ∈ wsL_law, w.before args s = true) (hR : rm_X9_cutsAll.frames + 1 ≤ R.frames ∧ 8 + (4 + 11) + rm_X9_cutsAll.locals ≤ R.locals) : CallW R s args RX9 RX9 417 yX9_cutsAll cX9_cutsAll 4 (some .boolean) ((.code yX9_cutsAll cX9_cutsAll 4 (some .boolean)) :: wsL_law) rm_X9_cutsAll 0 0 2 := cwV 2 ht (GV wq_44_18 wq_44_19 wq_44_20 wq_1_2 wq_44_21) rfl rfl rfl ⟨rfl, hd_X9_cutsAll⟩ hR
def p_X9_stoppingSet_L36 (fu : Nat)  : Nat → (Nat → Ob) → Int32 → Int32 → Int32 → Int32 → Int32 → Option (Int32 × (Nat → Ob))
  | 0, _, _, _, _, _, _ => none
  | n + 1, xz, v3, v4, v5, v6, v7 =>
    (p_X9_allReaches fu xz).bind fun r_39 => if r_39 < v7 then some (v5, xz) else (p_J6_bitCount_0f7a4 fu v7).bind fun r_47 => if (v7 &&& v4) = 0 then if v6 ≤ r_47 then p_X9_stoppingSet_L36 fu  n xz v3 v4 v5 v6 (v7 + 1) else (p_X9_cutsAll fu xz v7 v3).bind fun r_71 => if r_71 = 0 then p_X9_stoppingSet_L36 fu  n xz v3 v4 v5 v6 (v7 + 1) else p_X9_stoppingSet_L36 fu  n xz v3 v4 v7 r_47 (v7 + 1) else p_X9_stoppingSet_L36 fu  n xz v3 v4 v5 v6 (v7 + 1)
def p_X9_stoppingSet (fu : Nat) (x : Nat → Ob) (v1 : Int32) (v2 : Int32) : Option (Int32 × (Nat → Ob)) :=
  if v1 = v2 then some (((-1) : Int32), x) else (p_X9_noteWays fu x v1 v2).bind fun r_10 => (p_X9_bit fu v1).bind fun r_15 => (p_X9_bit fu v2).bind fun r_19 => p_X9_stoppingSet_L36 fu fu r_10.2 r_10.1 (r_15 ||| r_19) (-1) 1000 0
abbrev rm_X9_stoppingSet : Room := { frames := 5, cells := 0, slots := 0, locals := 122 }
set_option maxHeartbeats 4000000 in
set_option maxRecDepth 100000 in
theorem b_X9_stoppingSet {p : Program} {l : Launch} {e : Env} {s : State} {m : MethodId} {args : Array Value} {below : List Frame} {meth : Method} {c : Code} {ls : Array Slot} {D : va_G} {ct : Nat → ClassId} {G : GT} (A : Nat → Nat) (fu : Nat) (x : Nat → Ob) (v1 : Int32) (v2 : Int32) {r : Int32 × (Nat → Ob)} (hx : p.tables.exec = Jvm.exec) (hb : c.code = cX9_stoppingSet) (hr : meth.sig.returnType = (some .int)) (hml : c.maxLocals = 9) (hown : s.vm.findClass RX9 = some m.cls) (htl : ∀ w ∈ wsL_law, w.before args s = true) (hlocks : meth.locks = false) (hK : va_K D vwCl (tyl ct) s) (hN : ∀ w ∈ NW, va_Nw w s) (hX : SX G s s.heap) (hP0 : va_P D vwCl (csQ ct A x) s.heap) (hf : p_X9_stoppingSet fu x v1 v2 = some r) (hDx : ∀ x : Nat → Ob, va_D (GE G) (csQ ct A x))  (hl : lv_has ls 9 [(0, .ref (A 0)), (1, .int v1), (2, .int v2)]) : W p l e rm_X9_stoppingSet s m args below meth c s.heap [] 0 0 (MQ below (Qwr (some (.int r.1)) (fun H => va_P D vwCl (csQ ct A r.2) H) (wA (csQ ct A x))) args s 0 0 (wA (csQ ct A x))) (F0 m 0 ls []) := by
  generalize hQQ : MQ below (Qwr (some (.int r.1)) (fun H => va_P D vwCl (csQ ct A r.2) H) (wA (csQ ct A x))) args s 0 0 (wA (csQ ct A x)) = QQ
  have hDW : ∀ x1 : Nat → Ob, va_D (wA (csQ ct A x)) (csQ ct A x1) := fun x1 => D_any (D_self (hDx x1)) (wA_Q x1 x)
  have hGE : ∀ q, wA (csQ ct A x) q → GE G q := wA_GE (hDx x)
  have hP := hP0
  have hS : va_S (wA (csQ ct A x)) s.heap s.heap [] := va_S.rf
  have hL36 : ∀ (n : Nat) (xz : Nat → Ob) (v3 : Int32) (v4 : Int32) (v5 : Int32) (v6 : Int32) (v7 : Int32), ∀ (H : Heap) (locs : List Loc) (ls : Array Slot), va_P D vwCl (csQ ct A xz) H → va_S (wA (csQ ct A x)) s.heap H locs → lv_has ls 9 [(0, .ref (A 0)), (3, .int v3), (4, .int v4), (5, .int v5), (6, .int v6), (7, .int v7)] → p_X9_stoppingSet_L36 fu  n xz v3 v4 v5 v6 v7 = some r → W p l e rm_X9_stoppingSet s m args below meth c H locs 0 0 QQ (F0 m 36 ls []) := by
    intro  n
    induction n with
    | zero =>
      intro xz v3 v4 v5 v6 v7 H locs ls hP hS hl hf 
      rw [p_X9_stoppingSet_L36] at hf
      cases hf
    | succ n ih =>
      intro xz v3 v4 v5 v6 v7 H locs ls hP hS hl hf 
      rw [p_X9_stoppingSet_L36] at hf
      refine lv_iload hx hb dX9_stoppingSet_36 (lv_at hl 5 rfl) ?_
      refine lv_aload_n hx hb dX9_stoppingSet_38 rfl (lv_at hl 0 rfl) ?_
      obtain ⟨r_39, e_39, hf⟩ := ob_bind hf
      have hPX_39 : va_P D vwCl (csQ ct A xz) H := hP
      refine ro_call1 (va_runV (As := []) (rest := [.int v7]) ⟨hx, hb, hml, hown, htl⟩ (c_X9_allReaches l D ct G A fu xz e_39) (cw_X9_X9_allReaches htl ⟨Nat.le_of_ble_eq_true rfl, Nat.le_of_ble_eq_true rfl⟩) ⟨Bx_blind, va_recv hK hPX_39 (ci := 9) (q0 := 0) rfl rfl, Bx_pre hPX_39 hK hN (hX.stay hS hGE)⟩ rfl rfl hl.1 rfl (lv_room (Nat.le_of_ble_eq_true rfl)) dX9_stoppingSet_39 ⟨Nat.zero_le _, Nat.zero_le _⟩) ?_
      refine lv_icmp_gt (tgt := 91) hx hb dX9_stoppingSet_42 (by decide) (fun c_42 => ?_) (fun c_42 => ?_)
      · rw [if_pos c_42] at hf
        refine lv_iload hx hb dX9_stoppingSet_91 (lv_at hl 3 rfl) ?_
        rw [← hQQ]
        cases hf
        exact rw_i hx hb hr hlocks hP hS dX9_stoppingSet_93
      rw [if_neg c_42] at hf
      refine lv_iload hx hb dX9_stoppingSet_45 (lv_at hl 5 rfl) ?_
      obtain ⟨r_47, e_47, hf⟩ := ob_bind hf
      have hPX_47 : va_P D vwCl ([]) H := P_nil
      refine ro_call1 (va_runS (As := [.int v7]) (rest := []) ⟨hx, hb, hml, hown, htl⟩ (c_J6_bitCount_0f7a4 l D ct G fu v7 e_47) (cw_X9_J6_bitCount_0f7a4 htl ⟨Nat.le_of_ble_eq_true rfl, Nat.le_of_ble_eq_true rfl⟩) ⟨Bx_blind, Bx_pre hPX_47 hK hN (hX.stay hS hGE)⟩ rfl rfl hl.1 rfl (lv_room (Nat.le_of_ble_eq_true rfl)) dX9_stoppingSet_47 ⟨Nat.zero_le _, Nat.zero_le _⟩) ?_
      refine lv_istore (lv' := [(8, .int r_47), (0, .ref (A 0)), (3, .int v3), (4, .int v4), (5, .int v5), (6, .int v6), (7, .int v7)]) hx hb dX9_stoppingSet_50 hl (by decide) rfl (fun ls hl => ?_)
      refine lv_iload hx hb dX9_stoppingSet_52 (lv_at hl 6 rfl) ?_
      refine lv_iload hx hb dX9_stoppingSet_54 (lv_at hl 3 rfl) ?_
      refine lv_iand hx hb dX9_stoppingSet_56 ?_
      refine lv_if_ne (tgt := 85) hx hb dX9_stoppingSet_57 (by decide) (fun c_57 => ?_) (fun c_57 => ?_)
      · rw [if_neg c_57] at hf
        refine lv_iinc (v := (v7 + 1)) (lv' := [(7, .int (v7 + 1)), (8, .int r_47), (0, .ref (A 0)), (3, .int v3), (4, .int v4), (5, .int v5), (6, .int v6)]) hx hb dX9_stoppingSet_85 hl (k := 6) rfl rfl (by decide) rfl (fun ls hl => ?_)
        refine lv_goto (tgt := 36) hx hb dX9_stoppingSet_88 (by decide) ?_
        exact ih xz v3 v4 v5 v6 (v7 + 1) _ _ _ hP hS (lv_sub hl [2, 3, 4, 5, 6, 0] rfl) hf 
      rw [if_pos c_57] at hf
      refine lv_iload hx hb dX9_stoppingSet_60 (lv_at hl 0 rfl) ?_
      refine lv_iload hx hb dX9_stoppingSet_62 (lv_at hl 5 rfl) ?_
      refine lv_icmp_ge (tgt := 85) hx hb dX9_stoppingSet_64 (by decide) (fun c_64 => ?_) (fun c_64 => ?_)
      · rw [if_pos c_64] at hf
        refine lv_iinc (v := (v7 + 1)) (lv' := [(7, .int (v7 + 1)), (8, .int r_47), (0, .ref (A 0)), (3, .int v3), (4, .int v4), (5, .int v5), (6, .int v6)]) hx hb dX9_stoppingSet_85 hl (k := 6) rfl rfl (by decide) rfl (fun ls hl => ?_)
        refine lv_goto (tgt := 36) hx hb dX9_stoppingSet_88 (by decide) ?_
        exact ih xz v3 v4 v5 v6 (v7 + 1) _ _ _ hP hS (lv_sub hl [2, 3, 4, 5, 6, 0] rfl) hf 
      rw [if_neg c_64] at hf
      refine lv_aload_n hx hb dX9_stoppingSet_67 rfl (lv_at hl 1 rfl) ?_
      refine lv_iload hx hb dX9_stoppingSet_68 (lv_at hl 6 rfl) ?_
      refine lv_iload_n hx hb dX9_stoppingSet_70 rfl (lv_at hl 2 rfl) ?_
      obtain ⟨r_71, e_71, hf⟩ := ob_bind hf
      have hPX_71 : va_P D vwCl (csQ ct A xz) H := hP
      refine ro_call1 (va_runV (As := [.int v7, .int v3]) (rest := []) ⟨hx, hb, hml, hown, htl⟩ (c_X9_cutsAll l D ct G A fu xz v7 v3 e_71) (cw_X9_X9_cutsAll htl ⟨Nat.le_of_ble_eq_true rfl, Nat.le_of_ble_eq_true rfl⟩) ⟨Bx_blind, va_recv hK hPX_71 (ci := 9) (q0 := 0) rfl rfl, Bx_pre hPX_71 hK hN (hX.stay hS hGE)⟩ rfl rfl hl.1 rfl (lv_room (Nat.le_of_ble_eq_true rfl)) dX9_stoppingSet_71 ⟨Nat.zero_le _, Nat.zero_le _⟩) ?_
      refine lv_if_eq (tgt := 85) hx hb dX9_stoppingSet_74 (by decide) (fun c_74 => ?_) (fun c_74 => ?_)
      · rw [if_pos c_74] at hf
        refine lv_iinc (v := (v7 + 1)) (lv' := [(7, .int (v7 + 1)), (8, .int r_47), (0, .ref (A 0)), (3, .int v3), (4, .int v4), (5, .int v5), (6, .int v6)]) hx hb dX9_stoppingSet_85 hl (k := 6) rfl rfl (by decide) rfl (fun ls hl => ?_)
        refine lv_goto (tgt := 36) hx hb dX9_stoppingSet_88 (by decide) ?_
        exact ih xz v3 v4 v5 v6 (v7 + 1) _ _ _ hP hS (lv_sub hl [2, 3, 4, 5, 6, 0] rfl) hf 
      rw [if_neg c_74] at hf
      refine lv_iload hx hb dX9_stoppingSet_77 (lv_at hl 6 rfl) ?_
      refine lv_istore (lv' := [(5, .int v7), (8, .int r_47), (0, .ref (A 0)), (3, .int v3), (4, .int v4), (6, .int v6), (7, .int v7)]) hx hb dX9_stoppingSet_79 hl (by decide) rfl (fun ls hl => ?_)
      refine lv_iload hx hb dX9_stoppingSet_81 (lv_at hl 1 rfl) ?_
      refine lv_istore (lv' := [(6, .int r_47), (5, .int v7), (8, .int r_47), (0, .ref (A 0)), (3, .int v3), (4, .int v4), (7, .int v7)]) hx hb dX9_stoppingSet_83 hl (by decide) rfl (fun ls hl => ?_)
      refine lv_iinc (v := (v7 + 1)) (lv' := [(7, .int (v7 + 1)), (6, .int r_47), (5, .int v7), (8, .int r_47), (0, .ref (A 0)), (3, .int v3), (4, .int v4)]) hx hb dX9_stoppingSet_85 hl (k := 6) rfl rfl (by decide) rfl (fun ls hl => ?_)
      refine lv_goto (tgt := 36) hx hb dX9_stoppingSet_88 (by decide) ?_
      exact ih xz v3 v4 v7 r_47 (v7 + 1) _ _ _ hP hS (lv_sub hl [4, 5, 6, 2, 1, 0] rfl) hf 
  rw [p_X9_stoppingSet] at hf
  refine lv_iload_n hx hb dX9_stoppingSet_0 rfl (lv_at hl 1 rfl) ?_
  refine lv_iload_n hx hb dX9_stoppingSet_1 rfl (lv_at hl 2 rfl) ?_
  refine lv_icmp_ne (tgt := 7) hx hb dX9_stoppingSet_2 (by decide) (fun c_2 => ?_) (fun c_2 => ?_)
  rotate_left 1
  · rw [if_pos c_2] at hf
    refine lv_iconst (v := (-1)) hx hb dX9_stoppingSet_5 (by decide) ?_
    rw [← hQQ]
    cases hf
    exact rw_i hx hb hr hlocks hP hS dX9_stoppingSet_6
  rw [if_neg c_2] at hf
  refine lv_aload_n hx hb dX9_stoppingSet_7 rfl (lv_at hl 0 rfl) ?_
  refine lv_iload_n hx hb dX9_stoppingSet_8 rfl (lv_at hl 1 rfl) ?_
  refine lv_iload_n hx hb dX9_stoppingSet_9 rfl (lv_at hl 2 rfl) ?_
  obtain ⟨r_10, e_10, hf⟩ := ob_bind hf
  have hPX_10 : va_P D vwCl (csQ ct A x) s.heap := hP
  refine wr_call1 (va_runV (As := [.int v1, .int v2]) (rest := []) ⟨hx, hb, hml, hown, htl⟩ (c_X9_noteWays l D ct G A fu x v1 v2 e_10 hDx) (cw_X9_X9_noteWays htl ⟨Nat.le_of_ble_eq_true rfl, Nat.le_of_ble_eq_true rfl⟩) ⟨Bx_blind, va_recv hK hPX_10 (ci := 9) (q0 := 0) rfl rfl, Bx_pre hPX_10 hK hN (hX.stay hS hGE)⟩ rfl rfl hl.1 rfl (lv_room (Nat.le_of_ble_eq_true rfl)) dX9_stoppingSet_10 ⟨Nat.zero_le _, Nat.zero_le _⟩) hS (wA_Q _ _) (fun H_10 locs_10 hB_10 _ hk_10 hS => ?_)
  have hP : va_P D vwCl (csQ ct A r_10.2) H_10 := hB_10
  refine lv_istore_n (lv' := [(3, .int r_10.1), (0, .ref (A 0)), (1, .int v1), (2, .int v2)]) hx hb dX9_stoppingSet_13 rfl hl (by decide) rfl (fun ls hl => ?_)
  refine lv_iload_n hx hb dX9_stoppingSet_14 rfl (lv_at hl 2 rfl) ?_
  obtain ⟨r_15, e_15, hf⟩ := ob_bind hf
  have hPX_15 : va_P D vwCl ([]) H_10 := P_nil
  refine ro_call1 (va_runS (As := [.int v1]) (rest := []) ⟨hx, hb, hml, hown, htl⟩ (c_X9_bit l D ct G fu v1 e_15) (cw_X9_X9_bit htl ⟨Nat.le_of_ble_eq_true rfl, Nat.le_of_ble_eq_true rfl⟩) ⟨Bx_blind, Bx_pre hPX_15 hK hN (hX.stay hS hGE)⟩ rfl rfl hl.1 rfl (lv_room (Nat.le_of_ble_eq_true rfl)) dX9_stoppingSet_15 ⟨Nat.zero_le _, Nat.zero_le _⟩) ?_
  refine lv_iload_n hx hb dX9_stoppingSet_18 rfl (lv_at hl 3 rfl) ?_
  obtain ⟨r_19, e_19, hf⟩ := ob_bind hf
  have hPX_19 : va_P D vwCl ([]) H_10 := P_nil
  refine ro_call1 (va_runS (As := [.int v2]) (rest := [.int r_15]) ⟨hx, hb, hml, hown, htl⟩ (c_X9_bit l D ct G fu v2 e_19) (cw_X9_X9_bit htl ⟨Nat.le_of_ble_eq_true rfl, Nat.le_of_ble_eq_true rfl⟩) ⟨Bx_blind, Bx_pre hPX_19 hK hN (hX.stay hS hGE)⟩ rfl rfl hl.1 rfl (lv_room (Nat.le_of_ble_eq_true rfl)) dX9_stoppingSet_19 ⟨Nat.zero_le _, Nat.zero_le _⟩) ?_
  refine lv_ior hx hb dX9_stoppingSet_22 ?_
  refine lv_istore (lv' := [(4, .int (r_15 ||| r_19)), (3, .int r_10.1), (0, .ref (A 0)), (1, .int v1), (2, .int v2)]) hx hb dX9_stoppingSet_23 hl (by decide) rfl (fun ls hl => ?_)
  refine lv_iconst (v := (-1)) hx hb dX9_stoppingSet_25 (by decide) ?_
  refine lv_istore (lv' := [(5, .int (-1)), (4, .int (r_15 ||| r_19)), (3, .int r_10.1), (0, .ref (A 0)), (1, .int v1), (2, .int v2)]) hx hb dX9_stoppingSet_26 hl (by decide) rfl (fun ls hl => ?_)
  refine lv_sipush (v := 1000) hx hb dX9_stoppingSet_28 (by decide) ?_
  refine lv_istore (lv' := [(6, .int 1000), (5, .int (-1)), (4, .int (r_15 ||| r_19)), (3, .int r_10.1), (0, .ref (A 0)), (1, .int v1), (2, .int v2)]) hx hb dX9_stoppingSet_31 hl (by decide) rfl (fun ls hl => ?_)
  refine lv_iconst (v := 0) hx hb dX9_stoppingSet_33 (by decide) ?_
  refine lv_istore (lv' := [(7, .int 0), (6, .int 1000), (5, .int (-1)), (4, .int (r_15 ||| r_19)), (3, .int r_10.1), (0, .ref (A 0)), (1, .int v1), (2, .int v2)]) hx hb dX9_stoppingSet_34 hl (by decide) rfl (fun ls hl => ?_)
  exact hL36 fu r_10.2 r_10.1 (r_15 ||| r_19) (-1) 1000 0 _ _ _ hP hS (lv_sub hl [5, 4, 3, 2, 1, 0] rfl) hf 
theorem c_X9_stoppingSet (l : Launch) (D : va_G) (ct : Nat → ClassId) (G : GT) (A : Nat → Nat) (fu : Nat) (x : Nat → Ob) (v1 : Int32) (v2 : Int32) {r : Int32 × (Nat → Ob)} (hf : p_X9_stoppingSet fu x v1 v2 = some r)  (hDx : ∀ x : Nat → Ob, va_D (GE G) (csQ ct A x)) : Met l yX9_stoppingSet (.code yX9_stoppingSet cX9_stoppingSet 9 (some .int) :: wsL_law) rm_X9_stoppingSet (va_Pc [.ref (A 0), .int v1, .int v2] (Bx D ct G (csQ ct A x))) (Qwr (some (.int r.1)) (fun H => va_P D vwCl (csQ ct A r.2) H) (wA (csQ ct A x))) 0 0 (wA (csQ ct A x)) := by
  refine Met.ofW (cc := cX9_stoppingSet) (maxL := 9) (ret := (some .int)) (by decide) rfl ?_
  intro p e s m args below meth c s₁ B hml hv
  obtain ⟨rfl, hP, hK, hN, hX⟩ := hv
  have hts := atoms_spec (ws := .code yX9_stoppingSet cX9_stoppingSet 9 (some .int) :: wsL_law) B.pre
  rw [lg_entry_eq]
  exact b_X9_stoppingSet A fu x v1 v2 B.exec B.bytes B.returns hml (findClass_of_methodNamed B.named) (fun w h => hts w (List.mem_cons_of_mem _ h)) B.notSynchronized hK hN hX hP hf hDx  (lv_entry [.ref (A 0), .int v1, .int v2] (n := 9) (Nat.le_of_ble_eq_true rfl))
theorem hd_X9_stoppingSet : yX9_stoppingSet.cls ≠ "java/lang/invoke/MethodHandle" ∧ yX9_stoppingSet.cls ≠ "java/lang/invoke/VarHandle" ∧ (parseMethodDescriptor yX9_stoppingSet.desc).map (fun d => d.parameters.length) = some 2 := by decide +kernel
theorem cw_X9_X9_stoppingSet {R : Room} {s : State} {args : Array Value} (ht : ∀ w ∈ wsL_law, w.before args s = true) (hR : rm_X9_stoppingSet.frames + 1 ≤ R.frames ∧ 8 + (9 + 11) + rm_X9_stoppingSet.locals ≤ R.locals) : CallW R s args RX9 RX9 269 yX9_stoppingSet cX9_stoppingSet 9 (some .int) ((.code yX9_stoppingSet cX9_stoppingSet 9 (some .int)) :: wsL_law) rm_X9_stoppingSet 0 0 2 := cwV 2 ht (GV wq_44_0 wq_44_1 wq_44_2 wq_1_2 wq_44_3) rfl rfl rfl ⟨rfl, hd_X9_stoppingSet⟩ hR
def p_X9_stop (fu : Nat) (x : Nat → Ob) (v1 : Int32) (v2 : Int32) : Option (Int32 × (Nat → Ob)) :=
  (p_X9_isReach fu x v1).bind fun r_2 => if r_2 = 0 then some (((-2) : Int32), x) else (p_X9_isReach fu x v2).bind fun r_10 => if r_10 = 0 then some (((-2) : Int32), x) else (p_X9_stoppingSet fu x v1 v2).bind fun r_22 => if r_22.1 = ((-1) : Int32) then some (((-1) : Int32), r_22.2) else (p_J6_bitCount_0f7a4 fu r_22.1).bind fun r_36 => some (r_36, r_22.2)
abbrev rm_X9_stop : Room := { frames := 6, cells := 0, slots := 0, locals := 150 }
set_option maxHeartbeats 4000000 in
set_option maxRecDepth 100000 in
theorem b_X9_stop {p : Program} {l : Launch} {e : Env} {s : State} {m : MethodId} {args : Array Value} {below : List Frame} {meth : Method} {c : Code} {ls : Array Slot} {D : va_G} {ct : Nat → ClassId} {G : GT} (A : Nat → Nat) (fu : Nat) (x : Nat → Ob) (v1 : Int32) (v2 : Int32) {r : Int32 × (Nat → Ob)} (hx : p.tables.exec = Jvm.exec) (hb : c.code = cX9_stop) (hr : meth.sig.returnType = (some .int)) (hml : c.maxLocals = 4) (hown : s.vm.findClass RX9 = some m.cls) (htl : ∀ w ∈ wsL_law, w.before args s = true) (hlocks : meth.locks = false) (hK : va_K D vwCl (tyl ct) s) (hN : ∀ w ∈ NW, va_Nw w s) (hX : SX G s s.heap) (hP0 : va_P D vwCl (csQ ct A x) s.heap) (hf : p_X9_stop fu x v1 v2 = some r) (hDx : ∀ x : Nat → Ob, va_D (GE G) (csQ ct A x))  (hl : lv_has ls 4 [(0, .ref (A 0)), (1, .int v1), (2, .int v2)]) : W p l e rm_X9_stop s m args below meth c s.heap [] 0 0 (MQ below (Qwr (some (.int r.1)) (fun H => va_P D vwCl (csQ ct A r.2) H) (wA (csQ ct A x))) args s 0 0 (wA (csQ ct A x))) (F0 m 0 ls []) := by
  generalize hQQ : MQ below (Qwr (some (.int r.1)) (fun H => va_P D vwCl (csQ ct A r.2) H) (wA (csQ ct A x))) args s 0 0 (wA (csQ ct A x)) = QQ
  have hDW : ∀ x1 : Nat → Ob, va_D (wA (csQ ct A x)) (csQ ct A x1) := fun x1 => D_any (D_self (hDx x1)) (wA_Q x1 x)
  have hGE : ∀ q, wA (csQ ct A x) q → GE G q := wA_GE (hDx x)
  have hP := hP0
  have hS : va_S (wA (csQ ct A x)) s.heap s.heap [] := va_S.rf
  rw [p_X9_stop] at hf
  refine lv_aload_n hx hb dX9_stop_0 rfl (lv_at hl 0 rfl) ?_
  refine lv_iload_n hx hb dX9_stop_1 rfl (lv_at hl 1 rfl) ?_
  obtain ⟨r_2, e_2, hf⟩ := ob_bind hf
  have hPX_2 : va_P D vwCl (csQ ct A x) s.heap := hP
  refine ro_call1 (va_runV (As := [.int v1]) (rest := []) ⟨hx, hb, hml, hown, htl⟩ (c_X9_isReach l D ct G A fu x v1 e_2) (cw_X9_X9_isReach htl ⟨Nat.le_of_ble_eq_true rfl, Nat.le_of_ble_eq_true rfl⟩) ⟨Bx_blind, va_recv hK hPX_2 (ci := 9) (q0 := 0) rfl rfl, Bx_pre hPX_2 hK hN (hX.stay hS hGE)⟩ rfl rfl hl.1 rfl (lv_room (Nat.le_of_ble_eq_true rfl)) dX9_stop_2 ⟨Nat.zero_le _, Nat.zero_le _⟩) ?_
  refine lv_if_eq (tgt := 16) hx hb dX9_stop_5 (by decide) (fun c_5 => ?_) (fun c_5 => ?_)
  · rw [if_pos c_5] at hf
    refine lv_bipush (v := (-2)) hx hb dX9_stop_16 (by decide) ?_
    rw [← hQQ]
    cases hf
    exact rw_i hx hb hr hlocks hP hS dX9_stop_18
  rw [if_neg c_5] at hf
  refine lv_aload_n hx hb dX9_stop_8 rfl (lv_at hl 0 rfl) ?_
  refine lv_iload_n hx hb dX9_stop_9 rfl (lv_at hl 2 rfl) ?_
  obtain ⟨r_10, e_10, hf⟩ := ob_bind hf
  have hPX_10 : va_P D vwCl (csQ ct A x) s.heap := hP
  refine ro_call1 (va_runV (As := [.int v2]) (rest := []) ⟨hx, hb, hml, hown, htl⟩ (c_X9_isReach l D ct G A fu x v2 e_10) (cw_X9_X9_isReach htl ⟨Nat.le_of_ble_eq_true rfl, Nat.le_of_ble_eq_true rfl⟩) ⟨Bx_blind, va_recv hK hPX_10 (ci := 9) (q0 := 0) rfl rfl, Bx_pre hPX_10 hK hN (hX.stay hS hGE)⟩ rfl rfl hl.1 rfl (lv_room (Nat.le_of_ble_eq_true rfl)) dX9_stop_10 ⟨Nat.zero_le _, Nat.zero_le _⟩) ?_
  refine lv_if_ne (tgt := 19) hx hb dX9_stop_13 (by decide) (fun c_13 => ?_) (fun c_13 => ?_)
  rotate_left 1
  · rw [if_pos c_13] at hf
    refine lv_bipush (v := (-2)) hx hb dX9_stop_16 (by decide) ?_
    rw [← hQQ]
    cases hf
    exact rw_i hx hb hr hlocks hP hS dX9_stop_18
  rw [if_neg c_13] at hf
  refine lv_aload_n hx hb dX9_stop_19 rfl (lv_at hl 0 rfl) ?_
  refine lv_iload_n hx hb dX9_stop_20 rfl (lv_at hl 1 rfl) ?_
  refine lv_iload_n hx hb dX9_stop_21 rfl (lv_at hl 2 rfl) ?_
  obtain ⟨r_22, e_22, hf⟩ := ob_bind hf
  have hPX_22 : va_P D vwCl (csQ ct A x) s.heap := hP
  refine wr_call1 (va_runV (As := [.int v1, .int v2]) (rest := []) ⟨hx, hb, hml, hown, htl⟩ (c_X9_stoppingSet l D ct G A fu x v1 v2 e_22 hDx) (cw_X9_X9_stoppingSet htl ⟨Nat.le_of_ble_eq_true rfl, Nat.le_of_ble_eq_true rfl⟩) ⟨Bx_blind, va_recv hK hPX_22 (ci := 9) (q0 := 0) rfl rfl, Bx_pre hPX_22 hK hN (hX.stay hS hGE)⟩ rfl rfl hl.1 rfl (lv_room (Nat.le_of_ble_eq_true rfl)) dX9_stop_22 ⟨Nat.zero_le _, Nat.zero_le _⟩) hS (wA_Q _ _) (fun H_22 locs_22 hB_22 _ hk_22 hS => ?_)
  have hP : va_P D vwCl (csQ ct A r_22.2) H_22 := hB_22
  refine lv_istore_n (lv' := [(3, .int r_22.1), (0, .ref (A 0)), (1, .int v1), (2, .int v2)]) hx hb dX9_stop_25 rfl hl (by decide) rfl (fun ls hl => ?_)
  refine lv_iload_n hx hb dX9_stop_26 rfl (lv_at hl 0 rfl) ?_
  refine lv_iconst (v := (-1)) hx hb dX9_stop_27 (by decide) ?_
  refine lv_icmp_ne (tgt := 35) hx hb dX9_stop_28 (by decide) (fun c_28 => ?_) (fun c_28 => ?_)
  rotate_left 1
  · rw [if_pos c_28] at hf
    refine lv_iconst (v := (-1)) hx hb dX9_stop_31 (by decide) ?_
    refine lv_goto (tgt := 39) hx hb dX9_stop_32 (by decide) ?_
    rw [← hQQ]
    cases hf
    exact rw_i hx hb hr hlocks hP hS dX9_stop_39
  rw [if_neg c_28] at hf
  refine lv_iload_n hx hb dX9_stop_35 rfl (lv_at hl 0 rfl) ?_
  obtain ⟨r_36, e_36, hf⟩ := ob_bind hf
  have hPX_36 : va_P D vwCl ([]) H_22 := P_nil
  refine ro_call1 (va_runS (As := [.int r_22.1]) (rest := []) ⟨hx, hb, hml, hown, htl⟩ (c_J6_bitCount_0f7a4 l D ct G fu r_22.1 e_36) (cw_X9_J6_bitCount_0f7a4 htl ⟨Nat.le_of_ble_eq_true rfl, Nat.le_of_ble_eq_true rfl⟩) ⟨Bx_blind, Bx_pre hPX_36 hK hN (hX.stay hS hGE)⟩ rfl rfl hl.1 rfl (lv_room (Nat.le_of_ble_eq_true rfl)) dX9_stop_36 ⟨Nat.zero_le _, Nat.zero_le _⟩) ?_
  rw [← hQQ]
  cases hf
  exact rw_i hx hb hr hlocks hP hS dX9_stop_39
theorem c_X9_stop (l : Launch) (D : va_G) (ct : Nat → ClassId) (G : GT) (A : Nat → Nat) (fu : Nat) (x : Nat → Ob) (v1 : Int32) (v2 : Int32) {r : Int32 × (Nat → Ob)} (hf : p_X9_stop fu x v1 v2 = some r)  (hDx : ∀ x : Nat → Ob, va_D (GE G) (csQ ct A x)) : Met l yX9_stop (.code yX9_stop cX9_stop 4 (some .int) :: wsL_law) rm_X9_stop (va_Pc [.ref (A 0), .int v1, .int v2] (Bx D ct G (csQ ct A x))) (Qwr (some (.int r.1)) (fun H => va_P D vwCl (csQ ct A r.2) H) (wA (csQ ct A x))) 0 0 (wA (csQ ct A x)) := by
  refine Met.ofW (cc := cX9_stop) (maxL := 4) (ret := (some .int)) (by decide) rfl ?_
  intro p e s m args below meth c s₁ B hml hv
  obtain ⟨rfl, hP, hK, hN, hX⟩ := hv
  have hts := atoms_spec (ws := .code yX9_stop cX9_stop 4 (some .int) :: wsL_law) B.pre
  rw [lg_entry_eq]
  exact b_X9_stop A fu x v1 v2 B.exec B.bytes B.returns hml (findClass_of_methodNamed B.named) (fun w h => hts w (List.mem_cons_of_mem _ h)) B.notSynchronized hK hN hX hP hf hDx  (lv_entry [.ref (A 0), .int v1, .int v2] (n := 4) (Nat.le_of_ble_eq_true rfl))
def p_X9_stops (fu : Nat) (x : Nat → Ob) (v1 : Int32) (v2 : Int32) : Option (Int32 × (Nat → Ob)) :=
  (p_X9_isReach fu x v1).bind fun r_2 => if r_2 = 0 then some (((-2) : Int32), x) else (p_X9_isReach fu x v2).bind fun r_10 => if r_10 = 0 then some (((-2) : Int32), x) else (p_X9_stoppingSet fu x v1 v2).bind fun r_22 => some (r_22.1, r_22.2)
abbrev rm_X9_stops : Room := { frames := 6, cells := 0, slots := 0, locals := 150 }
set_option maxHeartbeats 4000000 in
set_option maxRecDepth 100000 in
theorem b_X9_stops {p : Program} {l : Launch} {e : Env} {s : State} {m : MethodId} {args : Array Value} {below : List Frame} {meth : Method} {c : Code} {ls : Array Slot} {D : va_G} {ct : Nat → ClassId} {G : GT} (A : Nat → Nat) (fu : Nat) (x : Nat → Ob) (v1 : Int32) (v2 : Int32) {r : Int32 × (Nat → Ob)} (hx : p.tables.exec = Jvm.exec) (hb : c.code = cX9_stops) (hr : meth.sig.returnType = (some .int)) (hml : c.maxLocals = 3) (hown : s.vm.findClass RX9 = some m.cls) (htl : ∀ w ∈ wsL_law, w.before args s = true) (hlocks : meth.locks = false) (hK : va_K D vwCl (tyl ct) s) (hN : ∀ w ∈ NW, va_Nw w s) (hX : SX G s s.heap) (hP0 : va_P D vwCl (csQ ct A x) s.heap) (hf : p_X9_stops fu x v1 v2 = some r) (hDx : ∀ x : Nat → Ob, va_D (GE G) (csQ ct A x))  (hl : lv_has ls 3 [(0, .ref (A 0)), (1, .int v1), (2, .int v2)]) : W p l e rm_X9_stops s m args below meth c s.heap [] 0 0 (MQ below (Qwr (some (.int r.1)) (fun H => va_P D vwCl (csQ ct A r.2) H) (wA (csQ ct A x))) args s 0 0 (wA (csQ ct A x))) (F0 m 0 ls []) := by
  generalize hQQ : MQ below (Qwr (some (.int r.1)) (fun H => va_P D vwCl (csQ ct A r.2) H) (wA (csQ ct A x))) args s 0 0 (wA (csQ ct A x)) = QQ
  have hDW : ∀ x1 : Nat → Ob, va_D (wA (csQ ct A x)) (csQ ct A x1) := fun x1 => D_any (D_self (hDx x1)) (wA_Q x1 x)
  have hGE : ∀ q, wA (csQ ct A x) q → GE G q := wA_GE (hDx x)
  have hP := hP0
  have hS : va_S (wA (csQ ct A x)) s.heap s.heap [] := va_S.rf
  rw [p_X9_stops] at hf
  refine lv_aload_n hx hb dX9_stops_0 rfl (lv_at hl 0 rfl) ?_
  refine lv_iload_n hx hb dX9_stops_1 rfl (lv_at hl 1 rfl) ?_
  obtain ⟨r_2, e_2, hf⟩ := ob_bind hf
  have hPX_2 : va_P D vwCl (csQ ct A x) s.heap := hP
  refine ro_call1 (va_runV (As := [.int v1]) (rest := []) ⟨hx, hb, hml, hown, htl⟩ (c_X9_isReach l D ct G A fu x v1 e_2) (cw_X9_X9_isReach htl ⟨Nat.le_of_ble_eq_true rfl, Nat.le_of_ble_eq_true rfl⟩) ⟨Bx_blind, va_recv hK hPX_2 (ci := 9) (q0 := 0) rfl rfl, Bx_pre hPX_2 hK hN (hX.stay hS hGE)⟩ rfl rfl hl.1 rfl (lv_room (Nat.le_of_ble_eq_true rfl)) dX9_stops_2 ⟨Nat.zero_le _, Nat.zero_le _⟩) ?_
  refine lv_if_eq (tgt := 16) hx hb dX9_stops_5 (by decide) (fun c_5 => ?_) (fun c_5 => ?_)
  · rw [if_pos c_5] at hf
    refine lv_bipush (v := (-2)) hx hb dX9_stops_16 (by decide) ?_
    rw [← hQQ]
    cases hf
    exact rw_i hx hb hr hlocks hP hS dX9_stops_18
  rw [if_neg c_5] at hf
  refine lv_aload_n hx hb dX9_stops_8 rfl (lv_at hl 0 rfl) ?_
  refine lv_iload_n hx hb dX9_stops_9 rfl (lv_at hl 2 rfl) ?_
  obtain ⟨r_10, e_10, hf⟩ := ob_bind hf
  have hPX_10 : va_P D vwCl (csQ ct A x) s.heap := hP
  refine ro_call1 (va_runV (As := [.int v2]) (rest := []) ⟨hx, hb, hml, hown, htl⟩ (c_X9_isReach l D ct G A fu x v2 e_10) (cw_X9_X9_isReach htl ⟨Nat.le_of_ble_eq_true rfl, Nat.le_of_ble_eq_true rfl⟩) ⟨Bx_blind, va_recv hK hPX_10 (ci := 9) (q0 := 0) rfl rfl, Bx_pre hPX_10 hK hN (hX.stay hS hGE)⟩ rfl rfl hl.1 rfl (lv_room (Nat.le_of_ble_eq_true rfl)) dX9_stops_10 ⟨Nat.zero_le _, Nat.zero_le _⟩) ?_
  refine lv_if_ne (tgt := 19) hx hb dX9_stops_13 (by decide) (fun c_13 => ?_) (fun c_13 => ?_)
  rotate_left 1
  · rw [if_pos c_13] at hf
    refine lv_bipush (v := (-2)) hx hb dX9_stops_16 (by decide) ?_
    rw [← hQQ]
    cases hf
    exact rw_i hx hb hr hlocks hP hS dX9_stops_18
  rw [if_neg c_13] at hf
  refine lv_aload_n hx hb dX9_stops_19 rfl (lv_at hl 0 rfl) ?_
  refine lv_iload_n hx hb dX9_stops_20 rfl (lv_at hl 1 rfl) ?_
  refine lv_iload_n hx hb dX9_stops_21 rfl (lv_at hl 2 rfl) ?_
  obtain ⟨r_22, e_22, hf⟩ := ob_bind hf
  have hPX_22 : va_P D vwCl (csQ ct A x) s.heap := hP
  refine wr_call1 (va_runV (As := [.int v1, .int v2]) (rest := []) ⟨hx, hb, hml, hown, htl⟩ (c_X9_stoppingSet l D ct G A fu x v1 v2 e_22 hDx) (cw_X9_X9_stoppingSet htl ⟨Nat.le_of_ble_eq_true rfl, Nat.le_of_ble_eq_true rfl⟩) ⟨Bx_blind, va_recv hK hPX_22 (ci := 9) (q0 := 0) rfl rfl, Bx_pre hPX_22 hK hN (hX.stay hS hGE)⟩ rfl rfl hl.1 rfl (lv_room (Nat.le_of_ble_eq_true rfl)) dX9_stops_22 ⟨Nat.zero_le _, Nat.zero_le _⟩) hS (wA_Q _ _) (fun H_22 locs_22 hB_22 _ hk_22 hS => ?_)
  have hP : va_P D vwCl (csQ ct A r_22.2) H_22 := hB_22
  rw [← hQQ]
  cases hf
  exact rw_i hx hb hr hlocks hP hS dX9_stops_25
theorem c_X9_stops (l : Launch) (D : va_G) (ct : Nat → ClassId) (G : GT) (A : Nat → Nat) (fu : Nat) (x : Nat → Ob) (v1 : Int32) (v2 : Int32) {r : Int32 × (Nat → Ob)} (hf : p_X9_stops fu x v1 v2 = some r)  (hDx : ∀ x : Nat → Ob, va_D (GE G) (csQ ct A x)) : Met l yX9_stops (.code yX9_stops cX9_stops 3 (some .int) :: wsL_law) rm_X9_stops (va_Pc [.ref (A 0), .int v1, .int v2] (Bx D ct G (csQ ct A x))) (Qwr (some (.int r.1)) (fun H => va_P D vwCl (csQ ct A r.2) H) (wA (csQ ct A x))) 0 0 (wA (csQ ct A x)) := by
  refine Met.ofW (cc := cX9_stops) (maxL := 3) (ret := (some .int)) (by decide) rfl ?_
  intro p e s m args below meth c s₁ B hml hv
  obtain ⟨rfl, hP, hK, hN, hX⟩ := hv
  have hts := atoms_spec (ws := .code yX9_stops cX9_stops 3 (some .int) :: wsL_law) B.pre
  rw [lg_entry_eq]
  exact b_X9_stops A fu x v1 v2 B.exec B.bytes B.returns hml (findClass_of_methodNamed B.named) (fun w h => hts w (List.mem_cons_of_mem _ h)) B.notSynchronized hK hN hX hP hf hDx  (lv_entry [.ref (A 0), .int v1, .int v2] (n := 3) (Nat.le_of_ble_eq_true rfl))
theorem hd_X8_become : yX8_become.cls ≠ "java/lang/invoke/MethodHandle" ∧ yX8_become.cls ≠ "java/lang/invoke/VarHandle" ∧ (parseMethodDescriptor yX8_become.desc).map (fun d => d.parameters.length) = some 1 := by decide +kernel
theorem cw_X9_X8_become {R : Room} {s : State} {args : Array Value} (ht : ∀ w ∈ wsL_law, w.before args s = true) (hN : ∀ w ∈ NW, va_Nw w s) (hR : rm_X8_become.frames + 1 ≤ R.frames ∧ 8 + (2 + 11) + rm_X8_become.locals ≤ R.locals) : va_CN R s args RX9 277 yX8_become "QuotedRiver" cX8_become 2 none ((.code yX8_become cX8_become 2 none) :: wsL_law) rm_X8_become 0 0 1 ∧ (Cond.instanceMethod yX8_become).before args s = true ∧ (Cond.selects RX8 yX8_become yX8_become).before args s = true := ⟨va_cnB 1 ht (GL wq_45_23) rfl rfl rfl (hN _ nm_92) (ht _ wq_2_6) hd_X8_become hR, ht _ wq_45_21, ht _ wq_45_22⟩
def p_X9_shut_L54 (fu : Nat)  : Nat → (Nat → Ob) → Int32 → Int32 → Int32 → Int32 → Int32 → Option (Int32 × (Nat → Ob))
  | 0, _, _, _, _, _, _ => none
  | n + 1, xz, v1, v2, v3, v4, v5 =>
    if ((xz 5).1 8 0) ≤ v5 then some (v4, xz) else (p_X9_bit fu v5).bind fun r_79 => (p_X5_drift fu ((va_up xz 11 (oI (xz 11) 2 (((xz 10).1 2 0) ||| r_79))) 12) ((va_up xz 11 (oI (xz 11) 2 (((xz 10).1 2 0) ||| r_79))) 5) ((va_up xz 11 (oI (xz 11) 2 (((xz 10).1 2 0) ||| r_79))) 11) v1 v2).bind fun r_100 => if (((va_up (va_up xz 11 (oI (xz 11) 2 (((xz 10).1 2 0) ||| r_79))) 12 r_100) 12).1 4 0) = ((-1) : Int32) then p_X9_shut_L54 fu  n (va_up (va_up xz 11 (oI (xz 11) 2 (((xz 10).1 2 0) ||| r_79))) 12 r_100) v1 v2 v3 v4 (v5 + 1) else if v3 ≤ (((va_up (va_up xz 11 (oI (xz 11) 2 (((xz 10).1 2 0) ||| r_79))) 12 r_100) 12).1 4 0) then p_X9_shut_L54 fu  n (va_up (va_up xz 11 (oI (xz 11) 2 (((xz 10).1 2 0) ||| r_79))) 12 r_100) v1 v2 v3 v4 (v5 + 1) else p_X9_shut_L54 fu  n (va_up (va_up xz 11 (oI (xz 11) 2 (((xz 10).1 2 0) ||| r_79))) 12 r_100) v1 v2 (((va_up (va_up xz 11 (oI (xz 11) 2 (((xz 10).1 2 0) ||| r_79))) 12 r_100) 12).1 4 0) v5 (v5 + 1)
def p_X9_shut_J36 (fu : Nat)  (xz : Nat → Ob) (v1 : Int32) (v2 : Int32) (s0 : Int32) : Option (Int32 × (Nat → Ob)) :=
    (p_X8_become fu (xz 11) (xz 10)).bind fun r_48 => p_X9_shut_L54 fu fu (va_up xz 11 r_48) v1 v2 s0 (-1) 0
def p_X9_shut (fu : Nat) (x : Nat → Ob) (v1 : Int32) (v2 : Int32) : Option (Int32 × (Nat → Ob)) :=
  (p_X9_putIn fu x v1 v2).bind fun r_3 => if r_3.1 = 0 then some (((-2) : Int32), r_3.2) else if ((r_3.2 12).1 4 0) = ((-1) : Int32) then p_X9_shut_J36 fu r_3.2 v1 v2 1000 else p_X9_shut_J36 fu r_3.2 v1 v2 ((r_3.2 12).1 4 0)
abbrev rm_X9_shut : Room := { frames := 5, cells := 0, slots := 0, locals := 119 }
set_option maxHeartbeats 4000000 in
set_option maxRecDepth 100000 in
theorem b_X9_shut {p : Program} {l : Launch} {e : Env} {s : State} {m : MethodId} {args : Array Value} {below : List Frame} {meth : Method} {c : Code} {ls : Array Slot} {D : va_G} {ct : Nat → ClassId} {G : GT} (A : Nat → Nat) (fu : Nat) (x : Nat → Ob) (v1 : Int32) (v2 : Int32) {r : Int32 × (Nat → Ob)} (hx : p.tables.exec = Jvm.exec) (hb : c.code = cX9_shut) (hr : meth.sig.returnType = (some .int)) (hml : c.maxLocals = 6) (hown : s.vm.findClass RX9 = some m.cls) (htl : ∀ w ∈ wsL_law, w.before args s = true) (hlocks : meth.locks = false) (hK : va_K D vwCl (tyl ct) s) (hN : ∀ w ∈ NW, va_Nw w s) (hX : SX G s s.heap) (hP0 : va_P D vwCl (csQ ct A x) s.heap) (hf : p_X9_shut fu x v1 v2 = some r) (hDx : ∀ x : Nat → Ob, va_D (GE G) (csQ ct A x))  (hl : lv_has ls 6 [(0, .ref (A 0)), (1, .int v1), (2, .int v2)]) : W p l e rm_X9_shut s m args below meth c s.heap [] 0 0 (MQ below (Qwr (some (.int r.1)) (fun H => va_P D vwCl (csQ ct A r.2) H) (wA (csQ ct A x))) args s 0 0 (wA (csQ ct A x))) (F0 m 0 ls []) := by
  generalize hQQ : MQ below (Qwr (some (.int r.1)) (fun H => va_P D vwCl (csQ ct A r.2) H) (wA (csQ ct A x))) args s 0 0 (wA (csQ ct A x)) = QQ
  have hDW : ∀ x1 : Nat → Ob, va_D (wA (csQ ct A x)) (csQ ct A x1) := fun x1 => D_any (D_self (hDx x1)) (wA_Q x1 x)
  have hGE : ∀ q, wA (csQ ct A x) q → GE G q := wA_GE (hDx x)
  have hP := hP0
  have hS : va_S (wA (csQ ct A x)) s.heap s.heap [] := va_S.rf
  have hL54 : ∀ (n : Nat) (xz : Nat → Ob) (v1 : Int32) (v2 : Int32) (v3 : Int32) (v4 : Int32) (v5 : Int32), ∀ (H : Heap) (locs : List Loc) (ls : Array Slot), va_P D vwCl (csQ ct A xz) H → va_S (wA (csQ ct A x)) s.heap H locs → lv_has ls 6 [(0, .ref (A 0)), (1, .int v1), (2, .int v2), (3, .int v3), (4, .int v4), (5, .int v5)] → p_X9_shut_L54 fu  n xz v1 v2 v3 v4 v5 = some r → W p l e rm_X9_shut s m args below meth c H locs 0 0 QQ (F0 m 54 ls []) := by
    intro  n
    induction n with
    | zero =>
      intro xz v1 v2 v3 v4 v5 H locs ls hP hS hl hf 
      rw [p_X9_shut_L54] at hf
      cases hf
    | succ n ih =>
      intro xz v1 v2 v3 v4 v5 H locs ls hP hS hl hf 
      rw [p_X9_shut_L54] at hf
      refine lv_iload hx hb dX9_shut_54 (lv_at hl 5 rfl) ?_
      refine lv_aload_n hx hb dX9_shut_56 rfl (lv_at hl 0 rfl) ?_
      refine va_get (D := D) (ci := 9) (v := .ref (A 21)) (C := RX9) (T := TX9) (N := 14) hx hb htl inlX9 hown hK hP 0 qh_0 rfl 2 (by decide) (htl _ wq_2_0) (fun _ h9 => h9) rfl dX9_shut_57 ?_
      refine va_getN (D := D) (ci := 2) (v := .int ((xz 5).1 8 0)) (C := RX2) (T := TX2) (N := 20) hx hb htl inlX2 hown hK hP 21 qh_5 rfl 8 (by decide) (va_Nw.use rfl (hN _ nm_24)) (fun _ h9 => h9) rfl dX9_shut_60 ?_
      refine lv_icmp_ge (tgt := 143) hx hb dX9_shut_63 (by decide) (fun c_63 => ?_) (fun c_63 => ?_)
      · rw [if_pos c_63] at hf
        refine lv_iload hx hb dX9_shut_143 (lv_at hl 4 rfl) ?_
        rw [← hQQ]
        cases hf
        exact rw_i hx hb hr hlocks hP hS dX9_shut_145
      rw [if_neg c_63] at hf
      refine lv_aload_n hx hb dX9_shut_66 rfl (lv_at hl 0 rfl) ?_
      refine va_get (D := D) (ci := 9) (v := .ref (A 90)) (C := RX9) (T := TX9) (N := 14) hx hb htl inlX9 hown hK hP 0 qh_0 rfl 7 (by decide) (htl _ wq_2_8) (fun _ h9 => h9) rfl dX9_shut_67 ?_
      refine lv_aload_n hx hb dX9_shut_70 rfl (lv_at hl 0 rfl) ?_
      refine va_get (D := D) (ci := 9) (v := .ref (A 87)) (C := RX9) (T := TX9) (N := 14) hx hb htl inlX9 hown hK hP 0 qh_0 rfl 6 (by decide) (htl _ wq_2_7) (fun _ h9 => h9) rfl dX9_shut_71 ?_
      refine va_getN (D := D) (ci := 8) (v := .int ((xz 10).1 2 0)) (C := RX8) (T := TX8) (N := 3) hx hb htl inlX8 hown hK hP 87 qh_10 rfl 2 (by decide) (va_Nw.use rfl (hN _ nm_25)) (fun _ h9 => h9) rfl dX9_shut_74 ?_
      refine lv_iload hx hb dX9_shut_77 (lv_at hl 5 rfl) ?_
      obtain ⟨r_79, e_79, hf⟩ := ob_bind hf
      have hPX_79 : va_P D vwCl ([]) H := P_nil
      refine ro_call1 (va_runS (As := [.int v5]) (rest := [.int ((xz 10).1 2 0), .ref (A 90)]) ⟨hx, hb, hml, hown, htl⟩ (c_X9_bit l D ct G fu v5 e_79) (cw_X9_X9_bit htl ⟨Nat.le_of_ble_eq_true rfl, Nat.le_of_ble_eq_true rfl⟩) ⟨Bx_blind, Bx_pre hPX_79 hK hN (hX.stay hS hGE)⟩ rfl rfl hl.1 rfl (lv_room (Nat.le_of_ble_eq_true rfl)) dX9_shut_79 ⟨Nat.zero_le _, Nat.zero_le _⟩) ?_
      refine lv_ior hx hb dX9_shut_82 ?_
      refine va_putN (D := D) (ci := 8) (v := .int (((xz 10).1 2 0) ||| r_79)) (ty := .int) (C := RX8) (T := TX8) (N := 3) hx hb htl inlX8 tyX8 tyX8_ok nmX8 hown hK hP (hDW xz) hS 90 qh_11 rfl 2 (by decide) (va_Nw.use rfl (hN _ nm_25)) (fun _ h9 => h9) rfl (tyX8_ok 2 (by decide)) rfl rfl (Nat.le_of_ble_eq_true rfl) dX9_shut_83 (fun H_83 locs_83 hP _ hS => ?_)
      have hP : va_P D vwCl (csQ ct A (va_up xz 11 (oI (xz 11) 2 (((xz 10).1 2 0) ||| r_79)))) H_83 := stQ_11_2 hP
      refine lv_aload_n hx hb dX9_shut_86 rfl (lv_at hl 0 rfl) ?_
      refine va_get (D := D) (ci := 9) (v := .ref (A 93)) (C := RX9) (T := TX9) (N := 14) hx hb htl inlX9 hown hK hP 0 qh_0 rfl 8 (by decide) (htl _ wq_2_12) (fun _ h9 => h9) rfl dX9_shut_87 ?_
      refine lv_aload_n hx hb dX9_shut_90 rfl (lv_at hl 0 rfl) ?_
      refine va_get (D := D) (ci := 9) (v := .ref (A 21)) (C := RX9) (T := TX9) (N := 14) hx hb htl inlX9 hown hK hP 0 qh_0 rfl 2 (by decide) (htl _ wq_2_0) (fun _ h9 => h9) rfl dX9_shut_91 ?_
      refine lv_aload_n hx hb dX9_shut_94 rfl (lv_at hl 0 rfl) ?_
      refine va_get (D := D) (ci := 9) (v := .ref (A 90)) (C := RX9) (T := TX9) (N := 14) hx hb htl inlX9 hown hK hP 0 qh_0 rfl 7 (by decide) (htl _ wq_2_8) (fun _ h9 => h9) rfl dX9_shut_95 ?_
      refine lv_iload_n hx hb dX9_shut_98 rfl (lv_at hl 1 rfl) ?_
      refine lv_iload_n hx hb dX9_shut_99 rfl (lv_at hl 2 rfl) ?_
      obtain ⟨r_100, e_100, hf⟩ := ob_bind hf
      have hPX_100 : va_P D vwCl (cs5 ct (fun i => A (93 + i)) ((va_up xz 11 (oI (xz 11) 2 (((xz 10).1 2 0) ||| r_79))) 12) ++ (cs2 ct (fun i => A (21 + i)) ((va_up xz 11 (oI (xz 11) 2 (((xz 10).1 2 0) ||| r_79))) 5) ++ (cs8 ct (fun i => A (90 + i)) ((va_up xz 11 (oI (xz 11) 2 (((xz 10).1 2 0) ||| r_79))) 11)))) H_83 := (va_P.app (qs_12 hP) (va_P.app (qs_5 hP) (qs_11 hP)))
      refine wr_call0 (va_runVN (As := [.ref (A 21), .ref (A 90), .int v1, .int v2]) (rest := []) ⟨hx, hb, hml, hown, htl⟩ (c_X5_drift l D ct G (fun i => A (93 + i)) (fun i => A (21 + i)) (fun i => A (90 + i)) fu ((va_up xz 11 (oI (xz 11) 2 (((xz 10).1 2 0) ||| r_79))) 12) ((va_up xz 11 (oI (xz 11) 2 (((xz 10).1 2 0) ||| r_79))) 5) ((va_up xz 11 (oI (xz 11) 2 (((xz 10).1 2 0) ||| r_79))) 11) v1 v2 e_100 ((hDx (va_up xz 11 (oI (xz 11) 2 (((xz 10).1 2 0) ||| r_79)))).sub (ws' := cs5 ct (fun i => A (93 + i)) ((va_up xz 11 (oI (xz 11) 2 (((xz 10).1 2 0) ||| r_79))) 12) ++ (cs2 ct (fun i => A (21 + i)) ((va_up xz 11 (oI (xz 11) 2 (((xz 10).1 2 0) ||| r_79))) 5) ++ (cs8 ct (fun i => A (90 + i)) ((va_up xz 11 (oI (xz 11) 2 (((xz 10).1 2 0) ||| r_79))) 11)))) [93, 94, 21, 22, 23, 24, 25, 26, 27, 28, 29, 30, 31, 32, 33, 90, 91, 92] (by decide) rfl)) (cw_X9_X5_drift htl hN ⟨Nat.le_of_ble_eq_true rfl, Nat.le_of_ble_eq_true rfl⟩) ⟨Bx_blind, va_recv hK hPX_100 (ci := 5) (q0 := 0) rfl rfl, Bx_pre hPX_100 hK hN (hX.stay hS hGE)⟩ rfl rfl hl.1 rfl (lv_room (Nat.le_of_ble_eq_true rfl)) dX9_shut_100 ⟨Nat.zero_le _, Nat.zero_le _⟩) hS qa_12 (fun H_100 locs_100 hB_100 _ hk_100 hS => ?_)
      have hP : va_P D vwCl (csQ ct A (va_up (va_up xz 11 (oI (xz 11) 2 (((xz 10).1 2 0) ||| r_79))) 12 r_100)) H_100 := qj_12 hP (hDW (va_up xz 11 (oI (xz 11) 2 (((xz 10).1 2 0) ||| r_79)))) hk_100 hB_100
      refine lv_aload_n hx hb dX9_shut_103 rfl (lv_at hl 0 rfl) ?_
      refine va_get (D := D) (ci := 9) (v := .ref (A 93)) (C := RX9) (T := TX9) (N := 14) hx hb htl inlX9 hown hK hP 0 qh_0 rfl 8 (by decide) (htl _ wq_2_12) (fun _ h9 => h9) rfl dX9_shut_104 ?_
      refine va_getN (D := D) (ci := 5) (v := .int (((va_up (va_up xz 11 (oI (xz 11) 2 (((xz 10).1 2 0) ||| r_79))) 12 r_100) 12).1 4 0)) (C := RX5) (T := TX5) (N := 9) hx hb htl inlX5 hown hK hP 93 qh_12 rfl 4 (by decide) (va_Nw.use rfl (hN _ nm_15)) (fun _ h9 => h9) rfl dX9_shut_107 ?_
      refine lv_iconst (v := (-1)) hx hb dX9_shut_110 (by decide) ?_
      refine lv_icmp_eq (tgt := 137) hx hb dX9_shut_111 (by decide) (fun c_111 => ?_) (fun c_111 => ?_)
      · rw [if_pos c_111] at hf
        refine lv_iinc (v := (v5 + 1)) (lv' := [(5, .int (v5 + 1)), (0, .ref (A 0)), (1, .int v1), (2, .int v2), (3, .int v3), (4, .int v4)]) hx hb dX9_shut_137 hl (k := 5) rfl rfl (by decide) rfl (fun ls hl => ?_)
        refine lv_goto (tgt := 54) hx hb dX9_shut_140 (by decide) ?_
        exact ih (va_up (va_up xz 11 (oI (xz 11) 2 (((xz 10).1 2 0) ||| r_79))) 12 r_100) v1 v2 v3 v4 (v5 + 1) _ _ _ hP hS (lv_sub hl [1, 2, 3, 4, 5, 0] rfl) hf 
      rw [if_neg c_111] at hf
      refine lv_aload_n hx hb dX9_shut_114 rfl (lv_at hl 0 rfl) ?_
      refine va_get (D := D) (ci := 9) (v := .ref (A 93)) (C := RX9) (T := TX9) (N := 14) hx hb htl inlX9 hown hK hP 0 qh_0 rfl 8 (by decide) (htl _ wq_2_12) (fun _ h9 => h9) rfl dX9_shut_115 ?_
      refine va_getN (D := D) (ci := 5) (v := .int (((va_up (va_up xz 11 (oI (xz 11) 2 (((xz 10).1 2 0) ||| r_79))) 12 r_100) 12).1 4 0)) (C := RX5) (T := TX5) (N := 9) hx hb htl inlX5 hown hK hP 93 qh_12 rfl 4 (by decide) (va_Nw.use rfl (hN _ nm_15)) (fun _ h9 => h9) rfl dX9_shut_118 ?_
      refine lv_iload_n hx hb dX9_shut_121 rfl (lv_at hl 3 rfl) ?_
      refine lv_icmp_ge (tgt := 137) hx hb dX9_shut_122 (by decide) (fun c_122 => ?_) (fun c_122 => ?_)
      · rw [if_pos c_122] at hf
        refine lv_iinc (v := (v5 + 1)) (lv' := [(5, .int (v5 + 1)), (0, .ref (A 0)), (1, .int v1), (2, .int v2), (3, .int v3), (4, .int v4)]) hx hb dX9_shut_137 hl (k := 5) rfl rfl (by decide) rfl (fun ls hl => ?_)
        refine lv_goto (tgt := 54) hx hb dX9_shut_140 (by decide) ?_
        exact ih (va_up (va_up xz 11 (oI (xz 11) 2 (((xz 10).1 2 0) ||| r_79))) 12 r_100) v1 v2 v3 v4 (v5 + 1) _ _ _ hP hS (lv_sub hl [1, 2, 3, 4, 5, 0] rfl) hf 
      rw [if_neg c_122] at hf
      refine lv_aload_n hx hb dX9_shut_125 rfl (lv_at hl 0 rfl) ?_
      refine va_get (D := D) (ci := 9) (v := .ref (A 93)) (C := RX9) (T := TX9) (N := 14) hx hb htl inlX9 hown hK hP 0 qh_0 rfl 8 (by decide) (htl _ wq_2_12) (fun _ h9 => h9) rfl dX9_shut_126 ?_
      refine va_getN (D := D) (ci := 5) (v := .int (((va_up (va_up xz 11 (oI (xz 11) 2 (((xz 10).1 2 0) ||| r_79))) 12 r_100) 12).1 4 0)) (C := RX5) (T := TX5) (N := 9) hx hb htl inlX5 hown hK hP 93 qh_12 rfl 4 (by decide) (va_Nw.use rfl (hN _ nm_15)) (fun _ h9 => h9) rfl dX9_shut_129 ?_
      refine lv_istore_n (lv' := [(3, .int (((va_up (va_up xz 11 (oI (xz 11) 2 (((xz 10).1 2 0) ||| r_79))) 12 r_100) 12).1 4 0)), (0, .ref (A 0)), (1, .int v1), (2, .int v2), (4, .int v4), (5, .int v5)]) hx hb dX9_shut_132 rfl hl (by decide) rfl (fun ls hl => ?_)
      refine lv_iload hx hb dX9_shut_133 (lv_at hl 5 rfl) ?_
      refine lv_istore (lv' := [(4, .int v5), (3, .int (((va_up (va_up xz 11 (oI (xz 11) 2 (((xz 10).1 2 0) ||| r_79))) 12 r_100) 12).1 4 0)), (0, .ref (A 0)), (1, .int v1), (2, .int v2), (5, .int v5)]) hx hb dX9_shut_135 hl (by decide) rfl (fun ls hl => ?_)
      refine lv_iinc (v := (v5 + 1)) (lv' := [(5, .int (v5 + 1)), (4, .int v5), (3, .int (((va_up (va_up xz 11 (oI (xz 11) 2 (((xz 10).1 2 0) ||| r_79))) 12 r_100) 12).1 4 0)), (0, .ref (A 0)), (1, .int v1), (2, .int v2)]) hx hb dX9_shut_137 hl (k := 5) rfl rfl (by decide) rfl (fun ls hl => ?_)
      refine lv_goto (tgt := 54) hx hb dX9_shut_140 (by decide) ?_
      exact ih (va_up (va_up xz 11 (oI (xz 11) 2 (((xz 10).1 2 0) ||| r_79))) 12 r_100) v1 v2 (((va_up (va_up xz 11 (oI (xz 11) 2 (((xz 10).1 2 0) ||| r_79))) 12 r_100) 12).1 4 0) v5 (v5 + 1) _ _ _ hP hS (lv_sub hl [3, 4, 5, 2, 1, 0] rfl) hf 
  have hJ36 : ∀ (xz : Nat → Ob) (v1 : Int32) (v2 : Int32) (s0 : Int32), ∀ (H : Heap) (locs : List Loc) (ls : Array Slot), va_P D vwCl (csQ ct A xz) H → va_S (wA (csQ ct A x)) s.heap H locs → lv_has ls 6 [(0, .ref (A 0)), (1, .int v1), (2, .int v2)] → p_X9_shut_J36 fu  xz v1 v2 s0 = some r → W p l e rm_X9_shut s m args below meth c H locs 0 0 QQ (F0 m 36 ls [.int s0]) := by
    intro  xz v1 v2 s0 H locs ls hP hS hl hf 
    rw [p_X9_shut_J36] at hf
    refine lv_istore_n (lv' := [(3, .int s0), (0, .ref (A 0)), (1, .int v1), (2, .int v2)]) hx hb dX9_shut_36 rfl hl (by decide) rfl (fun ls hl => ?_)
    refine lv_iconst (v := (-1)) hx hb dX9_shut_37 (by decide) ?_
    refine lv_istore (lv' := [(4, .int (-1)), (3, .int s0), (0, .ref (A 0)), (1, .int v1), (2, .int v2)]) hx hb dX9_shut_38 hl (by decide) rfl (fun ls hl => ?_)
    refine lv_aload_n hx hb dX9_shut_40 rfl (lv_at hl 2 rfl) ?_
    refine va_get (D := D) (ci := 9) (v := .ref (A 90)) (C := RX9) (T := TX9) (N := 14) hx hb htl inlX9 hown hK hP 0 qh_0 rfl 7 (by decide) (htl _ wq_2_8) (fun _ h9 => h9) rfl dX9_shut_41 ?_
    refine lv_aload_n hx hb dX9_shut_44 rfl (lv_at hl 2 rfl) ?_
    refine va_get (D := D) (ci := 9) (v := .ref (A 87)) (C := RX9) (T := TX9) (N := 14) hx hb htl inlX9 hown hK hP 0 qh_0 rfl 6 (by decide) (htl _ wq_2_7) (fun _ h9 => h9) rfl dX9_shut_45 ?_
    obtain ⟨r_48, e_48, hf⟩ := ob_bind hf
    have hPX_48 : va_P D vwCl (cs8 ct (fun i => A (90 + i)) (xz 11) ++ (cs8 ct (fun i => A (87 + i)) (xz 10))) H := (va_P.app (qs_11 hP) (qs_10 hP))
    refine wr_call0 (va_runVN (As := [.ref (A 87)]) (rest := []) ⟨hx, hb, hml, hown, htl⟩ (c_X8_become l D ct G (fun i => A (90 + i)) (fun i => A (87 + i)) fu (xz 11) (xz 10) e_48 ((hDx xz).sub (ws' := cs8 ct (fun i => A (90 + i)) (xz 11) ++ (cs8 ct (fun i => A (87 + i)) (xz 10))) [90, 91, 92, 87, 88, 89] (by decide) rfl)) (cw_X9_X8_become htl hN ⟨Nat.le_of_ble_eq_true rfl, Nat.le_of_ble_eq_true rfl⟩) ⟨Bx_blind, va_recv hK hPX_48 (ci := 8) (q0 := 0) rfl rfl, Bx_pre hPX_48 hK hN (hX.stay hS hGE)⟩ rfl rfl hl.1 rfl (lv_room (Nat.le_of_ble_eq_true rfl)) dX9_shut_48 ⟨Nat.zero_le _, Nat.zero_le _⟩) hS qa_11 (fun H_48 locs_48 hB_48 _ hk_48 hS => ?_)
    have hP : va_P D vwCl (csQ ct A (va_up xz 11 r_48)) H_48 := qj_11 hP (hDW xz) hk_48 hB_48
    refine lv_iconst (v := 0) hx hb dX9_shut_51 (by decide) ?_
    refine lv_istore (lv' := [(5, .int 0), (4, .int (-1)), (3, .int s0), (0, .ref (A 0)), (1, .int v1), (2, .int v2)]) hx hb dX9_shut_52 hl (by decide) rfl (fun ls hl => ?_)
    exact hL54 fu (va_up xz 11 r_48) v1 v2 s0 (-1) 0 _ _ _ hP hS (lv_sub hl [3, 4, 5, 2, 1, 0] rfl) hf 
  rw [p_X9_shut] at hf
  refine lv_aload_n hx hb dX9_shut_0 rfl (lv_at hl 0 rfl) ?_
  refine lv_iload_n hx hb dX9_shut_1 rfl (lv_at hl 1 rfl) ?_
  refine lv_iload_n hx hb dX9_shut_2 rfl (lv_at hl 2 rfl) ?_
  obtain ⟨r_3, e_3, hf⟩ := ob_bind hf
  have hPX_3 : va_P D vwCl (csQ ct A x) s.heap := hP
  refine wr_call1 (va_runV (As := [.int v1, .int v2]) (rest := []) ⟨hx, hb, hml, hown, htl⟩ (c_X9_putIn l D ct G A fu x v1 v2 e_3 hDx) (cw_X9_X9_putIn htl ⟨Nat.le_of_ble_eq_true rfl, Nat.le_of_ble_eq_true rfl⟩) ⟨Bx_blind, va_recv hK hPX_3 (ci := 9) (q0 := 0) rfl rfl, Bx_pre hPX_3 hK hN (hX.stay hS hGE)⟩ rfl rfl hl.1 rfl (lv_room (Nat.le_of_ble_eq_true rfl)) dX9_shut_3 ⟨Nat.zero_le _, Nat.zero_le _⟩) hS (wA_Q _ _) (fun H_3 locs_3 hB_3 _ hk_3 hS => ?_)
  have hP : va_P D vwCl (csQ ct A r_3.2) H_3 := hB_3
  refine lv_if_ne (tgt := 12) hx hb dX9_shut_6 (by decide) (fun c_6 => ?_) (fun c_6 => ?_)
  rotate_left 1
  · rw [if_pos c_6] at hf
    refine lv_bipush (v := (-2)) hx hb dX9_shut_9 (by decide) ?_
    rw [← hQQ]
    cases hf
    exact rw_i hx hb hr hlocks hP hS dX9_shut_11
  rw [if_neg c_6] at hf
  refine lv_aload_n hx hb dX9_shut_12 rfl (lv_at hl 0 rfl) ?_
  refine va_get (D := D) (ci := 9) (v := .ref (A 93)) (C := RX9) (T := TX9) (N := 14) hx hb htl inlX9 hown hK hP 0 qh_0 rfl 8 (by decide) (htl _ wq_2_12) (fun _ h9 => h9) rfl dX9_shut_13 ?_
  refine va_getN (D := D) (ci := 5) (v := .int ((r_3.2 12).1 4 0)) (C := RX5) (T := TX5) (N := 9) hx hb htl inlX5 hown hK hP 93 qh_12 rfl 4 (by decide) (va_Nw.use rfl (hN _ nm_15)) (fun _ h9 => h9) rfl dX9_shut_16 ?_
  refine lv_iconst (v := (-1)) hx hb dX9_shut_19 (by decide) ?_
  refine lv_icmp_ne (tgt := 29) hx hb dX9_shut_20 (by decide) (fun c_20 => ?_) (fun c_20 => ?_)
  rotate_left 1
  · rw [if_pos c_20] at hf
    refine lv_sipush (v := 1000) hx hb dX9_shut_23 (by decide) ?_
    refine lv_goto (tgt := 36) hx hb dX9_shut_26 (by decide) ?_
    exact hJ36 r_3.2 v1 v2 1000 _ _ _ hP hS (lv_sub hl [0, 1, 2] rfl) hf 
  rw [if_neg c_20] at hf
  refine lv_aload_n hx hb dX9_shut_29 rfl (lv_at hl 0 rfl) ?_
  refine va_get (D := D) (ci := 9) (v := .ref (A 93)) (C := RX9) (T := TX9) (N := 14) hx hb htl inlX9 hown hK hP 0 qh_0 rfl 8 (by decide) (htl _ wq_2_12) (fun _ h9 => h9) rfl dX9_shut_30 ?_
  refine va_getN (D := D) (ci := 5) (v := .int ((r_3.2 12).1 4 0)) (C := RX5) (T := TX5) (N := 9) hx hb htl inlX5 hown hK hP 93 qh_12 rfl 4 (by decide) (va_Nw.use rfl (hN _ nm_15)) (fun _ h9 => h9) rfl dX9_shut_33 ?_
  exact hJ36 r_3.2 v1 v2 ((r_3.2 12).1 4 0) _ _ _ hP hS (lv_sub hl [0, 1, 2] rfl) hf 
theorem c_X9_shut (l : Launch) (D : va_G) (ct : Nat → ClassId) (G : GT) (A : Nat → Nat) (fu : Nat) (x : Nat → Ob) (v1 : Int32) (v2 : Int32) {r : Int32 × (Nat → Ob)} (hf : p_X9_shut fu x v1 v2 = some r)  (hDx : ∀ x : Nat → Ob, va_D (GE G) (csQ ct A x)) : Met l yX9_shut (.code yX9_shut cX9_shut 6 (some .int) :: wsL_law) rm_X9_shut (va_Pc [.ref (A 0), .int v1, .int v2] (Bx D ct G (csQ ct A x))) (Qwr (some (.int r.1)) (fun H => va_P D vwCl (csQ ct A r.2) H) (wA (csQ ct A x))) 0 0 (wA (csQ ct A x)) := by
  refine Met.ofW (cc := cX9_shut) (maxL := 6) (ret := (some .int)) (by decide) rfl ?_
  intro p e s m args below meth c s₁ B hml hv
  obtain ⟨rfl, hP, hK, hN, hX⟩ := hv
  have hts := atoms_spec (ws := .code yX9_shut cX9_shut 6 (some .int) :: wsL_law) B.pre
  rw [lg_entry_eq]
  exact b_X9_shut A fu x v1 v2 B.exec B.bytes B.returns hml (findClass_of_methodNamed B.named) (fun w h => hts w (List.mem_cons_of_mem _ h)) B.notSynchronized hK hN hX hP hf hDx  (lv_entry [.ref (A 0), .int v1, .int v2] (n := 6) (Nat.le_of_ble_eq_true rfl))
theorem cw_X9_X8_addRain {R : Room} {s : State} {args : Array Value} (ht : ∀ w ∈ wsL_law, w.before args s = true) (hN : ∀ w ∈ NW, va_Nw w s) (hR : rm_X8_addRain.frames + 1 ≤ R.frames ∧ 8 + (3 + 11) + rm_X8_addRain.locals ≤ R.locals) : va_CN R s args RX9 280 yX8_addRain "QuotedRiver" cX8_addRain 3 none ((.code yX8_addRain cX8_addRain 3 none) :: wsL_law) rm_X8_addRain 0 0 2 ∧ (Cond.instanceMethod yX8_addRain).before args s = true ∧ (Cond.selects RX8 yX8_addRain yX8_addRain).before args s = true := ⟨va_cnB 2 ht (GL wq_15_9) rfl rfl rfl (hN _ nm_93) (ht _ wq_2_6) hd_X8_addRain hR, ht _ wq_15_7, ht _ wq_15_8⟩
theorem cw_X9_X8_fall {R : Room} {s : State} {args : Array Value} (ht : ∀ w ∈ wsL_law, w.before args s = true) (hN : ∀ w ∈ NW, va_Nw w s) (hR : rm_X8_fall.frames + 1 ≤ R.frames ∧ 8 + (4 + 11) + rm_X8_fall.locals ≤ R.locals) : va_CN R s args RX9 287 yX8_fall "QuotedRiver" cX8_fall 4 none ((.code yX8_fall cX8_fall 4 none) :: wsL_law) rm_X8_fall 0 0 1 ∧ (Cond.instanceMethod yX8_fall).before args s = true ∧ (Cond.selects RX8 yX8_fall yX8_fall).before args s = true := ⟨va_cnB 1 ht (GL wq_15_19) rfl rfl rfl (hN _ nm_94) (ht _ wq_2_6) hd_X8_fall hR, ht _ wq_15_17, ht _ wq_15_18⟩
def p_X9_pour_L39 (fu : Nat)  : Nat → (Nat → Ob) → Int32 → Int32 → Int32 → Int32 → Option (Int32 × (Nat → Ob))
  | 0, _, _, _, _, _ => none
  | n + 1, xz, v1, v2, v3, v4 =>
    if (60 : Int32) < v4 then some (((-1) : Int32), xz) else (p_X5_drift fu (xz 12) (xz 5) (xz 11) v1 v2).bind fun r_60 => if (((va_up xz 12 r_60) 12).1 4 0) = ((-1) : Int32) then (p_X8_addRain fu ((va_up xz 12 r_60) 11) v3 (1 : Int32)).bind fun r_83 => (p_X8_fall fu ((va_up (va_up xz 12 r_60) 11 r_83) 11) (((va_up (va_up xz 12 r_60) 11 r_83) 5).1 1 0)).bind fun r_97 => p_X9_pour_L39 fu  n (va_up (va_up (va_up xz 12 r_60) 11 r_83) 11 r_97) v1 v2 v3 (v4 + 1) else some (v4, (va_up xz 12 r_60))
def p_X9_pour (fu : Nat) (x : Nat → Ob) (v1 : Int32) (v2 : Int32) (v3 : Int32) : Option (Int32 × (Nat → Ob)) :=
  (p_X9_isReach fu x v1).bind fun r_2 => if r_2 = 0 then some (((-2) : Int32), x) else (p_X9_isStep fu v2).bind fun r_9 => if r_9 = 0 then some (((-2) : Int32), x) else (p_X9_isStep fu v3).bind fun r_16 => if r_16 = 0 then some (((-2) : Int32), x) else (p_X8_become fu (x 11) (x 10)).bind fun r_33 => p_X9_pour_L39 fu fu (va_up x 11 r_33) v1 v2 v3 0
abbrev rm_X9_pour : Room := { frames := 4, cells := 0, slots := 0, locals := 97 }
set_option maxHeartbeats 4000000 in
set_option maxRecDepth 100000 in
theorem b_X9_pour {p : Program} {l : Launch} {e : Env} {s : State} {m : MethodId} {args : Array Value} {below : List Frame} {meth : Method} {c : Code} {ls : Array Slot} {D : va_G} {ct : Nat → ClassId} {G : GT} (A : Nat → Nat) (fu : Nat) (x : Nat → Ob) (v1 : Int32) (v2 : Int32) (v3 : Int32) {r : Int32 × (Nat → Ob)} (hx : p.tables.exec = Jvm.exec) (hb : c.code = cX9_pour) (hr : meth.sig.returnType = (some .int)) (hml : c.maxLocals = 5) (hown : s.vm.findClass RX9 = some m.cls) (htl : ∀ w ∈ wsL_law, w.before args s = true) (hlocks : meth.locks = false) (hK : va_K D vwCl (tyl ct) s) (hN : ∀ w ∈ NW, va_Nw w s) (hX : SX G s s.heap) (hP0 : va_P D vwCl (csQ ct A x) s.heap) (hf : p_X9_pour fu x v1 v2 v3 = some r) (hDx : ∀ x : Nat → Ob, va_D (GE G) (csQ ct A x))  (hl : lv_has ls 5 [(0, .ref (A 0)), (1, .int v1), (2, .int v2), (3, .int v3)]) : W p l e rm_X9_pour s m args below meth c s.heap [] 0 0 (MQ below (Qwr (some (.int r.1)) (fun H => va_P D vwCl (csQ ct A r.2) H) (wA (csQ ct A x))) args s 0 0 (wA (csQ ct A x))) (F0 m 0 ls []) := by
  generalize hQQ : MQ below (Qwr (some (.int r.1)) (fun H => va_P D vwCl (csQ ct A r.2) H) (wA (csQ ct A x))) args s 0 0 (wA (csQ ct A x)) = QQ
  have hDW : ∀ x1 : Nat → Ob, va_D (wA (csQ ct A x)) (csQ ct A x1) := fun x1 => D_any (D_self (hDx x1)) (wA_Q x1 x)
  have hGE : ∀ q, wA (csQ ct A x) q → GE G q := wA_GE (hDx x)
  have hP := hP0
  have hS : va_S (wA (csQ ct A x)) s.heap s.heap [] := va_S.rf
  have hL39 : ∀ (n : Nat) (xz : Nat → Ob) (v1 : Int32) (v2 : Int32) (v3 : Int32) (v4 : Int32), ∀ (H : Heap) (locs : List Loc) (ls : Array Slot), va_P D vwCl (csQ ct A xz) H → va_S (wA (csQ ct A x)) s.heap H locs → lv_has ls 5 [(0, .ref (A 0)), (1, .int v1), (2, .int v2), (3, .int v3), (4, .int v4)] → p_X9_pour_L39 fu  n xz v1 v2 v3 v4 = some r → W p l e rm_X9_pour s m args below meth c H locs 0 0 QQ (F0 m 39 ls []) := by
    intro  n
    induction n with
    | zero =>
      intro xz v1 v2 v3 v4 H locs ls hP hS hl hf 
      rw [p_X9_pour_L39] at hf
      cases hf
    | succ n ih =>
      intro xz v1 v2 v3 v4 H locs ls hP hS hl hf 
      rw [p_X9_pour_L39] at hf
      refine lv_iload hx hb dX9_pour_39 (lv_at hl 4 rfl) ?_
      refine lv_bipush (v := 60) hx hb dX9_pour_41 (by decide) ?_
      refine lv_icmp_gt (tgt := 106) hx hb dX9_pour_43 (by decide) (fun c_43 => ?_) (fun c_43 => ?_)
      · rw [if_pos c_43] at hf
        refine lv_iconst (v := (-1)) hx hb dX9_pour_106 (by decide) ?_
        rw [← hQQ]
        cases hf
        exact rw_i hx hb hr hlocks hP hS dX9_pour_107
      rw [if_neg c_43] at hf
      refine lv_aload_n hx hb dX9_pour_46 rfl (lv_at hl 0 rfl) ?_
      refine va_get (D := D) (ci := 9) (v := .ref (A 93)) (C := RX9) (T := TX9) (N := 14) hx hb htl inlX9 hown hK hP 0 qh_0 rfl 8 (by decide) (htl _ wq_2_12) (fun _ h9 => h9) rfl dX9_pour_47 ?_
      refine lv_aload_n hx hb dX9_pour_50 rfl (lv_at hl 0 rfl) ?_
      refine va_get (D := D) (ci := 9) (v := .ref (A 21)) (C := RX9) (T := TX9) (N := 14) hx hb htl inlX9 hown hK hP 0 qh_0 rfl 2 (by decide) (htl _ wq_2_0) (fun _ h9 => h9) rfl dX9_pour_51 ?_
      refine lv_aload_n hx hb dX9_pour_54 rfl (lv_at hl 0 rfl) ?_
      refine va_get (D := D) (ci := 9) (v := .ref (A 90)) (C := RX9) (T := TX9) (N := 14) hx hb htl inlX9 hown hK hP 0 qh_0 rfl 7 (by decide) (htl _ wq_2_8) (fun _ h9 => h9) rfl dX9_pour_55 ?_
      refine lv_iload_n hx hb dX9_pour_58 rfl (lv_at hl 1 rfl) ?_
      refine lv_iload_n hx hb dX9_pour_59 rfl (lv_at hl 2 rfl) ?_
      obtain ⟨r_60, e_60, hf⟩ := ob_bind hf
      have hPX_60 : va_P D vwCl (cs5 ct (fun i => A (93 + i)) (xz 12) ++ (cs2 ct (fun i => A (21 + i)) (xz 5) ++ (cs8 ct (fun i => A (90 + i)) (xz 11)))) H := (va_P.app (qs_12 hP) (va_P.app (qs_5 hP) (qs_11 hP)))
      refine wr_call0 (va_runVN (As := [.ref (A 21), .ref (A 90), .int v1, .int v2]) (rest := []) ⟨hx, hb, hml, hown, htl⟩ (c_X5_drift l D ct G (fun i => A (93 + i)) (fun i => A (21 + i)) (fun i => A (90 + i)) fu (xz 12) (xz 5) (xz 11) v1 v2 e_60 ((hDx xz).sub (ws' := cs5 ct (fun i => A (93 + i)) (xz 12) ++ (cs2 ct (fun i => A (21 + i)) (xz 5) ++ (cs8 ct (fun i => A (90 + i)) (xz 11)))) [93, 94, 21, 22, 23, 24, 25, 26, 27, 28, 29, 30, 31, 32, 33, 90, 91, 92] (by decide) rfl)) (cw_X9_X5_drift htl hN ⟨Nat.le_of_ble_eq_true rfl, Nat.le_of_ble_eq_true rfl⟩) ⟨Bx_blind, va_recv hK hPX_60 (ci := 5) (q0 := 0) rfl rfl, Bx_pre hPX_60 hK hN (hX.stay hS hGE)⟩ rfl rfl hl.1 rfl (lv_room (Nat.le_of_ble_eq_true rfl)) dX9_pour_60 ⟨Nat.zero_le _, Nat.zero_le _⟩) hS qa_12 (fun H_60 locs_60 hB_60 _ hk_60 hS => ?_)
      have hP : va_P D vwCl (csQ ct A (va_up xz 12 r_60)) H_60 := qj_12 hP (hDW xz) hk_60 hB_60
      refine lv_aload_n hx hb dX9_pour_63 rfl (lv_at hl 0 rfl) ?_
      refine va_get (D := D) (ci := 9) (v := .ref (A 93)) (C := RX9) (T := TX9) (N := 14) hx hb htl inlX9 hown hK hP 0 qh_0 rfl 8 (by decide) (htl _ wq_2_12) (fun _ h9 => h9) rfl dX9_pour_64 ?_
      refine va_getN (D := D) (ci := 5) (v := .int (((va_up xz 12 r_60) 12).1 4 0)) (C := RX5) (T := TX5) (N := 9) hx hb htl inlX5 hown hK hP 93 qh_12 rfl 4 (by decide) (va_Nw.use rfl (hN _ nm_15)) (fun _ h9 => h9) rfl dX9_pour_67 ?_
      refine lv_iconst (v := (-1)) hx hb dX9_pour_70 (by decide) ?_
      refine lv_icmp_eq (tgt := 77) hx hb dX9_pour_71 (by decide) (fun c_71 => ?_) (fun c_71 => ?_)
      rotate_left 1
      · rw [if_neg c_71] at hf
        refine lv_iload hx hb dX9_pour_74 (lv_at hl 4 rfl) ?_
        rw [← hQQ]
        cases hf
        exact rw_i hx hb hr hlocks hP hS dX9_pour_76
      rw [if_pos c_71] at hf
      refine lv_aload_n hx hb dX9_pour_77 rfl (lv_at hl 0 rfl) ?_
      refine va_get (D := D) (ci := 9) (v := .ref (A 90)) (C := RX9) (T := TX9) (N := 14) hx hb htl inlX9 hown hK hP 0 qh_0 rfl 7 (by decide) (htl _ wq_2_8) (fun _ h9 => h9) rfl dX9_pour_78 ?_
      refine lv_iload_n hx hb dX9_pour_81 rfl (lv_at hl 3 rfl) ?_
      refine lv_iconst (v := 1) hx hb dX9_pour_82 (by decide) ?_
      obtain ⟨r_83, e_83, hf⟩ := ob_bind hf
      have hPX_83 : va_P D vwCl (cs8 ct (fun i => A (90 + i)) ((va_up xz 12 r_60) 11)) H_60 := (qs_11 hP)
      refine wr_call0 (va_runVN (As := [.int v3, .int 1]) (rest := []) ⟨hx, hb, hml, hown, htl⟩ (c_X8_addRain l D ct G (fun i => A (90 + i)) fu ((va_up xz 12 r_60) 11) v3 (1 : Int32) e_83 ((hDx (va_up xz 12 r_60)).sub (ws' := cs8 ct (fun i => A (90 + i)) ((va_up xz 12 r_60) 11)) [90, 91, 92] (by decide) rfl)) (cw_X9_X8_addRain htl hN ⟨Nat.le_of_ble_eq_true rfl, Nat.le_of_ble_eq_true rfl⟩) ⟨Bx_blind, va_recv hK hPX_83 (ci := 8) (q0 := 0) rfl rfl, Bx_pre hPX_83 hK hN (hX.stay hS hGE)⟩ rfl rfl hl.1 rfl (lv_room (Nat.le_of_ble_eq_true rfl)) dX9_pour_83 ⟨Nat.zero_le _, Nat.zero_le _⟩) hS qa_11 (fun H_83 locs_83 hB_83 _ hk_83 hS => ?_)
      have hP : va_P D vwCl (csQ ct A (va_up (va_up xz 12 r_60) 11 r_83)) H_83 := qj_11 hP (hDW (va_up xz 12 r_60)) hk_83 hB_83
      refine lv_aload_n hx hb dX9_pour_86 rfl (lv_at hl 0 rfl) ?_
      refine va_get (D := D) (ci := 9) (v := .ref (A 90)) (C := RX9) (T := TX9) (N := 14) hx hb htl inlX9 hown hK hP 0 qh_0 rfl 7 (by decide) (htl _ wq_2_8) (fun _ h9 => h9) rfl dX9_pour_87 ?_
      refine lv_aload_n hx hb dX9_pour_90 rfl (lv_at hl 0 rfl) ?_
      refine va_get (D := D) (ci := 9) (v := .ref (A 21)) (C := RX9) (T := TX9) (N := 14) hx hb htl inlX9 hown hK hP 0 qh_0 rfl 2 (by decide) (htl _ wq_2_0) (fun _ h9 => h9) rfl dX9_pour_91 ?_
      refine va_getN (D := D) (ci := 2) (v := .int (((va_up (va_up xz 12 r_60) 11 r_83) 5).1 1 0)) (C := RX2) (T := TX2) (N := 20) hx hb htl inlX2 hown hK hP 21 qh_5 rfl 1 (by decide) (va_Nw.use rfl (hN _ nm_26)) (fun _ h9 => h9) rfl dX9_pour_94 ?_
      obtain ⟨r_97, e_97, hf⟩ := ob_bind hf
      have hPX_97 : va_P D vwCl (cs8 ct (fun i => A (90 + i)) ((va_up (va_up xz 12 r_60) 11 r_83) 11)) H_83 := (qs_11 hP)
      refine wr_call0 (va_runVN (As := [.int (((va_up (va_up xz 12 r_60) 11 r_83) 5).1 1 0)]) (rest := []) ⟨hx, hb, hml, hown, htl⟩ (c_X8_fall l D ct G (fun i => A (90 + i)) fu ((va_up (va_up xz 12 r_60) 11 r_83) 11) (((va_up (va_up xz 12 r_60) 11 r_83) 5).1 1 0) e_97 ((hDx (va_up (va_up xz 12 r_60) 11 r_83)).sub (ws' := cs8 ct (fun i => A (90 + i)) ((va_up (va_up xz 12 r_60) 11 r_83) 11)) [90, 91, 92] (by decide) rfl)) (cw_X9_X8_fall htl hN ⟨Nat.le_of_ble_eq_true rfl, Nat.le_of_ble_eq_true rfl⟩) ⟨Bx_blind, va_recv hK hPX_97 (ci := 8) (q0 := 0) rfl rfl, Bx_pre hPX_97 hK hN (hX.stay hS hGE)⟩ rfl rfl hl.1 rfl (lv_room (Nat.le_of_ble_eq_true rfl)) dX9_pour_97 ⟨Nat.zero_le _, Nat.zero_le _⟩) hS qa_11 (fun H_97 locs_97 hB_97 _ hk_97 hS => ?_)
      have hP : va_P D vwCl (csQ ct A (va_up (va_up (va_up xz 12 r_60) 11 r_83) 11 r_97)) H_97 := qj_11 hP (hDW (va_up (va_up xz 12 r_60) 11 r_83)) hk_97 hB_97
      refine lv_iinc (v := (v4 + 1)) (lv' := [(4, .int (v4 + 1)), (0, .ref (A 0)), (1, .int v1), (2, .int v2), (3, .int v3)]) hx hb dX9_pour_100 hl (k := 4) rfl rfl (by decide) rfl (fun ls hl => ?_)
      refine lv_goto (tgt := 39) hx hb dX9_pour_103 (by decide) ?_
      exact ih (va_up (va_up (va_up xz 12 r_60) 11 r_83) 11 r_97) v1 v2 v3 (v4 + 1) _ _ _ hP hS (lv_sub hl [1, 2, 3, 4, 0] rfl) hf 
  rw [p_X9_pour] at hf
  refine lv_aload_n hx hb dX9_pour_0 rfl (lv_at hl 0 rfl) ?_
  refine lv_iload_n hx hb dX9_pour_1 rfl (lv_at hl 1 rfl) ?_
  obtain ⟨r_2, e_2, hf⟩ := ob_bind hf
  have hPX_2 : va_P D vwCl (csQ ct A x) s.heap := hP
  refine ro_call1 (va_runV (As := [.int v1]) (rest := []) ⟨hx, hb, hml, hown, htl⟩ (c_X9_isReach l D ct G A fu x v1 e_2) (cw_X9_X9_isReach htl ⟨Nat.le_of_ble_eq_true rfl, Nat.le_of_ble_eq_true rfl⟩) ⟨Bx_blind, va_recv hK hPX_2 (ci := 9) (q0 := 0) rfl rfl, Bx_pre hPX_2 hK hN (hX.stay hS hGE)⟩ rfl rfl hl.1 rfl (lv_room (Nat.le_of_ble_eq_true rfl)) dX9_pour_2 ⟨Nat.zero_le _, Nat.zero_le _⟩) ?_
  refine lv_if_eq (tgt := 22) hx hb dX9_pour_5 (by decide) (fun c_5 => ?_) (fun c_5 => ?_)
  · rw [if_pos c_5] at hf
    refine lv_bipush (v := (-2)) hx hb dX9_pour_22 (by decide) ?_
    rw [← hQQ]
    cases hf
    exact rw_i hx hb hr hlocks hP hS dX9_pour_24
  rw [if_neg c_5] at hf
  refine lv_iload_n hx hb dX9_pour_8 rfl (lv_at hl 2 rfl) ?_
  obtain ⟨r_9, e_9, hf⟩ := ob_bind hf
  have hPX_9 : va_P D vwCl ([]) s.heap := P_nil
  refine ro_call1 (va_runS (As := [.int v2]) (rest := []) ⟨hx, hb, hml, hown, htl⟩ (c_X9_isStep l D ct G fu v2 e_9) (cw_X9_X9_isStep htl ⟨Nat.le_of_ble_eq_true rfl, Nat.le_of_ble_eq_true rfl⟩) ⟨Bx_blind, Bx_pre hPX_9 hK hN (hX.stay hS hGE)⟩ rfl rfl hl.1 rfl (lv_room (Nat.le_of_ble_eq_true rfl)) dX9_pour_9 ⟨Nat.zero_le _, Nat.zero_le _⟩) ?_
  refine lv_if_eq (tgt := 22) hx hb dX9_pour_12 (by decide) (fun c_12 => ?_) (fun c_12 => ?_)
  · rw [if_pos c_12] at hf
    refine lv_bipush (v := (-2)) hx hb dX9_pour_22 (by decide) ?_
    rw [← hQQ]
    cases hf
    exact rw_i hx hb hr hlocks hP hS dX9_pour_24
  rw [if_neg c_12] at hf
  refine lv_iload_n hx hb dX9_pour_15 rfl (lv_at hl 3 rfl) ?_
  obtain ⟨r_16, e_16, hf⟩ := ob_bind hf
  have hPX_16 : va_P D vwCl ([]) s.heap := P_nil
  refine ro_call1 (va_runS (As := [.int v3]) (rest := []) ⟨hx, hb, hml, hown, htl⟩ (c_X9_isStep l D ct G fu v3 e_16) (cw_X9_X9_isStep htl ⟨Nat.le_of_ble_eq_true rfl, Nat.le_of_ble_eq_true rfl⟩) ⟨Bx_blind, Bx_pre hPX_16 hK hN (hX.stay hS hGE)⟩ rfl rfl hl.1 rfl (lv_room (Nat.le_of_ble_eq_true rfl)) dX9_pour_16 ⟨Nat.zero_le _, Nat.zero_le _⟩) ?_
  refine lv_if_ne (tgt := 25) hx hb dX9_pour_19 (by decide) (fun c_19 => ?_) (fun c_19 => ?_)
  rotate_left 1
  · rw [if_pos c_19] at hf
    refine lv_bipush (v := (-2)) hx hb dX9_pour_22 (by decide) ?_
    rw [← hQQ]
    cases hf
    exact rw_i hx hb hr hlocks hP hS dX9_pour_24
  rw [if_neg c_19] at hf
  refine lv_aload_n hx hb dX9_pour_25 rfl (lv_at hl 0 rfl) ?_
  refine va_get (D := D) (ci := 9) (v := .ref (A 90)) (C := RX9) (T := TX9) (N := 14) hx hb htl inlX9 hown hK hP 0 qh_0 rfl 7 (by decide) (htl _ wq_2_8) (fun _ h9 => h9) rfl dX9_pour_26 ?_
  refine lv_aload_n hx hb dX9_pour_29 rfl (lv_at hl 0 rfl) ?_
  refine va_get (D := D) (ci := 9) (v := .ref (A 87)) (C := RX9) (T := TX9) (N := 14) hx hb htl inlX9 hown hK hP 0 qh_0 rfl 6 (by decide) (htl _ wq_2_7) (fun _ h9 => h9) rfl dX9_pour_30 ?_
  obtain ⟨r_33, e_33, hf⟩ := ob_bind hf
  have hPX_33 : va_P D vwCl (cs8 ct (fun i => A (90 + i)) (x 11) ++ (cs8 ct (fun i => A (87 + i)) (x 10))) s.heap := (va_P.app (qs_11 hP) (qs_10 hP))
  refine wr_call0 (va_runVN (As := [.ref (A 87)]) (rest := []) ⟨hx, hb, hml, hown, htl⟩ (c_X8_become l D ct G (fun i => A (90 + i)) (fun i => A (87 + i)) fu (x 11) (x 10) e_33 ((hDx x).sub (ws' := cs8 ct (fun i => A (90 + i)) (x 11) ++ (cs8 ct (fun i => A (87 + i)) (x 10))) [90, 91, 92, 87, 88, 89] (by decide) rfl)) (cw_X9_X8_become htl hN ⟨Nat.le_of_ble_eq_true rfl, Nat.le_of_ble_eq_true rfl⟩) ⟨Bx_blind, va_recv hK hPX_33 (ci := 8) (q0 := 0) rfl rfl, Bx_pre hPX_33 hK hN (hX.stay hS hGE)⟩ rfl rfl hl.1 rfl (lv_room (Nat.le_of_ble_eq_true rfl)) dX9_pour_33 ⟨Nat.zero_le _, Nat.zero_le _⟩) hS qa_11 (fun H_33 locs_33 hB_33 _ hk_33 hS => ?_)
  have hP : va_P D vwCl (csQ ct A (va_up x 11 r_33)) H_33 := qj_11 hP (hDW x) hk_33 hB_33
  refine lv_iconst (v := 0) hx hb dX9_pour_36 (by decide) ?_
  refine lv_istore (lv' := [(4, .int 0), (0, .ref (A 0)), (1, .int v1), (2, .int v2), (3, .int v3)]) hx hb dX9_pour_37 hl (by decide) rfl (fun ls hl => ?_)
  exact hL39 fu (va_up x 11 r_33) v1 v2 v3 0 _ _ _ hP hS (lv_sub hl [1, 2, 3, 4, 0] rfl) hf 
theorem c_X9_pour (l : Launch) (D : va_G) (ct : Nat → ClassId) (G : GT) (A : Nat → Nat) (fu : Nat) (x : Nat → Ob) (v1 : Int32) (v2 : Int32) (v3 : Int32) {r : Int32 × (Nat → Ob)} (hf : p_X9_pour fu x v1 v2 v3 = some r)  (hDx : ∀ x : Nat → Ob, va_D (GE G) (csQ ct A x)) : Met l yX9_pour (.code yX9_pour cX9_pour 5 (some .int) :: wsL_law) rm_X9_pour (va_Pc [.ref (A 0), .int v1, .int v2, .int v3] (Bx D ct G (csQ ct A x))) (Qwr (some (.int r.1)) (fun H => va_P D vwCl (csQ ct A r.2) H) (wA (csQ ct A x))) 0 0 (wA (csQ ct A x)) := by
  refine Met.ofW (cc := cX9_pour) (maxL := 5) (ret := (some .int)) (by decide) rfl ?_
  intro p e s m args below meth c s₁ B hml hv
  obtain ⟨rfl, hP, hK, hN, hX⟩ := hv
  have hts := atoms_spec (ws := .code yX9_pour cX9_pour 5 (some .int) :: wsL_law) B.pre
  rw [lg_entry_eq]
  exact b_X9_pour A fu x v1 v2 v3 B.exec B.bytes B.returns hml (findClass_of_methodNamed B.named) (fun w h => hts w (List.mem_cons_of_mem _ h)) B.notSynchronized hK hN hX hP hf hDx  (lv_entry [.ref (A 0), .int v1, .int v2, .int v3] (n := 5) (Nat.le_of_ble_eq_true rfl))
