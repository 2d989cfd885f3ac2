def p_X9_rowOf (fu : Nat) (x : Nat → Ob) (v1 : Int32) : Option (Option Nat) :=
  if v1 < 0 then some none else if (4 : Int32) ≤ v1 then some none else if inb v1 4 = true then oLet v1.toNatClampNeg (fun j_18 => some (some j_18)) else none
abbrev rm_X9_rowOf : Room := { frames := 0, cells := 0, slots := 0, locals := 0 }
set_option maxHeartbeats 4000000 in
set_option maxRecDepth 100000 in
theorem b_X9_rowOf {p : Program} {l : Launch} {e : Env} {s : State} {m : MethodId} {args : Array Value} {below : List Frame} {meth : Method} {c : Code} {ls : Array Slot} {D : va_G} {ct : Nat → ClassId} {G : GT} (A : Nat → Nat) (fu : Nat) (x : Nat → Ob) (v1 : Int32) {r : Option Nat} (hx : p.tables.exec = Jvm.exec) (hb : c.code = cX9_rowOf) (hr : meth.sig.returnType = (some (.object "QuotedRiver$Row"))) (hml : c.maxLocals = 2) (hown : s.vm.findClass RX9 = some m.cls) (htl : ∀ w ∈ wsL_law, w.before args s = true) (hlocks : meth.locks = false) (hK : va_K D vwCl (tyl ct) s) (hN : ∀ w ∈ NW, va_Nw w s) (hX : SX G s s.heap) (hP0 : va_P D vwCl (csQ ct A x) s.heap) (hf : p_X9_rowOf fu x v1 = some r)  (hl : lv_has ls 2 [(0, .ref (A 0)), (1, .int v1)]) : W p l e rm_X9_rowOf s m args below meth c s.heap [] 0 0 (MQ below (Qro (some (va_rf (r.map (fun j => A (98 + 2 * j)))))) args s 0 0 (fun _ => False)) (F0 m 0 ls []) := by
  generalize hQQ : MQ below (Qro (some (va_rf (r.map (fun j => A (98 + 2 * j)))))) args s 0 0 (fun _ => False) = QQ
  have hP := hP0
  rw [p_X9_rowOf] at hf
  refine lv_iload_n hx hb dX9_rowOf_0 rfl (lv_at hl 1 rfl) ?_
  refine lv_if_lt (tgt := 22) hx hb dX9_rowOf_1 (by decide) (fun c_1 => ?_) (fun c_1 => ?_)
  · rw [if_pos c_1] at hf
    refine lv_null hx hb dX9_rowOf_22 ?_
    rw [← hQQ]
    exact rf_a hx hb hr hlocks (by cases hf; rfl) (Or.inl rfl) dX9_rowOf_23
  rw [if_neg c_1] at hf
  refine lv_iload_n hx hb dX9_rowOf_4 rfl (lv_at hl 1 rfl) ?_
  refine lv_aload_n hx hb dX9_rowOf_5 rfl (lv_at hl 0 rfl) ?_
  refine va_get (D := D) (ci := 9) (v := .ref (A 97)) (C := RX9) (T := TX9) (N := 14) hx hb htl inlX9 hown hK hP 0 qh_0 rfl 10 (by decide) (htl _ wq_2_15) (fun _ h9 => h9) rfl dX9_rowOf_6 ?_
  refine va_alen (D := D) (tys := tyl ct) (v := 4) hx hb hK hP 97 5 rfl rfl rfl dX9_rowOf_9 ?_
  refine lv_icmp_ge (tgt := 22) hx hb dX9_rowOf_10 (by decide) (fun c_10 => ?_) (fun c_10 => ?_)
  · rw [if_pos c_10] at hf
    refine lv_null hx hb dX9_rowOf_22 ?_
    rw [← hQQ]
    exact rf_a hx hb hr hlocks (by cases hf; rfl) (Or.inl rfl) dX9_rowOf_23
  rw [if_neg c_10] at hf
  refine lv_aload_n hx hb dX9_rowOf_13 rfl (lv_at hl 0 rfl) ?_
  refine va_get (D := D) (ci := 9) (v := .ref (A 97)) (C := RX9) (T := TX9) (N := 14) hx hb htl inlX9 hown hK hP 0 qh_0 rfl 10 (by decide) (htl _ wq_2_15) (fun _ h9 => h9) rfl dX9_rowOf_14 ?_
  refine lv_iload_n hx hb dX9_rowOf_17 rfl (lv_at hl 1 rfl) ?_
  obtain ⟨hi_18, hf⟩ := ob_in hf
  refine va_aldq (D := D) (tys := tyl ct) hx hb hK hP 97 5 rfl rfl hi_18 dX9_rowOf_18 ?_
  obtain ⟨j_18, ej_18, hf⟩ := ob_let hf
  have hj_18 : j_18 < 4 := by rw [ej_18]; exact vp_lt hi_18
  rw [← ej_18]
  refine W.eq (g2 := F0 m 19 ls [.ref (A (98 + 2 * j_18))]) rfl ?_
  refine lv_goto (tgt := 23) hx hb dX9_rowOf_19 (by decide) ?_
  rw [← hQQ]
  exact rf_a hx hb hr hlocks (by cases hf; rfl) (Or.inr ⟨_, rfl⟩) dX9_rowOf_23
theorem c_X9_rowOf (l : Launch) (D : va_G) (ct : Nat → ClassId) (G : GT) (A : Nat → Nat) (fu : Nat) (x : Nat → Ob) (v1 : Int32) {r : Option Nat} (hf : p_X9_rowOf fu x v1 = some r)  : Met l yX9_rowOf (.code yX9_rowOf cX9_rowOf 2 (some (.object "QuotedRiver$Row")) :: wsL_law) rm_X9_rowOf (va_Pc [.ref (A 0), .int v1] (Bx D ct G (csQ ct A x))) (Qro (some (va_rf (r.map (fun j => A (98 + 2 * j)))))) 0 0 (fun _ => False) := by
  refine Met.ofW (cc := cX9_rowOf) (maxL := 2) (ret := (some (.object "QuotedRiver$Row"))) (by decide) rfl ?_
  intro p e s m args below meth c s₁ B hml hv
  obtain ⟨rfl, hP, hK, hN, hX⟩ := hv
  have hts := atoms_spec (ws := .code yX9_rowOf cX9_rowOf 2 (some (.object "QuotedRiver$Row")) :: wsL_law) B.pre
  rw [lg_entry_eq]
  exact b_X9_rowOf A fu x v1 B.exec B.bytes B.returns hml (findClass_of_methodNamed B.named) (fun w h => hts w (List.mem_cons_of_mem _ h)) B.notSynchronized hK hN hX hP hf   (lv_entry [.ref (A 0), .int v1] (n := 2) (Nat.le_of_ble_eq_true rfl))
theorem hd_X9_rowOf : yX9_rowOf.cls ≠ "java/lang/invoke/MethodHandle" ∧ yX9_rowOf.cls ≠ "java/lang/invoke/VarHandle" ∧ (parseMethodDescriptor yX9_rowOf.desc).map (fun d => d.parameters.length) = some 1 := by decide +kernel
theorem cw_X9_X9_rowOf {R : Room} {s : State} {args : Array Value} (ht : ∀ w ∈ wsL_law, w.before args s = true) (hR : rm_X9_rowOf.frames + 1 ≤ R.frames ∧ 8 + (2 + 11) + rm_X9_rowOf.locals ≤ R.locals) : CallW R s args RX9 RX9 385 yX9_rowOf cX9_rowOf 2 (some (.object "QuotedRiver$Row")) ((.code yX9_rowOf cX9_rowOf 2 (some (.object "QuotedRiver$Row"))) :: wsL_law) rm_X9_rowOf 0 0 1 := cwV 1 ht (GV wq_47_0 wq_47_1 wq_47_2 wq_1_2 wq_47_3) rfl rfl rfl ⟨rfl, hd_X9_rowOf⟩ hR
theorem hd_X3_tellsSpots : yX3_tellsSpots.cls ≠ "java/lang/invoke/MethodHandle" ∧ yX3_tellsSpots.cls ≠ "java/lang/invoke/VarHandle" ∧ (parseMethodDescriptor yX3_tellsSpots.desc).map (fun d => d.parameters.length) = some 1 := by decide +kernel
theorem cw_X9_X3_tellsSpots {R : Room} {s : State} {args : Array Value} (ht : ∀ w ∈ wsL_law, w.before args s = true) (hN : ∀ w ∈ NW, va_Nw w s) (hR : rm_X3_tellsSpots.frames + 1 ≤ R.frames ∧ 8 + (7 + 11) + rm_X3_tellsSpots.locals ≤ R.locals) : va_CN R s args RX9 423 yX3_tellsSpots "QuotedRiver" cX3_tellsSpots 7 (some .boolean) ((.code yX3_tellsSpots cX3_tellsSpots 7 (some .boolean)) :: wsL_law) rm_X3_tellsSpots 0 0 1 ∧ (Cond.instanceMethod yX3_tellsSpots).before args s = true ∧ (Cond.selects RX3 yX3_tellsSpots yX3_tellsSpots).before args s = true := ⟨va_cnB 1 ht (GL wq_47_6) rfl rfl rfl (hN _ nm_105) (ht _ wq_3_3) hd_X3_tellsSpots hR, ht _ wq_47_4, ht _ wq_47_5⟩
def p_X9_refuseSeen (fu : Nat) (x : Nat → Ob) (v1 : Int32) : Option (Int32) :=
  (p_X9_rowOf fu x v1).bind fun r_2 => oCase r_2 (some ((-2) : Int32)) (fun j_2 => if j_2 < 4 then if ((x 5).1 0 0) = 0 then some ((-2) : Int32) else if ((x (14 + j_2)).1 0 0) = 0 then some ((-6) : Int32) else (p_X3_tellsSpots fu (x (14 + j_2)) ((x 5).1 4 0)).bind fun r_41 => if r_41 = 0 then some ((-2) : Int32) else some (0 : Int32) else none)
abbrev rm_X9_refuseSeen : Room := { frames := 2, cells := 0, slots := 0, locals := 47 }
set_option maxHeartbeats 4000000 in
set_option maxRecDepth 100000 in
theorem b_X9_refuseSeen {p : Program} {l : Launch} {e : Env} {s : State} {m : MethodId} {args : Array Value} {below : List Frame} {meth : Method} {c : Code} {ls : Array Slot} {D : va_G} {ct : Nat → ClassId} {G : GT} (A : Nat → Nat) (fu : Nat) (x : Nat → Ob) (v1 : Int32) {r : Int32} (hx : p.tables.exec = Jvm.exec) (hb : c.code = cX9_refuseSeen) (hr : meth.sig.returnType = (some .int)) (hml : c.maxLocals = 3) (hown : s.vm.findClass RX9 = some m.cls) (htl : ∀ w ∈ wsL_law, w.before args s = true) (hlocks : meth.locks = false) (hK : va_K D vwCl (tyl ct) s) (hN : ∀ w ∈ NW, va_Nw w s) (hX : SX G s s.heap) (hP0 : va_P D vwCl (csQ ct A x) s.heap) (hf : p_X9_refuseSeen fu x v1 = some r)  (hl : lv_has ls 3 [(0, .ref (A 0)), (1, .int v1)]) : W p l e rm_X9_refuseSeen s m args below meth c s.heap [] 0 0 (MQ below (Qro (some (.int r))) args s 0 0 (fun _ => False)) (F0 m 0 ls []) := by
  generalize hQQ : MQ below (Qro (some (.int r))) args s 0 0 (fun _ => False) = QQ
  have hP := hP0
  rw [p_X9_refuseSeen] at hf
  refine lv_aload_n hx hb dX9_refuseSeen_0 rfl (lv_at hl 0 rfl) ?_
  refine lv_iload_n hx hb dX9_refuseSeen_1 rfl (lv_at hl 1 rfl) ?_
  obtain ⟨r_2, e_2, hf⟩ := ob_bind hf
  rcases ob_case hf with ⟨er_2, hf⟩ | ⟨j_2, er_2, hf⟩
  · subst er_2
    have hPX_2 : va_P D vwCl (csQ ct A x) s.heap := hP
    refine ro_call1 (va_runV (As := [.int v1]) (rest := []) ⟨hx, hb, hml, hown, htl⟩ (c_X9_rowOf l D ct G A fu x v1 e_2) (cw_X9_X9_rowOf htl ⟨Nat.le_of_ble_eq_true rfl, Nat.le_of_ble_eq_true rfl⟩) ⟨Bx_blind, va_recv hK hPX_2 (ci := 9) (q0 := 0) rfl rfl, Bx_pre hPX_2 hK hN hX⟩ rfl rfl hl.1 rfl (lv_room (Nat.le_of_ble_eq_true rfl)) dX9_refuseSeen_2 ⟨Nat.zero_le _, Nat.zero_le _⟩) ?_
    refine W.eq (g2 := F0 m 5 ls [.null]) rfl ?_
    refine lv_astore_nN (lv' := [(2, .null), (0, .ref (A 0)), (1, .int v1)]) hx hb dX9_refuseSeen_5 rfl hl (by decide) rfl (fun ls hl => ?_)
    refine lv_aload_nN hx hb dX9_refuseSeen_6 rfl (lv_at hl 0 rfl) ?_
    refine lv_ifnullN (tgt := 20) hx hb dX9_refuseSeen_7 (by decide) ?_
    refine lv_bipush (v := (-2)) hx hb dX9_refuseSeen_20 (by decide) ?_
    rw [← hQQ]
    exact rf_i hx hb hr hlocks hf dX9_refuseSeen_22
  subst er_2
  obtain ⟨hj_2, hf⟩ := ob_lt hf
  have hPX_2 : va_P D vwCl (csQ ct A x) s.heap := hP
  refine ro_call1 (va_runV (As := [.int v1]) (rest := []) ⟨hx, hb, hml, hown, htl⟩ (c_X9_rowOf l D ct G A fu x v1 e_2) (cw_X9_X9_rowOf htl ⟨Nat.le_of_ble_eq_true rfl, Nat.le_of_ble_eq_true rfl⟩) ⟨Bx_blind, va_recv hK hPX_2 (ci := 9) (q0 := 0) rfl rfl, Bx_pre hPX_2 hK hN hX⟩ rfl rfl hl.1 rfl (lv_room (Nat.le_of_ble_eq_true rfl)) dX9_refuseSeen_2 ⟨Nat.zero_le _, Nat.zero_le _⟩) ?_
  refine W.eq (g2 := F0 m 5 ls [.ref (A (98 + 2 * j_2))]) rfl ?_
  refine lv_astore_n (lv' := [(2, .ref (A (98 + 2 * j_2))), (0, .ref (A 0)), (1, .int v1)]) hx hb dX9_refuseSeen_5 rfl hl (by decide) rfl (fun ls hl => ?_)
  refine lv_aload_n hx hb dX9_refuseSeen_6 rfl (lv_at hl 0 rfl) ?_
  refine lv_ifnull hx hb dX9_refuseSeen_7 ?_
  refine lv_aload_n hx hb dX9_refuseSeen_10 rfl (lv_at hl 1 rfl) ?_
  refine va_get (D := D) (ci := 9) (v := .ref (A 21)) (C := RX9) (T := TX9) (N := 14) hx hb htl inlX9 hown hK hP 0 qh_0 rfl 2 (by decide) (htl _ wq_2_0) (fun _ h9 => h9) rfl dX9_refuseSeen_11 ?_
  refine va_getN (D := D) (ci := 2) (v := .int ((x 5).1 0 0)) (C := RX2) (T := TX2) (N := 20) hx hb htl inlX2 hown hK hP 21 qh_5 rfl 0 (by decide) (va_Nw.use rfl (hN _ nm_14)) (fun _ h9 => h9) rfl dX9_refuseSeen_14 ?_
  refine lv_if_ne (tgt := 23) hx hb dX9_refuseSeen_17 (by decide) (fun c_17 => ?_) (fun c_17 => ?_)
  rotate_left 1
  · rw [if_pos c_17] at hf
    refine lv_bipush (v := (-2)) hx hb dX9_refuseSeen_20 (by decide) ?_
    rw [← hQQ]
    exact rf_i hx hb hr hlocks hf dX9_refuseSeen_22
  rw [if_neg c_17] at hf
  refine lv_aload_n hx hb dX9_refuseSeen_23 rfl (lv_at hl 0 rfl) ?_
  refine va_getN (D := D) (ci := 3) (v := .int ((x (14 + j_2)).1 0 0)) (C := RX3) (T := TX3) (N := 4) hx hb htl inlX3 hown hK hP (98 + 2 * j_2) (qrow_at0 hj_2) rfl 0 (by decide) (va_Nw.use rfl (hN _ nm_34)) (fun _ h9 => h9) rfl dX9_refuseSeen_24 ?_
  refine lv_if_ne (tgt := 33) hx hb dX9_refuseSeen_27 (by decide) (fun c_27 => ?_) (fun c_27 => ?_)
  rotate_left 1
  · rw [if_pos c_27] at hf
    refine lv_bipush (v := (-6)) hx hb dX9_refuseSeen_30 (by decide) ?_
    rw [← hQQ]
    exact rf_i hx hb hr hlocks hf dX9_refuseSeen_32
  rw [if_neg c_27] at hf
  refine lv_aload_n hx hb dX9_refuseSeen_33 rfl (lv_at hl 0 rfl) ?_
  refine lv_aload_n hx hb dX9_refuseSeen_34 rfl (lv_at hl 1 rfl) ?_
  refine va_get (D := D) (ci := 9) (v := .ref (A 21)) (C := RX9) (T := TX9) (N := 14) hx hb htl inlX9 hown hK hP 0 qh_0 rfl 2 (by decide) (htl _ wq_2_0) (fun _ h9 => h9) rfl dX9_refuseSeen_35 ?_
  refine va_getN (D := D) (ci := 2) (v := .int ((x 5).1 4 0)) (C := RX2) (T := TX2) (N := 20) hx hb htl inlX2 hown hK hP 21 qh_5 rfl 4 (by decide) (va_Nw.use rfl (hN _ nm_23)) (fun _ h9 => h9) rfl dX9_refuseSeen_38 ?_
  obtain ⟨r_41, e_41, hf⟩ := ob_bind hf
  have hPX_41 : va_P D vwCl (cs3 ct (fun i => A (98 + 2 * j_2 + i)) (x (14 + j_2))) s.heap := (qrow_s hj_2 hP)
  refine ro_call1 (va_runVN (As := [.int ((x 5).1 4 0)]) (rest := []) ⟨hx, hb, hml, hown, htl⟩ (c_X3_tellsSpots l D ct G (fun i => A (98 + 2 * j_2 + i)) fu (x (14 + j_2)) ((x 5).1 4 0) e_41) (cw_X9_X3_tellsSpots htl hN ⟨Nat.le_of_ble_eq_true rfl, Nat.le_of_ble_eq_true rfl⟩) ⟨Bx_blind, va_recv hK hPX_41 (ci := 3) (q0 := 0) rfl rfl, Bx_pre hPX_41 hK hN hX⟩ rfl rfl hl.1 rfl (lv_room (Nat.le_of_ble_eq_true rfl)) dX9_refuseSeen_41 ⟨Nat.zero_le _, Nat.zero_le _⟩) ?_
  refine lv_if_eq (tgt := 51) hx hb dX9_refuseSeen_44 (by decide) (fun c_44 => ?_) (fun c_44 => ?_)
  · rw [if_pos c_44] at hf
    refine lv_bipush (v := (-2)) hx hb dX9_refuseSeen_51 (by decide) ?_
    rw [← hQQ]
    exact rf_i hx hb hr hlocks hf dX9_refuseSeen_53
  rw [if_neg c_44] at hf
  refine lv_iconst (v := 0) hx hb dX9_refuseSeen_47 (by decide) ?_
  refine lv_goto (tgt := 53) hx hb dX9_refuseSeen_48 (by decide) ?_
  rw [← hQQ]
  exact rf_i hx hb hr hlocks hf dX9_refuseSeen_53
theorem c_X9_refuseSeen (l : Launch) (D : va_G) (ct : Nat → ClassId) (G : GT) (A : Nat → Nat) (fu : Nat) (x : Nat → Ob) (v1 : Int32) {r : Int32} (hf : p_X9_refuseSeen fu x v1 = some r)  : Met l yX9_refuseSeen (.code yX9_refuseSeen cX9_refuseSeen 3 (some .int) :: wsL_law) rm_X9_refuseSeen (va_Pc [.ref (A 0), .int v1] (Bx D ct G (csQ ct A x))) (Qro (some (.int r))) 0 0 (fun _ => False) := by
  refine Met.ofW (cc := cX9_refuseSeen) (maxL := 3) (ret := (some .int)) (by decide) rfl ?_
  intro p e s m args below meth c s₁ B hml hv
  obtain ⟨rfl, hP, hK, hN, hX⟩ := hv
  have hts := atoms_spec (ws := .code yX9_refuseSeen cX9_refuseSeen 3 (some .int) :: wsL_law) B.pre
  rw [lg_entry_eq]
  exact b_X9_refuseSeen A fu x v1 B.exec B.bytes B.returns hml (findClass_of_methodNamed B.named) (fun w h => hts w (List.mem_cons_of_mem _ h)) B.notSynchronized hK hN hX hP hf   (lv_entry [.ref (A 0), .int v1] (n := 3) (Nat.le_of_ble_eq_true rfl))
theorem hd_X4_clear : yX4_clear.cls ≠ "java/lang/invoke/MethodHandle" ∧ yX4_clear.cls ≠ "java/lang/invoke/VarHandle" ∧ (parseMethodDescriptor yX4_clear.desc).map (fun d => d.parameters.length) = some 0 := by decide +kernel
theorem cw_X9_X4_clear {R : Room} {s : State} {args : Array Value} (ht : ∀ w ∈ wsL_law, w.before args s = true) (hN : ∀ w ∈ NW, va_Nw w s) (hR : rm_X4_clear.frames + 1 ≤ R.frames ∧ 8 + (2 + 11) + rm_X4_clear.locals ≤ R.locals) : va_CN R s args RX9 426 yX4_clear "QuotedRiver" cX4_clear 2 none ((.code yX4_clear cX4_clear 2 none) :: wsL_law) rm_X4_clear 0 0 0 ∧ (Cond.instanceMethod yX4_clear).before args s = true ∧ (Cond.selects RX4 yX4_clear yX4_clear).before args s = true := ⟨va_cnB 0 ht (GL wq_47_18) rfl rfl rfl (hN _ nm_106) (ht _ wq_2_18) hd_X4_clear hR, ht _ wq_47_16, ht _ wq_47_17⟩
theorem hd_X3_earliestStep : yX3_earliestStep.cls ≠ "java/lang/invoke/MethodHandle" ∧ yX3_earliestStep.cls ≠ "java/lang/invoke/VarHandle" ∧ (parseMethodDescriptor yX3_earliestStep.desc).map (fun d => d.parameters.length) = some 0 := by decide +kernel
theorem cw_X9_X3_earliestStep {R : Room} {s : State} {args : Array Value} (ht : ∀ w ∈ wsL_law, w.before args s = true) (hN : ∀ w ∈ NW, va_Nw w s) (hR : rm_X3_earliestStep.frames + 1 ≤ R.frames ∧ 8 + (3 + 11) + rm_X3_earliestStep.locals ≤ R.locals) : va_CN R s args RX9 429 yX3_earliestStep "QuotedRiver" cX3_earliestStep 3 (some .int) ((.code yX3_earliestStep cX3_earliestStep 3 (some .int)) :: wsL_law) rm_X3_earliestStep 0 0 0 ∧ (Cond.instanceMethod yX3_earliestStep).before args s = true ∧ (Cond.selects RX3 yX3_earliestStep yX3_earliestStep).before args s = true := ⟨va_cnB 0 ht (GL wq_47_21) rfl rfl rfl (hN _ nm_107) (ht _ wq_3_3) hd_X3_earliestStep hR, ht _ wq_47_19, ht _ wq_47_20⟩
theorem hd_X5_wasSeen : yX5_wasSeen.cls ≠ "java/lang/invoke/MethodHandle" ∧ yX5_wasSeen.cls ≠ "java/lang/invoke/VarHandle" ∧ (parseMethodDescriptor yX5_wasSeen.desc).map (fun d => d.parameters.length) = some 1 := by decide +kernel
theorem cw_X9_X5_wasSeen {R : Room} {s : State} {args : Array Value} (ht : ∀ w ∈ wsL_law, w.before args s = true) (hN : ∀ w ∈ NW, va_Nw w s) (hR : rm_X5_wasSeen.frames + 1 ≤ R.frames ∧ 8 + (3 + 11) + rm_X5_wasSeen.locals ≤ R.locals) : va_CN R s args RX9 432 yX5_wasSeen "QuotedRiver" cX5_wasSeen 3 (some .boolean) ((.code yX5_wasSeen cX5_wasSeen 3 (some .boolean)) :: wsL_law) rm_X5_wasSeen 0 0 1 ∧ (Cond.instanceMethod yX5_wasSeen).before args s = true ∧ (Cond.selects RX5 yX5_wasSeen yX5_wasSeen).before args s = true := ⟨va_cnB 1 ht (GL wq_48_1) rfl rfl rfl (hN _ nm_108) (ht _ wq_2_11) hd_X5_wasSeen hR, ht _ wq_47_23, ht _ wq_48_0⟩
theorem hd_X4_add : yX4_add.cls ≠ "java/lang/invoke/MethodHandle" ∧ yX4_add.cls ≠ "java/lang/invoke/VarHandle" ∧ (parseMethodDescriptor yX4_add.desc).map (fun d => d.parameters.length) = some 1 := by decide +kernel
theorem cw_X9_X4_add {R : Room} {s : State} {args : Array Value} (ht : ∀ w ∈ wsL_law, w.before args s = true) (hN : ∀ w ∈ NW, va_Nw w s) (hR : rm_X4_add.frames + 1 ≤ R.frames ∧ 8 + (2 + 11) + rm_X4_add.locals ≤ R.locals) : va_CN R s args RX9 436 yX4_add "QuotedRiver" cX4_add 2 none ((.code yX4_add cX4_add 2 none) :: wsL_law) rm_X4_add 0 0 1 ∧ (Cond.instanceMethod yX4_add).before args s = true ∧ (Cond.selects RX4 yX4_add yX4_add).before args s = true := ⟨va_cnB 1 ht (GL wq_48_4) rfl rfl rfl (hN _ nm_109) (ht _ wq_2_18) hd_X4_add hR, ht _ wq_48_2, ht _ wq_48_3⟩
theorem hd_X4_note : yX4_note.cls ≠ "java/lang/invoke/MethodHandle" ∧ yX4_note.cls ≠ "java/lang/invoke/VarHandle" ∧ (parseMethodDescriptor yX4_note.desc).map (fun d => d.parameters.length) = some 1 := by decide +kernel
theorem cw_X9_X4_note {R : Room} {s : State} {args : Array Value} (ht : ∀ w ∈ wsL_law, w.before args s = true) (hN : ∀ w ∈ NW, va_Nw w s) (hR : rm_X4_note.frames + 1 ≤ R.frames ∧ 8 + (4 + 11) + rm_X4_note.locals ≤ R.locals) : va_CN R s args RX9 439 yX4_note "QuotedRiver" cX4_note 4 none ((.code yX4_note cX4_note 4 none) :: wsL_law) rm_X4_note 0 0 1 ∧ (Cond.instanceMethod yX4_note).before args s = true ∧ (Cond.selects RX4 yX4_note yX4_note).before args s = true := ⟨va_cnB 1 ht (GL wq_48_7) rfl rfl rfl (hN _ nm_110) (ht _ wq_2_18) hd_X4_note hR, ht _ wq_48_5, ht _ wq_48_6⟩
def p_X9_search_L45 (fu : Nat) (c130 : (Nat → Ob) → Nat → Int32 → Int32 → Option ((Nat → Ob))) : Nat → (Nat → Ob) → Nat → Int32 → Int32 → Int32 → Option ((Nat → Ob))
  | 0, _, _, _, _, _ => none
  | n + 1, xz, j_9, v3, v4, v5 =>
    if v3 < v5 then c130 xz j_9 v3 v4 else (p_X5_drift fu (xz 12) (xz 5) (xz 10) v4 v5).bind fun r_67 => (p_X5_wasSeen fu ((va_up xz 12 r_67) 12) ((va_up xz 12 r_67) (14 + j_9))).bind fun r_75 => if r_75 = 0 then p_X9_search_L45 fu c130 n (va_up xz 12 r_67) j_9 v3 v4 (v5 + 1) else (p_X4_add fu ((va_up xz 12 r_67) 18) ((100 * v4) + v5)).bind fun r_93 => (p_X9_bit fu v4).bind fun r_106 => (p_X4_note fu ((va_up (va_up (va_up xz 12 r_67) 18 r_93) 18 (oI ((va_up (va_up xz 12 r_67) 18 r_93) 18) 1 ((((va_up (va_up xz 12 r_67) 18 r_93) 18).1 1 0) ||| r_106))) 18) ((va_up (va_up (va_up xz 12 r_67) 18 r_93) 18 (oI ((va_up (va_up xz 12 r_67) 18 r_93) 18) 1 ((((va_up (va_up xz 12 r_67) 18 r_93) 18).1 1 0) ||| r_106))) 12)).bind fun r_121 => p_X9_search_L45 fu c130 n (va_up (va_up (va_up (va_up xz 12 r_67) 18 r_93) 18 (oI ((va_up (va_up xz 12 r_67) 18 r_93) 18) 1 ((((va_up (va_up xz 12 r_67) 18 r_93) 18).1 1 0) ||| r_106))) 18 r_121) j_9 v3 v4 (v5 + 1)
def p_X9_search_L30 (fu : Nat)  : Nat → (Nat → Ob) → Nat → Int32 → Int32 → Option ((Nat → Ob))
  | 0, _, _, _, _ => none
  | n + 1, xz, j_9, v3, v4 =>
    if ((xz 5).1 4 0) ≤ v4 then some xz else p_X9_search_L45 fu (fun xz j_9 v3 v4 => p_X9_search_L30 fu  n xz j_9 v3 (v4 + 1)) fu xz j_9 v3 v4 0
def p_X9_search (fu : Nat) (x : Nat → Ob) (v1 : Int32) : Option ((Nat → Ob)) :=
  (p_X4_clear fu (x 18)).bind fun r_4 => (p_X9_rowOf fu (va_up x 18 r_4) v1).bind fun r_9 => oCase r_9 (some (va_up x 18 r_4)) (fun j_9 => if j_9 < 4 then (p_X3_earliestStep fu ((va_up x 18 r_4) (14 + j_9))).bind fun r_23 => p_X9_search_L30 fu fu (va_up x 18 r_4) j_9 r_23 0 else none)
abbrev rm_X9_search : Room := { frames := 4, cells := 0, slots := 0, locals := 97 }
set_option maxHeartbeats 4000000 in
set_option maxRecDepth 100000 in
theorem b_X9_search {p : Program} {l : Launch} {e : Env} {s : State} {m : MethodId} {args : Array Value} {below : List Frame} {meth : Method} {c : Code} {ls : Array Slot} {D : va_G} {ct : Nat → ClassId} {G : GT} (A : Nat → Nat) (fu : Nat) (x : Nat → Ob) (v1 : Int32) {r : (Nat → Ob)} (hx : p.tables.exec = Jvm.exec) (hb : c.code = cX9_search) (hr : meth.sig.returnType = (some (.object "QuotedRiver$Sources"))) (hml : c.maxLocals = 6) (hown : s.vm.findClass RX9 = some m.cls) (htl : ∀ w ∈ wsL_law, w.before args s = true) (hlocks : meth.locks = false) (hK : va_K D vwCl (tyl ct) s) (hN : ∀ w ∈ NW, va_Nw w s) (hX : SX G s s.heap) (hP0 : va_P D vwCl (csQ ct A x) s.heap) (hf : p_X9_search fu x v1 = some r) (hDx : ∀ x : Nat → Ob, va_D (GE G) (csQ ct A x))  (hl : lv_has ls 6 [(0, .ref (A 0)), (1, .int v1)]) : W p l e rm_X9_search s m args below meth c s.heap [] 0 0 (MQ below (Qwr (some (.ref (A 106))) (fun H => va_P D vwCl (csQ ct A r) H) (wA (csQ ct A x))) args s 0 0 (wA (csQ ct A x))) (F0 m 0 ls []) := by
  generalize hQQ : MQ below (Qwr (some (.ref (A 106))) (fun H => va_P D vwCl (csQ ct A r) H) (wA (csQ ct A x))) args s 0 0 (wA (csQ ct A x)) = QQ
  have hDW : ∀ x1 : Nat → Ob, va_D (wA (csQ ct A x)) (csQ ct A x1) := fun x1 => D_any (D_self (hDx x1)) (wA_Q x1 x)
  have hGE : ∀ q, wA (csQ ct A x) q → GE G q := wA_GE (hDx x)
  have hP := hP0
  have hS : va_S (wA (csQ ct A x)) s.heap s.heap [] := va_S.rf
  have hL45 : ∀ (c130 : (Nat → Ob) → Nat → Int32 → Int32 → Option ((Nat → Ob))) (n : Nat) (xz : Nat → Ob) (j_9 : Nat) (v3 : Int32) (v4 : Int32) (v5 : Int32), ∀ (hj_9 : j_9 < 4) (H : Heap) (locs : List Loc) (ls : Array Slot), va_P D vwCl (csQ ct A xz) H → va_S (wA (csQ ct A x)) s.heap H locs → lv_has ls 6 [(0, .ref (A 0)), (2, .ref (A (98 + 2 * j_9))), (3, .int v3), (4, .int v4), (5, .int v5)] → p_X9_search_L45 fu c130 n xz j_9 v3 v4 v5 = some r → (∀ (xz : Nat → Ob) (j_9 : Nat) (v3 : Int32) (v4 : Int32), ∀ (hj_9 : j_9 < 4) (H : Heap) (locs : List Loc) (ls : Array Slot), va_P D vwCl (csQ ct A xz) H → va_S (wA (csQ ct A x)) s.heap H locs → lv_has ls 6 [(0, .ref (A 0)), (2, .ref (A (98 + 2 * j_9))), (3, .int v3), (4, .int v4)] → c130 xz j_9 v3 v4 = some r → W p l e rm_X9_search s m args below meth c H locs 0 0 QQ (F0 m 130 ls [])) → W p l e rm_X9_search s m args below meth c H locs 0 0 QQ (F0 m 45 ls []) := by
    intro c130 n
    induction n with
    | zero =>
      intro xz j_9 v3 v4 v5 hj_9 H locs ls hP hS hl hf k130
      rw [p_X9_search_L45] at hf
      cases hf
    | succ n ih =>
      intro xz j_9 v3 v4 v5 hj_9 H locs ls hP hS hl hf k130
      rw [p_X9_search_L45] at hf
      refine lv_iload hx hb dX9_search_45 (lv_at hl 4 rfl) ?_
      refine lv_iload_n hx hb dX9_search_47 rfl (lv_at hl 2 rfl) ?_
      refine lv_icmp_gt (tgt := 130) hx hb dX9_search_48 (by decide) (fun c_48 => ?_) (fun c_48 => ?_)
      · rw [if_pos c_48] at hf
        exact k130 xz j_9 v3 v4 hj_9 _ _ _ hP hS (lv_sub hl [0, 1, 2, 3] rfl) hf
      rw [if_neg c_48] at hf
      refine lv_aload_n hx hb dX9_search_51 rfl (lv_at hl 0 rfl) ?_
      refine va_get (D := D) (ci := 9) (v := .ref (A 93)) (C := RX9) (T := TX9) (N := 14) hx hb htl inlX9 hown hK hP 0 qh_0 rfl 8 (by decide) (htl _ wq_2_12) (fun _ h9 => h9) rfl dX9_search_52 ?_
      refine lv_aload_n hx hb dX9_search_55 rfl (lv_at hl 0 rfl) ?_
      refine va_get (D := D) (ci := 9) (v := .ref (A 21)) (C := RX9) (T := TX9) (N := 14) hx hb htl inlX9 hown hK hP 0 qh_0 rfl 2 (by decide) (htl _ wq_2_0) (fun _ h9 => h9) rfl dX9_search_56 ?_
      refine lv_aload_n hx hb dX9_search_59 rfl (lv_at hl 0 rfl) ?_
      refine va_get (D := D) (ci := 9) (v := .ref (A 87)) (C := RX9) (T := TX9) (N := 14) hx hb htl inlX9 hown hK hP 0 qh_0 rfl 6 (by decide) (htl _ wq_2_7) (fun _ h9 => h9) rfl dX9_search_60 ?_
      refine lv_iload hx hb dX9_search_63 (lv_at hl 3 rfl) ?_
      refine lv_iload hx hb dX9_search_65 (lv_at hl 4 rfl) ?_
      obtain ⟨r_67, e_67, hf⟩ := ob_bind hf
      have hPX_67 : va_P D vwCl (cs5 ct (fun i => A (93 + i)) (xz 12) ++ (cs2 ct (fun i => A (21 + i)) (xz 5) ++ (cs8 ct (fun i => A (87 + i)) (xz 10)))) H := (va_P.app (qs_12 hP) (va_P.app (qs_5 hP) (qs_10 hP)))
      refine wr_call0 (va_runVN (As := [.ref (A 21), .ref (A 87), .int v4, .int v5]) (rest := []) ⟨hx, hb, hml, hown, htl⟩ (c_X5_drift l D ct G (fun i => A (93 + i)) (fun i => A (21 + i)) (fun i => A (87 + i)) fu (xz 12) (xz 5) (xz 10) v4 v5 e_67 ((hDx xz).sub (ws' := cs5 ct (fun i => A (93 + i)) (xz 12) ++ (cs2 ct (fun i => A (21 + i)) (xz 5) ++ (cs8 ct (fun i => A (87 + i)) (xz 10)))) [93, 94, 21, 22, 23, 24, 25, 26, 27, 28, 29, 30, 31, 32, 33, 87, 88, 89] (by decide) rfl)) (cw_X9_X5_drift htl hN ⟨Nat.le_of_ble_eq_true rfl, Nat.le_of_ble_eq_true rfl⟩) ⟨Bx_blind, va_recv hK hPX_67 (ci := 5) (q0 := 0) rfl rfl, Bx_pre hPX_67 hK hN (hX.stay hS hGE)⟩ rfl rfl hl.1 rfl (lv_room (Nat.le_of_ble_eq_true rfl)) dX9_search_67 ⟨Nat.zero_le _, Nat.zero_le _⟩) hS qa_12 (fun H_67 locs_67 hB_67 _ hk_67 hS => ?_)
      have hP : va_P D vwCl (csQ ct A (va_up xz 12 r_67)) H_67 := qj_12 hP (hDW xz) hk_67 hB_67
      refine lv_aload_n hx hb dX9_search_70 rfl (lv_at hl 0 rfl) ?_
      refine va_get (D := D) (ci := 9) (v := .ref (A 93)) (C := RX9) (T := TX9) (N := 14) hx hb htl inlX9 hown hK hP 0 qh_0 rfl 8 (by decide) (htl _ wq_2_12) (fun _ h9 => h9) rfl dX9_search_71 ?_
      refine lv_aload_n hx hb dX9_search_74 rfl (lv_at hl 1 rfl) ?_
      obtain ⟨r_75, e_75, hf⟩ := ob_bind hf
      have hPX_75 : va_P D vwCl (cs5 ct (fun i => A (93 + i)) ((va_up xz 12 r_67) 12) ++ (cs3 ct (fun i => A (98 + 2 * j_9 + i)) ((va_up xz 12 r_67) (14 + j_9)))) H_67 := (va_P.app (qs_12 hP) (qrow_s hj_9 hP))
      refine ro_call1 (va_runVN (As := [.ref (A (98 + 2 * j_9))]) (rest := []) ⟨hx, hb, hml, hown, htl⟩ (c_X5_wasSeen l D ct G (fun i => A (93 + i)) (fun i => A (98 + 2 * j_9 + i)) fu ((va_up xz 12 r_67) 12) ((va_up xz 12 r_67) (14 + j_9)) e_75) (cw_X9_X5_wasSeen htl hN ⟨Nat.le_of_ble_eq_true rfl, Nat.le_of_ble_eq_true rfl⟩) ⟨Bx_blind, va_recv hK hPX_75 (ci := 5) (q0 := 0) rfl rfl, Bx_pre hPX_75 hK hN (hX.stay hS hGE)⟩ rfl rfl hl.1 rfl (lv_room (Nat.le_of_ble_eq_true rfl)) dX9_search_75 ⟨Nat.zero_le _, Nat.zero_le _⟩) ?_
      refine lv_if_eq (tgt := 124) hx hb dX9_search_78 (by decide) (fun c_78 => ?_) (fun c_78 => ?_)
      · rw [if_pos c_78] at hf
        refine lv_iinc (v := (v5 + 1)) (lv' := [(5, .int (v5 + 1)), (0, .ref (A 0)), (2, .ref (A (98 + 2 * j_9))), (3, .int v3), (4, .int v4)]) hx hb dX9_search_124 hl (k := 4) rfl rfl (by decide) rfl (fun ls hl => ?_)
        refine lv_goto (tgt := 45) hx hb dX9_search_127 (by decide) ?_
        exact ih (va_up xz 12 r_67) j_9 v3 v4 (v5 + 1) hj_9 _ _ _ hP hS (lv_sub hl [1, 2, 3, 4, 0] rfl) hf k130
      rw [if_neg c_78] at hf
      refine lv_aload_n hx hb dX9_search_81 rfl (lv_at hl 0 rfl) ?_
      refine va_get (D := D) (ci := 9) (v := .ref (A 106)) (C := RX9) (T := TX9) (N := 14) hx hb htl inlX9 hown hK hP 0 qh_0 rfl 11 (by decide) (htl _ wq_2_19) (fun _ h9 => h9) rfl dX9_search_82 ?_
      refine lv_bipush (v := 100) hx hb dX9_search_85 (by decide) ?_
      refine lv_iload hx hb dX9_search_87 (lv_at hl 3 rfl) ?_
      refine lv_imul hx hb dX9_search_89 ?_
      refine lv_iload hx hb dX9_search_90 (lv_at hl 4 rfl) ?_
      refine lv_iadd hx hb dX9_search_92 ?_
      obtain ⟨r_93, e_93, hf⟩ := ob_bind hf
      have hPX_93 : va_P D vwCl (cs4 ct (fun i => A (106 + i)) ((va_up xz 12 r_67) 18)) H_67 := (qs_18 hP)
      refine wr_call0 (va_runVN (As := [.int ((100 * v4) + v5)]) (rest := []) ⟨hx, hb, hml, hown, htl⟩ (c_X4_add l D ct G (fun i => A (106 + i)) fu ((va_up xz 12 r_67) 18) ((100 * v4) + v5) e_93 ((hDx (va_up xz 12 r_67)).sub (ws' := cs4 ct (fun i => A (106 + i)) ((va_up xz 12 r_67) 18)) [106, 107] (by decide) rfl)) (cw_X9_X4_add htl hN ⟨Nat.le_of_ble_eq_true rfl, Nat.le_of_ble_eq_true rfl⟩) ⟨Bx_blind, va_recv hK hPX_93 (ci := 4) (q0 := 0) rfl rfl, Bx_pre hPX_93 hK hN (hX.stay hS hGE)⟩ rfl rfl hl.1 rfl (lv_room (Nat.le_of_ble_eq_true rfl)) dX9_search_93 ⟨Nat.zero_le _, Nat.zero_le _⟩) hS qa_18 (fun H_93 locs_93 hB_93 _ hk_93 hS => ?_)
      have hP : va_P D vwCl (csQ ct A (va_up (va_up xz 12 r_67) 18 r_93)) H_93 := qj_18 hP (hDW (va_up xz 12 r_67)) hk_93 hB_93
      refine lv_aload_n hx hb dX9_search_96 rfl (lv_at hl 0 rfl) ?_
      refine va_get (D := D) (ci := 9) (v := .ref (A 106)) (C := RX9) (T := TX9) (N := 14) hx hb htl inlX9 hown hK hP 0 qh_0 rfl 11 (by decide) (htl _ wq_2_19) (fun _ h9 => h9) rfl dX9_search_97 ?_
      refine lv_dup hx hb dX9_search_100 rfl ?_
      refine va_getN (D := D) (ci := 4) (v := .int (((va_up (va_up xz 12 r_67) 18 r_93) 18).1 1 0)) (C := RX4) (T := TX4) (N := 4) hx hb htl inlX4 hown hK hP 106 qh_18 rfl 1 (by decide) (va_Nw.use rfl (hN _ nm_28)) (fun _ h9 => h9) rfl dX9_search_101 ?_
      refine lv_iload hx hb dX9_search_104 (lv_at hl 3 rfl) ?_
      obtain ⟨r_106, e_106, hf⟩ := ob_bind hf
      have hPX_106 : va_P D vwCl ([]) H_93 := P_nil
      refine ro_call1 (va_runS (As := [.int v4]) (rest := [.int (((va_up (va_up xz 12 r_67) 18 r_93) 18).1 1 0), .ref (A 106)]) ⟨hx, hb, hml, hown, htl⟩ (c_X9_bit l D ct G fu v4 e_106) (cw_X9_X9_bit htl ⟨Nat.le_of_ble_eq_true rfl, Nat.le_of_ble_eq_true rfl⟩) ⟨Bx_blind, Bx_pre hPX_106 hK hN (hX.stay hS hGE)⟩ rfl rfl hl.1 rfl (lv_room (Nat.le_of_ble_eq_true rfl)) dX9_search_106 ⟨Nat.zero_le _, Nat.zero_le _⟩) ?_
      refine lv_ior hx hb dX9_search_109 ?_
      refine va_putN (D := D) (ci := 4) (v := .int ((((va_up (va_up xz 12 r_67) 18 r_93) 18).1 1 0) ||| r_106)) (ty := .int) (C := RX4) (T := TX4) (N := 4) hx hb htl inlX4 tyX4 tyX4_ok nmX4 hown hK hP (hDW (va_up (va_up xz 12 r_67) 18 r_93)) hS 106 qh_18 rfl 1 (by decide) (va_Nw.use rfl (hN _ nm_28)) (fun _ h9 => h9) rfl (tyX4_ok 1 (by decide)) rfl rfl (Nat.le_of_ble_eq_true rfl) dX9_search_110 (fun H_110 locs_110 hP _ hS => ?_)
      have hP : va_P D vwCl (csQ ct A (va_up (va_up (va_up xz 12 r_67) 18 r_93) 18 (oI ((va_up (va_up xz 12 r_67) 18 r_93) 18) 1 ((((va_up (va_up xz 12 r_67) 18 r_93) 18).1 1 0) ||| r_106)))) H_110 := stQ_18_1 hP
      refine lv_aload_n hx hb dX9_search_113 rfl (lv_at hl 0 rfl) ?_
      refine va_get (D := D) (ci := 9) (v := .ref (A 106)) (C := RX9) (T := TX9) (N := 14) hx hb htl inlX9 hown hK hP 0 qh_0 rfl 11 (by decide) (htl _ wq_2_19) (fun _ h9 => h9) rfl dX9_search_114 ?_
      refine lv_aload_n hx hb dX9_search_117 rfl (lv_at hl 0 rfl) ?_
      refine va_get (D := D) (ci := 9) (v := .ref (A 93)) (C := RX9) (T := TX9) (N := 14) hx hb htl inlX9 hown hK hP 0 qh_0 rfl 8 (by decide) (htl _ wq_2_12) (fun _ h9 => h9) rfl dX9_search_118 ?_
      obtain ⟨r_121, e_121, hf⟩ := ob_bind hf
      have hPX_121 : va_P D vwCl (cs4 ct (fun i => A (106 + i)) ((va_up (va_up (va_up xz 12 r_67) 18 r_93) 18 (oI ((va_up (va_up xz 12 r_67) 18 r_93) 18) 1 ((((va_up (va_up xz 12 r_67) 18 r_93) 18).1 1 0) ||| r_106))) 18) ++ (cs5 ct (fun i => A (93 + i)) ((va_up (va_up (va_up xz 12 r_67) 18 r_93) 18 (oI ((va_up (va_up xz 12 r_67) 18 r_93) 18) 1 ((((va_up (va_up xz 12 r_67) 18 r_93) 18).1 1 0) ||| r_106))) 12))) H_110 := (va_P.app (qs_18 hP) (qs_12 hP))
      refine wr_call0 (va_runVN (As := [.ref (A 93)]) (rest := []) ⟨hx, hb, hml, hown, htl⟩ (c_X4_note l D ct G (fun i => A (106 + i)) (fun i => A (93 + i)) fu ((va_up (va_up (va_up xz 12 r_67) 18 r_93) 18 (oI ((va_up (va_up xz 12 r_67) 18 r_93) 18) 1 ((((va_up (va_up xz 12 r_67) 18 r_93) 18).1 1 0) ||| r_106))) 18) ((va_up (va_up (va_up xz 12 r_67) 18 r_93) 18 (oI ((va_up (va_up xz 12 r_67) 18 r_93) 18) 1 ((((va_up (va_up xz 12 r_67) 18 r_93) 18).1 1 0) ||| r_106))) 12) e_121 ((hDx (va_up (va_up (va_up xz 12 r_67) 18 r_93) 18 (oI ((va_up (va_up xz 12 r_67) 18 r_93) 18) 1 ((((va_up (va_up xz 12 r_67) 18 r_93) 18).1 1 0) ||| r_106)))).sub (ws' := cs4 ct (fun i => A (106 + i)) ((va_up (va_up (va_up xz 12 r_67) 18 r_93) 18 (oI ((va_up (va_up xz 12 r_67) 18 r_93) 18) 1 ((((va_up (va_up xz 12 r_67) 18 r_93) 18).1 1 0) ||| r_106))) 18) ++ (cs5 ct (fun i => A (93 + i)) ((va_up (va_up (va_up xz 12 r_67) 18 r_93) 18 (oI ((va_up (va_up xz 12 r_67) 18 r_93) 18) 1 ((((va_up (va_up xz 12 r_67) 18 r_93) 18).1 1 0) ||| r_106))) 12))) [106, 107, 93, 94] (by decide) rfl)) (cw_X9_X4_note htl hN ⟨Nat.le_of_ble_eq_true rfl, Nat.le_of_ble_eq_true rfl⟩) ⟨Bx_blind, va_recv hK hPX_121 (ci := 4) (q0 := 0) rfl rfl, Bx_pre hPX_121 hK hN (hX.stay hS hGE)⟩ rfl rfl hl.1 rfl (lv_room (Nat.le_of_ble_eq_true rfl)) dX9_search_121 ⟨Nat.zero_le _, Nat.zero_le _⟩) hS qa_18 (fun H_121 locs_121 hB_121 _ hk_121 hS => ?_)
      have hP : va_P D vwCl (csQ ct A (va_up (va_up (va_up (va_up xz 12 r_67) 18 r_93) 18 (oI ((va_up (va_up xz 12 r_67) 18 r_93) 18) 1 ((((va_up (va_up xz 12 r_67) 18 r_93) 18).1 1 0) ||| r_106))) 18 r_121)) H_121 := qj_18 hP (hDW (va_up (va_up (va_up xz 12 r_67) 18 r_93) 18 (oI ((va_up (va_up xz 12 r_67) 18 r_93) 18) 1 ((((va_up (va_up xz 12 r_67) 18 r_93) 18).1 1 0) ||| r_106)))) hk_121 hB_121
      refine lv_iinc (v := (v5 + 1)) (lv' := [(5, .int (v5 + 1)), (0, .ref (A 0)), (2, .ref (A (98 + 2 * j_9))), (3, .int v3), (4, .int v4)]) hx hb dX9_search_124 hl (k := 4) rfl rfl (by decide) rfl (fun ls hl => ?_)
      refine lv_goto (tgt := 45) hx hb dX9_search_127 (by decide) ?_
      exact ih (va_up (va_up (va_up (va_up xz 12 r_67) 18 r_93) 18 (oI ((va_up (va_up xz 12 r_67) 18 r_93) 18) 1 ((((va_up (va_up xz 12 r_67) 18 r_93) 18).1 1 0) ||| r_106))) 18 r_121) j_9 v3 v4 (v5 + 1) hj_9 _ _ _ hP hS (lv_sub hl [1, 2, 3, 4, 0] rfl) hf k130
  have hL30 : ∀ (n : Nat) (xz : Nat → Ob) (j_9 : Nat) (v3 : Int32) (v4 : Int32), ∀ (hj_9 : j_9 < 4) (H : Heap) (locs : List Loc) (ls : Array Slot), va_P D vwCl (csQ ct A xz) H → va_S (wA (csQ ct A x)) s.heap H locs → lv_has ls 6 [(0, .ref (A 0)), (2, .ref (A (98 + 2 * j_9))), (3, .int v3), (4, .int v4)] → p_X9_search_L30 fu  n xz j_9 v3 v4 = some r → W p l e rm_X9_search s m args below meth c H locs 0 0 QQ (F0 m 30 ls []) := by
    intro  n
    induction n with
    | zero =>
      intro xz j_9 v3 v4 hj_9 H locs ls hP hS hl hf 
      rw [p_X9_search_L30] at hf
      cases hf
    | succ n ih =>
      intro xz j_9 v3 v4 hj_9 H locs ls hP hS hl hf 
      rw [p_X9_search_L30] at hf
      refine lv_iload hx hb dX9_search_30 (lv_at hl 3 rfl) ?_
      refine lv_aload_n hx hb dX9_search_32 rfl (lv_at hl 0 rfl) ?_
      refine va_get (D := D) (ci := 9) (v := .ref (A 21)) (C := RX9) (T := TX9) (N := 14) hx hb htl inlX9 hown hK hP 0 qh_0 rfl 2 (by decide) (htl _ wq_2_0) (fun _ h9 => h9) rfl dX9_search_33 ?_
      refine va_getN (D := D) (ci := 2) (v := .int ((xz 5).1 4 0)) (C := RX2) (T := TX2) (N := 20) hx hb htl inlX2 hown hK hP 21 qh_5 rfl 4 (by decide) (va_Nw.use rfl (hN _ nm_23)) (fun _ h9 => h9) rfl dX9_search_36 ?_
      refine lv_icmp_ge (tgt := 136) hx hb dX9_search_39 (by decide) (fun c_39 => ?_) (fun c_39 => ?_)
      · rw [if_pos c_39] at hf
        refine lv_aload_n hx hb dX9_search_136 rfl (lv_at hl 0 rfl) ?_
        refine va_get (D := D) (ci := 9) (v := .ref (A 106)) (C := RX9) (T := TX9) (N := 14) hx hb htl inlX9 hown hK hP 0 qh_0 rfl 11 (by decide) (htl _ wq_2_19) (fun _ h9 => h9) rfl dX9_search_137 ?_
        rw [← hQQ]
        cases hf
        exact rw_a hx hb hr hlocks hP hS dX9_search_140
      rw [if_neg c_39] at hf
      refine lv_iconst (v := 0) hx hb dX9_search_42 (by decide) ?_
      refine lv_istore (lv' := [(5, .int 0), (0, .ref (A 0)), (2, .ref (A (98 + 2 * j_9))), (3, .int v3), (4, .int v4)]) hx hb dX9_search_43 hl (by decide) rfl (fun ls hl => ?_)
      refine hL45 _ fu xz j_9 v3 v4 0 hj_9 _ _ _ hP hS (lv_sub hl [1, 2, 3, 4, 0] rfl) hf (fun xz j_9 v3 v4 hj_9 H locs ls hP hS hl hf => ?_)
      refine lv_iinc (v := (v4 + 1)) (lv' := [(4, .int (v4 + 1)), (0, .ref (A 0)), (2, .ref (A (98 + 2 * j_9))), (3, .int v3)]) hx hb dX9_search_130 hl (k := 3) rfl rfl (by decide) rfl (fun ls hl => ?_)
      refine lv_goto (tgt := 30) hx hb dX9_search_133 (by decide) ?_
      exact ih xz j_9 v3 (v4 + 1) hj_9 _ _ _ hP hS (lv_sub hl [1, 2, 3, 0] rfl) hf 
  rw [p_X9_search] at hf
  refine lv_aload_n hx hb dX9_search_0 rfl (lv_at hl 0 rfl) ?_
  refine va_get (D := D) (ci := 9) (v := .ref (A 106)) (C := RX9) (T := TX9) (N := 14) hx hb htl inlX9 hown hK hP 0 qh_0 rfl 11 (by decide) (htl _ wq_2_19) (fun _ h9 => h9) rfl dX9_search_1 ?_
  obtain ⟨r_4, e_4, hf⟩ := ob_bind hf
  have hPX_4 : va_P D vwCl (cs4 ct (fun i => A (106 + i)) (x 18)) s.heap := (qs_18 hP)
  refine wr_call0 (va_runVN (As := []) (rest := []) ⟨hx, hb, hml, hown, htl⟩ (c_X4_clear l D ct G (fun i => A (106 + i)) fu (x 18) e_4 ((hDx x).sub (ws' := cs4 ct (fun i => A (106 + i)) (x 18)) [106, 107] (by decide) rfl)) (cw_X9_X4_clear htl hN ⟨Nat.le_of_ble_eq_true rfl, Nat.le_of_ble_eq_true rfl⟩) ⟨Bx_blind, va_recv hK hPX_4 (ci := 4) (q0 := 0) rfl rfl, Bx_pre hPX_4 hK hN (hX.stay hS hGE)⟩ rfl rfl hl.1 rfl (lv_room (Nat.le_of_ble_eq_true rfl)) dX9_search_4 ⟨Nat.zero_le _, Nat.zero_le _⟩) hS qa_18 (fun H_4 locs_4 hB_4 _ hk_4 hS => ?_)
  have hP : va_P D vwCl (csQ ct A (va_up x 18 r_4)) H_4 := qj_18 hP (hDW x) hk_4 hB_4
  refine lv_aload_n hx hb dX9_search_7 rfl (lv_at hl 0 rfl) ?_
  refine lv_iload_n hx hb dX9_search_8 rfl (lv_at hl 1 rfl) ?_
  obtain ⟨r_9, e_9, hf⟩ := ob_bind hf
  rcases ob_case hf with ⟨er_9, hf⟩ | ⟨j_9, er_9, hf⟩
  · subst er_9
    have hPX_9 : va_P D vwCl (csQ ct A (va_up x 18 r_4)) H_4 := hP
    refine ro_call1 (va_runV (As := [.int v1]) (rest := []) ⟨hx, hb, hml, hown, htl⟩ (c_X9_rowOf l D ct G A fu (va_up x 18 r_4) v1 e_9) (cw_X9_X9_rowOf htl ⟨Nat.le_of_ble_eq_true rfl, Nat.le_of_ble_eq_true rfl⟩) ⟨Bx_blind, va_recv hK hPX_9 (ci := 9) (q0 := 0) rfl rfl, Bx_pre hPX_9 hK hN (hX.stay hS hGE)⟩ rfl rfl hl.1 rfl (lv_room (Nat.le_of_ble_eq_true rfl)) dX9_search_9 ⟨Nat.zero_le _, Nat.zero_le _⟩) ?_
    refine W.eq (g2 := F0 m 12 ls [.null]) rfl ?_
    refine lv_astore_nN (lv' := [(2, .null), (0, .ref (A 0)), (1, .int v1)]) hx hb dX9_search_12 rfl hl (by decide) rfl (fun ls hl => ?_)
    refine lv_aload_nN hx hb dX9_search_13 rfl (lv_at hl 0 rfl) ?_
    refine lv_ifnonnullN hx hb dX9_search_14 ?_
    refine lv_aload_n hx hb dX9_search_17 rfl (lv_at hl 1 rfl) ?_
    refine va_get (D := D) (ci := 9) (v := .ref (A 106)) (C := RX9) (T := TX9) (N := 14) hx hb htl inlX9 hown hK hP 0 qh_0 rfl 11 (by decide) (htl _ wq_2_19) (fun _ h9 => h9) rfl dX9_search_18 ?_
    rw [← hQQ]
    cases hf
    exact rw_a hx hb hr hlocks hP hS dX9_search_21
  subst er_9
  obtain ⟨hj_9, hf⟩ := ob_lt hf
  have hPX_9 : va_P D vwCl (csQ ct A (va_up x 18 r_4)) H_4 := hP
  refine ro_call1 (va_runV (As := [.int v1]) (rest := []) ⟨hx, hb, hml, hown, htl⟩ (c_X9_rowOf l D ct G A fu (va_up x 18 r_4) v1 e_9) (cw_X9_X9_rowOf htl ⟨Nat.le_of_ble_eq_true rfl, Nat.le_of_ble_eq_true rfl⟩) ⟨Bx_blind, va_recv hK hPX_9 (ci := 9) (q0 := 0) rfl rfl, Bx_pre hPX_9 hK hN (hX.stay hS hGE)⟩ rfl rfl hl.1 rfl (lv_room (Nat.le_of_ble_eq_true rfl)) dX9_search_9 ⟨Nat.zero_le _, Nat.zero_le _⟩) ?_
  refine W.eq (g2 := F0 m 12 ls [.ref (A (98 + 2 * j_9))]) rfl ?_
  refine lv_astore_n (lv' := [(2, .ref (A (98 + 2 * j_9))), (0, .ref (A 0)), (1, .int v1)]) hx hb dX9_search_12 rfl hl (by decide) rfl (fun ls hl => ?_)
  refine lv_aload_n hx hb dX9_search_13 rfl (lv_at hl 0 rfl) ?_
  refine lv_ifnonnull (tgt := 22) hx hb dX9_search_14 (by decide) ?_
  refine lv_aload_n hx hb dX9_search_22 rfl (lv_at hl 0 rfl) ?_
  obtain ⟨r_23, e_23, hf⟩ := ob_bind hf
  have hPX_23 : va_P D vwCl (cs3 ct (fun i => A (98 + 2 * j_9 + i)) ((va_up x 18 r_4) (14 + j_9))) H_4 := (qrow_s hj_9 hP)
  refine ro_call1 (va_runVN (As := []) (rest := []) ⟨hx, hb, hml, hown, htl⟩ (c_X3_earliestStep l D ct G (fun i => A (98 + 2 * j_9 + i)) fu ((va_up x 18 r_4) (14 + j_9)) e_23) (cw_X9_X3_earliestStep htl hN ⟨Nat.le_of_ble_eq_true rfl, Nat.le_of_ble_eq_true rfl⟩) ⟨Bx_blind, va_recv hK hPX_23 (ci := 3) (q0 := 0) rfl rfl, Bx_pre hPX_23 hK hN (hX.stay hS hGE)⟩ rfl rfl hl.1 rfl (lv_room (Nat.le_of_ble_eq_true rfl)) dX9_search_23 ⟨Nat.zero_le _, Nat.zero_le _⟩) ?_
  refine lv_istore_n (lv' := [(3, .int r_23), (2, .ref (A (98 + 2 * j_9))), (0, .ref (A 0)), (1, .int v1)]) hx hb dX9_search_26 rfl hl (by decide) rfl (fun ls hl => ?_)
  refine lv_iconst (v := 0) hx hb dX9_search_27 (by decide) ?_
  refine lv_istore (lv' := [(4, .int 0), (3, .int r_23), (2, .ref (A (98 + 2 * j_9))), (0, .ref (A 0)), (1, .int v1)]) hx hb dX9_search_28 hl (by decide) rfl (fun ls hl => ?_)
  exact hL30 fu (va_up x 18 r_4) j_9 r_23 0 hj_9 _ _ _ hP hS (lv_sub hl [3, 2, 1, 0] rfl) hf 
theorem c_X9_search (l : Launch) (D : va_G) (ct : Nat → ClassId) (G : GT) (A : Nat → Nat) (fu : Nat) (x : Nat → Ob) (v1 : Int32) {r : (Nat → Ob)} (hf : p_X9_search fu x v1 = some r)  (hDx : ∀ x : Nat → Ob, va_D (GE G) (csQ ct A x)) : Met l yX9_search (.code yX9_search cX9_search 6 (some (.object "QuotedRiver$Sources")) :: wsL_law) rm_X9_search (va_Pc [.ref (A 0), .int v1] (Bx D ct G (csQ ct A x))) (Qwr (some (.ref (A 106))) (fun H => va_P D vwCl (csQ ct A r) H) (wA (csQ ct A x))) 0 0 (wA (csQ ct A x)) := by
  refine Met.ofW (cc := cX9_search) (maxL := 6) (ret := (some (.object "QuotedRiver$Sources"))) (by decide) rfl ?_
  intro p e s m args below meth c s₁ B hml hv
  obtain ⟨rfl, hP, hK, hN, hX⟩ := hv
  have hts := atoms_spec (ws := .code yX9_search cX9_search 6 (some (.object "QuotedRiver$Sources")) :: wsL_law) B.pre
  rw [lg_entry_eq]
  exact b_X9_search A fu x v1 B.exec B.bytes B.returns hml (findClass_of_methodNamed B.named) (fun w h => hts w (List.mem_cons_of_mem _ h)) B.notSynchronized hK hN hX hP hf hDx  (lv_entry [.ref (A 0), .int v1] (n := 6) (Nat.le_of_ble_eq_true rfl))
theorem hd_X9_refuseSeen : yX9_refuseSeen.cls ≠ "java/lang/invoke/MethodHandle" ∧ yX9_refuseSeen.cls ≠ "java/lang/invoke/VarHandle" ∧ (parseMethodDescriptor yX9_refuseSeen.desc).map (fun d => d.parameters.length) = some 1 := by decide +kernel
theorem cw_X9_X9_refuseSeen {R : Room} {s : State} {args : Array Value} (ht : ∀ w ∈ wsL_law, w.before args s = true) (hR : rm_X9_refuseSeen.frames + 1 ≤ R.frames ∧ 8 + (3 + 11) + rm_X9_refuseSeen.locals ≤ R.locals) : CallW R s args RX9 RX9 290 yX9_refuseSeen cX9_refuseSeen 3 (some .int) ((.code yX9_refuseSeen cX9_refuseSeen 3 (some .int)) :: wsL_law) rm_X9_refuseSeen 0 0 1 := cwV 1 ht (GV wq_46_20 wq_46_21 wq_46_22 wq_1_2 wq_46_23) rfl rfl rfl ⟨rfl, hd_X9_refuseSeen⟩ hR
theorem hd_X9_search : yX9_search.cls ≠ "java/lang/invoke/MethodHandle" ∧ yX9_search.cls ≠ "java/lang/invoke/VarHandle" ∧ (parseMethodDescriptor yX9_search.desc).map (fun d => d.parameters.length) = some 1 := by decide +kernel
theorem cw_X9_X9_search {R : Room} {s : State} {args : Array Value} (ht : ∀ w ∈ wsL_law, w.before args s = true) (hR : rm_X9_search.frames + 1 ≤ R.frames ∧ 8 + (6 + 11) + rm_X9_search.locals ≤ R.locals) : CallW R s args RX9 RX9 293 yX9_search cX9_search 6 (some (.object "QuotedRiver$Sources")) ((.code yX9_search cX9_search 6 (some (.object "QuotedRiver$Sources"))) :: wsL_law) rm_X9_search 0 0 1 := cwV 1 ht (GV wq_47_12 wq_47_13 wq_47_14 wq_1_2 wq_47_15) rfl rfl rfl ⟨rfl, hd_X9_search⟩ hR
def p_X9_fits (fu : Nat) (x : Nat → Ob) (v1 : Int32) : Option (Int32 × (Nat → Ob)) :=
  (p_X9_refuseSeen fu x v1).bind fun r_2 => if r_2 = 0 then (p_X9_search fu x v1).bind fun r_16 => some (((r_16 18).1 0 0), r_16) else some (r_2, x)
abbrev rm_X9_fits : Room := { frames := 5, cells := 0, slots := 0, locals := 122 }
set_option maxHeartbeats 4000000 in
set_option maxRecDepth 100000 in
theorem b_X9_fits {p : Program} {l : Launch} {e : Env} {s : State} {m : MethodId} {args : Array Value} {below : List Frame} {meth : Method} {c : Code} {ls : Array Slot} {D : va_G} {ct : Nat → ClassId} {G : GT} (A : Nat → Nat) (fu : Nat) (x : Nat → Ob) (v1 : Int32) {r : Int32 × (Nat → Ob)} (hx : p.tables.exec = Jvm.exec) (hb : c.code = cX9_fits) (hr : meth.sig.returnType = (some .int)) (hml : c.maxLocals = 3) (hown : s.vm.findClass RX9 = some m.cls) (htl : ∀ w ∈ wsL_law, w.before args s = true) (hlocks : meth.locks = false) (hK : va_K D vwCl (tyl ct) s) (hN : ∀ w ∈ NW, va_Nw w s) (hX : SX G s s.heap) (hP0 : va_P D vwCl (csQ ct A x) s.heap) (hf : p_X9_fits fu x v1 = some r) (hDx : ∀ x : Nat → Ob, va_D (GE G) (csQ ct A x))  (hl : lv_has ls 3 [(0, .ref (A 0)), (1, .int v1)]) : W p l e rm_X9_fits s m args below meth c s.heap [] 0 0 (MQ below (Qwr (some (.int r.1)) (fun H => va_P D vwCl (csQ ct A r.2) H) (wA (csQ ct A x))) args s 0 0 (wA (csQ ct A x))) (F0 m 0 ls []) := by
  generalize hQQ : MQ below (Qwr (some (.int r.1)) (fun H => va_P D vwCl (csQ ct A r.2) H) (wA (csQ ct A x))) args s 0 0 (wA (csQ ct A x)) = QQ
  have hDW : ∀ x1 : Nat → Ob, va_D (wA (csQ ct A x)) (csQ ct A x1) := fun x1 => D_any (D_self (hDx x1)) (wA_Q x1 x)
  have hGE : ∀ q, wA (csQ ct A x) q → GE G q := wA_GE (hDx x)
  have hP := hP0
  have hS : va_S (wA (csQ ct A x)) s.heap s.heap [] := va_S.rf
  rw [p_X9_fits] at hf
  refine lv_aload_n hx hb dX9_fits_0 rfl (lv_at hl 0 rfl) ?_
  refine lv_iload_n hx hb dX9_fits_1 rfl (lv_at hl 1 rfl) ?_
  obtain ⟨r_2, e_2, hf⟩ := ob_bind hf
  have hPX_2 : va_P D vwCl (csQ ct A x) s.heap := hP
  refine ro_call1 (va_runV (As := [.int v1]) (rest := []) ⟨hx, hb, hml, hown, htl⟩ (c_X9_refuseSeen l D ct G A fu x v1 e_2) (cw_X9_X9_refuseSeen htl ⟨Nat.le_of_ble_eq_true rfl, Nat.le_of_ble_eq_true rfl⟩) ⟨Bx_blind, va_recv hK hPX_2 (ci := 9) (q0 := 0) rfl rfl, Bx_pre hPX_2 hK hN (hX.stay hS hGE)⟩ rfl rfl hl.1 rfl (lv_room (Nat.le_of_ble_eq_true rfl)) dX9_fits_2 ⟨Nat.zero_le _, Nat.zero_le _⟩) ?_
  refine lv_istore_n (lv' := [(2, .int r_2), (0, .ref (A 0)), (1, .int v1)]) hx hb dX9_fits_5 rfl hl (by decide) rfl (fun ls hl => ?_)
  refine lv_iload_n hx hb dX9_fits_6 rfl (lv_at hl 0 rfl) ?_
  refine lv_if_eq (tgt := 14) hx hb dX9_fits_7 (by decide) (fun c_7 => ?_) (fun c_7 => ?_)
  rotate_left 1
  · rw [if_neg c_7] at hf
    refine lv_iload_n hx hb dX9_fits_10 rfl (lv_at hl 0 rfl) ?_
    refine lv_goto (tgt := 22) hx hb dX9_fits_11 (by decide) ?_
    rw [← hQQ]
    cases hf
    exact rw_i hx hb hr hlocks hP hS dX9_fits_22
  rw [if_pos c_7] at hf
  refine lv_aload_n hx hb dX9_fits_14 rfl (lv_at hl 1 rfl) ?_
  refine lv_iload_n hx hb dX9_fits_15 rfl (lv_at hl 2 rfl) ?_
  obtain ⟨r_16, e_16, hf⟩ := ob_bind hf
  have hPX_16 : va_P D vwCl (csQ ct A x) s.heap := hP
  refine wr_call1 (va_runV (As := [.int v1]) (rest := []) ⟨hx, hb, hml, hown, htl⟩ (c_X9_search l D ct G A fu x v1 e_16 hDx) (cw_X9_X9_search htl ⟨Nat.le_of_ble_eq_true rfl, Nat.le_of_ble_eq_true rfl⟩) ⟨Bx_blind, va_recv hK hPX_16 (ci := 9) (q0 := 0) rfl rfl, Bx_pre hPX_16 hK hN (hX.stay hS hGE)⟩ rfl rfl hl.1 rfl (lv_room (Nat.le_of_ble_eq_true rfl)) dX9_fits_16 ⟨Nat.zero_le _, Nat.zero_le _⟩) hS (wA_Q _ _) (fun H_16 locs_16 hB_16 _ hk_16 hS => ?_)
  have hP : va_P D vwCl (csQ ct A r_16) H_16 := hB_16
  refine va_getN (D := D) (ci := 4) (v := .int ((r_16 18).1 0 0)) (C := RX4) (T := TX4) (N := 4) hx hb htl inlX4 hown hK hP 106 qh_18 rfl 0 (by decide) (va_Nw.use rfl (hN _ nm_27)) (fun _ h9 => h9) rfl dX9_fits_19 ?_
  rw [← hQQ]
  cases hf
  exact rw_i hx hb hr hlocks hP hS dX9_fits_22
theorem c_X9_fits (l : Launch) (D : va_G) (ct : Nat → ClassId) (G : GT) (A : Nat → Nat) (fu : Nat) (x : Nat → Ob) (v1 : Int32) {r : Int32 × (Nat → Ob)} (hf : p_X9_fits fu x v1 = some r)  (hDx : ∀ x : Nat → Ob, va_D (GE G) (csQ ct A x)) : Met l yX9_fits (.code yX9_fits cX9_fits 3 (some .int) :: wsL_law) rm_X9_fits (va_Pc [.ref (A 0), .int v1] (Bx D ct G (csQ ct A x))) (Qwr (some (.int r.1)) (fun H => va_P D vwCl (csQ ct A r.2) H) (wA (csQ ct A x))) 0 0 (wA (csQ ct A x)) := by
  refine Met.ofW (cc := cX9_fits) (maxL := 3) (ret := (some .int)) (by decide) rfl ?_
  intro p e s m args below meth c s₁ B hml hv
  obtain ⟨rfl, hP, hK, hN, hX⟩ := hv
  have hts := atoms_spec (ws := .code yX9_fits cX9_fits 3 (some .int) :: wsL_law) B.pre
  rw [lg_entry_eq]
  exact b_X9_fits A fu x v1 B.exec B.bytes B.returns hml (findClass_of_methodNamed B.named) (fun w h => hts w (List.mem_cons_of_mem _ h)) B.notSynchronized hK hN hX hP hf hDx  (lv_entry [.ref (A 0), .int v1] (n := 3) (Nat.le_of_ble_eq_true rfl))
def p_X9_sources (fu : Nat) (x : Nat → Ob) (v1 : Int32) : Option (Int32 × (Nat → Ob)) :=
  (p_X9_refuseSeen fu x v1).bind fun r_2 => if r_2 = 0 then (p_X9_search fu x v1).bind fun r_16 => some (((r_16 18).1 1 0), r_16) else some (r_2, x)
abbrev rm_X9_sources : Room := { frames := 5, cells := 0, slots := 0, locals := 122 }
set_option maxHeartbeats 4000000 in
set_option maxRecDepth 100000 in
theorem b_X9_sources {p : Program} {l : Launch} {e : Env} {s : State} {m : MethodId} {args : Array Value} {below : List Frame} {meth : Method} {c : Code} {ls : Array Slot} {D : va_G} {ct : Nat → ClassId} {G : GT} (A : Nat → Nat) (fu : Nat) (x : Nat → Ob) (v1 : Int32) {r : Int32 × (Nat → Ob)} (hx : p.tables.exec = Jvm.exec) (hb : c.code = cX9_sources) (hr : meth.sig.returnType = (some .int)) (hml : c.maxLocals = 3) (hown : s.vm.findClass RX9 = some m.cls) (htl : ∀ w ∈ wsL_law, w.before args s = true) (hlocks : meth.locks = false) (hK : va_K D vwCl (tyl ct) s) (hN : ∀ w ∈ NW, va_Nw w s) (hX : SX G s s.heap) (hP0 : va_P D vwCl (csQ ct A x) s.heap) (hf : p_X9_sources fu x v1 = some r) (hDx : ∀ x : Nat → Ob, va_D (GE G) (csQ ct A x))  (hl : lv_has ls 3 [(0, .ref (A 0)), (1, .int v1)]) : W p l e rm_X9_sources s m args below meth c s.heap [] 0 0 (MQ below (Qwr (some (.int r.1)) (fun H => va_P D vwCl (csQ ct A r.2) H) (wA (csQ ct A x))) args s 0 0 (wA (csQ ct A x))) (F0 m 0 ls []) := by
  generalize hQQ : MQ below (Qwr (some (.int r.1)) (fun H => va_P D vwCl (csQ ct A r.2) H) (wA (csQ ct A x))) args s 0 0 (wA (csQ ct A x)) = QQ
  have hDW : ∀ x1 : Nat → Ob, va_D (wA (csQ ct A x)) (csQ ct A x1) := fun x1 => D_any (D_self (hDx x1)) (wA_Q x1 x)
  have hGE : ∀ q, wA (csQ ct A x) q → GE G q := wA_GE (hDx x)
  have hP := hP0
  have hS : va_S (wA (csQ ct A x)) s.heap s.heap [] := va_S.rf
  rw [p_X9_sources] at hf
  refine lv_aload_n hx hb dX9_sources_0 rfl (lv_at hl 0 rfl) ?_
  refine lv_iload_n hx hb dX9_sources_1 rfl (lv_at hl 1 rfl) ?_
  obtain ⟨r_2, e_2, hf⟩ := ob_bind hf
  have hPX_2 : va_P D vwCl (csQ ct A x) s.heap := hP
  refine ro_call1 (va_runV (As := [.int v1]) (rest := []) ⟨hx, hb, hml, hown, htl⟩ (c_X9_refuseSeen l D ct G A fu x v1 e_2) (cw_X9_X9_refuseSeen htl ⟨Nat.le_of_ble_eq_true rfl, Nat.le_of_ble_eq_true rfl⟩) ⟨Bx_blind, va_recv hK hPX_2 (ci := 9) (q0 := 0) rfl rfl, Bx_pre hPX_2 hK hN (hX.stay hS hGE)⟩ rfl rfl hl.1 rfl (lv_room (Nat.le_of_ble_eq_true rfl)) dX9_sources_2 ⟨Nat.zero_le _, Nat.zero_le _⟩) ?_
  refine lv_istore_n (lv' := [(2, .int r_2), (0, .ref (A 0)), (1, .int v1)]) hx hb dX9_sources_5 rfl hl (by decide) rfl (fun ls hl => ?_)
  refine lv_iload_n hx hb dX9_sources_6 rfl (lv_at hl 0 rfl) ?_
  refine lv_if_eq (tgt := 14) hx hb dX9_sources_7 (by decide) (fun c_7 => ?_) (fun c_7 => ?_)
  rotate_left 1
  · rw [if_neg c_7] at hf
    refine lv_iload_n hx hb dX9_sources_10 rfl (lv_at hl 0 rfl) ?_
    refine lv_goto (tgt := 22) hx hb dX9_sources_11 (by decide) ?_
    rw [← hQQ]
    cases hf
    exact rw_i hx hb hr hlocks hP hS dX9_sources_22
  rw [if_pos c_7] at hf
  refine lv_aload_n hx hb dX9_sources_14 rfl (lv_at hl 1 rfl) ?_
  refine lv_iload_n hx hb dX9_sources_15 rfl (lv_at hl 2 rfl) ?_
  obtain ⟨r_16, e_16, hf⟩ := ob_bind hf
  have hPX_16 : va_P D vwCl (csQ ct A x) s.heap := hP
  refine wr_call1 (va_runV (As := [.int v1]) (rest := []) ⟨hx, hb, hml, hown, htl⟩ (c_X9_search l D ct G A fu x v1 e_16 hDx) (cw_X9_X9_search htl ⟨Nat.le_of_ble_eq_true rfl, Nat.le_of_ble_eq_true rfl⟩) ⟨Bx_blind, va_recv hK hPX_16 (ci := 9) (q0 := 0) rfl rfl, Bx_pre hPX_16 hK hN (hX.stay hS hGE)⟩ rfl rfl hl.1 rfl (lv_room (Nat.le_of_ble_eq_true rfl)) dX9_sources_16 ⟨Nat.zero_le _, Nat.zero_le _⟩) hS (wA_Q _ _) (fun H_16 locs_16 hB_16 _ hk_16 hS => ?_)
  have hP : va_P D vwCl (csQ ct A r_16) H_16 := hB_16
  refine va_getN (D := D) (ci := 4) (v := .int ((r_16 18).1 1 0)) (C := RX4) (T := TX4) (N := 4) hx hb htl inlX4 hown hK hP 106 qh_18 rfl 1 (by decide) (va_Nw.use rfl (hN _ nm_28)) (fun _ h9 => h9) rfl dX9_sources_19 ?_
  rw [← hQQ]
  cases hf
  exact rw_i hx hb hr hlocks hP hS dX9_sources_22
theorem c_X9_sources (l : Launch) (D : va_G) (ct : Nat → ClassId) (G : GT) (A : Nat → Nat) (fu : Nat) (x : Nat → Ob) (v1 : Int32) {r : Int32 × (Nat → Ob)} (hf : p_X9_sources fu x v1 = some r)  (hDx : ∀ x : Nat → Ob, va_D (GE G) (csQ ct A x)) : Met l yX9_sources (.code yX9_sources cX9_sources 3 (some .int) :: wsL_law) rm_X9_sources (va_Pc [.ref (A 0), .int v1] (Bx D ct G (csQ ct A x))) (Qwr (some (.int r.1)) (fun H => va_P D vwCl (csQ ct A r.2) H) (wA (csQ ct A x))) 0 0 (wA (csQ ct A x)) := by
  refine Met.ofW (cc := cX9_sources) (maxL := 3) (ret := (some .int)) (by decide) rfl ?_
  intro p e s m args below meth c s₁ B hml hv
  obtain ⟨rfl, hP, hK, hN, hX⟩ := hv
  have hts := atoms_spec (ws := .code yX9_sources cX9_sources 3 (some .int) :: wsL_law) B.pre
  rw [lg_entry_eq]
  exact b_X9_sources A fu x v1 B.exec B.bytes B.returns hml (findClass_of_methodNamed B.named) (fun w h => hts w (List.mem_cons_of_mem _ h)) B.notSynchronized hK hN hX hP hf hDx  (lv_entry [.ref (A 0), .int v1] (n := 3) (Nat.le_of_ble_eq_true rfl))
def p_X9_source (fu : Nat) (x : Nat → Ob) (v1 : Int32) : Option (Int32 × (Nat → Ob)) :=
  (p_X9_refuseSeen fu x v1).bind fun r_2 => if r_2 = 0 then (p_X9_search fu x v1).bind fun r_16 => some (((r_16 18).1 2 0), r_16) else some (r_2, x)
abbrev rm_X9_source : Room := { frames := 5, cells := 0, slots := 0, locals := 122 }
set_option maxHeartbeats 4000000 in
set_option maxRecDepth 100000 in
theorem b_X9_source {p : Program} {l : Launch} {e : Env} {s : State} {m : MethodId} {args : Array Value} {below : List Frame} {meth : Method} {c : Code} {ls : Array Slot} {D : va_G} {ct : Nat → ClassId} {G : GT} (A : Nat → Nat) (fu : Nat) (x : Nat → Ob) (v1 : Int32) {r : Int32 × (Nat → Ob)} (hx : p.tables.exec = Jvm.exec) (hb : c.code = cX9_source) (hr : meth.sig.returnType = (some .int)) (hml : c.maxLocals = 3) (hown : s.vm.findClass RX9 = some m.cls) (htl : ∀ w ∈ wsL_law, w.before args s = true) (hlocks : meth.locks = false) (hK : va_K D vwCl (tyl ct) s) (hN : ∀ w ∈ NW, va_Nw w s) (hX : SX G s s.heap) (hP0 : va_P D vwCl (csQ ct A x) s.heap) (hf : p_X9_source fu x v1 = some r) (hDx : ∀ x : Nat → Ob, va_D (GE G) (csQ ct A x))  (hl : lv_has ls 3 [(0, .ref (A 0)), (1, .int v1)]) : W p l e rm_X9_source s m args below meth c s.heap [] 0 0 (MQ below (Qwr (some (.int r.1)) (fun H => va_P D vwCl (csQ ct A r.2) H) (wA (csQ ct A x))) args s 0 0 (wA (csQ ct A x))) (F0 m 0 ls []) := by
  generalize hQQ : MQ below (Qwr (some (.int r.1)) (fun H => va_P D vwCl (csQ ct A r.2) H) (wA (csQ ct A x))) args s 0 0 (wA (csQ ct A x)) = QQ
  have hDW : ∀ x1 : Nat → Ob, va_D (wA (csQ ct A x)) (csQ ct A x1) := fun x1 => D_any (D_self (hDx x1)) (wA_Q x1 x)
  have hGE : ∀ q, wA (csQ ct A x) q → GE G q := wA_GE (hDx x)
  have hP := hP0
  have hS : va_S (wA (csQ ct A x)) s.heap s.heap [] := va_S.rf
  rw [p_X9_source] at hf
  refine lv_aload_n hx hb dX9_source_0 rfl (lv_at hl 0 rfl) ?_
  refine lv_iload_n hx hb dX9_source_1 rfl (lv_at hl 1 rfl) ?_
  obtain ⟨r_2, e_2, hf⟩ := ob_bind hf
  have hPX_2 : va_P D vwCl (csQ ct A x) s.heap := hP
  refine ro_call1 (va_runV (As := [.int v1]) (rest := []) ⟨hx, hb, hml, hown, htl⟩ (c_X9_refuseSeen l D ct G A fu x v1 e_2) (cw_X9_X9_refuseSeen htl ⟨Nat.le_of_ble_eq_true rfl, Nat.le_of_ble_eq_true rfl⟩) ⟨Bx_blind, va_recv hK hPX_2 (ci := 9) (q0 := 0) rfl rfl, Bx_pre hPX_2 hK hN (hX.stay hS hGE)⟩ rfl rfl hl.1 rfl (lv_room (Nat.le_of_ble_eq_true rfl)) dX9_source_2 ⟨Nat.zero_le _, Nat.zero_le _⟩) ?_
  refine lv_istore_n (lv' := [(2, .int r_2), (0, .ref (A 0)), (1, .int v1)]) hx hb dX9_source_5 rfl hl (by decide) rfl (fun ls hl => ?_)
  refine lv_iload_n hx hb dX9_source_6 rfl (lv_at hl 0 rfl) ?_
  refine lv_if_eq (tgt := 14) hx hb dX9_source_7 (by decide) (fun c_7 => ?_) (fun c_7 => ?_)
  rotate_left 1
  · rw [if_neg c_7] at hf
    refine lv_iload_n hx hb dX9_source_10 rfl (lv_at hl 0 rfl) ?_
    refine lv_goto (tgt := 22) hx hb dX9_source_11 (by decide) ?_
    rw [← hQQ]
    cases hf
    exact rw_i hx hb hr hlocks hP hS dX9_source_22
  rw [if_pos c_7] at hf
  refine lv_aload_n hx hb dX9_source_14 rfl (lv_at hl 1 rfl) ?_
  refine lv_iload_n hx hb dX9_source_15 rfl (lv_at hl 2 rfl) ?_
  obtain ⟨r_16, e_16, hf⟩ := ob_bind hf
  have hPX_16 : va_P D vwCl (csQ ct A x) s.heap := hP
  refine wr_call1 (va_runV (As := [.int v1]) (rest := []) ⟨hx, hb, hml, hown, htl⟩ (c_X9_search l D ct G A fu x v1 e_16 hDx) (cw_X9_X9_search htl ⟨Nat.le_of_ble_eq_true rfl, Nat.le_of_ble_eq_true rfl⟩) ⟨Bx_blind, va_recv hK hPX_16 (ci := 9) (q0 := 0) rfl rfl, Bx_pre hPX_16 hK hN (hX.stay hS hGE)⟩ rfl rfl hl.1 rfl (lv_room (Nat.le_of_ble_eq_true rfl)) dX9_source_16 ⟨Nat.zero_le _, Nat.zero_le _⟩) hS (wA_Q _ _) (fun H_16 locs_16 hB_16 _ hk_16 hS => ?_)
  have hP : va_P D vwCl (csQ ct A r_16) H_16 := hB_16
  refine va_getN (D := D) (ci := 4) (v := .int ((r_16 18).1 2 0)) (C := RX4) (T := TX4) (N := 4) hx hb htl inlX4 hown hK hP 106 qh_18 rfl 2 (by decide) (va_Nw.use rfl (hN _ nm_29)) (fun _ h9 => h9) rfl dX9_source_19 ?_
  rw [← hQQ]
  cases hf
  exact rw_i hx hb hr hlocks hP hS dX9_source_22
theorem c_X9_source (l : Launch) (D : va_G) (ct : Nat → ClassId) (G : GT) (A : Nat → Nat) (fu : Nat) (x : Nat → Ob) (v1 : Int32) {r : Int32 × (Nat → Ob)} (hf : p_X9_source fu x v1 = some r)  (hDx : ∀ x : Nat → Ob, va_D (GE G) (csQ ct A x)) : Met l yX9_source (.code yX9_source cX9_source 3 (some .int) :: wsL_law) rm_X9_source (va_Pc [.ref (A 0), .int v1] (Bx D ct G (csQ ct A x))) (Qwr (some (.int r.1)) (fun H => va_P D vwCl (csQ ct A r.2) H) (wA (csQ ct A x))) 0 0 (wA (csQ ct A x)) := by
  refine Met.ofW (cc := cX9_source) (maxL := 3) (ret := (some .int)) (by decide) rfl ?_
  intro p e s m args below meth c s₁ B hml hv
  obtain ⟨rfl, hP, hK, hN, hX⟩ := hv
  have hts := atoms_spec (ws := .code yX9_source cX9_source 3 (some .int) :: wsL_law) B.pre
  rw [lg_entry_eq]
  exact b_X9_source A fu x v1 B.exec B.bytes B.returns hml (findClass_of_methodNamed B.named) (fun w h => hts w (List.mem_cons_of_mem _ h)) B.notSynchronized hK hN hX hP hf hDx  (lv_entry [.ref (A 0), .int v1] (n := 3) (Nat.le_of_ble_eq_true rfl))
theorem cw_X9_X4_bestStep {R : Room} {s : State} {args : Array Value} (ht : ∀ w ∈ wsL_law, w.before args s = true) (hN : ∀ w ∈ NW, va_Nw w s) (hR : rm_X4_bestStep.frames + 1 ≤ R.frames ∧ 8 + (5 + 11) + rm_X4_bestStep.locals ≤ R.locals) : va_CN R s args RX9 304 yX4_bestStep "QuotedRiver" cX4_bestStep 5 (some .int) ((.code yX4_bestStep cX4_bestStep 5 (some .int)) :: wsL_law) rm_X4_bestStep 0 0 0 ∧ (Cond.instanceMethod yX4_bestStep).before args s = true ∧ (Cond.selects RX4 yX4_bestStep yX4_bestStep).before args s = true := ⟨va_cnB 0 ht (GL wq_50_6) rfl rfl rfl (hN _ nm_95) (ht _ wq_2_18) hd_X4_bestStep hR, ht _ wq_50_4, ht _ wq_50_5⟩
def p_X9_ask (fu : Nat) (x : Nat → Ob) (v1 : Int32) : Option (Int32 × (Nat → Ob)) :=
  (p_X9_refuseSeen fu x v1).bind fun r_2 => if r_2 = 0 then (p_X9_search fu x v1).bind fun r_16 => (p_X4_bestStep fu (r_16 18)).bind fun r_19 => some (r_19, r_16) else some (r_2, x)
abbrev rm_X9_ask : Room := { frames := 5, cells := 0, slots := 0, locals := 122 }
set_option maxHeartbeats 4000000 in
set_option maxRecDepth 100000 in
theorem b_X9_ask {p : Program} {l : Launch} {e : Env} {s : State} {m : MethodId} {args : Array Value} {below : List Frame} {meth : Method} {c : Code} {ls : Array Slot} {D : va_G} {ct : Nat → ClassId} {G : GT} (A : Nat → Nat) (fu : Nat) (x : Nat → Ob) (v1 : Int32) {r : Int32 × (Nat → Ob)} (hx : p.tables.exec = Jvm.exec) (hb : c.code = cX9_ask) (hr : meth.sig.returnType = (some .int)) (hml : c.maxLocals = 3) (hown : s.vm.findClass RX9 = some m.cls) (htl : ∀ w ∈ wsL_law, w.before args s = true) (hlocks : meth.locks = false) (hK : va_K D vwCl (tyl ct) s) (hN : ∀ w ∈ NW, va_Nw w s) (hX : SX G s s.heap) (hP0 : va_P D vwCl (csQ ct A x) s.heap) (hf : p_X9_ask fu x v1 = some r) (hDx : ∀ x : Nat → Ob, va_D (GE G) (csQ ct A x))  (hl : lv_has ls 3 [(0, .ref (A 0)), (1, .int v1)]) : W p l e rm_X9_ask s m args below meth c s.heap [] 0 0 (MQ below (Qwr (some (.int r.1)) (fun H => va_P D vwCl (csQ ct A r.2) H) (wA (csQ ct A x))) args s 0 0 (wA (csQ ct A x))) (F0 m 0 ls []) := by
  generalize hQQ : MQ below (Qwr (some (.int r.1)) (fun H => va_P D vwCl (csQ ct A r.2) H) (wA (csQ ct A x))) args s 0 0 (wA (csQ ct A x)) = QQ
  have hDW : ∀ x1 : Nat → Ob, va_D (wA (csQ ct A x)) (csQ ct A x1) := fun x1 => D_any (D_self (hDx x1)) (wA_Q x1 x)
  have hGE : ∀ q, wA (csQ ct A x) q → GE G q := wA_GE (hDx x)
  have hP := hP0
  have hS : va_S (wA (csQ ct A x)) s.heap s.heap [] := va_S.rf
  rw [p_X9_ask] at hf
  refine lv_aload_n hx hb dX9_ask_0 rfl (lv_at hl 0 rfl) ?_
  refine lv_iload_n hx hb dX9_ask_1 rfl (lv_at hl 1 rfl) ?_
  obtain ⟨r_2, e_2, hf⟩ := ob_bind hf
  have hPX_2 : va_P D vwCl (csQ ct A x) s.heap := hP
  refine ro_call1 (va_runV (As := [.int v1]) (rest := []) ⟨hx, hb, hml, hown, htl⟩ (c_X9_refuseSeen l D ct G A fu x v1 e_2) (cw_X9_X9_refuseSeen htl ⟨Nat.le_of_ble_eq_true rfl, Nat.le_of_ble_eq_true rfl⟩) ⟨Bx_blind, va_recv hK hPX_2 (ci := 9) (q0 := 0) rfl rfl, Bx_pre hPX_2 hK hN (hX.stay hS hGE)⟩ rfl rfl hl.1 rfl (lv_room (Nat.le_of_ble_eq_true rfl)) dX9_ask_2 ⟨Nat.zero_le _, Nat.zero_le _⟩) ?_
  refine lv_istore_n (lv' := [(2, .int r_2), (0, .ref (A 0)), (1, .int v1)]) hx hb dX9_ask_5 rfl hl (by decide) rfl (fun ls hl => ?_)
  refine lv_iload_n hx hb dX9_ask_6 rfl (lv_at hl 0 rfl) ?_
  refine lv_if_eq (tgt := 14) hx hb dX9_ask_7 (by decide) (fun c_7 => ?_) (fun c_7 => ?_)
  rotate_left 1
  · rw [if_neg c_7] at hf
    refine lv_iload_n hx hb dX9_ask_10 rfl (lv_at hl 0 rfl) ?_
    refine lv_goto (tgt := 22) hx hb dX9_ask_11 (by decide) ?_
    rw [← hQQ]
    cases hf
    exact rw_i hx hb hr hlocks hP hS dX9_ask_22
  rw [if_pos c_7] at hf
  refine lv_aload_n hx hb dX9_ask_14 rfl (lv_at hl 1 rfl) ?_
  refine lv_iload_n hx hb dX9_ask_15 rfl (lv_at hl 2 rfl) ?_
  obtain ⟨r_16, e_16, hf⟩ := ob_bind hf
  have hPX_16 : va_P D vwCl (csQ ct A x) s.heap := hP
  refine wr_call1 (va_runV (As := [.int v1]) (rest := []) ⟨hx, hb, hml, hown, htl⟩ (c_X9_search l D ct G A fu x v1 e_16 hDx) (cw_X9_X9_search htl ⟨Nat.le_of_ble_eq_true rfl, Nat.le_of_ble_eq_true rfl⟩) ⟨Bx_blind, va_recv hK hPX_16 (ci := 9) (q0 := 0) rfl rfl, Bx_pre hPX_16 hK hN (hX.stay hS hGE)⟩ rfl rfl hl.1 rfl (lv_room (Nat.le_of_ble_eq_true rfl)) dX9_ask_16 ⟨Nat.zero_le _, Nat.zero_le _⟩) hS (wA_Q _ _) (fun H_16 locs_16 hB_16 _ hk_16 hS => ?_)
  have hP : va_P D vwCl (csQ ct A r_16) H_16 := hB_16
  obtain ⟨r_19, e_19, hf⟩ := ob_bind hf
  have hPX_19 : va_P D vwCl (cs4 ct (fun i => A (106 + i)) (r_16 18)) H_16 := (qs_18 hP)
  refine ro_call1 (va_runVN (As := []) (rest := []) ⟨hx, hb, hml, hown, htl⟩ (c_X4_bestStep l D ct G (fun i => A (106 + i)) fu (r_16 18) e_19) (cw_X9_X4_bestStep htl hN ⟨Nat.le_of_ble_eq_true rfl, Nat.le_of_ble_eq_true rfl⟩) ⟨Bx_blind, va_recv hK hPX_19 (ci := 4) (q0 := 0) rfl rfl, Bx_pre hPX_19 hK hN (hX.stay hS hGE)⟩ rfl rfl hl.1 rfl (lv_room (Nat.le_of_ble_eq_true rfl)) dX9_ask_19 ⟨Nat.zero_le _, Nat.zero_le _⟩) ?_
  rw [← hQQ]
  cases hf
  exact rw_i hx hb hr hlocks hP hS dX9_ask_22
theorem c_X9_ask (l : Launch) (D : va_G) (ct : Nat → ClassId) (G : GT) (A : Nat → Nat) (fu : Nat) (x : Nat → Ob) (v1 : Int32) {r : Int32 × (Nat → Ob)} (hf : p_X9_ask fu x v1 = some r)  (hDx : ∀ x : Nat → Ob, va_D (GE G) (csQ ct A x)) : Met l yX9_ask (.code yX9_ask cX9_ask 3 (some .int) :: wsL_law) rm_X9_ask (va_Pc [.ref (A 0), .int v1] (Bx D ct G (csQ ct A x))) (Qwr (some (.int r.1)) (fun H => va_P D vwCl (csQ ct A r.2) H) (wA (csQ ct A x))) 0 0 (wA (csQ ct A x)) := by
  refine Met.ofW (cc := cX9_ask) (maxL := 3) (ret := (some .int)) (by decide) rfl ?_
  intro p e s m args below meth c s₁ B hml hv
  obtain ⟨rfl, hP, hK, hN, hX⟩ := hv
  have hts := atoms_spec (ws := .code yX9_ask cX9_ask 3 (some .int) :: wsL_law) B.pre
  rw [lg_entry_eq]
  exact b_X9_ask A fu x v1 B.exec B.bytes B.returns hml (findClass_of_methodNamed B.named) (fun w h => hts w (List.mem_cons_of_mem _ h)) B.notSynchronized hK hN hX hP hf hDx  (lv_entry [.ref (A 0), .int v1] (n := 3) (Nat.le_of_ble_eq_true rfl))
theorem hd_X4_leastLeft : yX4_leastLeft.cls ≠ "java/lang/invoke/MethodHandle" ∧ yX4_leastLeft.cls ≠ "java/lang/invoke/VarHandle" ∧ (parseMethodDescriptor yX4_leastLeft.desc).map (fun d => d.parameters.length) = some 0 := by decide +kernel
theorem cw_X9_X4_leastLeft {R : Room} {s : State} {args : Array Value} (ht : ∀ w ∈ wsL_law, w.before args s = true) (hN : ∀ w ∈ NW, va_Nw w s) (hR : rm_X4_leastLeft.frames + 1 ≤ R.frames ∧ 8 + (2 + 11) + rm_X4_leastLeft.locals ≤ R.locals) : va_CN R s args RX9 307 yX4_leastLeft "QuotedRiver" cX4_leastLeft 2 (some .int) ((.code yX4_leastLeft cX4_leastLeft 2 (some .int)) :: wsL_law) rm_X4_leastLeft 0 0 0 ∧ (Cond.instanceMethod yX4_leastLeft).before args s = true ∧ (Cond.selects RX4 yX4_leastLeft yX4_leastLeft).before args s = true := ⟨va_cnB 0 ht (GL wq_51_3) rfl rfl rfl (hN _ nm_96) (ht _ wq_2_18) hd_X4_leastLeft hR, ht _ wq_51_1, ht _ wq_51_2⟩
def p_X9_doubts (fu : Nat) (x : Nat → Ob) (v1 : Int32) : Option (Int32 × (Nat → Ob)) :=
  (p_X9_refuseSeen fu x v1).bind fun r_2 => if r_2 = 0 then (p_X9_search fu x v1).bind fun r_16 => (p_X4_leastLeft fu (r_16 18)).bind fun r_19 => some (r_19, r_16) else some (r_2, x)
abbrev rm_X9_doubts : Room := { frames := 5, cells := 0, slots := 0, locals := 122 }
set_option maxHeartbeats 4000000 in
set_option maxRecDepth 100000 in
theorem b_X9_doubts {p : Program} {l : Launch} {e : Env} {s : State} {m : MethodId} {args : Array Value} {below : List Frame} {meth : Method} {c : Code} {ls : Array Slot} {D : va_G} {ct : Nat → ClassId} {G : GT} (A : Nat → Nat) (fu : Nat) (x : Nat → Ob) (v1 : Int32) {r : Int32 × (Nat → Ob)} (hx : p.tables.exec = Jvm.exec) (hb : c.code = cX9_doubts) (hr : meth.sig.returnType = (some .int)) (hml : c.maxLocals = 3) (hown : s.vm.findClass RX9 = some m.cls) (htl : ∀ w ∈ wsL_law, w.before args s = true) (hlocks : meth.locks = false) (hK : va_K D vwCl (tyl ct) s) (hN : ∀ w ∈ NW, va_Nw w s) (hX : SX G s s.heap) (hP0 : va_P D vwCl (csQ ct A x) s.heap) (hf : p_X9_doubts fu x v1 = some r) (hDx : ∀ x : Nat → Ob, va_D (GE G) (csQ ct A x))  (hl : lv_has ls 3 [(0, .ref (A 0)), (1, .int v1)]) : W p l e rm_X9_doubts s m args below meth c s.heap [] 0 0 (MQ below (Qwr (some (.int r.1)) (fun H => va_P D vwCl (csQ ct A r.2) H) (wA (csQ ct A x))) args s 0 0 (wA (csQ ct A x))) (F0 m 0 ls []) := by
  generalize hQQ : MQ below (Qwr (some (.int r.1)) (fun H => va_P D vwCl (csQ ct A r.2) H) (wA (csQ ct A x))) args s 0 0 (wA (csQ ct A x)) = QQ
  have hDW : ∀ x1 : Nat → Ob, va_D (wA (csQ ct A x)) (csQ ct A x1) := fun x1 => D_any (D_self (hDx x1)) (wA_Q x1 x)
  have hGE : ∀ q, wA (csQ ct A x) q → GE G q := wA_GE (hDx x)
  have hP := hP0
  have hS : va_S (wA (csQ ct A x)) s.heap s.heap [] := va_S.rf
  rw [p_X9_doubts] at hf
  refine lv_aload_n hx hb dX9_doubts_0 rfl (lv_at hl 0 rfl) ?_
  refine lv_iload_n hx hb dX9_doubts_1 rfl (lv_at hl 1 rfl) ?_
  obtain ⟨r_2, e_2, hf⟩ := ob_bind hf
  have hPX_2 : va_P D vwCl (csQ ct A x) s.heap := hP
  refine ro_call1 (va_runV (As := [.int v1]) (rest := []) ⟨hx, hb, hml, hown, htl⟩ (c_X9_refuseSeen l D ct G A fu x v1 e_2) (cw_X9_X9_refuseSeen htl ⟨Nat.le_of_ble_eq_true rfl, Nat.le_of_ble_eq_true rfl⟩) ⟨Bx_blind, va_recv hK hPX_2 (ci := 9) (q0 := 0) rfl rfl, Bx_pre hPX_2 hK hN (hX.stay hS hGE)⟩ rfl rfl hl.1 rfl (lv_room (Nat.le_of_ble_eq_true rfl)) dX9_doubts_2 ⟨Nat.zero_le _, Nat.zero_le _⟩) ?_
  refine lv_istore_n (lv' := [(2, .int r_2), (0, .ref (A 0)), (1, .int v1)]) hx hb dX9_doubts_5 rfl hl (by decide) rfl (fun ls hl => ?_)
  refine lv_iload_n hx hb dX9_doubts_6 rfl (lv_at hl 0 rfl) ?_
  refine lv_if_eq (tgt := 14) hx hb dX9_doubts_7 (by decide) (fun c_7 => ?_) (fun c_7 => ?_)
  rotate_left 1
  · rw [if_neg c_7] at hf
    refine lv_iload_n hx hb dX9_doubts_10 rfl (lv_at hl 0 rfl) ?_
    refine lv_goto (tgt := 22) hx hb dX9_doubts_11 (by decide) ?_
    rw [← hQQ]
    cases hf
    exact rw_i hx hb hr hlocks hP hS dX9_doubts_22
  rw [if_pos c_7] at hf
  refine lv_aload_n hx hb dX9_doubts_14 rfl (lv_at hl 1 rfl) ?_
  refine lv_iload_n hx hb dX9_doubts_15 rfl (lv_at hl 2 rfl) ?_
  obtain ⟨r_16, e_16, hf⟩ := ob_bind hf
  have hPX_16 : va_P D vwCl (csQ ct A x) s.heap := hP
  refine wr_call1 (va_runV (As := [.int v1]) (rest := []) ⟨hx, hb, hml, hown, htl⟩ (c_X9_search l D ct G A fu x v1 e_16 hDx) (cw_X9_X9_search htl ⟨Nat.le_of_ble_eq_true rfl, Nat.le_of_ble_eq_true rfl⟩) ⟨Bx_blind, va_recv hK hPX_16 (ci := 9) (q0 := 0) rfl rfl, Bx_pre hPX_16 hK hN (hX.stay hS hGE)⟩ rfl rfl hl.1 rfl (lv_room (Nat.le_of_ble_eq_true rfl)) dX9_doubts_16 ⟨Nat.zero_le _, Nat.zero_le _⟩) hS (wA_Q _ _) (fun H_16 locs_16 hB_16 _ hk_16 hS => ?_)
  have hP : va_P D vwCl (csQ ct A r_16) H_16 := hB_16
  obtain ⟨r_19, e_19, hf⟩ := ob_bind hf
  have hPX_19 : va_P D vwCl (cs4 ct (fun i => A (106 + i)) (r_16 18)) H_16 := (qs_18 hP)
  refine ro_call1 (va_runVN (As := []) (rest := []) ⟨hx, hb, hml, hown, htl⟩ (c_X4_leastLeft l D ct G (fun i => A (106 + i)) fu (r_16 18) e_19) (cw_X9_X4_leastLeft htl hN ⟨Nat.le_of_ble_eq_true rfl, Nat.le_of_ble_eq_true rfl⟩) ⟨Bx_blind, va_recv hK hPX_19 (ci := 4) (q0 := 0) rfl rfl, Bx_pre hPX_19 hK hN (hX.stay hS hGE)⟩ rfl rfl hl.1 rfl (lv_room (Nat.le_of_ble_eq_true rfl)) dX9_doubts_19 ⟨Nat.zero_le _, Nat.zero_le _⟩) ?_
  rw [← hQQ]
  cases hf
  exact rw_i hx hb hr hlocks hP hS dX9_doubts_22
theorem c_X9_doubts (l : Launch) (D : va_G) (ct : Nat → ClassId) (G : GT) (A : Nat → Nat) (fu : Nat) (x : Nat → Ob) (v1 : Int32) {r : Int32 × (Nat → Ob)} (hf : p_X9_doubts fu x v1 = some r)  (hDx : ∀ x : Nat → Ob, va_D (GE G) (csQ ct A x)) : Met l yX9_doubts (.code yX9_doubts cX9_doubts 3 (some .int) :: wsL_law) rm_X9_doubts (va_Pc [.ref (A 0), .int v1] (Bx D ct G (csQ ct A x))) (Qwr (some (.int r.1)) (fun H => va_P D vwCl (csQ ct A r.2) H) (wA (csQ ct A x))) 0 0 (wA (csQ ct A x)) := by
  refine Met.ofW (cc := cX9_doubts) (maxL := 3) (ret := (some .int)) (by decide) rfl ?_
  intro p e s m args below meth c s₁ B hml hv
  obtain ⟨rfl, hP, hK, hN, hX⟩ := hv
  have hts := atoms_spec (ws := .code yX9_doubts cX9_doubts 3 (some .int) :: wsL_law) B.pre
  rw [lg_entry_eq]
  exact b_X9_doubts A fu x v1 B.exec B.bytes B.returns hml (findClass_of_methodNamed B.named) (fun w h => hts w (List.mem_cons_of_mem _ h)) B.notSynchronized hK hN hX hP hf hDx  (lv_entry [.ref (A 0), .int v1] (n := 3) (Nat.le_of_ble_eq_true rfl))
def p_X9_refuseTurn (fu : Nat) (x : Nat → Ob) (v1 : Int32) (v2 : Int32) (v3 : Int32) : Option (Int32) :=
  (p_X9_isJoin fu x v2).bind fun r_2 => if r_2 = 0 then some ((-2) : Int32) else (p_X9_isReach fu x v3).bind fun r_10 => if r_10 = 0 then some ((-2) : Int32) else (p_X9_refuseSeen fu x v1).bind fun r_18 => some r_18
abbrev rm_X9_refuseTurn : Room := { frames := 3, cells := 0, slots := 0, locals := 69 }
set_option maxHeartbeats 4000000 in
set_option maxRecDepth 100000 in
theorem b_X9_refuseTurn {p : Program} {l : Launch} {e : Env} {s : State} {m : MethodId} {args : Array Value} {below : List Frame} {meth : Method} {c : Code} {ls : Array Slot} {D : va_G} {ct : Nat → ClassId} {G : GT} (A : Nat → Nat) (fu : Nat) (x : Nat → Ob) (v1 : Int32) (v2 : Int32) (v3 : Int32) {r : Int32} (hx : p.tables.exec = Jvm.exec) (hb : c.code = cX9_refuseTurn) (hr : meth.sig.returnType = (some .int)) (hml : c.maxLocals = 4) (hown : s.vm.findClass RX9 = some m.cls) (htl : ∀ w ∈ wsL_law, w.before args s = true) (hlocks : meth.locks = false) (hK : va_K D vwCl (tyl ct) s) (hN : ∀ w ∈ NW, va_Nw w s) (hX : SX G s s.heap) (hP0 : va_P D vwCl (csQ ct A x) s.heap) (hf : p_X9_refuseTurn fu x v1 v2 v3 = some r)  (hl : lv_has ls 4 [(0, .ref (A 0)), (1, .int v1), (2, .int v2), (3, .int v3)]) : W p l e rm_X9_refuseTurn s m args below meth c s.heap [] 0 0 (MQ below (Qro (some (.int r))) args s 0 0 (fun _ => False)) (F0 m 0 ls []) := by
  generalize hQQ : MQ below (Qro (some (.int r))) args s 0 0 (fun _ => False) = QQ
  have hP := hP0
  rw [p_X9_refuseTurn] at hf
  refine lv_aload_n hx hb dX9_refuseTurn_0 rfl (lv_at hl 0 rfl) ?_
  refine lv_iload_n hx hb dX9_refuseTurn_1 rfl (lv_at hl 2 rfl) ?_
  obtain ⟨r_2, e_2, hf⟩ := ob_bind hf
  have hPX_2 : va_P D vwCl (csQ ct A x) s.heap := hP
  refine ro_call1 (va_runV (As := [.int v2]) (rest := []) ⟨hx, hb, hml, hown, htl⟩ (c_X9_isJoin l D ct G A fu x v2 e_2) (cw_X9_X9_isJoin htl ⟨Nat.le_of_ble_eq_true rfl, Nat.le_of_ble_eq_true rfl⟩) ⟨Bx_blind, va_recv hK hPX_2 (ci := 9) (q0 := 0) rfl rfl, Bx_pre hPX_2 hK hN hX⟩ rfl rfl hl.1 rfl (lv_room (Nat.le_of_ble_eq_true rfl)) dX9_refuseTurn_2 ⟨Nat.zero_le _, Nat.zero_le _⟩) ?_
  refine lv_if_eq (tgt := 24) hx hb dX9_refuseTurn_5 (by decide) (fun c_5 => ?_) (fun c_5 => ?_)
  · rw [if_pos c_5] at hf
    refine lv_bipush (v := (-2)) hx hb dX9_refuseTurn_24 (by decide) ?_
    rw [← hQQ]
    exact rf_i hx hb hr hlocks hf dX9_refuseTurn_26
  rw [if_neg c_5] at hf
  refine lv_aload_n hx hb dX9_refuseTurn_8 rfl (lv_at hl 0 rfl) ?_
  refine lv_iload_n hx hb dX9_refuseTurn_9 rfl (lv_at hl 3 rfl) ?_
  obtain ⟨r_10, e_10, hf⟩ := ob_bind hf
  have hPX_10 : va_P D vwCl (csQ ct A x) s.heap := hP
  refine ro_call1 (va_runV (As := [.int v3]) (rest := []) ⟨hx, hb, hml, hown, htl⟩ (c_X9_isReach l D ct G A fu x v3 e_10) (cw_X9_X9_isReach htl ⟨Nat.le_of_ble_eq_true rfl, Nat.le_of_ble_eq_true rfl⟩) ⟨Bx_blind, va_recv hK hPX_10 (ci := 9) (q0 := 0) rfl rfl, Bx_pre hPX_10 hK hN hX⟩ rfl rfl hl.1 rfl (lv_room (Nat.le_of_ble_eq_true rfl)) dX9_refuseTurn_10 ⟨Nat.zero_le _, Nat.zero_le _⟩) ?_
  refine lv_if_eq (tgt := 24) hx hb dX9_refuseTurn_13 (by decide) (fun c_13 => ?_) (fun c_13 => ?_)
  · rw [if_pos c_13] at hf
    refine lv_bipush (v := (-2)) hx hb dX9_refuseTurn_24 (by decide) ?_
    rw [← hQQ]
    exact rf_i hx hb hr hlocks hf dX9_refuseTurn_26
  rw [if_neg c_13] at hf
  refine lv_aload_n hx hb dX9_refuseTurn_16 rfl (lv_at hl 0 rfl) ?_
  refine lv_iload_n hx hb dX9_refuseTurn_17 rfl (lv_at hl 1 rfl) ?_
  obtain ⟨r_18, e_18, hf⟩ := ob_bind hf
  have hPX_18 : va_P D vwCl (csQ ct A x) s.heap := hP
  refine ro_call1 (va_runV (As := [.int v1]) (rest := []) ⟨hx, hb, hml, hown, htl⟩ (c_X9_refuseSeen l D ct G A fu x v1 e_18) (cw_X9_X9_refuseSeen htl ⟨Nat.le_of_ble_eq_true rfl, Nat.le_of_ble_eq_true rfl⟩) ⟨Bx_blind, va_recv hK hPX_18 (ci := 9) (q0 := 0) rfl rfl, Bx_pre hPX_18 hK hN hX⟩ rfl rfl hl.1 rfl (lv_room (Nat.le_of_ble_eq_true rfl)) dX9_refuseTurn_18 ⟨Nat.zero_le _, Nat.zero_le _⟩) ?_
  refine lv_goto (tgt := 26) hx hb dX9_refuseTurn_21 (by decide) ?_
  rw [← hQQ]
  exact rf_i hx hb hr hlocks hf dX9_refuseTurn_26
theorem c_X9_refuseTurn (l : Launch) (D : va_G) (ct : Nat → ClassId) (G : GT) (A : Nat → Nat) (fu : Nat) (x : Nat → Ob) (v1 : Int32) (v2 : Int32) (v3 : Int32) {r : Int32} (hf : p_X9_refuseTurn fu x v1 v2 v3 = some r)  : Met l yX9_refuseTurn (.code yX9_refuseTurn cX9_refuseTurn 4 (some .int) :: wsL_law) rm_X9_refuseTurn (va_Pc [.ref (A 0), .int v1, .int v2, .int v3] (Bx D ct G (csQ ct A x))) (Qro (some (.int r))) 0 0 (fun _ => False) := by
  refine Met.ofW (cc := cX9_refuseTurn) (maxL := 4) (ret := (some .int)) (by decide) rfl ?_
  intro p e s m args below meth c s₁ B hml hv
  obtain ⟨rfl, hP, hK, hN, hX⟩ := hv
  have hts := atoms_spec (ws := .code yX9_refuseTurn cX9_refuseTurn 4 (some .int) :: wsL_law) B.pre
  rw [lg_entry_eq]
  exact b_X9_refuseTurn A fu x v1 v2 v3 B.exec B.bytes B.returns hml (findClass_of_methodNamed B.named) (fun w h => hts w (List.mem_cons_of_mem _ h)) B.notSynchronized hK hN hX hP hf   (lv_entry [.ref (A 0), .int v1, .int v2, .int v3] (n := 4) (Nat.le_of_ble_eq_true rfl))
def p_X9_searchTurns_L48 (fu : Nat) (c131 : (Nat → Ob) → Nat → Int32 → Int32 → Int32 → Option ((Nat → Ob))) : Nat → (Nat → Ob) → Nat → Int32 → Int32 → Int32 → Int32 → Option ((Nat → Ob))
  | 0, _, _, _, _, _, _ => none
  | n + 1, xz, j_9, v2, v3, v5, v6 =>
    if v5 ≤ v6 then c131 xz j_9 v2 v3 v5 else (p_X9_put fu 5 ((xz 6).1 11) v2 v5).bind fun r_65 => (p_X9_put fu 5 (((va_up xz 6 (oA (xz 6) 11 r_65)) 6).1 12) v2 v6).bind fun r_78 => (p_X5_drift fu ((va_up (va_up xz 6 (oA (xz 6) 11 r_65)) 6 (oA ((va_up xz 6 (oA (xz 6) 11 r_65)) 6) 12 r_78)) 12) ((va_up (va_up xz 6 (oA (xz 6) 11 r_65)) 6 (oA ((va_up xz 6 (oA (xz 6) 11 r_65)) 6) 12 r_78)) 6) ((va_up (va_up xz 6 (oA (xz 6) 11 r_65)) 6 (oA ((va_up xz 6 (oA (xz 6) 11 r_65)) 6) 12 r_78)) 10) v3 (0 : Int32)).bind fun r_95 => (p_X5_wasSeen fu ((va_up (va_up (va_up xz 6 (oA (xz 6) 11 r_65)) 6 (oA ((va_up xz 6 (oA (xz 6) 11 r_65)) 6) 12 r_78)) 12 r_95) 12) ((va_up (va_up (va_up xz 6 (oA (xz 6) 11 r_65)) 6 (oA ((va_up xz 6 (oA (xz 6) 11 r_65)) 6) 12 r_78)) 12 r_95) (14 + j_9))).bind fun r_104 => if r_104 = 0 then p_X9_searchTurns_L48 fu c131 n (va_up (va_up (va_up xz 6 (oA (xz 6) 11 r_65)) 6 (oA ((va_up xz 6 (oA (xz 6) 11 r_65)) 6) 12 r_78)) 12 r_95) j_9 v2 v3 v5 (v6 + 1) else (p_X4_add fu ((va_up (va_up (va_up xz 6 (oA (xz 6) 11 r_65)) 6 (oA ((va_up xz 6 (oA (xz 6) 11 r_65)) 6) 12 r_78)) 12 r_95) 18) ((10 * v5) + v6)).bind fun r_122 => p_X9_searchTurns_L48 fu c131 n (va_up (va_up (va_up (va_up xz 6 (oA (xz 6) 11 r_65)) 6 (oA ((va_up xz 6 (oA (xz 6) 11 r_65)) 6) 12 r_78)) 12 r_95) 18 r_122) j_9 v2 v3 v5 (v6 + 1)
def p_X9_searchTurns_L38 (fu : Nat)  : Nat → (Nat → Ob) → Nat → Int32 → Int32 → Int32 → Option ((Nat → Ob))
  | 0, _, _, _, _, _ => none
  | n + 1, xz, j_9, v2, v3, v5 =>
    if (9 : Int32) < v5 then some xz else p_X9_searchTurns_L48 fu (fun xz j_9 v2 v3 v5 => p_X9_searchTurns_L38 fu  n xz j_9 v2 v3 (v5 + 1)) fu xz j_9 v2 v3 v5 0
def p_X9_searchTurns (fu : Nat) (x : Nat → Ob) (v1 : Int32) (v2 : Int32) (v3 : Int32) : Option ((Nat → Ob)) :=
  (p_X4_clear fu (x 18)).bind fun r_4 => (p_X9_rowOf fu (va_up x 18 r_4) v1).bind fun r_9 => oCase r_9 (some (va_up x 18 r_4)) (fun j_9 => if j_9 < 4 then (p_X2_become fu ((va_up x 18 r_4) 6) ((va_up x 18 r_4) 5)).bind fun r_32 => p_X9_searchTurns_L38 fu fu (va_up (va_up x 18 r_4) 6 r_32) j_9 v2 v3 1 else none)
abbrev rm_X9_searchTurns : Room := { frames := 4, cells := 0, slots := 0, locals := 97 }
set_option maxHeartbeats 4000000 in
set_option maxRecDepth 100000 in
theorem b_X9_searchTurns {p : Program} {l : Launch} {e : Env} {s : State} {m : MethodId} {args : Array Value} {below : List Frame} {meth : Method} {c : Code} {ls : Array Slot} {D : va_G} {ct : Nat → ClassId} {G : GT} (A : Nat → Nat) (fu : Nat) (x : Nat → Ob) (v1 : Int32) (v2 : Int32) (v3 : Int32) {r : (Nat → Ob)} (hx : p.tables.exec = Jvm.exec) (hb : c.code = cX9_searchTurns) (hr : meth.sig.returnType = (some (.object "QuotedRiver$Sources"))) (hml : c.maxLocals = 7) (hown : s.vm.findClass RX9 = some m.cls) (htl : ∀ w ∈ wsL_law, w.before args s = true) (hlocks : meth.locks = false) (hK : va_K D vwCl (tyl ct) s) (hN : ∀ w ∈ NW, va_Nw w s) (hX : SX G s s.heap) (hP0 : va_P D vwCl (csQ ct A x) s.heap) (hf : p_X9_searchTurns fu x v1 v2 v3 = some r) (hDx : ∀ x : Nat → Ob, va_D (GE G) (csQ ct A x))  (hl : lv_has ls 7 [(0, .ref (A 0)), (1, .int v1), (2, .int v2), (3, .int v3)]) : W p l e rm_X9_searchTurns s m args below meth c s.heap [] 0 0 (MQ below (Qwr (some (.ref (A 106))) (fun H => va_P D vwCl (csQ ct A r) H) (wA (csQ ct A x))) args s 0 0 (wA (csQ ct A x))) (F0 m 0 ls []) := by
  generalize hQQ : MQ below (Qwr (some (.ref (A 106))) (fun H => va_P D vwCl (csQ ct A r) H) (wA (csQ ct A x))) args s 0 0 (wA (csQ ct A x)) = QQ
  have hDW : ∀ x1 : Nat → Ob, va_D (wA (csQ ct A x)) (csQ ct A x1) := fun x1 => D_any (D_self (hDx x1)) (wA_Q x1 x)
  have hGE : ∀ q, wA (csQ ct A x) q → GE G q := wA_GE (hDx x)
  have hP := hP0
  have hS : va_S (wA (csQ ct A x)) s.heap s.heap [] := va_S.rf
  have hL48 : ∀ (c131 : (Nat → Ob) → Nat → Int32 → Int32 → Int32 → Option ((Nat → Ob))) (n : Nat) (xz : Nat → Ob) (j_9 : Nat) (v2 : Int32) (v3 : Int32) (v5 : Int32) (v6 : Int32), ∀ (hj_9 : j_9 < 4) (H : Heap) (locs : List Loc) (ls : Array Slot), va_P D vwCl (csQ ct A xz) H → va_S (wA (csQ ct A x)) s.heap H locs → lv_has ls 7 [(0, .ref (A 0)), (2, .int v2), (3, .int v3), (4, .ref (A (98 + 2 * j_9))), (5, .int v5), (6, .int v6)] → p_X9_searchTurns_L48 fu c131 n xz j_9 v2 v3 v5 v6 = some r → (∀ (xz : Nat → Ob) (j_9 : Nat) (v2 : Int32) (v3 : Int32) (v5 : Int32), ∀ (hj_9 : j_9 < 4) (H : Heap) (locs : List Loc) (ls : Array Slot), va_P D vwCl (csQ ct A xz) H → va_S (wA (csQ ct A x)) s.heap H locs → lv_has ls 7 [(0, .ref (A 0)), (2, .int v2), (3, .int v3), (4, .ref (A (98 + 2 * j_9))), (5, .int v5)] → c131 xz j_9 v2 v3 v5 = some r → W p l e rm_X9_searchTurns s m args below meth c H locs 0 0 QQ (F0 m 131 ls [])) → W p l e rm_X9_searchTurns s m args below meth c H locs 0 0 QQ (F0 m 48 ls []) := by
    intro c131 n
    induction n with
    | zero =>
      intro xz j_9 v2 v3 v5 v6 hj_9 H locs ls hP hS hl hf k131
      rw [p_X9_searchTurns_L48] at hf
      cases hf
    | succ n ih =>
      intro xz j_9 v2 v3 v5 v6 hj_9 H locs ls hP hS hl hf k131
      rw [p_X9_searchTurns_L48] at hf
      refine lv_iload hx hb dX9_searchTurns_48 (lv_at hl 5 rfl) ?_
      refine lv_iload hx hb dX9_searchTurns_50 (lv_at hl 4 rfl) ?_
      refine lv_icmp_ge (tgt := 131) hx hb dX9_searchTurns_52 (by decide) (fun c_52 => ?_) (fun c_52 => ?_)
      · rw [if_pos c_52] at hf
        exact k131 xz j_9 v2 v3 v5 hj_9 _ _ _ hP hS (lv_sub hl [0, 1, 2, 3, 4] rfl) hf
      rw [if_neg c_52] at hf
      refine lv_aload_n hx hb dX9_searchTurns_55 rfl (lv_at hl 0 rfl) ?_
      refine va_get (D := D) (ci := 9) (v := .ref (A 34)) (C := RX9) (T := TX9) (N := 14) hx hb htl inlX9 hown hK hP 0 qh_0 rfl 3 (by decide) (htl _ wq_2_1) (fun _ h9 => h9) rfl dX9_searchTurns_56 ?_
      refine va_getN (D := D) (ci := 2) (v := .ref (A 40)) (C := RX2) (T := TX2) (N := 20) hx hb htl inlX2 hown hK hP 34 qh_6 rfl 11 (by decide) (va_Nw.use rfl (hN _ nm_9)) (fun _ h9 => h9) rfl dX9_searchTurns_59 ?_
      refine lv_iload_n hx hb dX9_searchTurns_62 rfl (lv_at hl 1 rfl) ?_
      refine lv_iload hx hb dX9_searchTurns_63 (lv_at hl 4 rfl) ?_
      obtain ⟨r_65, e_65, hf⟩ := ob_bind hf
      have hPX_65 : va_P D vwCl ([((A 40), .inl (ct 0, 5, .inl ((xz 6).1 11)))]) H := (P_one hP 40 qat_40)
      refine wr_call0 (va_runS (As := [.ref (A 40), .int v2, .int v5]) (rest := []) ⟨hx, hb, hml, hown, htl⟩ (c_X9_put l D ct G (A 40) fu 5 ((xz 6).1 11) v2 v5 e_65 (qdA_40 (hDx xz))) (cw_X9_X9_put htl ⟨Nat.le_of_ble_eq_true rfl, Nat.le_of_ble_eq_true rfl⟩) ⟨Bx_blind, Bx_pre hPX_65 hK hN (hX.stay hS hGE)⟩ rfl rfl hl.1 rfl (lv_room (Nat.le_of_ble_eq_true rfl)) dX9_searchTurns_65 ⟨Nat.zero_le _, Nat.zero_le _⟩) hS qaA_40 (fun H_65 locs_65 hB_65 _ hk_65 hS => ?_)
      have hP : va_P D vwCl (csQ ct A (va_up xz 6 (oA (xz 6) 11 r_65))) H_65 := qjA_40 hP (hDW xz) hk_65 hB_65
      refine lv_aload_n hx hb dX9_searchTurns_68 rfl (lv_at hl 0 rfl) ?_
      refine va_get (D := D) (ci := 9) (v := .ref (A 34)) (C := RX9) (T := TX9) (N := 14) hx hb htl inlX9 hown hK hP 0 qh_0 rfl 3 (by decide) (htl _ wq_2_1) (fun _ h9 => h9) rfl dX9_searchTurns_69 ?_
      refine va_getN (D := D) (ci := 2) (v := .ref (A 41)) (C := RX2) (T := TX2) (N := 20) hx hb htl inlX2 hown hK hP 34 qh_6 rfl 12 (by decide) (va_Nw.use rfl (hN _ nm_10)) (fun _ h9 => h9) rfl dX9_searchTurns_72 ?_
      refine lv_iload_n hx hb dX9_searchTurns_75 rfl (lv_at hl 1 rfl) ?_
      refine lv_iload hx hb dX9_searchTurns_76 (lv_at hl 5 rfl) ?_
      obtain ⟨r_78, e_78, hf⟩ := ob_bind hf
      have hPX_78 : va_P D vwCl ([((A 41), .inl (ct 0, 5, .inl (((va_up xz 6 (oA (xz 6) 11 r_65)) 6).1 12)))]) H_65 := (P_one hP 41 qat_41)
      refine wr_call0 (va_runS (As := [.ref (A 41), .int v2, .int v6]) (rest := []) ⟨hx, hb, hml, hown, htl⟩ (c_X9_put l D ct G (A 41) fu 5 (((va_up xz 6 (oA (xz 6) 11 r_65)) 6).1 12) v2 v6 e_78 (qdA_41 (hDx (va_up xz 6 (oA (xz 6) 11 r_65))))) (cw_X9_X9_put htl ⟨Nat.le_of_ble_eq_true rfl, Nat.le_of_ble_eq_true rfl⟩) ⟨Bx_blind, Bx_pre hPX_78 hK hN (hX.stay hS hGE)⟩ rfl rfl hl.1 rfl (lv_room (Nat.le_of_ble_eq_true rfl)) dX9_searchTurns_78 ⟨Nat.zero_le _, Nat.zero_le _⟩) hS qaA_41 (fun H_78 locs_78 hB_78 _ hk_78 hS => ?_)
      have hP : va_P D vwCl (csQ ct A (va_up (va_up xz 6 (oA (xz 6) 11 r_65)) 6 (oA ((va_up xz 6 (oA (xz 6) 11 r_65)) 6) 12 r_78))) H_78 := qjA_41 hP (hDW (va_up xz 6 (oA (xz 6) 11 r_65))) hk_78 hB_78
      refine lv_aload_n hx hb dX9_searchTurns_81 rfl (lv_at hl 0 rfl) ?_
      refine va_get (D := D) (ci := 9) (v := .ref (A 93)) (C := RX9) (T := TX9) (N := 14) hx hb htl inlX9 hown hK hP 0 qh_0 rfl 8 (by decide) (htl _ wq_2_12) (fun _ h9 => h9) rfl dX9_searchTurns_82 ?_
      refine lv_aload_n hx hb dX9_searchTurns_85 rfl (lv_at hl 0 rfl) ?_
      refine va_get (D := D) (ci := 9) (v := .ref (A 34)) (C := RX9) (T := TX9) (N := 14) hx hb htl inlX9 hown hK hP 0 qh_0 rfl 3 (by decide) (htl _ wq_2_1) (fun _ h9 => h9) rfl dX9_searchTurns_86 ?_
      refine lv_aload_n hx hb dX9_searchTurns_89 rfl (lv_at hl 0 rfl) ?_
      refine va_get (D := D) (ci := 9) (v := .ref (A 87)) (C := RX9) (T := TX9) (N := 14) hx hb htl inlX9 hown hK hP 0 qh_0 rfl 6 (by decide) (htl _ wq_2_7) (fun _ h9 => h9) rfl dX9_searchTurns_90 ?_
      refine lv_iload_n hx hb dX9_searchTurns_93 rfl (lv_at hl 2 rfl) ?_
      refine lv_iconst (v := 0) hx hb dX9_searchTurns_94 (by decide) ?_
      obtain ⟨r_95, e_95, hf⟩ := ob_bind hf
      have hPX_95 : va_P D vwCl (cs5 ct (fun i => A (93 + i)) ((va_up (va_up xz 6 (oA (xz 6) 11 r_65)) 6 (oA ((va_up xz 6 (oA (xz 6) 11 r_65)) 6) 12 r_78)) 12) ++ (cs2 ct (fun i => A (34 + i)) ((va_up (va_up xz 6 (oA (xz 6) 11 r_65)) 6 (oA ((va_up xz 6 (oA (xz 6) 11 r_65)) 6) 12 r_78)) 6) ++ (cs8 ct (fun i => A (87 + i)) ((va_up (va_up xz 6 (oA (xz 6) 11 r_65)) 6 (oA ((va_up xz 6 (oA (xz 6) 11 r_65)) 6) 12 r_78)) 10)))) H_78 := (va_P.app (qs_12 hP) (va_P.app (qs_6 hP) (qs_10 hP)))
      refine wr_call0 (va_runVN (As := [.ref (A 34), .ref (A 87), .int v3, .int 0]) (rest := []) ⟨hx, hb, hml, hown, htl⟩ (c_X5_drift l D ct G (fun i => A (93 + i)) (fun i => A (34 + i)) (fun i => A (87 + i)) fu ((va_up (va_up xz 6 (oA (xz 6) 11 r_65)) 6 (oA ((va_up xz 6 (oA (xz 6) 11 r_65)) 6) 12 r_78)) 12) ((va_up (va_up xz 6 (oA (xz 6) 11 r_65)) 6 (oA ((va_up xz 6 (oA (xz 6) 11 r_65)) 6) 12 r_78)) 6) ((va_up (va_up xz 6 (oA (xz 6) 11 r_65)) 6 (oA ((va_up xz 6 (oA (xz 6) 11 r_65)) 6) 12 r_78)) 10) v3 (0 : Int32) e_95 ((hDx (va_up (va_up xz 6 (oA (xz 6) 11 r_65)) 6 (oA ((va_up xz 6 (oA (xz 6) 11 r_65)) 6) 12 r_78))).sub (ws' := cs5 ct (fun i => A (93 + i)) ((va_up (va_up xz 6 (oA (xz 6) 11 r_65)) 6 (oA ((va_up xz 6 (oA (xz 6) 11 r_65)) 6) 12 r_78)) 12) ++ (cs2 ct (fun i => A (34 + i)) ((va_up (va_up xz 6 (oA (xz 6) 11 r_65)) 6 (oA ((va_up xz 6 (oA (xz 6) 11 r_65)) 6) 12 r_78)) 6) ++ (cs8 ct (fun i => A (87 + i)) ((va_up (va_up xz 6 (oA (xz 6) 11 r_65)) 6 (oA ((va_up xz 6 (oA (xz 6) 11 r_65)) 6) 12 r_78)) 10)))) [93, 94, 34, 35, 36, 37, 38, 39, 40, 41, 42, 43, 44, 45, 46, 87, 88, 89] (by decide) rfl)) (cw_X9_X5_drift htl hN ⟨Nat.le_of_ble_eq_true rfl, Nat.le_of_ble_eq_true rfl⟩) ⟨Bx_blind, va_recv hK hPX_95 (ci := 5) (q0 := 0) rfl rfl, Bx_pre hPX_95 hK hN (hX.stay hS hGE)⟩ rfl rfl hl.1 rfl (lv_room (Nat.le_of_ble_eq_true rfl)) dX9_searchTurns_95 ⟨Nat.zero_le _, Nat.zero_le _⟩) hS qa_12 (fun H_95 locs_95 hB_95 _ hk_95 hS => ?_)
      have hP : va_P D vwCl (csQ ct A (va_up (va_up (va_up xz 6 (oA (xz 6) 11 r_65)) 6 (oA ((va_up xz 6 (oA (xz 6) 11 r_65)) 6) 12 r_78)) 12 r_95)) H_95 := qj_12 hP (hDW (va_up (va_up xz 6 (oA (xz 6) 11 r_65)) 6 (oA ((va_up xz 6 (oA (xz 6) 11 r_65)) 6) 12 r_78))) hk_95 hB_95
      refine lv_aload_n hx hb dX9_searchTurns_98 rfl (lv_at hl 0 rfl) ?_
      refine va_get (D := D) (ci := 9) (v := .ref (A 93)) (C := RX9) (T := TX9) (N := 14) hx hb htl inlX9 hown hK hP 0 qh_0 rfl 8 (by decide) (htl _ wq_2_12) (fun _ h9 => h9) rfl dX9_searchTurns_99 ?_
      refine lv_aload hx hb dX9_searchTurns_102 (lv_at hl 3 rfl) ?_
      obtain ⟨r_104, e_104, hf⟩ := ob_bind hf
      have hPX_104 : va_P D vwCl (cs5 ct (fun i => A (93 + i)) ((va_up (va_up (va_up xz 6 (oA (xz 6) 11 r_65)) 6 (oA ((va_up xz 6 (oA (xz 6) 11 r_65)) 6) 12 r_78)) 12 r_95) 12) ++ (cs3 ct (fun i => A (98 + 2 * j_9 + i)) ((va_up (va_up (va_up xz 6 (oA (xz 6) 11 r_65)) 6 (oA ((va_up xz 6 (oA (xz 6) 11 r_65)) 6) 12 r_78)) 12 r_95) (14 + j_9)))) H_95 := (va_P.app (qs_12 hP) (qrow_s hj_9 hP))
      refine ro_call1 (va_runVN (As := [.ref (A (98 + 2 * j_9))]) (rest := []) ⟨hx, hb, hml, hown, htl⟩ (c_X5_wasSeen l D ct G (fun i => A (93 + i)) (fun i => A (98 + 2 * j_9 + i)) fu ((va_up (va_up (va_up xz 6 (oA (xz 6) 11 r_65)) 6 (oA ((va_up xz 6 (oA (xz 6) 11 r_65)) 6) 12 r_78)) 12 r_95) 12) ((va_up (va_up (va_up xz 6 (oA (xz 6) 11 r_65)) 6 (oA ((va_up xz 6 (oA (xz 6) 11 r_65)) 6) 12 r_78)) 12 r_95) (14 + j_9)) e_104) (cw_X9_X5_wasSeen htl hN ⟨Nat.le_of_ble_eq_true rfl, Nat.le_of_ble_eq_true rfl⟩) ⟨Bx_blind, va_recv hK hPX_104 (ci := 5) (q0 := 0) rfl rfl, Bx_pre hPX_104 hK hN (hX.stay hS hGE)⟩ rfl rfl hl.1 rfl (lv_room (Nat.le_of_ble_eq_true rfl)) dX9_searchTurns_104 ⟨Nat.zero_le _, Nat.zero_le _⟩) ?_
      refine lv_if_eq (tgt := 125) hx hb dX9_searchTurns_107 (by decide) (fun c_107 => ?_) (fun c_107 => ?_)
      · rw [if_pos c_107] at hf
        refine lv_iinc (v := (v6 + 1)) (lv' := [(6, .int (v6 + 1)), (0, .ref (A 0)), (2, .int v2), (3, .int v3), (4, .ref (A (98 + 2 * j_9))), (5, .int v5)]) hx hb dX9_searchTurns_125 hl (k := 5) rfl rfl (by decide) rfl (fun ls hl => ?_)
        refine lv_goto (tgt := 48) hx hb dX9_searchTurns_128 (by decide) ?_
        exact ih (va_up (va_up (va_up xz 6 (oA (xz 6) 11 r_65)) 6 (oA ((va_up xz 6 (oA (xz 6) 11 r_65)) 6) 12 r_78)) 12 r_95) j_9 v2 v3 v5 (v6 + 1) hj_9 _ _ _ hP hS (lv_sub hl [1, 2, 3, 4, 5, 0] rfl) hf k131
      rw [if_neg c_107] at hf
      refine lv_aload_n hx hb dX9_searchTurns_110 rfl (lv_at hl 0 rfl) ?_
      refine va_get (D := D) (ci := 9) (v := .ref (A 106)) (C := RX9) (T := TX9) (N := 14) hx hb htl inlX9 hown hK hP 0 qh_0 rfl 11 (by decide) (htl _ wq_2_19) (fun _ h9 => h9) rfl dX9_searchTurns_111 ?_
      refine lv_bipush (v := 10) hx hb dX9_searchTurns_114 (by decide) ?_
      refine lv_iload hx hb dX9_searchTurns_116 (lv_at hl 4 rfl) ?_
      refine lv_imul hx hb dX9_searchTurns_118 ?_
      refine lv_iload hx hb dX9_searchTurns_119 (lv_at hl 5 rfl) ?_
      refine lv_iadd hx hb dX9_searchTurns_121 ?_
      obtain ⟨r_122, e_122, hf⟩ := ob_bind hf
      have hPX_122 : va_P D vwCl (cs4 ct (fun i => A (106 + i)) ((va_up (va_up (va_up xz 6 (oA (xz 6) 11 r_65)) 6 (oA ((va_up xz 6 (oA (xz 6) 11 r_65)) 6) 12 r_78)) 12 r_95) 18)) H_95 := (qs_18 hP)
      refine wr_call0 (va_runVN (As := [.int ((10 * v5) + v6)]) (rest := []) ⟨hx, hb, hml, hown, htl⟩ (c_X4_add l D ct G (fun i => A (106 + i)) fu ((va_up (va_up (va_up xz 6 (oA (xz 6) 11 r_65)) 6 (oA ((va_up xz 6 (oA (xz 6) 11 r_65)) 6) 12 r_78)) 12 r_95) 18) ((10 * v5) + v6) e_122 ((hDx (va_up (va_up (va_up xz 6 (oA (xz 6) 11 r_65)) 6 (oA ((va_up xz 6 (oA (xz 6) 11 r_65)) 6) 12 r_78)) 12 r_95)).sub (ws' := cs4 ct (fun i => A (106 + i)) ((va_up (va_up (va_up xz 6 (oA (xz 6) 11 r_65)) 6 (oA ((va_up xz 6 (oA (xz 6) 11 r_65)) 6) 12 r_78)) 12 r_95) 18)) [106, 107] (by decide) rfl)) (cw_X9_X4_add htl hN ⟨Nat.le_of_ble_eq_true rfl, Nat.le_of_ble_eq_true rfl⟩) ⟨Bx_blind, va_recv hK hPX_122 (ci := 4) (q0 := 0) rfl rfl, Bx_pre hPX_122 hK hN (hX.stay hS hGE)⟩ rfl rfl hl.1 rfl (lv_room (Nat.le_of_ble_eq_true rfl)) dX9_searchTurns_122 ⟨Nat.zero_le _, Nat.zero_le _⟩) hS qa_18 (fun H_122 locs_122 hB_122 _ hk_122 hS => ?_)
      have hP : va_P D vwCl (csQ ct A (va_up (va_up (va_up (va_up xz 6 (oA (xz 6) 11 r_65)) 6 (oA ((va_up xz 6 (oA (xz 6) 11 r_65)) 6) 12 r_78)) 12 r_95) 18 r_122)) H_122 := qj_18 hP (hDW (va_up (va_up (va_up xz 6 (oA (xz 6) 11 r_65)) 6 (oA ((va_up xz 6 (oA (xz 6) 11 r_65)) 6) 12 r_78)) 12 r_95)) hk_122 hB_122
      refine lv_iinc (v := (v6 + 1)) (lv' := [(6, .int (v6 + 1)), (0, .ref (A 0)), (2, .int v2), (3, .int v3), (4, .ref (A (98 + 2 * j_9))), (5, .int v5)]) hx hb dX9_searchTurns_125 hl (k := 5) rfl rfl (by decide) rfl (fun ls hl => ?_)
      refine lv_goto (tgt := 48) hx hb dX9_searchTurns_128 (by decide) ?_
      exact ih (va_up (va_up (va_up (va_up xz 6 (oA (xz 6) 11 r_65)) 6 (oA ((va_up xz 6 (oA (xz 6) 11 r_65)) 6) 12 r_78)) 12 r_95) 18 r_122) j_9 v2 v3 v5 (v6 + 1) hj_9 _ _ _ hP hS (lv_sub hl [1, 2, 3, 4, 5, 0] rfl) hf k131
  have hL38 : ∀ (n : Nat) (xz : Nat → Ob) (j_9 : Nat) (v2 : Int32) (v3 : Int32) (v5 : Int32), ∀ (hj_9 : j_9 < 4) (H : Heap) (locs : List Loc) (ls : Array Slot), va_P D vwCl (csQ ct A xz) H → va_S (wA (csQ ct A x)) s.heap H locs → lv_has ls 7 [(0, .ref (A 0)), (2, .int v2), (3, .int v3), (4, .ref (A (98 + 2 * j_9))), (5, .int v5)] → p_X9_searchTurns_L38 fu  n xz j_9 v2 v3 v5 = some r → W p l e rm_X9_searchTurns s m args below meth c H locs 0 0 QQ (F0 m 38 ls []) := by
    intro  n
    induction n with
    | zero =>
      intro xz j_9 v2 v3 v5 hj_9 H locs ls hP hS hl hf 
      rw [p_X9_searchTurns_L38] at hf
      cases hf
    | succ n ih =>
      intro xz j_9 v2 v3 v5 hj_9 H locs ls hP hS hl hf 
      rw [p_X9_searchTurns_L38] at hf
      refine lv_iload hx hb dX9_searchTurns_38 (lv_at hl 4 rfl) ?_
      refine lv_bipush (v := 9) hx hb dX9_searchTurns_40 (by decide) ?_
      refine lv_icmp_gt (tgt := 137) hx hb dX9_searchTurns_42 (by decide) (fun c_42 => ?_) (fun c_42 => ?_)
      · rw [if_pos c_42] at hf
        refine lv_aload_n hx hb dX9_searchTurns_137 rfl (lv_at hl 0 rfl) ?_
        refine va_get (D := D) (ci := 9) (v := .ref (A 106)) (C := RX9) (T := TX9) (N := 14) hx hb htl inlX9 hown hK hP 0 qh_0 rfl 11 (by decide) (htl _ wq_2_19) (fun _ h9 => h9) rfl dX9_searchTurns_138 ?_
        rw [← hQQ]
        cases hf
        exact rw_a hx hb hr hlocks hP hS dX9_searchTurns_141
      rw [if_neg c_42] at hf
      refine lv_iconst (v := 0) hx hb dX9_searchTurns_45 (by decide) ?_
      refine lv_istore (lv' := [(6, .int 0), (0, .ref (A 0)), (2, .int v2), (3, .int v3), (4, .ref (A (98 + 2 * j_9))), (5, .int v5)]) hx hb dX9_searchTurns_46 hl (by decide) rfl (fun ls hl => ?_)
      refine hL48 _ fu xz j_9 v2 v3 v5 0 hj_9 _ _ _ hP hS (lv_sub hl [1, 2, 3, 4, 5, 0] rfl) hf (fun xz j_9 v2 v3 v5 hj_9 H locs ls hP hS hl hf => ?_)
      refine lv_iinc (v := (v5 + 1)) (lv' := [(5, .int (v5 + 1)), (0, .ref (A 0)), (2, .int v2), (3, .int v3), (4, .ref (A (98 + 2 * j_9)))]) hx hb dX9_searchTurns_131 hl (k := 4) rfl rfl (by decide) rfl (fun ls hl => ?_)
      refine lv_goto (tgt := 38) hx hb dX9_searchTurns_134 (by decide) ?_
      exact ih xz j_9 v2 v3 (v5 + 1) hj_9 _ _ _ hP hS (lv_sub hl [1, 2, 3, 4, 0] rfl) hf 
  rw [p_X9_searchTurns] at hf
  refine lv_aload_n hx hb dX9_searchTurns_0 rfl (lv_at hl 0 rfl) ?_
  refine va_get (D := D) (ci := 9) (v := .ref (A 106)) (C := RX9) (T := TX9) (N := 14) hx hb htl inlX9 hown hK hP 0 qh_0 rfl 11 (by decide) (htl _ wq_2_19) (fun _ h9 => h9) rfl dX9_searchTurns_1 ?_
  obtain ⟨r_4, e_4, hf⟩ := ob_bind hf
  have hPX_4 : va_P D vwCl (cs4 ct (fun i => A (106 + i)) (x 18)) s.heap := (qs_18 hP)
  refine wr_call0 (va_runVN (As := []) (rest := []) ⟨hx, hb, hml, hown, htl⟩ (c_X4_clear l D ct G (fun i => A (106 + i)) fu (x 18) e_4 ((hDx x).sub (ws' := cs4 ct (fun i => A (106 + i)) (x 18)) [106, 107] (by decide) rfl)) (cw_X9_X4_clear htl hN ⟨Nat.le_of_ble_eq_true rfl, Nat.le_of_ble_eq_true rfl⟩) ⟨Bx_blind, va_recv hK hPX_4 (ci := 4) (q0 := 0) rfl rfl, Bx_pre hPX_4 hK hN (hX.stay hS hGE)⟩ rfl rfl hl.1 rfl (lv_room (Nat.le_of_ble_eq_true rfl)) dX9_searchTurns_4 ⟨Nat.zero_le _, Nat.zero_le _⟩) hS qa_18 (fun H_4 locs_4 hB_4 _ hk_4 hS => ?_)
  have hP : va_P D vwCl (csQ ct A (va_up x 18 r_4)) H_4 := qj_18 hP (hDW x) hk_4 hB_4
  refine lv_aload_n hx hb dX9_searchTurns_7 rfl (lv_at hl 0 rfl) ?_
  refine lv_iload_n hx hb dX9_searchTurns_8 rfl (lv_at hl 1 rfl) ?_
  obtain ⟨r_9, e_9, hf⟩ := ob_bind hf
  rcases ob_case hf with ⟨er_9, hf⟩ | ⟨j_9, er_9, hf⟩
  · subst er_9
    have hPX_9 : va_P D vwCl (csQ ct A (va_up x 18 r_4)) H_4 := hP
    refine ro_call1 (va_runV (As := [.int v1]) (rest := []) ⟨hx, hb, hml, hown, htl⟩ (c_X9_rowOf l D ct G A fu (va_up x 18 r_4) v1 e_9) (cw_X9_X9_rowOf htl ⟨Nat.le_of_ble_eq_true rfl, Nat.le_of_ble_eq_true rfl⟩) ⟨Bx_blind, va_recv hK hPX_9 (ci := 9) (q0 := 0) rfl rfl, Bx_pre hPX_9 hK hN (hX.stay hS hGE)⟩ rfl rfl hl.1 rfl (lv_room (Nat.le_of_ble_eq_true rfl)) dX9_searchTurns_9 ⟨Nat.zero_le _, Nat.zero_le _⟩) ?_
    refine W.eq (g2 := F0 m 12 ls [.null]) rfl ?_
    refine lv_astoreN (lv' := [(4, .null), (0, .ref (A 0)), (1, .int v1), (2, .int v2), (3, .int v3)]) hx hb dX9_searchTurns_12 hl (by decide) rfl (fun ls hl => ?_)
    refine lv_aloadN hx hb dX9_searchTurns_14 (lv_at hl 0 rfl) ?_
    refine lv_ifnonnullN hx hb dX9_searchTurns_16 ?_
    refine lv_aload_n hx hb dX9_searchTurns_19 rfl (lv_at hl 1 rfl) ?_
    refine va_get (D := D) (ci := 9) (v := .ref (A 106)) (C := RX9) (T := TX9) (N := 14) hx hb htl inlX9 hown hK hP 0 qh_0 rfl 11 (by decide) (htl _ wq_2_19) (fun _ h9 => h9) rfl dX9_searchTurns_20 ?_
    rw [← hQQ]
    cases hf
    exact rw_a hx hb hr hlocks hP hS dX9_searchTurns_23
  subst er_9
  obtain ⟨hj_9, hf⟩ := ob_lt hf
  have hPX_9 : va_P D vwCl (csQ ct A (va_up x 18 r_4)) H_4 := hP
  refine ro_call1 (va_runV (As := [.int v1]) (rest := []) ⟨hx, hb, hml, hown, htl⟩ (c_X9_rowOf l D ct G A fu (va_up x 18 r_4) v1 e_9) (cw_X9_X9_rowOf htl ⟨Nat.le_of_ble_eq_true rfl, Nat.le_of_ble_eq_true rfl⟩) ⟨Bx_blind, va_recv hK hPX_9 (ci := 9) (q0 := 0) rfl rfl, Bx_pre hPX_9 hK hN (hX.stay hS hGE)⟩ rfl rfl hl.1 rfl (lv_room (Nat.le_of_ble_eq_true rfl)) dX9_searchTurns_9 ⟨Nat.zero_le _, Nat.zero_le _⟩) ?_
  refine W.eq (g2 := F0 m 12 ls [.ref (A (98 + 2 * j_9))]) rfl ?_
  refine lv_astore (lv' := [(4, .ref (A (98 + 2 * j_9))), (0, .ref (A 0)), (1, .int v1), (2, .int v2), (3, .int v3)]) hx hb dX9_searchTurns_12 hl (by decide) rfl (fun ls hl => ?_)
  refine lv_aload hx hb dX9_searchTurns_14 (lv_at hl 0 rfl) ?_
  refine lv_ifnonnull (tgt := 24) hx hb dX9_searchTurns_16 (by decide) ?_
  refine lv_aload_n hx hb dX9_searchTurns_24 rfl (lv_at hl 1 rfl) ?_
  refine va_get (D := D) (ci := 9) (v := .ref (A 34)) (C := RX9) (T := TX9) (N := 14) hx hb htl inlX9 hown hK hP 0 qh_0 rfl 3 (by decide) (htl _ wq_2_1) (fun _ h9 => h9) rfl dX9_searchTurns_25 ?_
  refine lv_aload_n hx hb dX9_searchTurns_28 rfl (lv_at hl 1 rfl) ?_
  refine va_get (D := D) (ci := 9) (v := .ref (A 21)) (C := RX9) (T := TX9) (N := 14) hx hb htl inlX9 hown hK hP 0 qh_0 rfl 2 (by decide) (htl _ wq_2_0) (fun _ h9 => h9) rfl dX9_searchTurns_29 ?_
  obtain ⟨r_32, e_32, hf⟩ := ob_bind hf
  have hPX_32 : va_P D vwCl (cs2 ct (fun i => A (34 + i)) ((va_up x 18 r_4) 6) ++ (cs2 ct (fun i => A (21 + i)) ((va_up x 18 r_4) 5))) H_4 := (va_P.app (qs_6 hP) (qs_5 hP))
  refine wr_call0 (va_runVN (As := [.ref (A 21)]) (rest := []) ⟨hx, hb, hml, hown, htl⟩ (c_X2_become l D ct G (fun i => A (34 + i)) (fun i => A (21 + i)) fu ((va_up x 18 r_4) 6) ((va_up x 18 r_4) 5) e_32 ((hDx (va_up x 18 r_4)).sub (ws' := cs2 ct (fun i => A (34 + i)) ((va_up x 18 r_4) 6) ++ (cs2 ct (fun i => A (21 + i)) ((va_up x 18 r_4) 5))) [34, 35, 36, 37, 38, 39, 40, 41, 42, 43, 44, 45, 46, 21, 22, 23, 24, 25, 26, 27, 28, 29, 30, 31, 32, 33] (by decide) rfl)) (cw_X9_X2_become htl hN ⟨Nat.le_of_ble_eq_true rfl, Nat.le_of_ble_eq_true rfl⟩) ⟨Bx_blind, va_recv hK hPX_32 (ci := 2) (q0 := 0) rfl rfl, Bx_pre hPX_32 hK hN (hX.stay hS hGE)⟩ rfl rfl hl.1 rfl (lv_room (Nat.le_of_ble_eq_true rfl)) dX9_searchTurns_32 ⟨Nat.zero_le _, Nat.zero_le _⟩) hS qa_6 (fun H_32 locs_32 hB_32 _ hk_32 hS => ?_)
  have hP : va_P D vwCl (csQ ct A (va_up (va_up x 18 r_4) 6 r_32)) H_32 := qj_6 hP (hDW (va_up x 18 r_4)) hk_32 hB_32
  refine lv_iconst (v := 1) hx hb dX9_searchTurns_35 (by decide) ?_
  refine lv_istore (lv' := [(5, .int 1), (4, .ref (A (98 + 2 * j_9))), (0, .ref (A 0)), (1, .int v1), (2, .int v2), (3, .int v3)]) hx hb dX9_searchTurns_36 hl (by decide) rfl (fun ls hl => ?_)
  exact hL38 fu (va_up (va_up x 18 r_4) 6 r_32) j_9 v2 v3 1 hj_9 _ _ _ hP hS (lv_sub hl [2, 4, 5, 1, 0] rfl) hf 
theorem c_X9_searchTurns (l : Launch) (D : va_G) (ct : Nat → ClassId) (G : GT) (A : Nat → Nat) (fu : Nat) (x : Nat → Ob) (v1 : Int32) (v2 : Int32) (v3 : Int32) {r : (Nat → Ob)} (hf : p_X9_searchTurns fu x v1 v2 v3 = some r)  (hDx : ∀ x : Nat → Ob, va_D (GE G) (csQ ct A x)) : Met l yX9_searchTurns (.code yX9_searchTurns cX9_searchTurns 7 (some (.object "QuotedRiver$Sources")) :: wsL_law) rm_X9_searchTurns (va_Pc [.ref (A 0), .int v1, .int v2, .int v3] (Bx D ct G (csQ ct A x))) (Qwr (some (.ref (A 106))) (fun H => va_P D vwCl (csQ ct A r) H) (wA (csQ ct A x))) 0 0 (wA (csQ ct A x)) := by
  refine Met.ofW (cc := cX9_searchTurns) (maxL := 7) (ret := (some (.object "QuotedRiver$Sources"))) (by decide) rfl ?_
  intro p e s m args below meth c s₁ B hml hv
  obtain ⟨rfl, hP, hK, hN, hX⟩ := hv
  have hts := atoms_spec (ws := .code yX9_searchTurns cX9_searchTurns 7 (some (.object "QuotedRiver$Sources")) :: wsL_law) B.pre
  rw [lg_entry_eq]
  exact b_X9_searchTurns A fu x v1 v2 v3 B.exec B.bytes B.returns hml (findClass_of_methodNamed B.named) (fun w h => hts w (List.mem_cons_of_mem _ h)) B.notSynchronized hK hN hX hP hf hDx  (lv_entry [.ref (A 0), .int v1, .int v2, .int v3] (n := 7) (Nat.le_of_ble_eq_true rfl))
theorem hd_X9_refuseTurn : yX9_refuseTurn.cls ≠ "java/lang/invoke/MethodHandle" ∧ yX9_refuseTurn.cls ≠ "java/lang/invoke/VarHandle" ∧ (parseMethodDescriptor yX9_refuseTurn.desc).map (fun d => d.parameters.length) = some 3 := by decide +kernel
theorem cw_X9_X9_refuseTurn {R : Room} {s : State} {args : Array Value} (ht : ∀ w ∈ wsL_law, w.before args s = true) (hR : rm_X9_refuseTurn.frames + 1 ≤ R.frames ∧ 8 + (4 + 11) + rm_X9_refuseTurn.locals ≤ R.locals) : CallW R s args RX9 RX9 310 yX9_refuseTurn cX9_refuseTurn 4 (some .int) ((.code yX9_refuseTurn cX9_refuseTurn 4 (some .int)) :: wsL_law) rm_X9_refuseTurn 0 0 3 := cwV 3 ht (GV wq_51_13 wq_51_14 wq_51_15 wq_1_2 wq_51_16) rfl rfl rfl ⟨rfl, hd_X9_refuseTurn⟩ hR
theorem hd_X9_searchTurns : yX9_searchTurns.cls ≠ "java/lang/invoke/MethodHandle" ∧ yX9_searchTurns.cls ≠ "java/lang/invoke/VarHandle" ∧ (parseMethodDescriptor yX9_searchTurns.desc).map (fun d => d.parameters.length) = some 3 := by decide +kernel
theorem cw_X9_X9_searchTurns {R : Room} {s : State} {args : Array Value} (ht : ∀ w ∈ wsL_law, w.before args s = true) (hR : rm_X9_searchTurns.frames + 1 ≤ R.frames ∧ 8 + (7 + 11) + rm_X9_searchTurns.locals ≤ R.locals) : CallW R s args RX9 RX9 313 yX9_searchTurns cX9_searchTurns 7 (some (.object "QuotedRiver$Sources")) ((.code yX9_searchTurns cX9_searchTurns 7 (some (.object "QuotedRiver$Sources"))) :: wsL_law) rm_X9_searchTurns 0 0 3 := cwV 3 ht (GV wq_51_17 wq_51_18 wq_51_19 wq_1_2 wq_51_20) rfl rfl rfl ⟨rfl, hd_X9_searchTurns⟩ hR
def p_X9_turn (fu : Nat) (x : Nat → Ob) (v1 : Int32) (v2 : Int32) (v3 : Int32) : Option (Int32 × (Nat → Ob)) :=
  (p_X9_refuseTurn fu x v1 v2 v3).bind fun r_4 => if r_4 = 0 then (p_X9_searchTurns fu x v1 v2 v3).bind fun r_23 => some (((r_23 18).1 0 0), r_23) else some (r_4, x)
abbrev rm_X9_turn : Room := { frames := 5, cells := 0, slots := 0, locals := 123 }
set_option maxHeartbeats 4000000 in
set_option maxRecDepth 100000 in
theorem b_X9_turn {p : Program} {l : Launch} {e : Env} {s : State} {m : MethodId} {args : Array Value} {below : List Frame} {meth : Method} {c : Code} {ls : Array Slot} {D : va_G} {ct : Nat → ClassId} {G : GT} (A : Nat → Nat) (fu : Nat) (x : Nat → Ob) (v1 : Int32) (v2 : Int32) (v3 : Int32) {r : Int32 × (Nat → Ob)} (hx : p.tables.exec = Jvm.exec) (hb : c.code = cX9_turn) (hr : meth.sig.returnType = (some .int)) (hml : c.maxLocals = 5) (hown : s.vm.findClass RX9 = some m.cls) (htl : ∀ w ∈ wsL_law, w.before args s = true) (hlocks : meth.locks = false) (hK : va_K D vwCl (tyl ct) s) (hN : ∀ w ∈ NW, va_Nw w s) (hX : SX G s s.heap) (hP0 : va_P D vwCl (csQ ct A x) s.heap) (hf : p_X9_turn fu x v1 v2 v3 = some r) (hDx : ∀ x : Nat → Ob, va_D (GE G) (csQ ct A x))  (hl : lv_has ls 5 [(0, .ref (A 0)), (1, .int v1), (2, .int v2), (3, .int v3)]) : W p l e rm_X9_turn s m args below meth c s.heap [] 0 0 (MQ below (Qwr (some (.int r.1)) (fun H => va_P D vwCl (csQ ct A r.2) H) (wA (csQ ct A x))) args s 0 0 (wA (csQ ct A x))) (F0 m 0 ls []) := by
  generalize hQQ : MQ below (Qwr (some (.int r.1)) (fun H => va_P D vwCl (csQ ct A r.2) H) (wA (csQ ct A x))) args s 0 0 (wA (csQ ct A x)) = QQ
  have hDW : ∀ x1 : Nat → Ob, va_D (wA (csQ ct A x)) (csQ ct A x1) := fun x1 => D_any (D_self (hDx x1)) (wA_Q x1 x)
  have hGE : ∀ q, wA (csQ ct A x) q → GE G q := wA_GE (hDx x)
  have hP := hP0
  have hS : va_S (wA (csQ ct A x)) s.heap s.heap [] := va_S.rf
  rw [p_X9_turn] at hf
  refine lv_aload_n hx hb dX9_turn_0 rfl (lv_at hl 0 rfl) ?_
  refine lv_iload_n hx hb dX9_turn_1 rfl (lv_at hl 1 rfl) ?_
  refine lv_iload_n hx hb dX9_turn_2 rfl (lv_at hl 2 rfl) ?_
  refine lv_iload_n hx hb dX9_turn_3 rfl (lv_at hl 3 rfl) ?_
  obtain ⟨r_4, e_4, hf⟩ := ob_bind hf
  have hPX_4 : va_P D vwCl (csQ ct A x) s.heap := hP
  refine ro_call1 (va_runV (As := [.int v1, .int v2, .int v3]) (rest := []) ⟨hx, hb, hml, hown, htl⟩ (c_X9_refuseTurn l D ct G A fu x v1 v2 v3 e_4) (cw_X9_X9_refuseTurn htl ⟨Nat.le_of_ble_eq_true rfl, Nat.le_of_ble_eq_true rfl⟩) ⟨Bx_blind, va_recv hK hPX_4 (ci := 9) (q0 := 0) rfl rfl, Bx_pre hPX_4 hK hN (hX.stay hS hGE)⟩ rfl rfl hl.1 rfl (lv_room (Nat.le_of_ble_eq_true rfl)) dX9_turn_4 ⟨Nat.zero_le _, Nat.zero_le _⟩) ?_
  refine lv_istore (lv' := [(4, .int r_4), (0, .ref (A 0)), (1, .int v1), (2, .int v2), (3, .int v3)]) hx hb dX9_turn_7 hl (by decide) rfl (fun ls hl => ?_)
  refine lv_iload hx hb dX9_turn_9 (lv_at hl 0 rfl) ?_
  refine lv_if_eq (tgt := 19) hx hb dX9_turn_11 (by decide) (fun c_11 => ?_) (fun c_11 => ?_)
  rotate_left 1
  · rw [if_neg c_11] at hf
    refine lv_iload hx hb dX9_turn_14 (lv_at hl 0 rfl) ?_
    refine lv_goto (tgt := 29) hx hb dX9_turn_16 (by decide) ?_
    rw [← hQQ]
    cases hf
    exact rw_i hx hb hr hlocks hP hS dX9_turn_29
  rw [if_pos c_11] at hf
  refine lv_aload_n hx hb dX9_turn_19 rfl (lv_at hl 1 rfl) ?_
  refine lv_iload_n hx hb dX9_turn_20 rfl (lv_at hl 2 rfl) ?_
  refine lv_iload_n hx hb dX9_turn_21 rfl (lv_at hl 3 rfl) ?_
  refine lv_iload_n hx hb dX9_turn_22 rfl (lv_at hl 4 rfl) ?_
  obtain ⟨r_23, e_23, hf⟩ := ob_bind hf
  have hPX_23 : va_P D vwCl (csQ ct A x) s.heap := hP
  refine wr_call1 (va_runV (As := [.int v1, .int v2, .int v3]) (rest := []) ⟨hx, hb, hml, hown, htl⟩ (c_X9_searchTurns l D ct G A fu x v1 v2 v3 e_23 hDx) (cw_X9_X9_searchTurns htl ⟨Nat.le_of_ble_eq_true rfl, Nat.le_of_ble_eq_true rfl⟩) ⟨Bx_blind, va_recv hK hPX_23 (ci := 9) (q0 := 0) rfl rfl, Bx_pre hPX_23 hK hN (hX.stay hS hGE)⟩ rfl rfl hl.1 rfl (lv_room (Nat.le_of_ble_eq_true rfl)) dX9_turn_23 ⟨Nat.zero_le _, Nat.zero_le _⟩) hS (wA_Q _ _) (fun H_23 locs_23 hB_23 _ hk_23 hS => ?_)
  have hP : va_P D vwCl (csQ ct A r_23) H_23 := hB_23
  refine va_getN (D := D) (ci := 4) (v := .int ((r_23 18).1 0 0)) (C := RX4) (T := TX4) (N := 4) hx hb htl inlX4 hown hK hP 106 qh_18 rfl 0 (by decide) (va_Nw.use rfl (hN _ nm_27)) (fun _ h9 => h9) rfl dX9_turn_26 ?_
  rw [← hQQ]
  cases hf
  exact rw_i hx hb hr hlocks hP hS dX9_turn_29
theorem c_X9_turn (l : Launch) (D : va_G) (ct : Nat → ClassId) (G : GT) (A : Nat → Nat) (fu : Nat) (x : Nat → Ob) (v1 : Int32) (v2 : Int32) (v3 : Int32) {r : Int32 × (Nat → Ob)} (hf : p_X9_turn fu x v1 v2 v3 = some r)  (hDx : ∀ x : Nat → Ob, va_D (GE G) (csQ ct A x)) : Met l yX9_turn (.code yX9_turn cX9_turn 5 (some .int) :: wsL_law) rm_X9_turn (va_Pc [.ref (A 0), .int v1, .int v2, .int v3] (Bx D ct G (csQ ct A x))) (Qwr (some (.int r.1)) (fun H => va_P D vwCl (csQ ct A r.2) H) (wA (csQ ct A x))) 0 0 (wA (csQ ct A x)) := by
  refine Met.ofW (cc := cX9_turn) (maxL := 5) (ret := (some .int)) (by decide) rfl ?_
  intro p e s m args below meth c s₁ B hml hv
  obtain ⟨rfl, hP, hK, hN, hX⟩ := hv
  have hts := atoms_spec (ws := .code yX9_turn cX9_turn 5 (some .int) :: wsL_law) B.pre
  rw [lg_entry_eq]
  exact b_X9_turn A fu x v1 v2 v3 B.exec B.bytes B.returns hml (findClass_of_methodNamed B.named) (fun w h => hts w (List.mem_cons_of_mem _ h)) B.notSynchronized hK hN hX hP hf hDx  (lv_entry [.ref (A 0), .int v1, .int v2, .int v3] (n := 5) (Nat.le_of_ble_eq_true rfl))
def p_X9_turned (fu : Nat) (x : Nat → Ob) (v1 : Int32) (v2 : Int32) (v3 : Int32) : Option (Int32 × (Nat → Ob)) :=
  (p_X9_refuseTurn fu x v1 v2 v3).bind fun r_4 => if r_4 = 0 then (p_X9_searchTurns fu x v1 v2 v3).bind fun r_23 => some (((r_23 18).1 2 0), r_23) else some (r_4, x)
abbrev rm_X9_turned : Room := { frames := 5, cells := 0, slots := 0, locals := 123 }
set_option maxHeartbeats 4000000 in
set_option maxRecDepth 100000 in
theorem b_X9_turned {p : Program} {l : Launch} {e : Env} {s : State} {m : MethodId} {args : Array Value} {below : List Frame} {meth : Method} {c : Code} {ls : Array Slot} {D : va_G} {ct : Nat → ClassId} {G : GT} (A : Nat → Nat) (fu : Nat) (x : Nat → Ob) (v1 : Int32) (v2 : Int32) (v3 : Int32) {r : Int32 × (Nat → Ob)} (hx : p.tables.exec = Jvm.exec) (hb : c.code = cX9_turned) (hr : meth.sig.returnType = (some .int)) (hml : c.maxLocals = 5) (hown : s.vm.findClass RX9 = some m.cls) (htl : ∀ w ∈ wsL_law, w.before args s = true) (hlocks : meth.locks = false) (hK : va_K D vwCl (tyl ct) s) (hN : ∀ w ∈ NW, va_Nw w s) (hX : SX G s s.heap) (hP0 : va_P D vwCl (csQ ct A x) s.heap) (hf : p_X9_turned fu x v1 v2 v3 = some r) (hDx : ∀ x : Nat → Ob, va_D (GE G) (csQ ct A x))  (hl : lv_has ls 5 [(0, .ref (A 0)), (1, .int v1), (2, .int v2), (3, .int v3)]) : W p l e rm_X9_turned s m args below meth c s.heap [] 0 0 (MQ below (Qwr (some (.int r.1)) (fun H => va_P D vwCl (csQ ct A r.2) H) (wA (csQ ct A x))) args s 0 0 (wA (csQ ct A x))) (F0 m 0 ls []) := by
  generalize hQQ : MQ below (Qwr (some (.int r.1)) (fun H => va_P D vwCl (csQ ct A r.2) H) (wA (csQ ct A x))) args s 0 0 (wA (csQ ct A x)) = QQ
  have hDW : ∀ x1 : Nat → Ob, va_D (wA (csQ ct A x)) (csQ ct A x1) := fun x1 => D_any (D_self (hDx x1)) (wA_Q x1 x)
  have hGE : ∀ q, wA (csQ ct A x) q → GE G q := wA_GE (hDx x)
  have hP := hP0
  have hS : va_S (wA (csQ ct A x)) s.heap s.heap [] := va_S.rf
  rw [p_X9_turned] at hf
  refine lv_aload_n hx hb dX9_turned_0 rfl (lv_at hl 0 rfl) ?_
  refine lv_iload_n hx hb dX9_turned_1 rfl (lv_at hl 1 rfl) ?_
  refine lv_iload_n hx hb dX9_turned_2 rfl (lv_at hl 2 rfl) ?_
  refine lv_iload_n hx hb dX9_turned_3 rfl (lv_at hl 3 rfl) ?_
  obtain ⟨r_4, e_4, hf⟩ := ob_bind hf
  have hPX_4 : va_P D vwCl (csQ ct A x) s.heap := hP
  refine ro_call1 (va_runV (As := [.int v1, .int v2, .int v3]) (rest := []) ⟨hx, hb, hml, hown, htl⟩ (c_X9_refuseTurn l D ct G A fu x v1 v2 v3 e_4) (cw_X9_X9_refuseTurn htl ⟨Nat.le_of_ble_eq_true rfl, Nat.le_of_ble_eq_true rfl⟩) ⟨Bx_blind, va_recv hK hPX_4 (ci := 9) (q0 := 0) rfl rfl, Bx_pre hPX_4 hK hN (hX.stay hS hGE)⟩ rfl rfl hl.1 rfl (lv_room (Nat.le_of_ble_eq_true rfl)) dX9_turned_4 ⟨Nat.zero_le _, Nat.zero_le _⟩) ?_
  refine lv_istore (lv' := [(4, .int r_4), (0, .ref (A 0)), (1, .int v1), (2, .int v2), (3, .int v3)]) hx hb dX9_turned_7 hl (by decide) rfl (fun ls hl => ?_)
  refine lv_iload hx hb dX9_turned_9 (lv_at hl 0 rfl) ?_
  refine lv_if_eq (tgt := 19) hx hb dX9_turned_11 (by decide) (fun c_11 => ?_) (fun c_11 => ?_)
  rotate_left 1
  · rw [if_neg c_11] at hf
    refine lv_iload hx hb dX9_turned_14 (lv_at hl 0 rfl) ?_
    refine lv_goto (tgt := 29) hx hb dX9_turned_16 (by decide) ?_
    rw [← hQQ]
    cases hf
    exact rw_i hx hb hr hlocks hP hS dX9_turned_29
  rw [if_pos c_11] at hf
  refine lv_aload_n hx hb dX9_turned_19 rfl (lv_at hl 1 rfl) ?_
  refine lv_iload_n hx hb dX9_turned_20 rfl (lv_at hl 2 rfl) ?_
  refine lv_iload_n hx hb dX9_turned_21 rfl (lv_at hl 3 rfl) ?_
  refine lv_iload_n hx hb dX9_turned_22 rfl (lv_at hl 4 rfl) ?_
  obtain ⟨r_23, e_23, hf⟩ := ob_bind hf
  have hPX_23 : va_P D vwCl (csQ ct A x) s.heap := hP
  refine wr_call1 (va_runV (As := [.int v1, .int v2, .int v3]) (rest := []) ⟨hx, hb, hml, hown, htl⟩ (c_X9_searchTurns l D ct G A fu x v1 v2 v3 e_23 hDx) (cw_X9_X9_searchTurns htl ⟨Nat.le_of_ble_eq_true rfl, Nat.le_of_ble_eq_true rfl⟩) ⟨Bx_blind, va_recv hK hPX_23 (ci := 9) (q0 := 0) rfl rfl, Bx_pre hPX_23 hK hN (hX.stay hS hGE)⟩ rfl rfl hl.1 rfl (lv_room (Nat.le_of_ble_eq_true rfl)) dX9_turned_23 ⟨Nat.zero_le _, Nat.zero_le _⟩) hS (wA_Q _ _) (fun H_23 locs_23 hB_23 _ hk_23 hS => ?_)
  have hP : va_P D vwCl (csQ ct A r_23) H_23 := hB_23
  refine va_getN (D := D) (ci := 4) (v := .int ((r_23 18).1 2 0)) (C := RX4) (T := TX4) (N := 4) hx hb htl inlX4 hown hK hP 106 qh_18 rfl 2 (by decide) (va_Nw.use rfl (hN _ nm_29)) (fun _ h9 => h9) rfl dX9_turned_26 ?_
  rw [← hQQ]
  cases hf
  exact rw_i hx hb hr hlocks hP hS dX9_turned_29
theorem c_X9_turned (l : Launch) (D : va_G) (ct : Nat → ClassId) (G : GT) (A : Nat → Nat) (fu : Nat) (x : Nat → Ob) (v1 : Int32) (v2 : Int32) (v3 : Int32) {r : Int32 × (Nat → Ob)} (hf : p_X9_turned fu x v1 v2 v3 = some r)  (hDx : ∀ x : Nat → Ob, va_D (GE G) (csQ ct A x)) : Met l yX9_turned (.code yX9_turned cX9_turned 5 (some .int) :: wsL_law) rm_X9_turned (va_Pc [.ref (A 0), .int v1, .int v2, .int v3] (Bx D ct G (csQ ct A x))) (Qwr (some (.int r.1)) (fun H => va_P D vwCl (csQ ct A r.2) H) (wA (csQ ct A x))) 0 0 (wA (csQ ct A x)) := by
  refine Met.ofW (cc := cX9_turned) (maxL := 5) (ret := (some .int)) (by decide) rfl ?_
  intro p e s m args below meth c s₁ B hml hv
  obtain ⟨rfl, hP, hK, hN, hX⟩ := hv
  have hts := atoms_spec (ws := .code yX9_turned cX9_turned 5 (some .int) :: wsL_law) B.pre
  rw [lg_entry_eq]
  exact b_X9_turned A fu x v1 v2 v3 B.exec B.bytes B.returns hml (findClass_of_methodNamed B.named) (fun w h => hts w (List.mem_cons_of_mem _ h)) B.notSynchronized hK hN hX hP hf hDx  (lv_entry [.ref (A 0), .int v1, .int v2, .int v3] (n := 5) (Nat.le_of_ble_eq_true rfl))
theorem hd_X9_isLetOut : yX9_isLetOut.cls ≠ "java/lang/invoke/MethodHandle" ∧ yX9_isLetOut.cls ≠ "java/lang/invoke/VarHandle" ∧ (parseMethodDescriptor yX9_isLetOut.desc).map (fun d => d.parameters.length) = some 1 := by decide +kernel
theorem cw_X9_X9_isLetOut {R : Room} {s : State} {args : Array Value} (ht : ∀ w ∈ wsL_law, w.before args s = true) (hR : rm_X9_isLetOut.frames + 1 ≤ R.frames ∧ 8 + (1 + 11) + rm_X9_isLetOut.locals ≤ R.locals) : CallB R s args RX9 317 yX9_isLetOut cX9_isLetOut 1 (some .boolean) ((.code yX9_isLetOut cX9_isLetOut 1 (some .boolean)) :: wsL_law) rm_X9_isLetOut 0 0 1 ∧ (Cond.static yX9_isLetOut).before args s = true := va_cwS 1 ht (GS wq_40_21 wq_40_22 wq_1_2 wq_40_23) rfl rfl rfl hd_X9_isLetOut hR
def p_X9_answer (fu : Nat) (x : Nat → Ob) (v1 : Int32) : Option (Int32) :=
  (p_X9_isLetOut fu v1).bind fun r_1 => if r_1 = 0 then some ((-2) : Int32) else (p_X9_bestAnswer fu v1).bind fun r_8 => some r_8
abbrev rm_X9_answer : Room := { frames := 2, cells := 0, slots := 0, locals := 43 }
set_option maxHeartbeats 4000000 in
set_option maxRecDepth 100000 in
theorem b_X9_answer {p : Program} {l : Launch} {e : Env} {s : State} {m : MethodId} {args : Array Value} {below : List Frame} {meth : Method} {c : Code} {ls : Array Slot} {D : va_G} {ct : Nat → ClassId} {G : GT} (A : Nat → Nat) (fu : Nat) (x : Nat → Ob) (v1 : Int32) {r : Int32} (hx : p.tables.exec = Jvm.exec) (hb : c.code = cX9_answer) (hr : meth.sig.returnType = (some .int)) (hml : c.maxLocals = 2) (hown : s.vm.findClass RX9 = some m.cls) (htl : ∀ w ∈ wsL_law, w.before args s = true) (hlocks : meth.locks = false) (hK : va_K D vwCl (tyl ct) s) (hN : ∀ w ∈ NW, va_Nw w s) (hX : SX G s s.heap) (hP0 : va_P D vwCl (csQ ct A x) s.heap) (hf : p_X9_answer fu x v1 = some r)  (hl : lv_has ls 2 [(0, .ref (A 0)), (1, .int v1)]) : W p l e rm_X9_answer s m args below meth c s.heap [] 0 0 (MQ below (Qro (some (.int r))) args s 0 0 (fun _ => False)) (F0 m 0 ls []) := by
  generalize hQQ : MQ below (Qro (some (.int r))) args s 0 0 (fun _ => False) = QQ
  have hP := hP0
  rw [p_X9_answer] at hf
  refine lv_iload_n hx hb dX9_answer_0 rfl (lv_at hl 1 rfl) ?_
  obtain ⟨r_1, e_1, hf⟩ := ob_bind hf
  have hPX_1 : va_P D vwCl ([]) s.heap := P_nil
  refine ro_call1 (va_runS (As := [.int v1]) (rest := []) ⟨hx, hb, hml, hown, htl⟩ (c_X9_isLetOut l D ct G fu v1 e_1) (cw_X9_X9_isLetOut htl ⟨Nat.le_of_ble_eq_true rfl, Nat.le_of_ble_eq_true rfl⟩) ⟨Bx_blind, Bx_pre hPX_1 hK hN hX⟩ rfl rfl hl.1 rfl (lv_room (Nat.le_of_ble_eq_true rfl)) dX9_answer_1 ⟨Nat.zero_le _, Nat.zero_le _⟩) ?_
  refine lv_if_eq (tgt := 14) hx hb dX9_answer_4 (by decide) (fun c_4 => ?_) (fun c_4 => ?_)
  · rw [if_pos c_4] at hf
    refine lv_bipush (v := (-2)) hx hb dX9_answer_14 (by decide) ?_
    rw [← hQQ]
    exact rf_i hx hb hr hlocks hf dX9_answer_16
  rw [if_neg c_4] at hf
  refine lv_iload_n hx hb dX9_answer_7 rfl (lv_at hl 1 rfl) ?_
  obtain ⟨r_8, e_8, hf⟩ := ob_bind hf
  have hPX_8 : va_P D vwCl ([]) s.heap := P_nil
  refine ro_call1 (va_runS (As := [.int v1]) (rest := []) ⟨hx, hb, hml, hown, htl⟩ (c_X9_bestAnswer l D ct G fu v1 e_8) (cw_X9_X9_bestAnswer htl ⟨Nat.le_of_ble_eq_true rfl, Nat.le_of_ble_eq_true rfl⟩) ⟨Bx_blind, Bx_pre hPX_8 hK hN hX⟩ rfl rfl hl.1 rfl (lv_room (Nat.le_of_ble_eq_true rfl)) dX9_answer_8 ⟨Nat.zero_le _, Nat.zero_le _⟩) ?_
  refine lv_goto (tgt := 16) hx hb dX9_answer_11 (by decide) ?_
  rw [← hQQ]
  exact rf_i hx hb hr hlocks hf dX9_answer_16
theorem c_X9_answer (l : Launch) (D : va_G) (ct : Nat → ClassId) (G : GT) (A : Nat → Nat) (fu : Nat) (x : Nat → Ob) (v1 : Int32) {r : Int32} (hf : p_X9_answer fu x v1 = some r)  : Met l yX9_answer (.code yX9_answer cX9_answer 2 (some .int) :: wsL_law) rm_X9_answer (va_Pc [.ref (A 0), .int v1] (Bx D ct G (csQ ct A x))) (Qro (some (.int r))) 0 0 (fun _ => False) := by
  refine Met.ofW (cc := cX9_answer) (maxL := 2) (ret := (some .int)) (by decide) rfl ?_
  intro p e s m args below meth c s₁ B hml hv
  obtain ⟨rfl, hP, hK, hN, hX⟩ := hv
  have hts := atoms_spec (ws := .code yX9_answer cX9_answer 2 (some .int) :: wsL_law) B.pre
  rw [lg_entry_eq]
  exact b_X9_answer A fu x v1 B.exec B.bytes B.returns hml (findClass_of_methodNamed B.named) (fun w h => hts w (List.mem_cons_of_mem _ h)) B.notSynchronized hK hN hX hP hf   (lv_entry [.ref (A 0), .int v1] (n := 2) (Nat.le_of_ble_eq_true rfl))
theorem hd_X9_isRest : yX9_isRest.cls ≠ "java/lang/invoke/MethodHandle" ∧ yX9_isRest.cls ≠ "java/lang/invoke/VarHandle" ∧ (parseMethodDescriptor yX9_isRest.desc).map (fun d => d.parameters.length) = some 2 := by decide +kernel
theorem cw_X9_X9_isRest {R : Room} {s : State} {args : Array Value} (ht : ∀ w ∈ wsL_law, w.before args s = true) (hR : rm_X9_isRest.frames + 1 ≤ R.frames ∧ 8 + (2 + 11) + rm_X9_isRest.locals ≤ R.locals) : CallB R s args RX9 323 yX9_isRest cX9_isRest 2 (some .boolean) ((.code yX9_isRest cX9_isRest 2 (some .boolean)) :: wsL_law) rm_X9_isRest 0 0 2 ∧ (Cond.static yX9_isRest).before args s = true := va_cwS 2 ht (GS wq_52_18 wq_52_19 wq_1_2 wq_52_20) rfl rfl rfl hd_X9_isRest hR
def p_X9_rests_L11 (fu : Nat) (x : Nat → Ob) (c33 : Int32 → Int32 → Option (Int32)) : Nat → Int32 → Int32 → Int32 → Option (Int32)
  | 0, _, _, _ => none
  | n + 1, v1, v2, v3 =>
    if (4 : Int32) < v3 then c33 v1 v2 else (p_X9_isRest fu v2 v3).bind fun r_18 => if r_18 = 0 then p_X9_rests_L11 fu x c33 n v1 v2 (v3 + 1) else p_X9_rests_L11 fu x c33 n (v1 + 1) v2 (v3 + 1)
def p_X9_rests_L4 (fu : Nat) (x : Nat → Ob)  : Nat → Int32 → Int32 → Option (Int32)
  | 0, _, _ => none
  | n + 1, v1, v2 =>
    if (4 : Int32) < v2 then some v1 else p_X9_rests_L11 fu x (fun v1 v2 => p_X9_rests_L4 fu x  n v1 (v2 + 1)) fu v1 v2 0
def p_X9_rests (fu : Nat) (x : Nat → Ob) : Option (Int32) :=
  p_X9_rests_L4 fu x fu 0 0
abbrev rm_X9_rests : Room := { frames := 3, cells := 0, slots := 0, locals := 64 }
set_option maxHeartbeats 4000000 in
set_option maxRecDepth 100000 in
theorem b_X9_rests {p : Program} {l : Launch} {e : Env} {s : State} {m : MethodId} {args : Array Value} {below : List Frame} {meth : Method} {c : Code} {ls : Array Slot} {D : va_G} {ct : Nat → ClassId} {G : GT} (A : Nat → Nat) (fu : Nat) (x : Nat → Ob) {r : Int32} (hx : p.tables.exec = Jvm.exec) (hb : c.code = cX9_rests) (hr : meth.sig.returnType = (some .int)) (hml : c.maxLocals = 4) (hown : s.vm.findClass RX9 = some m.cls) (htl : ∀ w ∈ wsL_law, w.before args s = true) (hlocks : meth.locks = false) (hK : va_K D vwCl (tyl ct) s) (hN : ∀ w ∈ NW, va_Nw w s) (hX : SX G s s.heap) (hP0 : va_P D vwCl (csQ ct A x) s.heap) (hf : p_X9_rests fu x = some r)  (hl : lv_has ls 4 [(0, .ref (A 0))]) : W p l e rm_X9_rests s m args below meth c s.heap [] 0 0 (MQ below (Qro (some (.int r))) args s 0 0 (fun _ => False)) (F0 m 0 ls []) := by
  generalize hQQ : MQ below (Qro (some (.int r))) args s 0 0 (fun _ => False) = QQ
  have hP := hP0
  have hL11 : ∀ (c33 : Int32 → Int32 → Option (Int32)) (n : Nat) (v1 : Int32) (v2 : Int32) (v3 : Int32), ∀ (ls : Array Slot), lv_has ls 4 [(1, .int v1), (2, .int v2), (3, .int v3)] → p_X9_rests_L11 fu x c33 n v1 v2 v3 = some r → (∀ (v1 : Int32) (v2 : Int32), ∀ (ls : Array Slot), lv_has ls 4 [(1, .int v1), (2, .int v2)] → c33 v1 v2 = some r → W p l e rm_X9_rests s m args below meth c s.heap [] 0 0 QQ (F0 m 33 ls [])) → W p l e rm_X9_rests s m args below meth c s.heap [] 0 0 QQ (F0 m 11 ls []) := by
    intro c33 n
    induction n with
    | zero =>
      intro v1 v2 v3 ls hl hf k33
      rw [p_X9_rests_L11] at hf
      cases hf
    | succ n ih =>
      intro v1 v2 v3 ls hl hf k33
      rw [p_X9_rests_L11] at hf
      refine lv_iload_n hx hb dX9_rests_11 rfl (lv_at hl 2 rfl) ?_
      refine lv_iconst (v := 4) hx hb dX9_rests_12 (by decide) ?_
      refine lv_icmp_gt (tgt := 33) hx hb dX9_rests_13 (by decide) (fun c_13 => ?_) (fun c_13 => ?_)
      · rw [if_pos c_13] at hf
        exact k33 v1 v2 _ (lv_sub hl [0, 1] rfl) hf
      rw [if_neg c_13] at hf
      refine lv_iload_n hx hb dX9_rests_16 rfl (lv_at hl 1 rfl) ?_
      refine lv_iload_n hx hb dX9_rests_17 rfl (lv_at hl 2 rfl) ?_
      obtain ⟨r_18, e_18, hf⟩ := ob_bind hf
      have hPX_18 : va_P D vwCl ([]) s.heap := P_nil
      refine ro_call1 (va_runS (As := [.int v2, .int v3]) (rest := []) ⟨hx, hb, hml, hown, htl⟩ (c_X9_isRest l D ct G fu v2 v3 e_18) (cw_X9_X9_isRest htl ⟨Nat.le_of_ble_eq_true rfl, Nat.le_of_ble_eq_true rfl⟩) ⟨Bx_blind, Bx_pre hPX_18 hK hN hX⟩ rfl rfl hl.1 rfl (lv_room (Nat.le_of_ble_eq_true rfl)) dX9_rests_18 ⟨Nat.zero_le _, Nat.zero_le _⟩) ?_
      refine lv_if_eq (tgt := 27) hx hb dX9_rests_21 (by decide) (fun c_21 => ?_) (fun c_21 => ?_)
      · rw [if_pos c_21] at hf
        refine lv_iinc (v := (v3 + 1)) (lv' := [(3, .int (v3 + 1)), (1, .int v1), (2, .int v2)]) hx hb dX9_rests_27 hl (k := 2) rfl rfl (by decide) rfl (fun ls hl => ?_)
        refine lv_goto (tgt := 11) hx hb dX9_rests_30 (by decide) ?_
        exact ih v1 v2 (v3 + 1) _ (lv_sub hl [1, 2, 0] rfl) hf k33
      rw [if_neg c_21] at hf
      refine lv_iinc (v := (v1 + 1)) (lv' := [(1, .int (v1 + 1)), (2, .int v2), (3, .int v3)]) hx hb dX9_rests_24 hl (k := 0) rfl rfl (by decide) rfl (fun ls hl => ?_)
      refine lv_iinc (v := (v3 + 1)) (lv' := [(3, .int (v3 + 1)), (1, .int (v1 + 1)), (2, .int v2)]) hx hb dX9_rests_27 hl (k := 2) rfl rfl (by decide) rfl (fun ls hl => ?_)
      refine lv_goto (tgt := 11) hx hb dX9_rests_30 (by decide) ?_
      exact ih (v1 + 1) v2 (v3 + 1) _ (lv_sub hl [1, 2, 0] rfl) hf k33
  have hL4 : ∀ (n : Nat) (v1 : Int32) (v2 : Int32), ∀ (ls : Array Slot), lv_has ls 4 [(1, .int v1), (2, .int v2)] → p_X9_rests_L4 fu x  n v1 v2 = some r → W p l e rm_X9_rests s m args below meth c s.heap [] 0 0 QQ (F0 m 4 ls []) := by
    intro  n
    induction n with
    | zero =>
      intro v1 v2 ls hl hf 
      rw [p_X9_rests_L4] at hf
      cases hf
    | succ n ih =>
      intro v1 v2 ls hl hf 
      rw [p_X9_rests_L4] at hf
      refine lv_iload_n hx hb dX9_rests_4 rfl (lv_at hl 1 rfl) ?_
      refine lv_iconst (v := 4) hx hb dX9_rests_5 (by decide) ?_
      refine lv_icmp_gt (tgt := 39) hx hb dX9_rests_6 (by decide) (fun c_6 => ?_) (fun c_6 => ?_)
      · rw [if_pos c_6] at hf
        refine lv_iload_n hx hb dX9_rests_39 rfl (lv_at hl 0 rfl) ?_
        rw [← hQQ]
        exact rf_i hx hb hr hlocks hf dX9_rests_40
      rw [if_neg c_6] at hf
      refine lv_iconst (v := 0) hx hb dX9_rests_9 (by decide) ?_
      refine lv_istore_n (lv' := [(3, .int 0), (1, .int v1), (2, .int v2)]) hx hb dX9_rests_10 rfl hl (by decide) rfl (fun ls hl => ?_)
      refine hL11 _ fu v1 v2 0 _ (lv_sub hl [1, 2, 0] rfl) hf (fun v1 v2 ls hl hf => ?_)
      refine lv_iinc (v := (v2 + 1)) (lv' := [(2, .int (v2 + 1)), (1, .int v1)]) hx hb dX9_rests_33 hl (k := 1) rfl rfl (by decide) rfl (fun ls hl => ?_)
      refine lv_goto (tgt := 4) hx hb dX9_rests_36 (by decide) ?_
      exact ih v1 (v2 + 1) _ (lv_sub hl [1, 0] rfl) hf 
  rw [p_X9_rests] at hf
  refine lv_iconst (v := 0) hx hb dX9_rests_0 (by decide) ?_
  refine lv_istore_n (lv' := [(1, .int 0), (0, .ref (A 0))]) hx hb dX9_rests_1 rfl hl (by decide) rfl (fun ls hl => ?_)
  refine lv_iconst (v := 0) hx hb dX9_rests_2 (by decide) ?_
  refine lv_istore_n (lv' := [(2, .int 0), (1, .int 0), (0, .ref (A 0))]) hx hb dX9_rests_3 rfl hl (by decide) rfl (fun ls hl => ?_)
  exact hL4 fu 0 0 _ (lv_sub hl [1, 0] rfl) hf 
theorem c_X9_rests (l : Launch) (D : va_G) (ct : Nat → ClassId) (G : GT) (A : Nat → Nat) (fu : Nat) (x : Nat → Ob) {r : Int32} (hf : p_X9_rests fu x = some r)  : Met l yX9_rests (.code yX9_rests cX9_rests 4 (some .int) :: wsL_law) rm_X9_rests (va_Pc [.ref (A 0)] (Bx D ct G (csQ ct A x))) (Qro (some (.int r))) 0 0 (fun _ => False) := by
  refine Met.ofW (cc := cX9_rests) (maxL := 4) (ret := (some .int)) (by decide) rfl ?_
  intro p e s m args below meth c s₁ B hml hv
  obtain ⟨rfl, hP, hK, hN, hX⟩ := hv
  have hts := atoms_spec (ws := .code yX9_rests cX9_rests 4 (some .int) :: wsL_law) B.pre
  rw [lg_entry_eq]
  exact b_X9_rests A fu x B.exec B.bytes B.returns hml (findClass_of_methodNamed B.named) (fun w h => hts w (List.mem_cons_of_mem _ h)) B.notSynchronized hK hN hX hP hf   (lv_entry [.ref (A 0)] (n := 4) (Nat.le_of_ble_eq_true rfl))
def p_X9_rest_L9 (fu : Nat) (x : Nat → Ob) (c35 : Int32 → Option (Int32)) : Nat → Int32 → Int32 → Option (Int32)
  | 0, _, _ => none
  | n + 1, v1, v2 =>
    if (4 : Int32) < v2 then c35 v1 else (p_X9_isRest fu v1 v2).bind fun r_16 => if r_16 = 0 then p_X9_rest_L9 fu x c35 n v1 (v2 + 1) else some ((10 * v1) + v2)
def p_X9_rest_L2 (fu : Nat) (x : Nat → Ob)  : Nat → Int32 → Option (Int32)
  | 0, _ => none
  | n + 1, v1 =>
    if (4 : Int32) < v1 then some ((-1) : Int32) else p_X9_rest_L9 fu x (fun v1 => p_X9_rest_L2 fu x  n (v1 + 1)) fu v1 0
def p_X9_rest (fu : Nat) (x : Nat → Ob) : Option (Int32) :=
  p_X9_rest_L2 fu x fu 0
abbrev rm_X9_rest : Room := { frames := 3, cells := 0, slots := 0, locals := 64 }
set_option maxHeartbeats 4000000 in
set_option maxRecDepth 100000 in
theorem b_X9_rest {p : Program} {l : Launch} {e : Env} {s : State} {m : MethodId} {args : Array Value} {below : List Frame} {meth : Method} {c : Code} {ls : Array Slot} {D : va_G} {ct : Nat → ClassId} {G : GT} (A : Nat → Nat) (fu : Nat) (x : Nat → Ob) {r : Int32} (hx : p.tables.exec = Jvm.exec) (hb : c.code = cX9_rest) (hr : meth.sig.returnType = (some .int)) (hml : c.maxLocals = 3) (hown : s.vm.findClass RX9 = some m.cls) (htl : ∀ w ∈ wsL_law, w.before args s = true) (hlocks : meth.locks = false) (hK : va_K D vwCl (tyl ct) s) (hN : ∀ w ∈ NW, va_Nw w s) (hX : SX G s s.heap) (hP0 : va_P D vwCl (csQ ct A x) s.heap) (hf : p_X9_rest fu x = some r)  (hl : lv_has ls 3 [(0, .ref (A 0))]) : W p l e rm_X9_rest s m args below meth c s.heap [] 0 0 (MQ below (Qro (some (.int r))) args s 0 0 (fun _ => False)) (F0 m 0 ls []) := by
  generalize hQQ : MQ below (Qro (some (.int r))) args s 0 0 (fun _ => False) = QQ
  have hP := hP0
  have hL9 : ∀ (c35 : Int32 → Option (Int32)) (n : Nat) (v1 : Int32) (v2 : Int32), ∀ (ls : Array Slot), lv_has ls 3 [(1, .int v1), (2, .int v2)] → p_X9_rest_L9 fu x c35 n v1 v2 = some r → (∀ (v1 : Int32), ∀ (ls : Array Slot), lv_has ls 3 [(1, .int v1)] → c35 v1 = some r → W p l e rm_X9_rest s m args below meth c s.heap [] 0 0 QQ (F0 m 35 ls [])) → W p l e rm_X9_rest s m args below meth c s.heap [] 0 0 QQ (F0 m 9 ls []) := by
    intro c35 n
    induction n with
    | zero =>
      intro v1 v2 ls hl hf k35
      rw [p_X9_rest_L9] at hf
      cases hf
    | succ n ih =>
      intro v1 v2 ls hl hf k35
      rw [p_X9_rest_L9] at hf
      refine lv_iload_n hx hb dX9_rest_9 rfl (lv_at hl 1 rfl) ?_
      refine lv_iconst (v := 4) hx hb dX9_rest_10 (by decide) ?_
      refine lv_icmp_gt (tgt := 35) hx hb dX9_rest_11 (by decide) (fun c_11 => ?_) (fun c_11 => ?_)
      · rw [if_pos c_11] at hf
        exact k35 v1 _ (lv_sub hl [0] rfl) hf
      rw [if_neg c_11] at hf
      refine lv_iload_n hx hb dX9_rest_14 rfl (lv_at hl 0 rfl) ?_
      refine lv_iload_n hx hb dX9_rest_15 rfl (lv_at hl 1 rfl) ?_
      obtain ⟨r_16, e_16, hf⟩ := ob_bind hf
      have hPX_16 : va_P D vwCl ([]) s.heap := P_nil
      refine ro_call1 (va_runS (As := [.int v1, .int v2]) (rest := []) ⟨hx, hb, hml, hown, htl⟩ (c_X9_isRest l D ct G fu v1 v2 e_16) (cw_X9_X9_isRest htl ⟨Nat.le_of_ble_eq_true rfl, Nat.le_of_ble_eq_true rfl⟩) ⟨Bx_blind, Bx_pre hPX_16 hK hN hX⟩ rfl rfl hl.1 rfl (lv_room (Nat.le_of_ble_eq_true rfl)) dX9_rest_16 ⟨Nat.zero_le _, Nat.zero_le _⟩) ?_
      refine lv_if_eq (tgt := 29) hx hb dX9_rest_19 (by decide) (fun c_19 => ?_) (fun c_19 => ?_)
      · rw [if_pos c_19] at hf
        refine lv_iinc (v := (v2 + 1)) (lv' := [(2, .int (v2 + 1)), (1, .int v1)]) hx hb dX9_rest_29 hl (k := 1) rfl rfl (by decide) rfl (fun ls hl => ?_)
        refine lv_goto (tgt := 9) hx hb dX9_rest_32 (by decide) ?_
        exact ih v1 (v2 + 1) _ (lv_sub hl [1, 0] rfl) hf k35
      rw [if_neg c_19] at hf
      refine lv_bipush (v := 10) hx hb dX9_rest_22 (by decide) ?_
      refine lv_iload_n hx hb dX9_rest_24 rfl (lv_at hl 0 rfl) ?_
      refine lv_imul hx hb dX9_rest_25 ?_
      refine lv_iload_n hx hb dX9_rest_26 rfl (lv_at hl 1 rfl) ?_
      refine lv_iadd hx hb dX9_rest_27 ?_
      rw [← hQQ]
      exact rf_i hx hb hr hlocks hf dX9_rest_28
  have hL2 : ∀ (n : Nat) (v1 : Int32), ∀ (ls : Array Slot), lv_has ls 3 [(1, .int v1)] → p_X9_rest_L2 fu x  n v1 = some r → W p l e rm_X9_rest s m args below meth c s.heap [] 0 0 QQ (F0 m 2 ls []) := by
    intro  n
    induction n with
    | zero =>
      intro v1 ls hl hf 
      rw [p_X9_rest_L2] at hf
      cases hf
    | succ n ih =>
      intro v1 ls hl hf 
      rw [p_X9_rest_L2] at hf
      refine lv_iload_n hx hb dX9_rest_2 rfl (lv_at hl 0 rfl) ?_
      refine lv_iconst (v := 4) hx hb dX9_rest_3 (by decide) ?_
      refine lv_icmp_gt (tgt := 41) hx hb dX9_rest_4 (by decide) (fun c_4 => ?_) (fun c_4 => ?_)
      · rw [if_pos c_4] at hf
        refine lv_iconst (v := (-1)) hx hb dX9_rest_41 (by decide) ?_
        rw [← hQQ]
        exact rf_i hx hb hr hlocks hf dX9_rest_42
      rw [if_neg c_4] at hf
      refine lv_iconst (v := 0) hx hb dX9_rest_7 (by decide) ?_
      refine lv_istore_n (lv' := [(2, .int 0), (1, .int v1)]) hx hb dX9_rest_8 rfl hl (by decide) rfl (fun ls hl => ?_)
      refine hL9 _ fu v1 0 _ (lv_sub hl [1, 0] rfl) hf (fun v1 ls hl hf => ?_)
      refine lv_iinc (v := (v1 + 1)) (lv' := [(1, .int (v1 + 1))]) hx hb dX9_rest_35 hl (k := 0) rfl rfl (by decide) rfl (fun ls hl => ?_)
      refine lv_goto (tgt := 2) hx hb dX9_rest_38 (by decide) ?_
      exact ih (v1 + 1) _ (lv_sub hl [0] rfl) hf 
  rw [p_X9_rest] at hf
  refine lv_iconst (v := 0) hx hb dX9_rest_0 (by decide) ?_
  refine lv_istore_n (lv' := [(1, .int 0), (0, .ref (A 0))]) hx hb dX9_rest_1 rfl hl (by decide) rfl (fun ls hl => ?_)
  exact hL2 fu 0 _ (lv_sub hl [0] rfl) hf 
theorem c_X9_rest (l : Launch) (D : va_G) (ct : Nat → ClassId) (G : GT) (A : Nat → Nat) (fu : Nat) (x : Nat → Ob) {r : Int32} (hf : p_X9_rest fu x = some r)  : Met l yX9_rest (.code yX9_rest cX9_rest 3 (some .int) :: wsL_law) rm_X9_rest (va_Pc [.ref (A 0)] (Bx D ct G (csQ ct A x))) (Qro (some (.int r))) 0 0 (fun _ => False) := by
  refine Met.ofW (cc := cX9_rest) (maxL := 3) (ret := (some .int)) (by decide) rfl ?_
  intro p e s m args below meth c s₁ B hml hv
  obtain ⟨rfl, hP, hK, hN, hX⟩ := hv
  have hts := atoms_spec (ws := .code yX9_rest cX9_rest 3 (some .int) :: wsL_law) B.pre
  rw [lg_entry_eq]
  exact b_X9_rest A fu x B.exec B.bytes B.returns hml (findClass_of_methodNamed B.named) (fun w h => hts w (List.mem_cons_of_mem _ h)) B.notSynchronized hK hN hX hP hf   (lv_entry [.ref (A 0)] (n := 3) (Nat.le_of_ble_eq_true rfl))
def p_X9_has (fu : Nat) (x : Nat → Ob) (v1 : Int32) (v2 : Int32) : Option (Int32) :=
  (p_X9_isLetOut fu v1).bind fun r_1 => if r_1 = 0 then some ((-1000) : Int32) else (p_X9_isLetOut fu v2).bind fun r_8 => if r_8 = 0 then some ((-1000) : Int32) else (p_X9_share fu v1 v2).bind fun r_16 => some r_16
abbrev rm_X9_has : Room := { frames := 1, cells := 0, slots := 0, locals := 21 }
set_option maxHeartbeats 4000000 in
set_option maxRecDepth 100000 in
theorem b_X9_has {p : Program} {l : Launch} {e : Env} {s : State} {m : MethodId} {args : Array Value} {below : List Frame} {meth : Method} {c : Code} {ls : Array Slot} {D : va_G} {ct : Nat → ClassId} {G : GT} (A : Nat → Nat) (fu : Nat) (x : Nat → Ob) (v1 : Int32) (v2 : Int32) {r : Int32} (hx : p.tables.exec = Jvm.exec) (hb : c.code = cX9_has) (hr : meth.sig.returnType = (some .int)) (hml : c.maxLocals = 3) (hown : s.vm.findClass RX9 = some m.cls) (htl : ∀ w ∈ wsL_law, w.before args s = true) (hlocks : meth.locks = false) (hK : va_K D vwCl (tyl ct) s) (hN : ∀ w ∈ NW, va_Nw w s) (hX : SX G s s.heap) (hP0 : va_P D vwCl (csQ ct A x) s.heap) (hf : p_X9_has fu x v1 v2 = some r)  (hl : lv_has ls 3 [(0, .ref (A 0)), (1, .int v1), (2, .int v2)]) : W p l e rm_X9_has s m args below meth c s.heap [] 0 0 (MQ below (Qro (some (.int r))) args s 0 0 (fun _ => False)) (F0 m 0 ls []) := by
  generalize hQQ : MQ below (Qro (some (.int r))) args s 0 0 (fun _ => False) = QQ
  have hP := hP0
  rw [p_X9_has] at hf
  refine lv_iload_n hx hb dX9_has_0 rfl (lv_at hl 1 rfl) ?_
  obtain ⟨r_1, e_1, hf⟩ := ob_bind hf
  have hPX_1 : va_P D vwCl ([]) s.heap := P_nil
  refine ro_call1 (va_runS (As := [.int v1]) (rest := []) ⟨hx, hb, hml, hown, htl⟩ (c_X9_isLetOut l D ct G fu v1 e_1) (cw_X9_X9_isLetOut htl ⟨Nat.le_of_ble_eq_true rfl, Nat.le_of_ble_eq_true rfl⟩) ⟨Bx_blind, Bx_pre hPX_1 hK hN hX⟩ rfl rfl hl.1 rfl (lv_room (Nat.le_of_ble_eq_true rfl)) dX9_has_1 ⟨Nat.zero_le _, Nat.zero_le _⟩) ?_
  refine lv_if_eq (tgt := 22) hx hb dX9_has_4 (by decide) (fun c_4 => ?_) (fun c_4 => ?_)
  · rw [if_pos c_4] at hf
    refine lv_sipush (v := (-1000)) hx hb dX9_has_22 (by decide) ?_
    rw [← hQQ]
    exact rf_i hx hb hr hlocks hf dX9_has_25
  rw [if_neg c_4] at hf
  refine lv_iload_n hx hb dX9_has_7 rfl (lv_at hl 2 rfl) ?_
  obtain ⟨r_8, e_8, hf⟩ := ob_bind hf
  have hPX_8 : va_P D vwCl ([]) s.heap := P_nil
  refine ro_call1 (va_runS (As := [.int v2]) (rest := []) ⟨hx, hb, hml, hown, htl⟩ (c_X9_isLetOut l D ct G fu v2 e_8) (cw_X9_X9_isLetOut htl ⟨Nat.le_of_ble_eq_true rfl, Nat.le_of_ble_eq_true rfl⟩) ⟨Bx_blind, Bx_pre hPX_8 hK hN hX⟩ rfl rfl hl.1 rfl (lv_room (Nat.le_of_ble_eq_true rfl)) dX9_has_8 ⟨Nat.zero_le _, Nat.zero_le _⟩) ?_
  refine lv_if_eq (tgt := 22) hx hb dX9_has_11 (by decide) (fun c_11 => ?_) (fun c_11 => ?_)
  · rw [if_pos c_11] at hf
    refine lv_sipush (v := (-1000)) hx hb dX9_has_22 (by decide) ?_
    rw [← hQQ]
    exact rf_i hx hb hr hlocks hf dX9_has_25
  rw [if_neg c_11] at hf
  refine lv_iload_n hx hb dX9_has_14 rfl (lv_at hl 1 rfl) ?_
  refine lv_iload_n hx hb dX9_has_15 rfl (lv_at hl 2 rfl) ?_
  obtain ⟨r_16, e_16, hf⟩ := ob_bind hf
  have hPX_16 : va_P D vwCl ([]) s.heap := P_nil
  refine ro_call1 (va_runS (As := [.int v1, .int v2]) (rest := []) ⟨hx, hb, hml, hown, htl⟩ (c_X9_share l D ct G fu v1 v2 e_16) (cw_X9_X9_share htl ⟨Nat.le_of_ble_eq_true rfl, Nat.le_of_ble_eq_true rfl⟩) ⟨Bx_blind, Bx_pre hPX_16 hK hN hX⟩ rfl rfl hl.1 rfl (lv_room (Nat.le_of_ble_eq_true rfl)) dX9_has_16 ⟨Nat.zero_le _, Nat.zero_le _⟩) ?_
  refine lv_goto (tgt := 25) hx hb dX9_has_19 (by decide) ?_
  rw [← hQQ]
  exact rf_i hx hb hr hlocks hf dX9_has_25
theorem c_X9_has (l : Launch) (D : va_G) (ct : Nat → ClassId) (G : GT) (A : Nat → Nat) (fu : Nat) (x : Nat → Ob) (v1 : Int32) (v2 : Int32) {r : Int32} (hf : p_X9_has fu x v1 v2 = some r)  : Met l yX9_has (.code yX9_has cX9_has 3 (some .int) :: wsL_law) rm_X9_has (va_Pc [.ref (A 0), .int v1, .int v2] (Bx D ct G (csQ ct A x))) (Qro (some (.int r))) 0 0 (fun _ => False) := by
  refine Met.ofW (cc := cX9_has) (maxL := 3) (ret := (some .int)) (by decide) rfl ?_
  intro p e s m args below meth c s₁ B hml hv
  obtain ⟨rfl, hP, hK, hN, hX⟩ := hv
  have hts := atoms_spec (ws := .code yX9_has cX9_has 3 (some .int) :: wsL_law) B.pre
  rw [lg_entry_eq]
  exact b_X9_has A fu x v1 v2 B.exec B.bytes B.returns hml (findClass_of_methodNamed B.named) (fun w h => hts w (List.mem_cons_of_mem _ h)) B.notSynchronized hK hN hX hP hf   (lv_entry [.ref (A 0), .int v1, .int v2] (n := 3) (Nat.le_of_ble_eq_true rfl))
def p_X9_treaty_L21 (fu : Nat) (x : Nat → Ob) (c48 : Int32 → Int32 → Option (Int32)) : Nat → Int32 → Int32 → Int32 → Option (Int32)
  | 0, _, _, _ => none
  | n + 1, v1, v2, v3 =>
    if (4 : Int32) < v3 then c48 v1 v2 else (p_X9_share fu v2 v3).bind fun r_29 => (p_X9_share fu v3 v2).bind fun r_34 => p_X9_treaty_L21 fu x c48 n (if v1 < (r_29 + r_34) then (r_29 + r_34) else v1) v2 (v3 + 1)
def p_X9_treaty_L14 (fu : Nat) (x : Nat → Ob)  : Nat → Int32 → Int32 → Option (Int32)
  | 0, _, _ => none
  | n + 1, v1, v2 =>
    if (4 : Int32) < v2 then some v1 else p_X9_treaty_L21 fu x (fun v1 v2 => p_X9_treaty_L14 fu x  n v1 (v2 + 1)) fu v1 v2 0
def p_X9_treaty (fu : Nat) (x : Nat → Ob) : Option (Int32) :=
  (p_X9_share fu (0 : Int32) (0 : Int32)).bind fun r_2 => (p_X9_share fu (0 : Int32) (0 : Int32)).bind fun r_7 => p_X9_treaty_L14 fu x fu (r_2 + r_7) 0
abbrev rm_X9_treaty : Room := { frames := 1, cells := 0, slots := 0, locals := 21 }
set_option maxHeartbeats 4000000 in
set_option maxRecDepth 100000 in
theorem b_X9_treaty {p : Program} {l : Launch} {e : Env} {s : State} {m : MethodId} {args : Array Value} {below : List Frame} {meth : Method} {c : Code} {ls : Array Slot} {D : va_G} {ct : Nat → ClassId} {G : GT} (A : Nat → Nat) (fu : Nat) (x : Nat → Ob) {r : Int32} (hx : p.tables.exec = Jvm.exec) (hb : c.code = cX9_treaty) (hr : meth.sig.returnType = (some .int)) (hml : c.maxLocals = 4) (hown : s.vm.findClass RX9 = some m.cls) (htl : ∀ w ∈ wsL_law, w.before args s = true) (hlocks : meth.locks = false) (hK : va_K D vwCl (tyl ct) s) (hN : ∀ w ∈ NW, va_Nw w s) (hX : SX G s s.heap) (hP0 : va_P D vwCl (csQ ct A x) s.heap) (hf : p_X9_treaty fu x = some r)  (hl : lv_has ls 4 [(0, .ref (A 0))]) : W p l e rm_X9_treaty s m args below meth c s.heap [] 0 0 (MQ below (Qro (some (.int r))) args s 0 0 (fun _ => False)) (F0 m 0 ls []) := by
  generalize hQQ : MQ below (Qro (some (.int r))) args s 0 0 (fun _ => False) = QQ
  have hP := hP0
  have hL21 : ∀ (c48 : Int32 → Int32 → Option (Int32)) (n : Nat) (v1 : Int32) (v2 : Int32) (v3 : Int32), ∀ (ls : Array Slot), lv_has ls 4 [(1, .int v1), (2, .int v2), (3, .int v3)] → p_X9_treaty_L21 fu x c48 n v1 v2 v3 = some r → (∀ (v1 : Int32) (v2 : Int32), ∀ (ls : Array Slot), lv_has ls 4 [(1, .int v1), (2, .int v2)] → c48 v1 v2 = some r → W p l e rm_X9_treaty s m args below meth c s.heap [] 0 0 QQ (F0 m 48 ls [])) → W p l e rm_X9_treaty s m args below meth c s.heap [] 0 0 QQ (F0 m 21 ls []) := by
    intro c48 n
    induction n with
    | zero =>
      intro v1 v2 v3 ls hl hf k48
      rw [p_X9_treaty_L21] at hf
      cases hf
    | succ n ih =>
      intro v1 v2 v3 ls hl hf k48
      rw [p_X9_treaty_L21] at hf
      refine lv_iload_n hx hb dX9_treaty_21 rfl (lv_at hl 2 rfl) ?_
      refine lv_iconst (v := 4) hx hb dX9_treaty_22 (by decide) ?_
      refine lv_icmp_gt (tgt := 48) hx hb dX9_treaty_23 (by decide) (fun c_23 => ?_) (fun c_23 => ?_)
      · rw [if_pos c_23] at hf
        exact k48 v1 v2 _ (lv_sub hl [0, 1] rfl) hf
      rw [if_neg c_23] at hf
      refine lv_iload_n hx hb dX9_treaty_26 rfl (lv_at hl 0 rfl) ?_
      refine lv_iload_n hx hb dX9_treaty_27 rfl (lv_at hl 1 rfl) ?_
      refine lv_iload_n hx hb dX9_treaty_28 rfl (lv_at hl 2 rfl) ?_
      obtain ⟨r_29, e_29, hf⟩ := ob_bind hf
      have hPX_29 : va_P D vwCl ([]) s.heap := P_nil
      refine ro_call1 (va_runS (As := [.int v2, .int v3]) (rest := [.int v1]) ⟨hx, hb, hml, hown, htl⟩ (c_X9_share l D ct G fu v2 v3 e_29) (cw_X9_X9_share htl ⟨Nat.le_of_ble_eq_true rfl, Nat.le_of_ble_eq_true rfl⟩) ⟨Bx_blind, Bx_pre hPX_29 hK hN hX⟩ rfl rfl hl.1 rfl (lv_room (Nat.le_of_ble_eq_true rfl)) dX9_treaty_29 ⟨Nat.zero_le _, Nat.zero_le _⟩) ?_
      refine lv_iload_n hx hb dX9_treaty_32 rfl (lv_at hl 2 rfl) ?_
      refine lv_iload_n hx hb dX9_treaty_33 rfl (lv_at hl 1 rfl) ?_
      obtain ⟨r_34, e_34, hf⟩ := ob_bind hf
      have hPX_34 : va_P D vwCl ([]) s.heap := P_nil
      refine ro_call1 (va_runS (As := [.int v3, .int v2]) (rest := [.int r_29, .int v1]) ⟨hx, hb, hml, hown, htl⟩ (c_X9_share l D ct G fu v3 v2 e_34) (cw_X9_X9_share htl ⟨Nat.le_of_ble_eq_true rfl, Nat.le_of_ble_eq_true rfl⟩) ⟨Bx_blind, Bx_pre hPX_34 hK hN hX⟩ rfl rfl hl.1 rfl (lv_room (Nat.le_of_ble_eq_true rfl)) dX9_treaty_34 ⟨Nat.zero_le _, Nat.zero_le _⟩) ?_
      refine lv_iadd hx hb dX9_treaty_37 ?_
      refine va_mmax hx hb (hml.trans hl.1.symm) hown (htl _ wq_25_4) (htl _ wq_15_21) (htl _ wq_12_23) (htl _ wq_15_22) (Nat.le_of_ble_eq_true rfl) (Nat.le_of_ble_eq_true rfl) (Nat.zero_le _) (Nat.zero_le _) dX9_treaty_38 ?_
      refine lv_istore_n (lv' := [(1, .int (if v1 < (r_29 + r_34) then (r_29 + r_34) else v1)), (2, .int v2), (3, .int v3)]) hx hb dX9_treaty_41 rfl hl (by decide) rfl (fun ls hl => ?_)
      refine lv_iinc (v := (v3 + 1)) (lv' := [(3, .int (v3 + 1)), (1, .int (if v1 < (r_29 + r_34) then (r_29 + r_34) else v1)), (2, .int v2)]) hx hb dX9_treaty_42 hl (k := 2) rfl rfl (by decide) rfl (fun ls hl => ?_)
      refine lv_goto (tgt := 21) hx hb dX9_treaty_45 (by decide) ?_
      exact ih (if v1 < (r_29 + r_34) then (r_29 + r_34) else v1) v2 (v3 + 1) _ (lv_sub hl [1, 2, 0] rfl) hf k48
  have hL14 : ∀ (n : Nat) (v1 : Int32) (v2 : Int32), ∀ (ls : Array Slot), lv_has ls 4 [(1, .int v1), (2, .int v2)] → p_X9_treaty_L14 fu x  n v1 v2 = some r → W p l e rm_X9_treaty s m args below meth c s.heap [] 0 0 QQ (F0 m 14 ls []) := by
    intro  n
    induction n with
    | zero =>
      intro v1 v2 ls hl hf 
      rw [p_X9_treaty_L14] at hf
      cases hf
    | succ n ih =>
      intro v1 v2 ls hl hf 
      rw [p_X9_treaty_L14] at hf
      refine lv_iload_n hx hb dX9_treaty_14 rfl (lv_at hl 1 rfl) ?_
      refine lv_iconst (v := 4) hx hb dX9_treaty_15 (by decide) ?_
      refine lv_icmp_gt (tgt := 54) hx hb dX9_treaty_16 (by decide) (fun c_16 => ?_) (fun c_16 => ?_)
      · rw [if_pos c_16] at hf
        refine lv_iload_n hx hb dX9_treaty_54 rfl (lv_at hl 0 rfl) ?_
        rw [← hQQ]
        exact rf_i hx hb hr hlocks hf dX9_treaty_55
      rw [if_neg c_16] at hf
      refine lv_iconst (v := 0) hx hb dX9_treaty_19 (by decide) ?_
      refine lv_istore_n (lv' := [(3, .int 0), (1, .int v1), (2, .int v2)]) hx hb dX9_treaty_20 rfl hl (by decide) rfl (fun ls hl => ?_)
      refine hL21 _ fu v1 v2 0 _ (lv_sub hl [1, 2, 0] rfl) hf (fun v1 v2 ls hl hf => ?_)
      refine lv_iinc (v := (v2 + 1)) (lv' := [(2, .int (v2 + 1)), (1, .int v1)]) hx hb dX9_treaty_48 hl (k := 1) rfl rfl (by decide) rfl (fun ls hl => ?_)
      refine lv_goto (tgt := 14) hx hb dX9_treaty_51 (by decide) ?_
      exact ih v1 (v2 + 1) _ (lv_sub hl [1, 0] rfl) hf 
  rw [p_X9_treaty] at hf
  refine lv_iconst (v := 0) hx hb dX9_treaty_0 (by decide) ?_
  refine lv_iconst (v := 0) hx hb dX9_treaty_1 (by decide) ?_
  obtain ⟨r_2, e_2, hf⟩ := ob_bind hf
  have hPX_2 : va_P D vwCl ([]) s.heap := P_nil
  refine ro_call1 (va_runS (As := [.int 0, .int 0]) (rest := []) ⟨hx, hb, hml, hown, htl⟩ (c_X9_share l D ct G fu (0 : Int32) (0 : Int32) e_2) (cw_X9_X9_share htl ⟨Nat.le_of_ble_eq_true rfl, Nat.le_of_ble_eq_true rfl⟩) ⟨Bx_blind, Bx_pre hPX_2 hK hN hX⟩ rfl rfl hl.1 rfl (lv_room (Nat.le_of_ble_eq_true rfl)) dX9_treaty_2 ⟨Nat.zero_le _, Nat.zero_le _⟩) ?_
  refine lv_iconst (v := 0) hx hb dX9_treaty_5 (by decide) ?_
  refine lv_iconst (v := 0) hx hb dX9_treaty_6 (by decide) ?_
  obtain ⟨r_7, e_7, hf⟩ := ob_bind hf
  have hPX_7 : va_P D vwCl ([]) s.heap := P_nil
  refine ro_call1 (va_runS (As := [.int 0, .int 0]) (rest := [.int r_2]) ⟨hx, hb, hml, hown, htl⟩ (c_X9_share l D ct G fu (0 : Int32) (0 : Int32) e_7) (cw_X9_X9_share htl ⟨Nat.le_of_ble_eq_true rfl, Nat.le_of_ble_eq_true rfl⟩) ⟨Bx_blind, Bx_pre hPX_7 hK hN hX⟩ rfl rfl hl.1 rfl (lv_room (Nat.le_of_ble_eq_true rfl)) dX9_treaty_7 ⟨Nat.zero_le _, Nat.zero_le _⟩) ?_
  refine lv_iadd hx hb dX9_treaty_10 ?_
  refine lv_istore_n (lv' := [(1, .int (r_2 + r_7)), (0, .ref (A 0))]) hx hb dX9_treaty_11 rfl hl (by decide) rfl (fun ls hl => ?_)
  refine lv_iconst (v := 0) hx hb dX9_treaty_12 (by decide) ?_
  refine lv_istore_n (lv' := [(2, .int 0), (1, .int (r_2 + r_7)), (0, .ref (A 0))]) hx hb dX9_treaty_13 rfl hl (by decide) rfl (fun ls hl => ?_)
  exact hL14 fu (r_2 + r_7) 0 _ (lv_sub hl [1, 0] rfl) hf 
theorem c_X9_treaty (l : Launch) (D : va_G) (ct : Nat → ClassId) (G : GT) (A : Nat → Nat) (fu : Nat) (x : Nat → Ob) {r : Int32} (hf : p_X9_treaty fu x = some r)  : Met l yX9_treaty (.code yX9_treaty cX9_treaty 4 (some .int) :: wsL_law) rm_X9_treaty (va_Pc [.ref (A 0)] (Bx D ct G (csQ ct A x))) (Qro (some (.int r))) 0 0 (fun _ => False) := by
  refine Met.ofW (cc := cX9_treaty) (maxL := 4) (ret := (some .int)) (by decide) rfl ?_
  intro p e s m args below meth c s₁ B hml hv
  obtain ⟨rfl, hP, hK, hN, hX⟩ := hv
  have hts := atoms_spec (ws := .code yX9_treaty cX9_treaty 4 (some .int) :: wsL_law) B.pre
  rw [lg_entry_eq]
  exact b_X9_treaty A fu x B.exec B.bytes B.returns hml (findClass_of_methodNamed B.named) (fun w h => hts w (List.mem_cons_of_mem _ h)) B.notSynchronized hK hN hX hP hf   (lv_entry [.ref (A 0)] (n := 4) (Nat.le_of_ble_eq_true rfl))
def p_X9_hasChance (fu : Nat) (x : Nat → Ob) (v1 : Int32) : Option (Int32) :=
  if ((x 5).1 0 0) = 0 then some (0 : Int32) else if v1 < 0 then some (0 : Int32) else if (14 : Int32) < v1 then some (0 : Int32) else some (1 : Int32)
abbrev rm_X9_hasChance : Room := { frames := 0, cells := 0, slots := 0, locals := 0 }
set_option maxHeartbeats 4000000 in
set_option maxRecDepth 100000 in
theorem b_X9_hasChance {p : Program} {l : Launch} {e : Env} {s : State} {m : MethodId} {args : Array Value} {below : List Frame} {meth : Method} {c : Code} {ls : Array Slot} {D : va_G} {ct : Nat → ClassId} {G : GT} (A : Nat → Nat) (fu : Nat) (x : Nat → Ob) (v1 : Int32) {r : Int32} (hx : p.tables.exec = Jvm.exec) (hb : c.code = cX9_hasChance) (hr : meth.sig.returnType = (some .boolean)) (hml : c.maxLocals = 2) (hown : s.vm.findClass RX9 = some m.cls) (htl : ∀ w ∈ wsL_law, w.before args s = true) (hlocks : meth.locks = false) (hK : va_K D vwCl (tyl ct) s) (hN : ∀ w ∈ NW, va_Nw w s) (hX : SX G s s.heap) (hP0 : va_P D vwCl (csQ ct A x) s.heap) (hf : p_X9_hasChance fu x v1 = some r)  (hl : lv_has ls 2 [(0, .ref (A 0)), (1, .int v1)]) : W p l e rm_X9_hasChance s m args below meth c s.heap [] 0 0 (MQ below (Qro (some (.int r))) args s 0 0 (fun _ => False)) (F0 m 0 ls []) := by
  generalize hQQ : MQ below (Qro (some (.int r))) args s 0 0 (fun _ => False) = QQ
  have hP := hP0
  rw [p_X9_hasChance] at hf
  refine lv_aload_n hx hb dX9_hasChance_0 rfl (lv_at hl 0 rfl) ?_
  refine va_get (D := D) (ci := 9) (v := .ref (A 21)) (C := RX9) (T := TX9) (N := 14) hx hb htl inlX9 hown hK hP 0 qh_0 rfl 2 (by decide) (htl _ wq_2_0) (fun _ h9 => h9) rfl dX9_hasChance_1 ?_
  refine va_getN (D := D) (ci := 2) (v := .int ((x 5).1 0 0)) (C := RX2) (T := TX2) (N := 20) hx hb htl inlX2 hown hK hP 21 qh_5 rfl 0 (by decide) (va_Nw.use rfl (hN _ nm_14)) (fun _ h9 => h9) rfl dX9_hasChance_4 ?_
  refine lv_if_eq (tgt := 24) hx hb dX9_hasChance_7 (by decide) (fun c_7 => ?_) (fun c_7 => ?_)
  · rw [if_pos c_7] at hf
    refine lv_iconst (v := 0) hx hb dX9_hasChance_24 (by decide) ?_
    rw [← hQQ]
    exact rf_z hx hb hr hlocks rfl hf dX9_hasChance_25
  rw [if_neg c_7] at hf
  refine lv_iload_n hx hb dX9_hasChance_10 rfl (lv_at hl 1 rfl) ?_
  refine lv_if_lt (tgt := 24) hx hb dX9_hasChance_11 (by decide) (fun c_11 => ?_) (fun c_11 => ?_)
  · rw [if_pos c_11] at hf
    refine lv_iconst (v := 0) hx hb dX9_hasChance_24 (by decide) ?_
    rw [← hQQ]
    exact rf_z hx hb hr hlocks rfl hf dX9_hasChance_25
  rw [if_neg c_11] at hf
  refine lv_iload_n hx hb dX9_hasChance_14 rfl (lv_at hl 1 rfl) ?_
  refine lv_bipush (v := 14) hx hb dX9_hasChance_15 (by decide) ?_
  refine lv_icmp_gt (tgt := 24) hx hb dX9_hasChance_17 (by decide) (fun c_17 => ?_) (fun c_17 => ?_)
  · rw [if_pos c_17] at hf
    refine lv_iconst (v := 0) hx hb dX9_hasChance_24 (by decide) ?_
    rw [← hQQ]
    exact rf_z hx hb hr hlocks rfl hf dX9_hasChance_25
  rw [if_neg c_17] at hf
  refine lv_iconst (v := 1) hx hb dX9_hasChance_20 (by decide) ?_
  refine lv_goto (tgt := 25) hx hb dX9_hasChance_21 (by decide) ?_
  rw [← hQQ]
  exact rf_z hx hb hr hlocks rfl hf dX9_hasChance_25
theorem c_X9_hasChance (l : Launch) (D : va_G) (ct : Nat → ClassId) (G : GT) (A : Nat → Nat) (fu : Nat) (x : Nat → Ob) (v1 : Int32) {r : Int32} (hf : p_X9_hasChance fu x v1 = some r)  : Met l yX9_hasChance (.code yX9_hasChance cX9_hasChance 2 (some .boolean) :: wsL_law) rm_X9_hasChance (va_Pc [.ref (A 0), .int v1] (Bx D ct G (csQ ct A x))) (Qro (some (.int r))) 0 0 (fun _ => False) := by
  refine Met.ofW (cc := cX9_hasChance) (maxL := 2) (ret := (some .boolean)) (by decide) rfl ?_
  intro p e s m args below meth c s₁ B hml hv
  obtain ⟨rfl, hP, hK, hN, hX⟩ := hv
  have hts := atoms_spec (ws := .code yX9_hasChance cX9_hasChance 2 (some .boolean) :: wsL_law) B.pre
  rw [lg_entry_eq]
  exact b_X9_hasChance A fu x v1 B.exec B.bytes B.returns hml (findClass_of_methodNamed B.named) (fun w h => hts w (List.mem_cons_of_mem _ h)) B.notSynchronized hK hN hX hP hf   (lv_entry [.ref (A 0), .int v1] (n := 2) (Nat.le_of_ble_eq_true rfl))
theorem hd_X0_advance : yX0_advance.cls ≠ "java/lang/invoke/MethodHandle" ∧ yX0_advance.cls ≠ "java/lang/invoke/VarHandle" ∧ (parseMethodDescriptor yX0_advance.desc).map (fun d => d.parameters.length) = some 3 := by decide +kernel
theorem cw_X9_X0_advance {R : Room} {s : State} {args : Array Value} (ht : ∀ w ∈ wsL_law, w.before args s = true) (hN : ∀ w ∈ NW, va_Nw w s) (hR : rm_X0_advance.frames + 1 ≤ R.frames ∧ 8 + (7 + 11) + rm_X0_advance.locals ≤ R.locals) : va_CN R s args RX9 446 yX0_advance "QuotedRiver" cX0_advance 7 none ((.code yX0_advance cX0_advance 7 none) :: wsL_law) rm_X0_advance 0 0 3 ∧ (Cond.instanceMethod yX0_advance).before args s = true ∧ (Cond.selects RX0 yX0_advance yX0_advance).before args s = true := ⟨va_cnB 3 ht (GL wq_39_8) rfl rfl rfl (hN _ nm_112) (ht _ wq_2_22) hd_X0_advance hR, ht _ wq_39_6, ht _ wq_39_7⟩
theorem hd_X0_begin : yX0_begin.cls ≠ "java/lang/invoke/MethodHandle" ∧ yX0_begin.cls ≠ "java/lang/invoke/VarHandle" ∧ (parseMethodDescriptor yX0_begin.desc).map (fun d => d.parameters.length) = some 1 := by decide +kernel
theorem cw_X9_X0_begin {R : Room} {s : State} {args : Array Value} (ht : ∀ w ∈ wsL_law, w.before args s = true) (hN : ∀ w ∈ NW, va_Nw w s) (hR : rm_X0_begin.frames + 1 ≤ R.frames ∧ 8 + (2 + 11) + rm_X0_begin.locals ≤ R.locals) : va_CN R s args RX9 443 yX0_begin "QuotedRiver" cX0_begin 2 none ((.code yX0_begin cX0_begin 2 none) :: wsL_law) rm_X0_begin 0 0 1 ∧ (Cond.instanceMethod yX0_begin).before args s = true ∧ (Cond.selects RX0 yX0_begin yX0_begin).before args s = true := ⟨va_cnB 1 ht (GL wq_38_23) rfl rfl rfl (hN _ nm_111) (ht _ wq_2_22) hd_X0_begin hR, ht _ wq_38_21, ht _ wq_38_22⟩
def p_X9_weighNext (fu : Nat) (x : Nat → Ob) (v1 : Int32) : Option ((Nat → Ob)) :=
  if v1 = 0 then (p_X8_levelAt fu (x 10) (0 : Int32)).bind fun r_13 => (p_X0_begin fu (x 19) r_13).bind fun r_16 => if (r_16.1 4 0 = 0) ↔ (((x 19)).1 4 0 = 0) then some (va_up x 19 r_16) else none else (p_X8_rainAt fu (x 10) v1).bind fun r_31 => (p_X0_advance fu (x 19) r_31 ((x 5).1 2 0) ((x 5).1 3 0)).bind fun r_48 => if (r_48.1 4 0 = 0) ↔ ¬ (((x 19)).1 4 0 = 0) then some (va_up x 19 r_48) else none
abbrev rm_X9_weighNext : Room := { frames := 2, cells := 0, slots := 0, locals := 49 }
set_option maxHeartbeats 4000000 in
set_option maxRecDepth 100000 in
theorem b_X9_weighNext {p : Program} {l : Launch} {e : Env} {s : State} {m : MethodId} {args : Array Value} {below : List Frame} {meth : Method} {c : Code} {ls : Array Slot} {D : va_G} {ct : Nat → ClassId} {G : GT} (A : Nat → Nat) (fu : Nat) (x : Nat → Ob) (v1 : Int32) {r : (Nat → Ob)} (hx : p.tables.exec = Jvm.exec) (hb : c.code = cX9_weighNext) (hr : meth.sig.returnType = none) (hml : c.maxLocals = 2) (hown : s.vm.findClass RX9 = some m.cls) (htl : ∀ w ∈ wsL_law, w.before args s = true) (hlocks : meth.locks = false) (hK : va_K D vwCl (tyl ct) s) (hN : ∀ w ∈ NW, va_Nw w s) (hX : SX G s s.heap) (hP0 : va_P D vwCl (csQ ct A x) s.heap) (hf : p_X9_weighNext fu x v1 = some r) (hDx : ∀ x : Nat → Ob, va_D (GE G) (csQ ct A x))  (hl : lv_has ls 2 [(0, .ref (A 0)), (1, .int v1)]) : W p l e rm_X9_weighNext s m args below meth c s.heap [] 0 0 (MQ below (Qwr none (fun H => va_P D vwCl (csQ ct A r) H) (wA (csQ ct A x))) args s 0 0 (wA (csQ ct A x))) (F0 m 0 ls []) := by
  generalize hQQ : MQ below (Qwr none (fun H => va_P D vwCl (csQ ct A r) H) (wA (csQ ct A x))) args s 0 0 (wA (csQ ct A x)) = QQ
  have hDW : ∀ x1 : Nat → Ob, va_D (wA (csQ ct A x)) (csQ ct A x1) := fun x1 => D_any (D_self (hDx x1)) (wA_Q x1 x)
  have hGE : ∀ q, wA (csQ ct A x) q → GE G q := wA_GE (hDx x)
  have hP := hP0
  have hS : va_S (wA (csQ ct A x)) s.heap s.heap [] := va_S.rf
  rw [p_X9_weighNext] at hf
  refine lv_iload_n hx hb dX9_weighNext_0 rfl (lv_at hl 1 rfl) ?_
  refine lv_if_ne (tgt := 22) hx hb dX9_weighNext_1 (by decide) (fun c_1 => ?_) (fun c_1 => ?_)
  rotate_left 1
  · rw [if_pos c_1] at hf
    refine lv_aload_n hx hb dX9_weighNext_4 rfl (lv_at hl 0 rfl) ?_
    refine va_get (D := D) (ci := 9) (v := .ref (A 108)) (C := RX9) (T := TX9) (N := 14) hx hb htl inlX9 hown hK hP 0 qh_0 rfl 12 (by decide) (htl _ wq_2_23) (fun _ h9 => h9) rfl dX9_weighNext_5 ?_
    refine lv_aload_n hx hb dX9_weighNext_8 rfl (lv_at hl 0 rfl) ?_
    refine va_get (D := D) (ci := 9) (v := .ref (A 87)) (C := RX9) (T := TX9) (N := 14) hx hb htl inlX9 hown hK hP 0 qh_0 rfl 6 (by decide) (htl _ wq_2_7) (fun _ h9 => h9) rfl dX9_weighNext_9 ?_
    refine lv_iconst (v := 0) hx hb dX9_weighNext_12 (by decide) ?_
    obtain ⟨r_13, e_13, hf⟩ := ob_bind hf
    have hPX_13 : va_P D vwCl (cs8 ct (fun i => A (87 + i)) (x 10)) s.heap := (qs_10 hP)
    refine ro_call1 (va_runVN (As := [.int 0]) (rest := [.ref (A 108)]) ⟨hx, hb, hml, hown, htl⟩ (c_X8_levelAt l D ct G (fun i => A (87 + i)) fu (x 10) (0 : Int32) e_13) (cw_X9_X8_levelAt htl hN ⟨Nat.le_of_ble_eq_true rfl, Nat.le_of_ble_eq_true rfl⟩) ⟨Bx_blind, va_recv hK hPX_13 (ci := 8) (q0 := 0) rfl rfl, Bx_pre hPX_13 hK hN (hX.stay hS hGE)⟩ rfl rfl hl.1 rfl (lv_room (Nat.le_of_ble_eq_true rfl)) dX9_weighNext_13 ⟨Nat.zero_le _, Nat.zero_le _⟩) ?_
    obtain ⟨r_16, e_16, hf⟩ := ob_bind hf
    have hPX_16 : va_P D vwCl (cs0 ct (fun i => A (chp (x 19) i)) (x 19)) s.heap := (qs_19 hP)
    refine wr_call0 (va_runVN (As := [.int r_13]) (rest := []) ⟨hx, hb, hml, hown, htl⟩ (c_X0_begin l D ct G (fun i => A (chp (x 19) i)) fu (x 19) r_13 e_16 ((hDx x).sub (ws' := cs0 ct (fun i => A (chp (x 19) i)) (x 19)) [108, 109, 110] (by decide) rfl)) (cw_X9_X0_begin htl hN ⟨Nat.le_of_ble_eq_true rfl, Nat.le_of_ble_eq_true rfl⟩) ⟨Bx_blind, va_recv hK hPX_16 (ci := 0) (q0 := 0) rfl rfl, Bx_pre hPX_16 hK hN (hX.stay hS hGE)⟩ rfl rfl hl.1 rfl (lv_room (Nat.le_of_ble_eq_true rfl)) dX9_weighNext_16 ⟨Nat.zero_le _, Nat.zero_le _⟩) hS qa_19 (fun H_16 locs_16 hB_16 _ hk_16 hS => ?_)
    obtain ⟨hc_16, hf⟩ := ob_c hf
    have hP : va_P D vwCl (csQ ct A (va_up x 19 r_16)) H_16 := qj_19a hP (hDW x) hc_16 hk_16 hB_16
    refine lv_goto (tgt := 51) hx hb dX9_weighNext_19 (by decide) ?_
    rw [← hQQ]
    cases hf
    exact rw_v hx hb hr hlocks hP hS dX9_weighNext_51
  rw [if_neg c_1] at hf
  refine lv_aload_n hx hb dX9_weighNext_22 rfl (lv_at hl 0 rfl) ?_
  refine va_get (D := D) (ci := 9) (v := .ref (A 108)) (C := RX9) (T := TX9) (N := 14) hx hb htl inlX9 hown hK hP 0 qh_0 rfl 12 (by decide) (htl _ wq_2_23) (fun _ h9 => h9) rfl dX9_weighNext_23 ?_
  refine lv_aload_n hx hb dX9_weighNext_26 rfl (lv_at hl 0 rfl) ?_
  refine va_get (D := D) (ci := 9) (v := .ref (A 87)) (C := RX9) (T := TX9) (N := 14) hx hb htl inlX9 hown hK hP 0 qh_0 rfl 6 (by decide) (htl _ wq_2_7) (fun _ h9 => h9) rfl dX9_weighNext_27 ?_
  refine lv_iload_n hx hb dX9_weighNext_30 rfl (lv_at hl 1 rfl) ?_
  obtain ⟨r_31, e_31, hf⟩ := ob_bind hf
  have hPX_31 : va_P D vwCl (cs8 ct (fun i => A (87 + i)) (x 10)) s.heap := (qs_10 hP)
  refine ro_call1 (va_runVN (As := [.int v1]) (rest := [.ref (A 108)]) ⟨hx, hb, hml, hown, htl⟩ (c_X8_rainAt l D ct G (fun i => A (87 + i)) fu (x 10) v1 e_31) (cw_X9_X8_rainAt htl hN ⟨Nat.le_of_ble_eq_true rfl, Nat.le_of_ble_eq_true rfl⟩) ⟨Bx_blind, va_recv hK hPX_31 (ci := 8) (q0 := 0) rfl rfl, Bx_pre hPX_31 hK hN (hX.stay hS hGE)⟩ rfl rfl hl.1 rfl (lv_room (Nat.le_of_ble_eq_true rfl)) dX9_weighNext_31 ⟨Nat.zero_le _, Nat.zero_le _⟩) ?_
  refine lv_aload_n hx hb dX9_weighNext_34 rfl (lv_at hl 0 rfl) ?_
  refine va_get (D := D) (ci := 9) (v := .ref (A 21)) (C := RX9) (T := TX9) (N := 14) hx hb htl inlX9 hown hK hP 0 qh_0 rfl 2 (by decide) (htl _ wq_2_0) (fun _ h9 => h9) rfl dX9_weighNext_35 ?_
  refine va_getN (D := D) (ci := 2) (v := .int ((x 5).1 2 0)) (C := RX2) (T := TX2) (N := 20) hx hb htl inlX2 hown hK hP 21 qh_5 rfl 2 (by decide) (va_Nw.use rfl (hN _ nm_32)) (fun _ h9 => h9) rfl dX9_weighNext_38 ?_
  refine lv_aload_n hx hb dX9_weighNext_41 rfl (lv_at hl 0 rfl) ?_
  refine va_get (D := D) (ci := 9) (v := .ref (A 21)) (C := RX9) (T := TX9) (N := 14) hx hb htl inlX9 hown hK hP 0 qh_0 rfl 2 (by decide) (htl _ wq_2_0) (fun _ h9 => h9) rfl dX9_weighNext_42 ?_
  refine va_getN (D := D) (ci := 2) (v := .int ((x 5).1 3 0)) (C := RX2) (T := TX2) (N := 20) hx hb htl inlX2 hown hK hP 21 qh_5 rfl 3 (by decide) (va_Nw.use rfl (hN _ nm_33)) (fun _ h9 => h9) rfl dX9_weighNext_45 ?_
  obtain ⟨r_48, e_48, hf⟩ := ob_bind hf
  have hPX_48 : va_P D vwCl (cs0 ct (fun i => A (chp (x 19) i)) (x 19)) s.heap := (qs_19 hP)
  refine wr_call0 (va_runVN (As := [.int r_31, .int ((x 5).1 2 0), .int ((x 5).1 3 0)]) (rest := []) ⟨hx, hb, hml, hown, htl⟩ (c_X0_advance l D ct G (fun i => A (chp (x 19) i)) fu (x 19) r_31 ((x 5).1 2 0) ((x 5).1 3 0) e_48 ((hDx x).sub (ws' := cs0 ct (fun i => A (chp (x 19) i)) (x 19)) [108, 109, 110] (by decide) rfl)) (cw_X9_X0_advance htl hN ⟨Nat.le_of_ble_eq_true rfl, Nat.le_of_ble_eq_true rfl⟩) ⟨Bx_blind, va_recv hK hPX_48 (ci := 0) (q0 := 0) rfl rfl, Bx_pre hPX_48 hK hN (hX.stay hS hGE)⟩ rfl rfl hl.1 rfl (lv_room (Nat.le_of_ble_eq_true rfl)) dX9_weighNext_48 ⟨Nat.zero_le _, Nat.zero_le _⟩) hS qa_19 (fun H_48 locs_48 hB_48 _ hk_48 hS => ?_)
  obtain ⟨hc_48, hf⟩ := ob_c hf
  have hP : va_P D vwCl (csQ ct A (va_up x 19 r_48)) H_48 := qj_19b hP (hDW x) hc_48 hk_48 hB_48
  rw [← hQQ]
  cases hf
  exact rw_v hx hb hr hlocks hP hS dX9_weighNext_51
theorem c_X9_weighNext (l : Launch) (D : va_G) (ct : Nat → ClassId) (G : GT) (A : Nat → Nat) (fu : Nat) (x : Nat → Ob) (v1 : Int32) {r : (Nat → Ob)} (hf : p_X9_weighNext fu x v1 = some r)  (hDx : ∀ x : Nat → Ob, va_D (GE G) (csQ ct A x)) : Met l yX9_weighNext (.code yX9_weighNext cX9_weighNext 2 none :: wsL_law) rm_X9_weighNext (va_Pc [.ref (A 0), .int v1] (Bx D ct G (csQ ct A x))) (Qwr none (fun H => va_P D vwCl (csQ ct A r) H) (wA (csQ ct A x))) 0 0 (wA (csQ ct A x)) := by
  refine Met.ofW (cc := cX9_weighNext) (maxL := 2) (ret := none) (by decide) rfl ?_
  intro p e s m args below meth c s₁ B hml hv
  obtain ⟨rfl, hP, hK, hN, hX⟩ := hv
  have hts := atoms_spec (ws := .code yX9_weighNext cX9_weighNext 2 none :: wsL_law) B.pre
  rw [lg_entry_eq]
  exact b_X9_weighNext A fu x v1 B.exec B.bytes B.returns hml (findClass_of_methodNamed B.named) (fun w h => hts w (List.mem_cons_of_mem _ h)) B.notSynchronized hK hN hX hP hf hDx  (lv_entry [.ref (A 0), .int v1] (n := 2) (Nat.le_of_ble_eq_true rfl))
theorem hd_X9_weighNext : yX9_weighNext.cls ≠ "java/lang/invoke/MethodHandle" ∧ yX9_weighNext.cls ≠ "java/lang/invoke/VarHandle" ∧ (parseMethodDescriptor yX9_weighNext.desc).map (fun d => d.parameters.length) = some 1 := by decide +kernel
theorem cw_X9_X9_weighNext {R : Room} {s : State} {args : Array Value} (ht : ∀ w ∈ wsL_law, w.before args s = true) (hR : rm_X9_weighNext.frames + 1 ≤ R.frames ∧ 8 + (2 + 11) + rm_X9_weighNext.locals ≤ R.locals) : CallW R s args RX9 RX9 353 yX9_weighNext cX9_weighNext 2 none ((.code yX9_weighNext cX9_weighNext 2 none) :: wsL_law) rm_X9_weighNext 0 0 1 := cwV 1 ht (GV wq_38_17 wq_38_18 wq_38_19 wq_1_2 wq_38_20) rfl rfl rfl ⟨rfl, hd_X9_weighNext⟩ hR
def p_X9_weighTo_L2 (fu : Nat)  : Nat → (Nat → Ob) → Int32 → Int32 → Option ((Nat → Ob))
  | 0, _, _, _ => none
  | n + 1, xz, v1, v2 =>
    if v1 < v2 then some xz else (p_X9_weighNext fu xz v2).bind fun r_9 => p_X9_weighTo_L2 fu  n r_9 v1 (v2 + 1)
def p_X9_weighTo (fu : Nat) (x : Nat → Ob) (v1 : Int32) : Option ((Nat → Ob)) :=
  p_X9_weighTo_L2 fu fu x v1 0
abbrev rm_X9_weighTo : Room := { frames := 3, cells := 0, slots := 0, locals := 70 }
set_option maxHeartbeats 4000000 in
set_option maxRecDepth 100000 in
theorem b_X9_weighTo {p : Program} {l : Launch} {e : Env} {s : State} {m : MethodId} {args : Array Value} {below : List Frame} {meth : Method} {c : Code} {ls : Array Slot} {D : va_G} {ct : Nat → ClassId} {G : GT} (A : Nat → Nat) (fu : Nat) (x : Nat → Ob) (v1 : Int32) {r : (Nat → Ob)} (hx : p.tables.exec = Jvm.exec) (hb : c.code = cX9_weighTo) (hr : meth.sig.returnType = none) (hml : c.maxLocals = 3) (hown : s.vm.findClass RX9 = some m.cls) (htl : ∀ w ∈ wsL_law, w.before args s = true) (hlocks : meth.locks = false) (hK : va_K D vwCl (tyl ct) s) (hN : ∀ w ∈ NW, va_Nw w s) (hX : SX G s s.heap) (hP0 : va_P D vwCl (csQ ct A x) s.heap) (hf : p_X9_weighTo fu x v1 = some r) (hDx : ∀ x : Nat → Ob, va_D (GE G) (csQ ct A x))  (hl : lv_has ls 3 [(0, .ref (A 0)), (1, .int v1)]) : W p l e rm_X9_weighTo s m args below meth c s.heap [] 0 0 (MQ below (Qwr none (fun H => va_P D vwCl (csQ ct A r) H) (wA (csQ ct A x))) args s 0 0 (wA (csQ ct A x))) (F0 m 0 ls []) := by
  generalize hQQ : MQ below (Qwr none (fun H => va_P D vwCl (csQ ct A r) H) (wA (csQ ct A x))) args s 0 0 (wA (csQ ct A x)) = QQ
  have hDW : ∀ x1 : Nat → Ob, va_D (wA (csQ ct A x)) (csQ ct A x1) := fun x1 => D_any (D_self (hDx x1)) (wA_Q x1 x)
  have hGE : ∀ q, wA (csQ ct A x) q → GE G q := wA_GE (hDx x)
  have hP := hP0
  have hS : va_S (wA (csQ ct A x)) s.heap s.heap [] := va_S.rf
  have hL2 : ∀ (n : Nat) (xz : Nat → Ob) (v1 : Int32) (v2 : Int32), ∀ (H : Heap) (locs : List Loc) (ls : Array Slot), va_P D vwCl (csQ ct A xz) H → va_S (wA (csQ ct A x)) s.heap H locs → lv_has ls 3 [(0, .ref (A 0)), (1, .int v1), (2, .int v2)] → p_X9_weighTo_L2 fu  n xz v1 v2 = some r → W p l e rm_X9_weighTo s m args below meth c H locs 0 0 QQ (F0 m 2 ls []) := by
    intro  n
    induction n with
    | zero =>
      intro xz v1 v2 H locs ls hP hS hl hf 
      rw [p_X9_weighTo_L2] at hf
      cases hf
    | succ n ih =>
      intro xz v1 v2 H locs ls hP hS hl hf 
      rw [p_X9_weighTo_L2] at hf
      refine lv_iload_n hx hb dX9_weighTo_2 rfl (lv_at hl 2 rfl) ?_
      refine lv_iload_n hx hb dX9_weighTo_3 rfl (lv_at hl 1 rfl) ?_
      refine lv_icmp_gt (tgt := 18) hx hb dX9_weighTo_4 (by decide) (fun c_4 => ?_) (fun c_4 => ?_)
      · rw [if_pos c_4] at hf
        rw [← hQQ]
        cases hf
        exact rw_v hx hb hr hlocks hP hS dX9_weighTo_18
      rw [if_neg c_4] at hf
      refine lv_aload_n hx hb dX9_weighTo_7 rfl (lv_at hl 0 rfl) ?_
      refine lv_iload_n hx hb dX9_weighTo_8 rfl (lv_at hl 2 rfl) ?_
      obtain ⟨r_9, e_9, hf⟩ := ob_bind hf
      have hPX_9 : va_P D vwCl (csQ ct A xz) H := hP
      refine wr_call0 (va_runV (As := [.int v2]) (rest := []) ⟨hx, hb, hml, hown, htl⟩ (c_X9_weighNext l D ct G A fu xz v2 e_9 hDx) (cw_X9_X9_weighNext htl ⟨Nat.le_of_ble_eq_true rfl, Nat.le_of_ble_eq_true rfl⟩) ⟨Bx_blind, va_recv hK hPX_9 (ci := 9) (q0 := 0) rfl rfl, Bx_pre hPX_9 hK hN (hX.stay hS hGE)⟩ rfl rfl hl.1 rfl (lv_room (Nat.le_of_ble_eq_true rfl)) dX9_weighTo_9 ⟨Nat.zero_le _, Nat.zero_le _⟩) hS (wA_Q _ _) (fun H_9 locs_9 hB_9 _ hk_9 hS => ?_)
      have hP : va_P D vwCl (csQ ct A r_9) H_9 := hB_9
      refine lv_iinc (v := (v2 + 1)) (lv' := [(2, .int (v2 + 1)), (0, .ref (A 0)), (1, .int v1)]) hx hb dX9_weighTo_12 hl (k := 2) rfl rfl (by decide) rfl (fun ls hl => ?_)
      refine lv_goto (tgt := 2) hx hb dX9_weighTo_15 (by decide) ?_
      exact ih r_9 v1 (v2 + 1) _ _ _ hP hS (lv_sub hl [1, 2, 0] rfl) hf 
  rw [p_X9_weighTo] at hf
  refine lv_iconst (v := 0) hx hb dX9_weighTo_0 (by decide) ?_
  refine lv_istore_n (lv' := [(2, .int 0), (0, .ref (A 0)), (1, .int v1)]) hx hb dX9_weighTo_1 rfl hl (by decide) rfl (fun ls hl => ?_)
  exact hL2 fu x v1 0 _ _ _ hP hS (lv_sub hl [1, 2, 0] rfl) hf 
theorem c_X9_weighTo (l : Launch) (D : va_G) (ct : Nat → ClassId) (G : GT) (A : Nat → Nat) (fu : Nat) (x : Nat → Ob) (v1 : Int32) {r : (Nat → Ob)} (hf : p_X9_weighTo fu x v1 = some r)  (hDx : ∀ x : Nat → Ob, va_D (GE G) (csQ ct A x)) : Met l yX9_weighTo (.code yX9_weighTo cX9_weighTo 3 none :: wsL_law) rm_X9_weighTo (va_Pc [.ref (A 0), .int v1] (Bx D ct G (csQ ct A x))) (Qwr none (fun H => va_P D vwCl (csQ ct A r) H) (wA (csQ ct A x))) 0 0 (wA (csQ ct A x)) := by
  refine Met.ofW (cc := cX9_weighTo) (maxL := 3) (ret := none) (by decide) rfl ?_
  intro p e s m args below meth c s₁ B hml hv
  obtain ⟨rfl, hP, hK, hN, hX⟩ := hv
  have hts := atoms_spec (ws := .code yX9_weighTo cX9_weighTo 3 none :: wsL_law) B.pre
  rw [lg_entry_eq]
  exact b_X9_weighTo A fu x v1 B.exec B.bytes B.returns hml (findClass_of_methodNamed B.named) (fun w h => hts w (List.mem_cons_of_mem _ h)) B.notSynchronized hK hN hX hP hf hDx  (lv_entry [.ref (A 0), .int v1] (n := 3) (Nat.le_of_ble_eq_true rfl))
theorem hd_X9_hasChance : yX9_hasChance.cls ≠ "java/lang/invoke/MethodHandle" ∧ yX9_hasChance.cls ≠ "java/lang/invoke/VarHandle" ∧ (parseMethodDescriptor yX9_hasChance.desc).map (fun d => d.parameters.length) = some 1 := by decide +kernel
theorem cw_X9_X9_hasChance {R : Room} {s : State} {args : Array Value} (ht : ∀ w ∈ wsL_law, w.before args s = true) (hR : rm_X9_hasChance.frames + 1 ≤ R.frames ∧ 8 + (2 + 11) + rm_X9_hasChance.locals ≤ R.locals) : CallW R s args RX9 RX9 329 yX9_hasChance cX9_hasChance 2 (some .boolean) ((.code yX9_hasChance cX9_hasChance 2 (some .boolean)) :: wsL_law) rm_X9_hasChance 0 0 1 := cwV 1 ht (GV wq_38_9 wq_38_10 wq_38_11 wq_1_2 wq_38_12) rfl rfl rfl ⟨rfl, hd_X9_hasChance⟩ hR
theorem hd_X9_weighTo : yX9_weighTo.cls ≠ "java/lang/invoke/MethodHandle" ∧ yX9_weighTo.cls ≠ "java/lang/invoke/VarHandle" ∧ (parseMethodDescriptor yX9_weighTo.desc).map (fun d => d.parameters.length) = some 1 := by decide +kernel
theorem cw_X9_X9_weighTo {R : Room} {s : State} {args : Array Value} (ht : ∀ w ∈ wsL_law, w.before args s = true) (hR : rm_X9_weighTo.frames + 1 ≤ R.frames ∧ 8 + (3 + 11) + rm_X9_weighTo.locals ≤ R.locals) : CallW R s args RX9 RX9 334 yX9_weighTo cX9_weighTo 3 none ((.code yX9_weighTo cX9_weighTo 3 none) :: wsL_law) rm_X9_weighTo 0 0 1 := cwV 1 ht (GV wq_38_13 wq_38_14 wq_38_15 wq_1_2 wq_38_16) rfl rfl rfl ⟨rfl, hd_X9_weighTo⟩ hR
theorem hd_X0_weightedSum : yX0_weightedSum.cls ≠ "java/lang/invoke/MethodHandle" ∧ yX0_weightedSum.cls ≠ "java/lang/invoke/VarHandle" ∧ (parseMethodDescriptor yX0_weightedSum.desc).map (fun d => d.parameters.length) = some 0 := by decide +kernel
theorem cw_X9_X0_weightedSum {R : Room} {s : State} {args : Array Value} (ht : ∀ w ∈ wsL_law, w.before args s = true) (hN : ∀ w ∈ NW, va_Nw w s) (hR : rm_X0_weightedSum.frames + 1 ≤ R.frames ∧ 8 + (4 + 11) + rm_X0_weightedSum.locals ≤ R.locals) : va_CN R s args RX9 337 yX0_weightedSum "QuotedRiver" cX0_weightedSum 4 (some .long) ((.code yX0_weightedSum cX0_weightedSum 4 (some .long)) :: wsL_law) rm_X0_weightedSum 0 0 0 ∧ (Cond.instanceMethod yX0_weightedSum).before args s = true ∧ (Cond.selects RX0 yX0_weightedSum yX0_weightedSum).before args s = true := ⟨va_cnB 0 ht (GL wq_39_13) rfl rfl rfl (hN _ nm_97) (ht _ wq_2_22) hd_X0_weightedSum hR, ht _ wq_39_11, ht _ wq_39_12⟩
theorem hd_X9_toldFraction : yX9_toldFraction.cls ≠ "java/lang/invoke/MethodHandle" ∧ yX9_toldFraction.cls ≠ "java/lang/invoke/VarHandle" ∧ (parseMethodDescriptor yX9_toldFraction.desc).map (fun d => d.parameters.length) = some 3 := by decide +kernel
theorem cw_X9_X9_toldFraction {R : Room} {s : State} {args : Array Value} (ht : ∀ w ∈ wsL_law, w.before args s = true) (hR : rm_X9_toldFraction.frames + 1 ≤ R.frames ∧ 8 + (7 + 11) + rm_X9_toldFraction.locals ≤ R.locals) : CallB R s args RX9 345 yX9_toldFraction cX9_toldFraction 7 (some .long) ((.code yX9_toldFraction cX9_toldFraction 7 (some .long)) :: wsL_law) rm_X9_toldFraction 0 0 3 ∧ (Cond.static yX9_toldFraction).before args s = true := va_cwS 3 ht (GS wq_39_14 wq_39_15 wq_1_2 wq_39_16) rfl rfl rfl hd_X9_toldFraction hR
def p_X9_mean (fu : Nat) (x : Nat → Ob) (v1 : Int32) (v2 : Int32) : Option (Int64 × (Nat → Ob)) :=
  (p_X9_hasChance fu x v1).bind fun r_2 => if r_2 = 0 then some (((-2) : Int64), x) else if v2 < 0 then some (((-2) : Int64), x) else if v2 ≤ (1 : Int32) then (p_X9_weighTo fu x v1).bind fun r_23 => (p_X0_weightedSum fu (r_23 19)).bind fun r_30 => (p_X9_toldFraction fu r_30 ((r_23 19).2 3 0) v2).bind fun r_41 => some (r_41, r_23) else some (((-2) : Int64), x)
abbrev rm_X9_mean : Room := { frames := 4, cells := 0, slots := 0, locals := 92 }
set_option maxHeartbeats 4000000 in
set_option maxRecDepth 100000 in
theorem b_X9_mean {p : Program} {l : Launch} {e : Env} {s : State} {m : MethodId} {args : Array Value} {below : List Frame} {meth : Method} {c : Code} {ls : Array Slot} {D : va_G} {ct : Nat → ClassId} {G : GT} (A : Nat → Nat) (fu : Nat) (x : Nat → Ob) (v1 : Int32) (v2 : Int32) {r : Int64 × (Nat → Ob)} (hx : p.tables.exec = Jvm.exec) (hb : c.code = cX9_mean) (hr : meth.sig.returnType = (some .long)) (hml : c.maxLocals = 3) (hown : s.vm.findClass RX9 = some m.cls) (htl : ∀ w ∈ wsL_law, w.before args s = true) (hlocks : meth.locks = false) (hK : va_K D vwCl (tyl ct) s) (hN : ∀ w ∈ NW, va_Nw w s) (hX : SX G s s.heap) (hP0 : va_P D vwCl (csQ ct A x) s.heap) (hf : p_X9_mean fu x v1 v2 = some r) (hDx : ∀ x : Nat → Ob, va_D (GE G) (csQ ct A x))  (hl : lv_has ls 3 [(0, .ref (A 0)), (1, .int v1), (2, .int v2)]) : W p l e rm_X9_mean s m args below meth c s.heap [] 0 0 (MQ below (Qwr (some (.long r.1)) (fun H => va_P D vwCl (csQ ct A r.2) H) (wA (csQ ct A x))) args s 0 0 (wA (csQ ct A x))) (F0 m 0 ls []) := by
  generalize hQQ : MQ below (Qwr (some (.long r.1)) (fun H => va_P D vwCl (csQ ct A r.2) H) (wA (csQ ct A x))) args s 0 0 (wA (csQ ct A x)) = QQ
  have hDW : ∀ x1 : Nat → Ob, va_D (wA (csQ ct A x)) (csQ ct A x1) := fun x1 => D_any (D_self (hDx x1)) (wA_Q x1 x)
  have hGE : ∀ q, wA (csQ ct A x) q → GE G q := wA_GE (hDx x)
  have hP := hP0
  have hS : va_S (wA (csQ ct A x)) s.heap s.heap [] := va_S.rf
  rw [p_X9_mean] at hf
  refine lv_aload_n hx hb dX9_mean_0 rfl (lv_at hl 0 rfl) ?_
  refine lv_iload_n hx hb dX9_mean_1 rfl (lv_at hl 1 rfl) ?_
  obtain ⟨r_2, e_2, hf⟩ := ob_bind hf
  have hPX_2 : va_P D vwCl (csQ ct A x) s.heap := hP
  refine ro_call1 (va_runV (As := [.int v1]) (rest := []) ⟨hx, hb, hml, hown, htl⟩ (c_X9_hasChance l D ct G A fu x v1 e_2) (cw_X9_X9_hasChance htl ⟨Nat.le_of_ble_eq_true rfl, Nat.le_of_ble_eq_true rfl⟩) ⟨Bx_blind, va_recv hK hPX_2 (ci := 9) (q0 := 0) rfl rfl, Bx_pre hPX_2 hK hN (hX.stay hS hGE)⟩ rfl rfl hl.1 rfl (lv_room (Nat.le_of_ble_eq_true rfl)) dX9_mean_2 ⟨Nat.zero_le _, Nat.zero_le _⟩) ?_
  refine lv_if_eq (tgt := 17) hx hb dX9_mean_5 (by decide) (fun c_5 => ?_) (fun c_5 => ?_)
  · rw [if_pos c_5] at hf
    refine lv_ldc2 (v := (-2)) hx hb hown (htl _ wq_38_8) dX9_mean_17 ?_
    rw [← hQQ]
    cases hf
    exact rw_l hx hb hr hlocks hP hS dX9_mean_20
  rw [if_neg c_5] at hf
  refine lv_iload_n hx hb dX9_mean_8 rfl (lv_at hl 2 rfl) ?_
  refine lv_if_lt (tgt := 17) hx hb dX9_mean_9 (by decide) (fun c_9 => ?_) (fun c_9 => ?_)
  · rw [if_pos c_9] at hf
    refine lv_ldc2 (v := (-2)) hx hb hown (htl _ wq_38_8) dX9_mean_17 ?_
    rw [← hQQ]
    cases hf
    exact rw_l hx hb hr hlocks hP hS dX9_mean_20
  rw [if_neg c_9] at hf
  refine lv_iload_n hx hb dX9_mean_12 rfl (lv_at hl 2 rfl) ?_
  refine lv_iconst (v := 1) hx hb dX9_mean_13 (by decide) ?_
  refine lv_icmp_le (tgt := 21) hx hb dX9_mean_14 (by decide) (fun c_14 => ?_) (fun c_14 => ?_)
  rotate_left 1
  · rw [if_neg c_14] at hf
    refine lv_ldc2 (v := (-2)) hx hb hown (htl _ wq_38_8) dX9_mean_17 ?_
    rw [← hQQ]
    cases hf
    exact rw_l hx hb hr hlocks hP hS dX9_mean_20
  rw [if_pos c_14] at hf
  refine lv_aload_n hx hb dX9_mean_21 rfl (lv_at hl 0 rfl) ?_
  refine lv_iload_n hx hb dX9_mean_22 rfl (lv_at hl 1 rfl) ?_
  obtain ⟨r_23, e_23, hf⟩ := ob_bind hf
  have hPX_23 : va_P D vwCl (csQ ct A x) s.heap := hP
  refine wr_call0 (va_runV (As := [.int v1]) (rest := []) ⟨hx, hb, hml, hown, htl⟩ (c_X9_weighTo l D ct G A fu x v1 e_23 hDx) (cw_X9_X9_weighTo htl ⟨Nat.le_of_ble_eq_true rfl, Nat.le_of_ble_eq_true rfl⟩) ⟨Bx_blind, va_recv hK hPX_23 (ci := 9) (q0 := 0) rfl rfl, Bx_pre hPX_23 hK hN (hX.stay hS hGE)⟩ rfl rfl hl.1 rfl (lv_room (Nat.le_of_ble_eq_true rfl)) dX9_mean_23 ⟨Nat.zero_le _, Nat.zero_le _⟩) hS (wA_Q _ _) (fun H_23 locs_23 hB_23 _ hk_23 hS => ?_)
  have hP : va_P D vwCl (csQ ct A r_23) H_23 := hB_23
  refine lv_aload_n hx hb dX9_mean_26 rfl (lv_at hl 0 rfl) ?_
  refine va_get (D := D) (ci := 9) (v := .ref (A 108)) (C := RX9) (T := TX9) (N := 14) hx hb htl inlX9 hown hK hP 0 qh_0 rfl 12 (by decide) (htl _ wq_2_23) (fun _ h9 => h9) rfl dX9_mean_27 ?_
  obtain ⟨r_30, e_30, hf⟩ := ob_bind hf
  have hPX_30 : va_P D vwCl (cs0 ct (fun i => A (chp (r_23 19) i)) (r_23 19)) H_23 := (qs_19 hP)
  refine ro_call1 (va_runVN (As := []) (rest := []) ⟨hx, hb, hml, hown, htl⟩ (c_X0_weightedSum l D ct G (fun i => A (chp (r_23 19) i)) fu (r_23 19) e_30) (cw_X9_X0_weightedSum htl hN ⟨Nat.le_of_ble_eq_true rfl, Nat.le_of_ble_eq_true rfl⟩) ⟨Bx_blind, va_recv hK hPX_30 (ci := 0) (q0 := 0) rfl rfl, Bx_pre hPX_30 hK hN (hX.stay hS hGE)⟩ rfl rfl hl.1 rfl (lv_room (Nat.le_of_ble_eq_true rfl)) dX9_mean_30 ⟨Nat.zero_le _, Nat.zero_le _⟩) ?_
  refine lv_aload_n hx hb dX9_mean_33 rfl (lv_at hl 0 rfl) ?_
  refine va_get (D := D) (ci := 9) (v := .ref (A 108)) (C := RX9) (T := TX9) (N := 14) hx hb htl inlX9 hown hK hP 0 qh_0 rfl 12 (by decide) (htl _ wq_2_23) (fun _ h9 => h9) rfl dX9_mean_34 ?_
  refine va_getN (D := D) (ci := 0) (v := .long ((r_23 19).2 3 0)) (C := RX0) (T := TX0) (N := 4) hx hb htl inlX0 hown hK hP 108 qh_19 rfl 3 (by decide) (va_Nw.use rfl (hN _ nm_30)) (fun _ h9 => h9) rfl dX9_mean_37 ?_
  refine lv_iload_n hx hb dX9_mean_40 rfl (lv_at hl 2 rfl) ?_
  obtain ⟨r_41, e_41, hf⟩ := ob_bind hf
  have hPX_41 : va_P D vwCl ([]) H_23 := P_nil
  refine ro_call1 (va_runS (As := [.long r_30, .long ((r_23 19).2 3 0), .int v2]) (rest := []) ⟨hx, hb, hml, hown, htl⟩ (c_X9_toldFraction l D ct G fu r_30 ((r_23 19).2 3 0) v2 e_41) (cw_X9_X9_toldFraction htl ⟨Nat.le_of_ble_eq_true rfl, Nat.le_of_ble_eq_true rfl⟩) ⟨Bx_blind, Bx_pre hPX_41 hK hN (hX.stay hS hGE)⟩ rfl rfl hl.1 rfl (lv_room (Nat.le_of_ble_eq_true rfl)) dX9_mean_41 ⟨Nat.zero_le _, Nat.zero_le _⟩) ?_
  rw [← hQQ]
  cases hf
  exact rw_l hx hb hr hlocks hP hS dX9_mean_44
theorem c_X9_mean (l : Launch) (D : va_G) (ct : Nat → ClassId) (G : GT) (A : Nat → Nat) (fu : Nat) (x : Nat → Ob) (v1 : Int32) (v2 : Int32) {r : Int64 × (Nat → Ob)} (hf : p_X9_mean fu x v1 v2 = some r)  (hDx : ∀ x : Nat → Ob, va_D (GE G) (csQ ct A x)) : Met l yX9_mean (.code yX9_mean cX9_mean 3 (some .long) :: wsL_law) rm_X9_mean (va_Pc [.ref (A 0), .int v1, .int v2] (Bx D ct G (csQ ct A x))) (Qwr (some (.long r.1)) (fun H => va_P D vwCl (csQ ct A r.2) H) (wA (csQ ct A x))) 0 0 (wA (csQ ct A x)) := by
  refine Met.ofW (cc := cX9_mean) (maxL := 3) (ret := (some .long)) (by decide) rfl ?_
  intro p e s m args below meth c s₁ B hml hv
  obtain ⟨rfl, hP, hK, hN, hX⟩ := hv
  have hts := atoms_spec (ws := .code yX9_mean cX9_mean 3 (some .long) :: wsL_law) B.pre
  rw [lg_entry_eq]
  exact b_X9_mean A fu x v1 v2 B.exec B.bytes B.returns hml (findClass_of_methodNamed B.named) (fun w h => hts w (List.mem_cons_of_mem _ h)) B.notSynchronized hK hN hX hP hf hDx  (lv_entry [.ref (A 0), .int v1, .int v2] (n := 3) (Nat.le_of_ble_eq_true rfl))
theorem hd_X0_weightBelow : yX0_weightBelow.cls ≠ "java/lang/invoke/MethodHandle" ∧ yX0_weightBelow.cls ≠ "java/lang/invoke/VarHandle" ∧ (parseMethodDescriptor yX0_weightBelow.desc).map (fun d => d.parameters.length) = some 1 := by decide +kernel
theorem cw_X9_X0_weightBelow {R : Room} {s : State} {args : Array Value} (ht : ∀ w ∈ wsL_law, w.before args s = true) (hN : ∀ w ∈ NW, va_Nw w s) (hR : rm_X0_weightBelow.frames + 1 ≤ R.frames ∧ 8 + (5 + 11) + rm_X0_weightBelow.locals ≤ R.locals) : va_CN R s args RX9 349 yX0_weightBelow "QuotedRiver" cX0_weightBelow 5 (some .long) ((.code yX0_weightBelow cX0_weightBelow 5 (some .long)) :: wsL_law) rm_X0_weightBelow 0 0 1 ∧ (Cond.instanceMethod yX0_weightBelow).before args s = true ∧ (Cond.selects RX0 yX0_weightBelow yX0_weightBelow).before args s = true := ⟨va_cnB 1 ht (GL wq_54_10) rfl rfl rfl (hN _ nm_98) (ht _ wq_2_22) hd_X0_weightBelow hR, ht _ wq_54_8, ht _ wq_54_9⟩
def p_X9_chance (fu : Nat) (x : Nat → Ob) (v1 : Int32) (v2 : Int32) (v3 : Int32) : Option (Int64 × (Nat → Ob)) :=
  (p_X9_hasChance fu x v1).bind fun r_2 => if r_2 = 0 then some (((-2) : Int64), x) else if v2 < 0 then some (((-2) : Int64), x) else if (99 : Int32) < v2 then some (((-2) : Int64), x) else if v3 < 0 then some (((-2) : Int64), x) else if v3 ≤ (1 : Int32) then (p_X9_weighTo fu x v1).bind fun r_33 => (p_X0_weightBelow fu (r_33 19) v2).bind fun r_48 => (p_X9_toldFraction fu (((r_33 19).2 3 0) - r_48) ((r_33 19).2 3 0) v3).bind fun r_60 => some (r_60, r_33) else some (((-2) : Int64), x)
abbrev rm_X9_chance : Room := { frames := 4, cells := 0, slots := 0, locals := 92 }
set_option maxHeartbeats 4000000 in
set_option maxRecDepth 100000 in
theorem b_X9_chance {p : Program} {l : Launch} {e : Env} {s : State} {m : MethodId} {args : Array Value} {below : List Frame} {meth : Method} {c : Code} {ls : Array Slot} {D : va_G} {ct : Nat → ClassId} {G : GT} (A : Nat → Nat) (fu : Nat) (x : Nat → Ob) (v1 : Int32) (v2 : Int32) (v3 : Int32) {r : Int64 × (Nat → Ob)} (hx : p.tables.exec = Jvm.exec) (hb : c.code = cX9_chance) (hr : meth.sig.returnType = (some .long)) (hml : c.maxLocals = 4) (hown : s.vm.findClass RX9 = some m.cls) (htl : ∀ w ∈ wsL_law, w.before args s = true) (hlocks : meth.locks = false) (hK : va_K D vwCl (tyl ct) s) (hN : ∀ w ∈ NW, va_Nw w s) (hX : SX G s s.heap) (hP0 : va_P D vwCl (csQ ct A x) s.heap) (hf : p_X9_chance fu x v1 v2 v3 = some r) (hDx : ∀ x : Nat → Ob, va_D (GE G) (csQ ct A x))  (hl : lv_has ls 4 [(0, .ref (A 0)), (1, .int v1), (2, .int v2), (3, .int v3)]) : W p l e rm_X9_chance s m args below meth c s.heap [] 0 0 (MQ below (Qwr (some (.long r.1)) (fun H => va_P D vwCl (csQ ct A r.2) H) (wA (csQ ct A x))) args s 0 0 (wA (csQ ct A x))) (F0 m 0 ls []) := by
  generalize hQQ : MQ below (Qwr (some (.long r.1)) (fun H => va_P D vwCl (csQ ct A r.2) H) (wA (csQ ct A x))) args s 0 0 (wA (csQ ct A x)) = QQ
  have hDW : ∀ x1 : Nat → Ob, va_D (wA (csQ ct A x)) (csQ ct A x1) := fun x1 => D_any (D_self (hDx x1)) (wA_Q x1 x)
  have hGE : ∀ q, wA (csQ ct A x) q → GE G q := wA_GE (hDx x)
  have hP := hP0
  have hS : va_S (wA (csQ ct A x)) s.heap s.heap [] := va_S.rf
  rw [p_X9_chance] at hf
  refine lv_aload_n hx hb dX9_chance_0 rfl (lv_at hl 0 rfl) ?_
  refine lv_iload_n hx hb dX9_chance_1 rfl (lv_at hl 1 rfl) ?_
  obtain ⟨r_2, e_2, hf⟩ := ob_bind hf
  have hPX_2 : va_P D vwCl (csQ ct A x) s.heap := hP
  refine ro_call1 (va_runV (As := [.int v1]) (rest := []) ⟨hx, hb, hml, hown, htl⟩ (c_X9_hasChance l D ct G A fu x v1 e_2) (cw_X9_X9_hasChance htl ⟨Nat.le_of_ble_eq_true rfl, Nat.le_of_ble_eq_true rfl⟩) ⟨Bx_blind, va_recv hK hPX_2 (ci := 9) (q0 := 0) rfl rfl, Bx_pre hPX_2 hK hN (hX.stay hS hGE)⟩ rfl rfl hl.1 rfl (lv_room (Nat.le_of_ble_eq_true rfl)) dX9_chance_2 ⟨Nat.zero_le _, Nat.zero_le _⟩) ?_
  refine lv_if_eq (tgt := 27) hx hb dX9_chance_5 (by decide) (fun c_5 => ?_) (fun c_5 => ?_)
  · rw [if_pos c_5] at hf
    refine lv_ldc2 (v := (-2)) hx hb hown (htl _ wq_38_8) dX9_chance_27 ?_
    rw [← hQQ]
    cases hf
    exact rw_l hx hb hr hlocks hP hS dX9_chance_30
  rw [if_neg c_5] at hf
  refine lv_iload_n hx hb dX9_chance_8 rfl (lv_at hl 2 rfl) ?_
  refine lv_if_lt (tgt := 27) hx hb dX9_chance_9 (by decide) (fun c_9 => ?_) (fun c_9 => ?_)
  · rw [if_pos c_9] at hf
    refine lv_ldc2 (v := (-2)) hx hb hown (htl _ wq_38_8) dX9_chance_27 ?_
    rw [← hQQ]
    cases hf
    exact rw_l hx hb hr hlocks hP hS dX9_chance_30
  rw [if_neg c_9] at hf
  refine lv_iload_n hx hb dX9_chance_12 rfl (lv_at hl 2 rfl) ?_
  refine lv_bipush (v := 99) hx hb dX9_chance_13 (by decide) ?_
  refine lv_icmp_gt (tgt := 27) hx hb dX9_chance_15 (by decide) (fun c_15 => ?_) (fun c_15 => ?_)
  · rw [if_pos c_15] at hf
    refine lv_ldc2 (v := (-2)) hx hb hown (htl _ wq_38_8) dX9_chance_27 ?_
    rw [← hQQ]
    cases hf
    exact rw_l hx hb hr hlocks hP hS dX9_chance_30
  rw [if_neg c_15] at hf
  refine lv_iload_n hx hb dX9_chance_18 rfl (lv_at hl 3 rfl) ?_
  refine lv_if_lt (tgt := 27) hx hb dX9_chance_19 (by decide) (fun c_19 => ?_) (fun c_19 => ?_)
  · rw [if_pos c_19] at hf
    refine lv_ldc2 (v := (-2)) hx hb hown (htl _ wq_38_8) dX9_chance_27 ?_
    rw [← hQQ]
    cases hf
    exact rw_l hx hb hr hlocks hP hS dX9_chance_30
  rw [if_neg c_19] at hf
  refine lv_iload_n hx hb dX9_chance_22 rfl (lv_at hl 3 rfl) ?_
  refine lv_iconst (v := 1) hx hb dX9_chance_23 (by decide) ?_
  refine lv_icmp_le (tgt := 31) hx hb dX9_chance_24 (by decide) (fun c_24 => ?_) (fun c_24 => ?_)
  rotate_left 1
  · rw [if_neg c_24] at hf
    refine lv_ldc2 (v := (-2)) hx hb hown (htl _ wq_38_8) dX9_chance_27 ?_
    rw [← hQQ]
    cases hf
    exact rw_l hx hb hr hlocks hP hS dX9_chance_30
  rw [if_pos c_24] at hf
  refine lv_aload_n hx hb dX9_chance_31 rfl (lv_at hl 0 rfl) ?_
  refine lv_iload_n hx hb dX9_chance_32 rfl (lv_at hl 1 rfl) ?_
  obtain ⟨r_33, e_33, hf⟩ := ob_bind hf
  have hPX_33 : va_P D vwCl (csQ ct A x) s.heap := hP
  refine wr_call0 (va_runV (As := [.int v1]) (rest := []) ⟨hx, hb, hml, hown, htl⟩ (c_X9_weighTo l D ct G A fu x v1 e_33 hDx) (cw_X9_X9_weighTo htl ⟨Nat.le_of_ble_eq_true rfl, Nat.le_of_ble_eq_true rfl⟩) ⟨Bx_blind, va_recv hK hPX_33 (ci := 9) (q0 := 0) rfl rfl, Bx_pre hPX_33 hK hN (hX.stay hS hGE)⟩ rfl rfl hl.1 rfl (lv_room (Nat.le_of_ble_eq_true rfl)) dX9_chance_33 ⟨Nat.zero_le _, Nat.zero_le _⟩) hS (wA_Q _ _) (fun H_33 locs_33 hB_33 _ hk_33 hS => ?_)
  have hP : va_P D vwCl (csQ ct A r_33) H_33 := hB_33
  refine lv_aload_n hx hb dX9_chance_36 rfl (lv_at hl 0 rfl) ?_
  refine va_get (D := D) (ci := 9) (v := .ref (A 108)) (C := RX9) (T := TX9) (N := 14) hx hb htl inlX9 hown hK hP 0 qh_0 rfl 12 (by decide) (htl _ wq_2_23) (fun _ h9 => h9) rfl dX9_chance_37 ?_
  refine va_getN (D := D) (ci := 0) (v := .long ((r_33 19).2 3 0)) (C := RX0) (T := TX0) (N := 4) hx hb htl inlX0 hown hK hP 108 qh_19 rfl 3 (by decide) (va_Nw.use rfl (hN _ nm_30)) (fun _ h9 => h9) rfl dX9_chance_40 ?_
  refine lv_aload_n hx hb dX9_chance_43 rfl (lv_at hl 0 rfl) ?_
  refine va_get (D := D) (ci := 9) (v := .ref (A 108)) (C := RX9) (T := TX9) (N := 14) hx hb htl inlX9 hown hK hP 0 qh_0 rfl 12 (by decide) (htl _ wq_2_23) (fun _ h9 => h9) rfl dX9_chance_44 ?_
  refine lv_iload_n hx hb dX9_chance_47 rfl (lv_at hl 2 rfl) ?_
  obtain ⟨r_48, e_48, hf⟩ := ob_bind hf
  have hPX_48 : va_P D vwCl (cs0 ct (fun i => A (chp (r_33 19) i)) (r_33 19)) H_33 := (qs_19 hP)
  refine ro_call1 (va_runVN (As := [.int v2]) (rest := [.long ((r_33 19).2 3 0)]) ⟨hx, hb, hml, hown, htl⟩ (c_X0_weightBelow l D ct G (fun i => A (chp (r_33 19) i)) fu (r_33 19) v2 e_48) (cw_X9_X0_weightBelow htl hN ⟨Nat.le_of_ble_eq_true rfl, Nat.le_of_ble_eq_true rfl⟩) ⟨Bx_blind, va_recv hK hPX_48 (ci := 0) (q0 := 0) rfl rfl, Bx_pre hPX_48 hK hN (hX.stay hS hGE)⟩ rfl rfl hl.1 rfl (lv_room (Nat.le_of_ble_eq_true rfl)) dX9_chance_48 ⟨Nat.zero_le _, Nat.zero_le _⟩) ?_
  refine lv_lsub hx hb dX9_chance_51 ?_
  refine lv_aload_n hx hb dX9_chance_52 rfl (lv_at hl 0 rfl) ?_
  refine va_get (D := D) (ci := 9) (v := .ref (A 108)) (C := RX9) (T := TX9) (N := 14) hx hb htl inlX9 hown hK hP 0 qh_0 rfl 12 (by decide) (htl _ wq_2_23) (fun _ h9 => h9) rfl dX9_chance_53 ?_
  refine va_getN (D := D) (ci := 0) (v := .long ((r_33 19).2 3 0)) (C := RX0) (T := TX0) (N := 4) hx hb htl inlX0 hown hK hP 108 qh_19 rfl 3 (by decide) (va_Nw.use rfl (hN _ nm_30)) (fun _ h9 => h9) rfl dX9_chance_56 ?_
  refine lv_iload_n hx hb dX9_chance_59 rfl (lv_at hl 3 rfl) ?_
  obtain ⟨r_60, e_60, hf⟩ := ob_bind hf
  have hPX_60 : va_P D vwCl ([]) H_33 := P_nil
  refine ro_call1 (va_runS (As := [.long (((r_33 19).2 3 0) - r_48), .long ((r_33 19).2 3 0), .int v3]) (rest := []) ⟨hx, hb, hml, hown, htl⟩ (c_X9_toldFraction l D ct G fu (((r_33 19).2 3 0) - r_48) ((r_33 19).2 3 0) v3 e_60) (cw_X9_X9_toldFraction htl ⟨Nat.le_of_ble_eq_true rfl, Nat.le_of_ble_eq_true rfl⟩) ⟨Bx_blind, Bx_pre hPX_60 hK hN (hX.stay hS hGE)⟩ rfl rfl hl.1 rfl (lv_room (Nat.le_of_ble_eq_true rfl)) dX9_chance_60 ⟨Nat.zero_le _, Nat.zero_le _⟩) ?_
  rw [← hQQ]
  cases hf
  exact rw_l hx hb hr hlocks hP hS dX9_chance_63
theorem c_X9_chance (l : Launch) (D : va_G) (ct : Nat → ClassId) (G : GT) (A : Nat → Nat) (fu : Nat) (x : Nat → Ob) (v1 : Int32) (v2 : Int32) (v3 : Int32) {r : Int64 × (Nat → Ob)} (hf : p_X9_chance fu x v1 v2 v3 = some r)  (hDx : ∀ x : Nat → Ob, va_D (GE G) (csQ ct A x)) : Met l yX9_chance (.code yX9_chance cX9_chance 4 (some .long) :: wsL_law) rm_X9_chance (va_Pc [.ref (A 0), .int v1, .int v2, .int v3] (Bx D ct G (csQ ct A x))) (Qwr (some (.long r.1)) (fun H => va_P D vwCl (csQ ct A r.2) H) (wA (csQ ct A x))) 0 0 (wA (csQ ct A x)) := by
  refine Met.ofW (cc := cX9_chance) (maxL := 4) (ret := (some .long)) (by decide) rfl ?_
  intro p e s m args below meth c s₁ B hml hv
  obtain ⟨rfl, hP, hK, hN, hX⟩ := hv
  have hts := atoms_spec (ws := .code yX9_chance cX9_chance 4 (some .long) :: wsL_law) B.pre
  rw [lg_entry_eq]
  exact b_X9_chance A fu x v1 v2 v3 B.exec B.bytes B.returns hml (findClass_of_methodNamed B.named) (fun w h => hts w (List.mem_cons_of_mem _ h)) B.notSynchronized hK hN hX hP hf hDx  (lv_entry [.ref (A 0), .int v1, .int v2, .int v3] (n := 4) (Nat.le_of_ble_eq_true rfl))
def p_X9_risk_L36 (fu : Nat)  : Nat → (Nat → Ob) → Int32 → Int32 → Int32 → Option (Int32 × (Nat → Ob))
  | 0, _, _, _, _ => none
  | n + 1, xz, v2, v3, v4 =>
    if (14 : Int32) < v4 then some (((-1) : Int32), xz) else (p_X9_weighNext fu xz v4).bind fun r_46 => (p_X0_weightBelow fu (r_46 19) v3).bind fun r_57 => if (lg_cmp (100 * r_57) (v2.toInt64 * ((r_46 19).2 3 0))) < 0 then p_X9_risk_L36 fu  n r_46 v2 v3 (v4 + 1) else some (v4, r_46)
def p_X9_risk (fu : Nat) (x : Nat → Ob) (v1 : Int32) (v2 : Int32) : Option (Int32 × (Nat → Ob)) :=
  (p_X9_isReach fu x v1).bind fun r_2 => if r_2 = 0 then some (((-2) : Int32), x) else if v2 < 0 then some (((-2) : Int32), x) else if v2 ≤ (100 : Int32) then (p_X9_pick fu 10 ((x 5).1 7) v1).bind fun r_29 => p_X9_risk_L36 fu fu x v2 r_29 0 else some (((-2) : Int32), x)
abbrev rm_X9_risk : Room := { frames := 3, cells := 0, slots := 0, locals := 70 }
set_option maxHeartbeats 4000000 in
set_option maxRecDepth 100000 in
theorem b_X9_risk {p : Program} {l : Launch} {e : Env} {s : State} {m : MethodId} {args : Array Value} {below : List Frame} {meth : Method} {c : Code} {ls : Array Slot} {D : va_G} {ct : Nat → ClassId} {G : GT} (A : Nat → Nat) (fu : Nat) (x : Nat → Ob) (v1 : Int32) (v2 : Int32) {r : Int32 × (Nat → Ob)} (hx : p.tables.exec = Jvm.exec) (hb : c.code = cX9_risk) (hr : meth.sig.returnType = (some .int)) (hml : c.maxLocals = 5) (hown : s.vm.findClass RX9 = some m.cls) (htl : ∀ w ∈ wsL_law, w.before args s = true) (hlocks : meth.locks = false) (hK : va_K D vwCl (tyl ct) s) (hN : ∀ w ∈ NW, va_Nw w s) (hX : SX G s s.heap) (hP0 : va_P D vwCl (csQ ct A x) s.heap) (hf : p_X9_risk fu x v1 v2 = some r) (hDx : ∀ x : Nat → Ob, va_D (GE G) (csQ ct A x))  (hl : lv_has ls 5 [(0, .ref (A 0)), (1, .int v1), (2, .int v2)]) : W p l e rm_X9_risk s m args below meth c s.heap [] 0 0 (MQ below (Qwr (some (.int r.1)) (fun H => va_P D vwCl (csQ ct A r.2) H) (wA (csQ ct A x))) args s 0 0 (wA (csQ ct A x))) (F0 m 0 ls []) := by
  generalize hQQ : MQ below (Qwr (some (.int r.1)) (fun H => va_P D vwCl (csQ ct A r.2) H) (wA (csQ ct A x))) args s 0 0 (wA (csQ ct A x)) = QQ
  have hDW : ∀ x1 : Nat → Ob, va_D (wA (csQ ct A x)) (csQ ct A x1) := fun x1 => D_any (D_self (hDx x1)) (wA_Q x1 x)
  have hGE : ∀ q, wA (csQ ct A x) q → GE G q := wA_GE (hDx x)
  have hP := hP0
  have hS : va_S (wA (csQ ct A x)) s.heap s.heap [] := va_S.rf
  have hL36 : ∀ (n : Nat) (xz : Nat → Ob) (v2 : Int32) (v3 : Int32) (v4 : Int32), ∀ (H : Heap) (locs : List Loc) (ls : Array Slot), va_P D vwCl (csQ ct A xz) H → va_S (wA (csQ ct A x)) s.heap H locs → lv_has ls 5 [(0, .ref (A 0)), (2, .int v2), (3, .int v3), (4, .int v4)] → p_X9_risk_L36 fu  n xz v2 v3 v4 = some r → W p l e rm_X9_risk s m args below meth c H locs 0 0 QQ (F0 m 36 ls []) := by
    intro  n
    induction n with
    | zero =>
      intro xz v2 v3 v4 H locs ls hP hS hl hf 
      rw [p_X9_risk_L36] at hf
      cases hf
    | succ n ih =>
      intro xz v2 v3 v4 H locs ls hP hS hl hf 
      rw [p_X9_risk_L36] at hf
      refine lv_iload hx hb dX9_risk_36 (lv_at hl 3 rfl) ?_
      refine lv_bipush (v := 14) hx hb dX9_risk_38 (by decide) ?_
      refine lv_icmp_gt (tgt := 84) hx hb dX9_risk_40 (by decide) (fun c_40 => ?_) (fun c_40 => ?_)
      · rw [if_pos c_40] at hf
        refine lv_iconst (v := (-1)) hx hb dX9_risk_84 (by decide) ?_
        rw [← hQQ]
        cases hf
        exact rw_i hx hb hr hlocks hP hS dX9_risk_85
      rw [if_neg c_40] at hf
      refine lv_aload_n hx hb dX9_risk_43 rfl (lv_at hl 0 rfl) ?_
      refine lv_iload hx hb dX9_risk_44 (lv_at hl 3 rfl) ?_
      obtain ⟨r_46, e_46, hf⟩ := ob_bind hf
      have hPX_46 : va_P D vwCl (csQ ct A xz) H := hP
      refine wr_call0 (va_runV (As := [.int v4]) (rest := []) ⟨hx, hb, hml, hown, htl⟩ (c_X9_weighNext l D ct G A fu xz v4 e_46 hDx) (cw_X9_X9_weighNext htl ⟨Nat.le_of_ble_eq_true rfl, Nat.le_of_ble_eq_true rfl⟩) ⟨Bx_blind, va_recv hK hPX_46 (ci := 9) (q0 := 0) rfl rfl, Bx_pre hPX_46 hK hN (hX.stay hS hGE)⟩ rfl rfl hl.1 rfl (lv_room (Nat.le_of_ble_eq_true rfl)) dX9_risk_46 ⟨Nat.zero_le _, Nat.zero_le _⟩) hS (wA_Q _ _) (fun H_46 locs_46 hB_46 _ hk_46 hS => ?_)
      have hP : va_P D vwCl (csQ ct A r_46) H_46 := hB_46
      refine lv_ldc2 (v := 100) hx hb hown (htl _ wq_54_20) dX9_risk_49 ?_
      refine lv_aload_n hx hb dX9_risk_52 rfl (lv_at hl 0 rfl) ?_
      refine va_get (D := D) (ci := 9) (v := .ref (A 108)) (C := RX9) (T := TX9) (N := 14) hx hb htl inlX9 hown hK hP 0 qh_0 rfl 12 (by decide) (htl _ wq_2_23) (fun _ h9 => h9) rfl dX9_risk_53 ?_
      refine lv_iload_n hx hb dX9_risk_56 rfl (lv_at hl 2 rfl) ?_
      obtain ⟨r_57, e_57, hf⟩ := ob_bind hf
      have hPX_57 : va_P D vwCl (cs0 ct (fun i => A (chp (r_46 19) i)) (r_46 19)) H_46 := (qs_19 hP)
      refine ro_call1 (va_runVN (As := [.int v3]) (rest := [.long 100]) ⟨hx, hb, hml, hown, htl⟩ (c_X0_weightBelow l D ct G (fun i => A (chp (r_46 19) i)) fu (r_46 19) v3 e_57) (cw_X9_X0_weightBelow htl hN ⟨Nat.le_of_ble_eq_true rfl, Nat.le_of_ble_eq_true rfl⟩) ⟨Bx_blind, va_recv hK hPX_57 (ci := 0) (q0 := 0) rfl rfl, Bx_pre hPX_57 hK hN (hX.stay hS hGE)⟩ rfl rfl hl.1 rfl (lv_room (Nat.le_of_ble_eq_true rfl)) dX9_risk_57 ⟨Nat.zero_le _, Nat.zero_le _⟩) ?_
      refine lv_lmul hx hb dX9_risk_60 ?_
      refine lv_iload_n hx hb dX9_risk_61 rfl (lv_at hl 1 rfl) ?_
      refine lv_i2l hx hb dX9_risk_62 rfl ?_
      refine lv_aload_n hx hb dX9_risk_63 rfl (lv_at hl 0 rfl) ?_
      refine va_get (D := D) (ci := 9) (v := .ref (A 108)) (C := RX9) (T := TX9) (N := 14) hx hb htl inlX9 hown hK hP 0 qh_0 rfl 12 (by decide) (htl _ wq_2_23) (fun _ h9 => h9) rfl dX9_risk_64 ?_
      refine va_getN (D := D) (ci := 0) (v := .long ((r_46 19).2 3 0)) (C := RX0) (T := TX0) (N := 4) hx hb htl inlX0 hown hK hP 108 qh_19 rfl 3 (by decide) (va_Nw.use rfl (hN _ nm_30)) (fun _ h9 => h9) rfl dX9_risk_67 ?_
      refine lv_lmul hx hb dX9_risk_70 ?_
      refine W.lcmp hx hb dX9_risk_71 ?_
      refine lv_if_lt (tgt := 78) hx hb dX9_risk_72 (by decide) (fun c_72 => ?_) (fun c_72 => ?_)
      · rw [if_pos c_72] at hf
        refine lv_iinc (v := (v4 + 1)) (lv' := [(4, .int (v4 + 1)), (0, .ref (A 0)), (2, .int v2), (3, .int v3)]) hx hb dX9_risk_78 hl (k := 3) rfl rfl (by decide) rfl (fun ls hl => ?_)
        refine lv_goto (tgt := 36) hx hb dX9_risk_81 (by decide) ?_
        exact ih r_46 v2 v3 (v4 + 1) _ _ _ hP hS (lv_sub hl [1, 2, 3, 0] rfl) hf 
      rw [if_neg c_72] at hf
      refine lv_iload hx hb dX9_risk_75 (lv_at hl 3 rfl) ?_
      rw [← hQQ]
      cases hf
      exact rw_i hx hb hr hlocks hP hS dX9_risk_77
  rw [p_X9_risk] at hf
  refine lv_aload_n hx hb dX9_risk_0 rfl (lv_at hl 0 rfl) ?_
  refine lv_iload_n hx hb dX9_risk_1 rfl (lv_at hl 1 rfl) ?_
  obtain ⟨r_2, e_2, hf⟩ := ob_bind hf
  have hPX_2 : va_P D vwCl (csQ ct A x) s.heap := hP
  refine ro_call1 (va_runV (As := [.int v1]) (rest := []) ⟨hx, hb, hml, hown, htl⟩ (c_X9_isReach l D ct G A fu x v1 e_2) (cw_X9_X9_isReach htl ⟨Nat.le_of_ble_eq_true rfl, Nat.le_of_ble_eq_true rfl⟩) ⟨Bx_blind, va_recv hK hPX_2 (ci := 9) (q0 := 0) rfl rfl, Bx_pre hPX_2 hK hN (hX.stay hS hGE)⟩ rfl rfl hl.1 rfl (lv_room (Nat.le_of_ble_eq_true rfl)) dX9_risk_2 ⟨Nat.zero_le _, Nat.zero_le _⟩) ?_
  refine lv_if_eq (tgt := 18) hx hb dX9_risk_5 (by decide) (fun c_5 => ?_) (fun c_5 => ?_)
  · rw [if_pos c_5] at hf
    refine lv_bipush (v := (-2)) hx hb dX9_risk_18 (by decide) ?_
    rw [← hQQ]
    cases hf
    exact rw_i hx hb hr hlocks hP hS dX9_risk_20
  rw [if_neg c_5] at hf
  refine lv_iload_n hx hb dX9_risk_8 rfl (lv_at hl 2 rfl) ?_
  refine lv_if_lt (tgt := 18) hx hb dX9_risk_9 (by decide) (fun c_9 => ?_) (fun c_9 => ?_)
  · rw [if_pos c_9] at hf
    refine lv_bipush (v := (-2)) hx hb dX9_risk_18 (by decide) ?_
    rw [← hQQ]
    cases hf
    exact rw_i hx hb hr hlocks hP hS dX9_risk_20
  rw [if_neg c_9] at hf
  refine lv_iload_n hx hb dX9_risk_12 rfl (lv_at hl 2 rfl) ?_
  refine lv_bipush (v := 100) hx hb dX9_risk_13 (by decide) ?_
  refine lv_icmp_le (tgt := 21) hx hb dX9_risk_15 (by decide) (fun c_15 => ?_) (fun c_15 => ?_)
  rotate_left 1
  · rw [if_neg c_15] at hf
    refine lv_bipush (v := (-2)) hx hb dX9_risk_18 (by decide) ?_
    rw [← hQQ]
    cases hf
    exact rw_i hx hb hr hlocks hP hS dX9_risk_20
  rw [if_pos c_15] at hf
  refine lv_aload_n hx hb dX9_risk_21 rfl (lv_at hl 0 rfl) ?_
  refine va_get (D := D) (ci := 9) (v := .ref (A 21)) (C := RX9) (T := TX9) (N := 14) hx hb htl inlX9 hown hK hP 0 qh_0 rfl 2 (by decide) (htl _ wq_2_0) (fun _ h9 => h9) rfl dX9_risk_22 ?_
  refine va_getN (D := D) (ci := 2) (v := .ref (A 24)) (C := RX2) (T := TX2) (N := 20) hx hb htl inlX2 hown hK hP 21 qh_5 rfl 7 (by decide) (va_Nw.use rfl (hN _ nm_6)) (fun _ h9 => h9) rfl dX9_risk_25 ?_
  refine lv_iload_n hx hb dX9_risk_28 rfl (lv_at hl 1 rfl) ?_
  obtain ⟨r_29, e_29, hf⟩ := ob_bind hf
  have hPX_29 : va_P D vwCl ([((A 24), .inl (ct 0, 10, .inl ((x 5).1 7)))]) s.heap := (P_one hP 24 qat_24)
  refine ro_call1 (va_runS (As := [.ref (A 24), .int v1]) (rest := []) ⟨hx, hb, hml, hown, htl⟩ (c_X9_pick l D ct G (A 24) fu 10 ((x 5).1 7) v1 e_29) (cw_X9_X9_pick htl ⟨Nat.le_of_ble_eq_true rfl, Nat.le_of_ble_eq_true rfl⟩) ⟨Bx_blind, Bx_pre hPX_29 hK hN (hX.stay hS hGE)⟩ rfl rfl hl.1 rfl (lv_room (Nat.le_of_ble_eq_true rfl)) dX9_risk_29 ⟨Nat.zero_le _, Nat.zero_le _⟩) ?_
  refine lv_istore_n (lv' := [(3, .int r_29), (0, .ref (A 0)), (1, .int v1), (2, .int v2)]) hx hb dX9_risk_32 rfl hl (by decide) rfl (fun ls hl => ?_)
  refine lv_iconst (v := 0) hx hb dX9_risk_33 (by decide) ?_
  refine lv_istore (lv' := [(4, .int 0), (3, .int r_29), (0, .ref (A 0)), (1, .int v1), (2, .int v2)]) hx hb dX9_risk_34 hl (by decide) rfl (fun ls hl => ?_)
  exact hL36 fu x v2 r_29 0 _ _ _ hP hS (lv_sub hl [2, 4, 1, 0] rfl) hf 
theorem c_X9_risk (l : Launch) (D : va_G) (ct : Nat → ClassId) (G : GT) (A : Nat → Nat) (fu : Nat) (x : Nat → Ob) (v1 : Int32) (v2 : Int32) {r : Int32 × (Nat → Ob)} (hf : p_X9_risk fu x v1 v2 = some r)  (hDx : ∀ x : Nat → Ob, va_D (GE G) (csQ ct A x)) : Met l yX9_risk (.code yX9_risk cX9_risk 5 (some .int) :: wsL_law) rm_X9_risk (va_Pc [.ref (A 0), .int v1, .int v2] (Bx D ct G (csQ ct A x))) (Qwr (some (.int r.1)) (fun H => va_P D vwCl (csQ ct A r.2) H) (wA (csQ ct A x))) 0 0 (wA (csQ ct A x)) := by
  refine Met.ofW (cc := cX9_risk) (maxL := 5) (ret := (some .int)) (by decide) rfl ?_
  intro p e s m args below meth c s₁ B hml hv
  obtain ⟨rfl, hP, hK, hN, hX⟩ := hv
  have hts := atoms_spec (ws := .code yX9_risk cX9_risk 5 (some .int) :: wsL_law) B.pre
  rw [lg_entry_eq]
  exact b_X9_risk A fu x v1 v2 B.exec B.bytes B.returns hml (findClass_of_methodNamed B.named) (fun w h => hts w (List.mem_cons_of_mem _ h)) B.notSynchronized hK hN hX hP hf hDx  (lv_entry [.ref (A 0), .int v1, .int v2] (n := 5) (Nat.le_of_ble_eq_true rfl))
def p_X9_drawDay_L19 (fu : Nat) (c86 : (Nat → Ob) → Int32 → Option (Int32 × (Nat → Ob))) : Nat → (Nat → Ob) → Int64 → Int32 → Int32 → Option (Int32 × (Nat → Ob))
  | 0, _, _, _, _ => none
  | n + 1, xz, v3, v5, v6 =>
    if (60 : Int32) < v6 then c86 xz v5 else if (2147483648 : Int64) = 0 then none else if (65536 : Int64) = 0 then none else if (10 : Int64) = 0 then none else if (0 : Int32) ≤ (lg_cmp (((((1103515245 * v3) + 12345) - ((1103515245 * v3) + 12345) / 2147483648 * 2147483648) / 65536) - ((((1103515245 * v3) + 12345) - ((1103515245 * v3) + 12345) / 2147483648 * 2147483648) / 65536) / 10 * 10) (((xz 5).1 2 0).toInt64)) then p_X9_drawDay_L19 fu c86 n xz (((1103515245 * v3) + 12345) - ((1103515245 * v3) + 12345) / 2147483648 * 2147483648) v5 (v6 + 1) else (p_X8_addRain fu (xz 11) v6 ((xz 5).1 3 0)).bind fun r_74 => p_X9_drawDay_L19 fu c86 n (va_up xz 11 r_74) (((1103515245 * v3) + 12345) - ((1103515245 * v3) + 12345) / 2147483648 * 2147483648) (v5 + 1) (v6 + 1)
def p_X9_drawDay (fu : Nat) (x : Nat → Ob) (v1 : Int64) : Option (Int32 × (Nat → Ob)) :=
  (p_X8_become fu (x 11) (x 10)).bind fun r_8 => p_X9_drawDay_L19 fu (fun xz v5 => (p_X8_fall fu (xz 11) ((xz 5).1 1 0)).bind fun r_97 => some (v5, (va_up xz 11 r_97))) fu (va_up x 11 r_8) v1 0 1
abbrev rm_X9_drawDay : Room := { frames := 3, cells := 0, slots := 0, locals := 65 }
set_option maxHeartbeats 4000000 in
set_option maxRecDepth 100000 in
theorem b_X9_drawDay {p : Program} {l : Launch} {e : Env} {s : State} {m : MethodId} {args : Array Value} {below : List Frame} {meth : Method} {c : Code} {ls : Array Slot} {D : va_G} {ct : Nat → ClassId} {G : GT} (A : Nat → Nat) (fu : Nat) (x : Nat → Ob) (v1 : Int64) {r : Int32 × (Nat → Ob)} (hx : p.tables.exec = Jvm.exec) (hb : c.code = cX9_drawDay) (hr : meth.sig.returnType = (some .int)) (hml : c.maxLocals = 7) (hown : s.vm.findClass RX9 = some m.cls) (htl : ∀ w ∈ wsL_law, w.before args s = true) (hlocks : meth.locks = false) (hK : va_K D vwCl (tyl ct) s) (hN : ∀ w ∈ NW, va_Nw w s) (hX : SX G s s.heap) (hP0 : va_P D vwCl (csQ ct A x) s.heap) (hf : p_X9_drawDay fu x v1 = some r) (hDx : ∀ x : Nat → Ob, va_D (GE G) (csQ ct A x))  (hl : lv_has ls 7 [(0, .ref (A 0)), (1, .long v1)]) : W p l e rm_X9_drawDay s m args below meth c s.heap [] 0 0 (MQ below (Qwr (some (.int r.1)) (fun H => va_P D vwCl (csQ ct A r.2) H) (wA (csQ ct A x))) args s 0 0 (wA (csQ ct A x))) (F0 m 0 ls []) := by
  generalize hQQ : MQ below (Qwr (some (.int r.1)) (fun H => va_P D vwCl (csQ ct A r.2) H) (wA (csQ ct A x))) args s 0 0 (wA (csQ ct A x)) = QQ
  have hDW : ∀ x1 : Nat → Ob, va_D (wA (csQ ct A x)) (csQ ct A x1) := fun x1 => D_any (D_self (hDx x1)) (wA_Q x1 x)
  have hGE : ∀ q, wA (csQ ct A x) q → GE G q := wA_GE (hDx x)
  have hP := hP0
  have hS : va_S (wA (csQ ct A x)) s.heap s.heap [] := va_S.rf
  have hL19 : ∀ (c86 : (Nat → Ob) → Int32 → Option (Int32 × (Nat → Ob))) (n : Nat) (xz : Nat → Ob) (v3 : Int64) (v5 : Int32) (v6 : Int32), ∀ (H : Heap) (locs : List Loc) (ls : Array Slot), va_P D vwCl (csQ ct A xz) H → va_S (wA (csQ ct A x)) s.heap H locs → lv_has ls 7 [(0, .ref (A 0)), (3, .long v3), (5, .int v5), (6, .int v6)] → p_X9_drawDay_L19 fu c86 n xz v3 v5 v6 = some r → (∀ (xz : Nat → Ob) (v5 : Int32), ∀ (H : Heap) (locs : List Loc) (ls : Array Slot), va_P D vwCl (csQ ct A xz) H → va_S (wA (csQ ct A x)) s.heap H locs → lv_has ls 7 [(0, .ref (A 0)), (5, .int v5)] → c86 xz v5 = some r → W p l e rm_X9_drawDay s m args below meth c H locs 0 0 QQ (F0 m 86 ls [])) → W p l e rm_X9_drawDay s m args below meth c H locs 0 0 QQ (F0 m 19 ls []) := by
    intro c86 n
    induction n with
    | zero =>
      intro xz v3 v5 v6 H locs ls hP hS hl hf k86
      rw [p_X9_drawDay_L19] at hf
      cases hf
    | succ n ih =>
      intro xz v3 v5 v6 H locs ls hP hS hl hf k86
      rw [p_X9_drawDay_L19] at hf
      refine lv_iload hx hb dX9_drawDay_19 (lv_at hl 3 rfl) ?_
      refine lv_bipush (v := 60) hx hb dX9_drawDay_21 (by decide) ?_
      refine lv_icmp_gt (tgt := 86) hx hb dX9_drawDay_23 (by decide) (fun c_23 => ?_) (fun c_23 => ?_)
      · rw [if_pos c_23] at hf
        exact k86 xz v5 _ _ _ hP hS (lv_sub hl [0, 2] rfl) hf
      rw [if_neg c_23] at hf
      refine lv_ldc2 (v := 1103515245) hx hb hown (htl _ wq_57_6) dX9_drawDay_26 ?_
      refine lv_lload_n hx hb dX9_drawDay_29 rfl (lv_at hl 1 rfl) ?_
      refine lv_lmul hx hb dX9_drawDay_30 ?_
      refine lv_ldc2 (v := 12345) hx hb hown (htl _ wq_57_7) dX9_drawDay_31 ?_
      refine lv_ladd hx hb dX9_drawDay_34 ?_
      refine lv_ldc2 (v := 2147483648) hx hb hown (htl _ wq_57_8) dX9_drawDay_35 ?_
      obtain ⟨hne_38, hf⟩ := ob_neL hf
      refine lv_lrem hx hb dX9_drawDay_38 hne_38 ?_
      refine lv_lstore_n (lv' := [(3, .long (((1103515245 * v3) + 12345) - ((1103515245 * v3) + 12345) / 2147483648 * 2147483648)), (0, .ref (A 0)), (5, .int v5), (6, .int v6)]) hx hb dX9_drawDay_39 rfl hl (by decide) rfl (fun ls hl => ?_)
      refine lv_lload_n hx hb dX9_drawDay_40 rfl (lv_at hl 0 rfl) ?_
      refine lv_ldc2 (v := 65536) hx hb hown (htl _ wq_57_9) dX9_drawDay_41 ?_
      obtain ⟨hne_44, hf⟩ := ob_neL hf
      refine lv_ldiv hx hb dX9_drawDay_44 hne_44 ?_
      refine lv_ldc2 (v := 10) hx hb hown (htl _ wq_57_10) dX9_drawDay_45 ?_
      obtain ⟨hne_48, hf⟩ := ob_neL hf
      refine lv_lrem hx hb dX9_drawDay_48 hne_48 ?_
      refine lv_aload_n hx hb dX9_drawDay_49 rfl (lv_at hl 1 rfl) ?_
      refine va_get (D := D) (ci := 9) (v := .ref (A 21)) (C := RX9) (T := TX9) (N := 14) hx hb htl inlX9 hown hK hP 0 qh_0 rfl 2 (by decide) (htl _ wq_2_0) (fun _ h9 => h9) rfl dX9_drawDay_50 ?_
      refine va_getN (D := D) (ci := 2) (v := .int ((xz 5).1 2 0)) (C := RX2) (T := TX2) (N := 20) hx hb htl inlX2 hown hK hP 21 qh_5 rfl 2 (by decide) (va_Nw.use rfl (hN _ nm_32)) (fun _ h9 => h9) rfl dX9_drawDay_53 ?_
      refine lv_i2l hx hb dX9_drawDay_56 rfl ?_
      refine W.lcmp hx hb dX9_drawDay_57 ?_
      refine lv_if_ge (tgt := 80) hx hb dX9_drawDay_58 (by decide) (fun c_58 => ?_) (fun c_58 => ?_)
      · rw [if_pos c_58] at hf
        refine lv_iinc (v := (v6 + 1)) (lv' := [(6, .int (v6 + 1)), (3, .long (((1103515245 * v3) + 12345) - ((1103515245 * v3) + 12345) / 2147483648 * 2147483648)), (0, .ref (A 0)), (5, .int v5)]) hx hb dX9_drawDay_80 hl (k := 3) rfl rfl (by decide) rfl (fun ls hl => ?_)
        refine lv_goto (tgt := 19) hx hb dX9_drawDay_83 (by decide) ?_
        exact ih xz (((1103515245 * v3) + 12345) - ((1103515245 * v3) + 12345) / 2147483648 * 2147483648) v5 (v6 + 1) _ _ _ hP hS (lv_sub hl [2, 1, 3, 0] rfl) hf k86
      rw [if_neg c_58] at hf
      refine lv_aload_n hx hb dX9_drawDay_61 rfl (lv_at hl 1 rfl) ?_
      refine va_get (D := D) (ci := 9) (v := .ref (A 90)) (C := RX9) (T := TX9) (N := 14) hx hb htl inlX9 hown hK hP 0 qh_0 rfl 7 (by decide) (htl _ wq_2_8) (fun _ h9 => h9) rfl dX9_drawDay_62 ?_
      refine lv_iload hx hb dX9_drawDay_65 (lv_at hl 3 rfl) ?_
      refine lv_aload_n hx hb dX9_drawDay_67 rfl (lv_at hl 1 rfl) ?_
      refine va_get (D := D) (ci := 9) (v := .ref (A 21)) (C := RX9) (T := TX9) (N := 14) hx hb htl inlX9 hown hK hP 0 qh_0 rfl 2 (by decide) (htl _ wq_2_0) (fun _ h9 => h9) rfl dX9_drawDay_68 ?_
      refine va_getN (D := D) (ci := 2) (v := .int ((xz 5).1 3 0)) (C := RX2) (T := TX2) (N := 20) hx hb htl inlX2 hown hK hP 21 qh_5 rfl 3 (by decide) (va_Nw.use rfl (hN _ nm_33)) (fun _ h9 => h9) rfl dX9_drawDay_71 ?_
      obtain ⟨r_74, e_74, hf⟩ := ob_bind hf
      have hPX_74 : va_P D vwCl (cs8 ct (fun i => A (90 + i)) (xz 11)) H := (qs_11 hP)
      refine wr_call0 (va_runVN (As := [.int v6, .int ((xz 5).1 3 0)]) (rest := []) ⟨hx, hb, hml, hown, htl⟩ (c_X8_addRain l D ct G (fun i => A (90 + i)) fu (xz 11) v6 ((xz 5).1 3 0) e_74 ((hDx xz).sub (ws' := cs8 ct (fun i => A (90 + i)) (xz 11)) [90, 91, 92] (by decide) rfl)) (cw_X9_X8_addRain htl hN ⟨Nat.le_of_ble_eq_true rfl, Nat.le_of_ble_eq_true rfl⟩) ⟨Bx_blind, va_recv hK hPX_74 (ci := 8) (q0 := 0) rfl rfl, Bx_pre hPX_74 hK hN (hX.stay hS hGE)⟩ rfl rfl hl.1 rfl (lv_room (Nat.le_of_ble_eq_true rfl)) dX9_drawDay_74 ⟨Nat.zero_le _, Nat.zero_le _⟩) hS qa_11 (fun H_74 locs_74 hB_74 _ hk_74 hS => ?_)
      have hP : va_P D vwCl (csQ ct A (va_up xz 11 r_74)) H_74 := qj_11 hP (hDW xz) hk_74 hB_74
      refine lv_iinc (v := (v5 + 1)) (lv' := [(5, .int (v5 + 1)), (3, .long (((1103515245 * v3) + 12345) - ((1103515245 * v3) + 12345) / 2147483648 * 2147483648)), (0, .ref (A 0)), (6, .int v6)]) hx hb dX9_drawDay_77 hl (k := 2) rfl rfl (by decide) rfl (fun ls hl => ?_)
      refine lv_iinc (v := (v6 + 1)) (lv' := [(6, .int (v6 + 1)), (5, .int (v5 + 1)), (3, .long (((1103515245 * v3) + 12345) - ((1103515245 * v3) + 12345) / 2147483648 * 2147483648)), (0, .ref (A 0))]) hx hb dX9_drawDay_80 hl (k := 3) rfl rfl (by decide) rfl (fun ls hl => ?_)
      refine lv_goto (tgt := 19) hx hb dX9_drawDay_83 (by decide) ?_
      exact ih (va_up xz 11 r_74) (((1103515245 * v3) + 12345) - ((1103515245 * v3) + 12345) / 2147483648 * 2147483648) (v5 + 1) (v6 + 1) _ _ _ hP hS (lv_sub hl [3, 2, 1, 0] rfl) hf k86
  rw [p_X9_drawDay] at hf
  refine lv_aload_n hx hb dX9_drawDay_0 rfl (lv_at hl 0 rfl) ?_
  refine va_get (D := D) (ci := 9) (v := .ref (A 90)) (C := RX9) (T := TX9) (N := 14) hx hb htl inlX9 hown hK hP 0 qh_0 rfl 7 (by decide) (htl _ wq_2_8) (fun _ h9 => h9) rfl dX9_drawDay_1 ?_
  refine lv_aload_n hx hb dX9_drawDay_4 rfl (lv_at hl 0 rfl) ?_
  refine va_get (D := D) (ci := 9) (v := .ref (A 87)) (C := RX9) (T := TX9) (N := 14) hx hb htl inlX9 hown hK hP 0 qh_0 rfl 6 (by decide) (htl _ wq_2_7) (fun _ h9 => h9) rfl dX9_drawDay_5 ?_
  obtain ⟨r_8, e_8, hf⟩ := ob_bind hf
  have hPX_8 : va_P D vwCl (cs8 ct (fun i => A (90 + i)) (x 11) ++ (cs8 ct (fun i => A (87 + i)) (x 10))) s.heap := (va_P.app (qs_11 hP) (qs_10 hP))
  refine wr_call0 (va_runVN (As := [.ref (A 87)]) (rest := []) ⟨hx, hb, hml, hown, htl⟩ (c_X8_become l D ct G (fun i => A (90 + i)) (fun i => A (87 + i)) fu (x 11) (x 10) e_8 ((hDx x).sub (ws' := cs8 ct (fun i => A (90 + i)) (x 11) ++ (cs8 ct (fun i => A (87 + i)) (x 10))) [90, 91, 92, 87, 88, 89] (by decide) rfl)) (cw_X9_X8_become htl hN ⟨Nat.le_of_ble_eq_true rfl, Nat.le_of_ble_eq_true rfl⟩) ⟨Bx_blind, va_recv hK hPX_8 (ci := 8) (q0 := 0) rfl rfl, Bx_pre hPX_8 hK hN (hX.stay hS hGE)⟩ rfl rfl hl.1 rfl (lv_room (Nat.le_of_ble_eq_true rfl)) dX9_drawDay_8 ⟨Nat.zero_le _, Nat.zero_le _⟩) hS qa_11 (fun H_8 locs_8 hB_8 _ hk_8 hS => ?_)
  have hP : va_P D vwCl (csQ ct A (va_up x 11 r_8)) H_8 := qj_11 hP (hDW x) hk_8 hB_8
  refine lv_lload_n hx hb dX9_drawDay_11 rfl (lv_at hl 1 rfl) ?_
  refine lv_lstore_n (lv' := [(3, .long v1), (0, .ref (A 0)), (1, .long v1)]) hx hb dX9_drawDay_12 rfl hl (by decide) rfl (fun ls hl => ?_)
  refine lv_iconst (v := 0) hx hb dX9_drawDay_13 (by decide) ?_
  refine lv_istore (lv' := [(5, .int 0), (3, .long v1), (0, .ref (A 0)), (1, .long v1)]) hx hb dX9_drawDay_14 hl (by decide) rfl (fun ls hl => ?_)
  refine lv_iconst (v := 1) hx hb dX9_drawDay_16 (by decide) ?_
  refine lv_istore (lv' := [(6, .int 1), (5, .int 0), (3, .long v1), (0, .ref (A 0)), (1, .long v1)]) hx hb dX9_drawDay_17 hl (by decide) rfl (fun ls hl => ?_)
  refine hL19 _ fu (va_up x 11 r_8) v1 0 1 _ _ _ hP hS (lv_sub hl [3, 2, 1, 0] rfl) hf (fun xz v5 H locs ls hP hS hl hf => ?_)
  refine lv_aload_n hx hb dX9_drawDay_86 rfl (lv_at hl 0 rfl) ?_
  refine va_get (D := D) (ci := 9) (v := .ref (A 90)) (C := RX9) (T := TX9) (N := 14) hx hb htl inlX9 hown hK hP 0 qh_0 rfl 7 (by decide) (htl _ wq_2_8) (fun _ h9 => h9) rfl dX9_drawDay_87 ?_
  refine lv_aload_n hx hb dX9_drawDay_90 rfl (lv_at hl 0 rfl) ?_
  refine va_get (D := D) (ci := 9) (v := .ref (A 21)) (C := RX9) (T := TX9) (N := 14) hx hb htl inlX9 hown hK hP 0 qh_0 rfl 2 (by decide) (htl _ wq_2_0) (fun _ h9 => h9) rfl dX9_drawDay_91 ?_
  refine va_getN (D := D) (ci := 2) (v := .int ((xz 5).1 1 0)) (C := RX2) (T := TX2) (N := 20) hx hb htl inlX2 hown hK hP 21 qh_5 rfl 1 (by decide) (va_Nw.use rfl (hN _ nm_26)) (fun _ h9 => h9) rfl dX9_drawDay_94 ?_
  obtain ⟨r_97, e_97, hf⟩ := ob_bind hf
  have hPX_97 : va_P D vwCl (cs8 ct (fun i => A (90 + i)) (xz 11)) H := (qs_11 hP)
  refine wr_call0 (va_runVN (As := [.int ((xz 5).1 1 0)]) (rest := []) ⟨hx, hb, hml, hown, htl⟩ (c_X8_fall l D ct G (fun i => A (90 + i)) fu (xz 11) ((xz 5).1 1 0) e_97 ((hDx xz).sub (ws' := cs8 ct (fun i => A (90 + i)) (xz 11)) [90, 91, 92] (by decide) rfl)) (cw_X9_X8_fall htl hN ⟨Nat.le_of_ble_eq_true rfl, Nat.le_of_ble_eq_true rfl⟩) ⟨Bx_blind, va_recv hK hPX_97 (ci := 8) (q0 := 0) rfl rfl, Bx_pre hPX_97 hK hN (hX.stay hS hGE)⟩ rfl rfl hl.1 rfl (lv_room (Nat.le_of_ble_eq_true rfl)) dX9_drawDay_97 ⟨Nat.zero_le _, Nat.zero_le _⟩) hS qa_11 (fun H_97 locs_97 hB_97 _ hk_97 hS => ?_)
  have hP : va_P D vwCl (csQ ct A (va_up xz 11 r_97)) H_97 := qj_11 hP (hDW xz) hk_97 hB_97
  refine lv_iload hx hb dX9_drawDay_100 (lv_at hl 1 rfl) ?_
  rw [← hQQ]
  cases hf
  exact rw_i hx hb hr hlocks hP hS dX9_drawDay_102
theorem c_X9_drawDay (l : Launch) (D : va_G) (ct : Nat → ClassId) (G : GT) (A : Nat → Nat) (fu : Nat) (x : Nat → Ob) (v1 : Int64) {r : Int32 × (Nat → Ob)} (hf : p_X9_drawDay fu x v1 = some r)  (hDx : ∀ x : Nat → Ob, va_D (GE G) (csQ ct A x)) : Met l yX9_drawDay (.code yX9_drawDay cX9_drawDay 7 (some .int) :: wsL_law) rm_X9_drawDay (va_Pc [.ref (A 0), .long v1] (Bx D ct G (csQ ct A x))) (Qwr (some (.int r.1)) (fun H => va_P D vwCl (csQ ct A r.2) H) (wA (csQ ct A x))) 0 0 (wA (csQ ct A x)) := by
  refine Met.ofW (cc := cX9_drawDay) (maxL := 7) (ret := (some .int)) (by decide) rfl ?_
  intro p e s m args below meth c s₁ B hml hv
  obtain ⟨rfl, hP, hK, hN, hX⟩ := hv
  have hts := atoms_spec (ws := .code yX9_drawDay cX9_drawDay 7 (some .int) :: wsL_law) B.pre
  rw [lg_entry_eq]
  exact b_X9_drawDay A fu x v1 B.exec B.bytes B.returns hml (findClass_of_methodNamed B.named) (fun w h => hts w (List.mem_cons_of_mem _ h)) B.notSynchronized hK hN hX hP hf hDx  (lv_entry [.ref (A 0), .long v1] (n := 7) (Nat.le_of_ble_eq_true rfl))
theorem hd_X9_isSeed : yX9_isSeed.cls ≠ "java/lang/invoke/MethodHandle" ∧ yX9_isSeed.cls ≠ "java/lang/invoke/VarHandle" ∧ (parseMethodDescriptor yX9_isSeed.desc).map (fun d => d.parameters.length) = some 1 := by decide +kernel
theorem cw_X9_X9_isSeed {R : Room} {s : State} {args : Array Value} (ht : ∀ w ∈ wsL_law, w.before args s = true) (hR : rm_X9_isSeed.frames + 1 ≤ R.frames ∧ 8 + (1 + 11) + rm_X9_isSeed.locals ≤ R.locals) : CallB R s args RX9 358 yX9_isSeed cX9_isSeed 1 (some .boolean) ((.code yX9_isSeed cX9_isSeed 1 (some .boolean)) :: wsL_law) rm_X9_isSeed 0 0 1 ∧ (Cond.static yX9_isSeed).before args s = true := va_cwS 1 ht (GS wq_56_22 wq_56_23 wq_1_2 wq_57_0) rfl rfl rfl hd_X9_isSeed hR
theorem hd_X9_drawDay : yX9_drawDay.cls ≠ "java/lang/invoke/MethodHandle" ∧ yX9_drawDay.cls ≠ "java/lang/invoke/VarHandle" ∧ (parseMethodDescriptor yX9_drawDay.desc).map (fun d => d.parameters.length) = some 1 := by decide +kernel
theorem cw_X9_X9_drawDay {R : Room} {s : State} {args : Array Value} (ht : ∀ w ∈ wsL_law, w.before args s = true) (hR : rm_X9_drawDay.frames + 1 ≤ R.frames ∧ 8 + (7 + 11) + rm_X9_drawDay.locals ≤ R.locals) : CallW R s args RX9 RX9 361 yX9_drawDay cX9_drawDay 7 (some .int) ((.code yX9_drawDay cX9_drawDay 7 (some .int)) :: wsL_law) rm_X9_drawDay 0 0 1 := cwV 1 ht (GV wq_57_2 wq_57_3 wq_57_4 wq_1_2 wq_57_5) rfl rfl rfl ⟨rfl, hd_X9_drawDay⟩ hR
def p_X9_drawn (fu : Nat) (x : Nat → Ob) (v1 : Int32) (v2 : Int32) : Option (Int32 × (Nat → Ob)) :=
  if ((x 5).1 0 0) = 0 then some (((-2) : Int32), x) else (p_X9_isSeed fu v1).bind fun r_11 => if r_11 = 0 then some (((-2) : Int32), x) else if v2 < 0 then some (((-2) : Int32), x) else if v2 ≤ (1 : Int32) then (p_X9_drawDay fu x v1.toInt64).bind fun r_32 => if v2 = 0 then (p_X8_levelAt fu (r_32.2 11) (60 : Int32)).bind fun r_46 => some (r_46, r_32.2) else some (r_32.1, r_32.2) else some (((-2) : Int32), x)
abbrev rm_X9_drawn : Room := { frames := 4, cells := 0, slots := 0, locals := 91 }
set_option maxHeartbeats 4000000 in
set_option maxRecDepth 100000 in
theorem b_X9_drawn {p : Program} {l : Launch} {e : Env} {s : State} {m : MethodId} {args : Array Value} {below : List Frame} {meth : Method} {c : Code} {ls : Array Slot} {D : va_G} {ct : Nat → ClassId} {G : GT} (A : Nat → Nat) (fu : Nat) (x : Nat → Ob) (v1 : Int32) (v2 : Int32) {r : Int32 × (Nat → Ob)} (hx : p.tables.exec = Jvm.exec) (hb : c.code = cX9_drawn) (hr : meth.sig.returnType = (some .int)) (hml : c.maxLocals = 4) (hown : s.vm.findClass RX9 = some m.cls) (htl : ∀ w ∈ wsL_law, w.before args s = true) (hlocks : meth.locks = false) (hK : va_K D vwCl (tyl ct) s) (hN : ∀ w ∈ NW, va_Nw w s) (hX : SX G s s.heap) (hP0 : va_P D vwCl (csQ ct A x) s.heap) (hf : p_X9_drawn fu x v1 v2 = some r) (hDx : ∀ x : Nat → Ob, va_D (GE G) (csQ ct A x))  (hl : lv_has ls 4 [(0, .ref (A 0)), (1, .int v1), (2, .int v2)]) : W p l e rm_X9_drawn s m args below meth c s.heap [] 0 0 (MQ below (Qwr (some (.int r.1)) (fun H => va_P D vwCl (csQ ct A r.2) H) (wA (csQ ct A x))) args s 0 0 (wA (csQ ct A x))) (F0 m 0 ls []) := by
  generalize hQQ : MQ below (Qwr (some (.int r.1)) (fun H => va_P D vwCl (csQ ct A r.2) H) (wA (csQ ct A x))) args s 0 0 (wA (csQ ct A x)) = QQ
  have hDW : ∀ x1 : Nat → Ob, va_D (wA (csQ ct A x)) (csQ ct A x1) := fun x1 => D_any (D_self (hDx x1)) (wA_Q x1 x)
  have hGE : ∀ q, wA (csQ ct A x) q → GE G q := wA_GE (hDx x)
  have hP := hP0
  have hS : va_S (wA (csQ ct A x)) s.heap s.heap [] := va_S.rf
  rw [p_X9_drawn] at hf
  refine lv_aload_n hx hb dX9_drawn_0 rfl (lv_at hl 0 rfl) ?_
  refine va_get (D := D) (ci := 9) (v := .ref (A 21)) (C := RX9) (T := TX9) (N := 14) hx hb htl inlX9 hown hK hP 0 qh_0 rfl 2 (by decide) (htl _ wq_2_0) (fun _ h9 => h9) rfl dX9_drawn_1 ?_
  refine va_getN (D := D) (ci := 2) (v := .int ((x 5).1 0 0)) (C := RX2) (T := TX2) (N := 20) hx hb htl inlX2 hown hK hP 21 qh_5 rfl 0 (by decide) (va_Nw.use rfl (hN _ nm_14)) (fun _ h9 => h9) rfl dX9_drawn_4 ?_
  refine lv_if_eq (tgt := 26) hx hb dX9_drawn_7 (by decide) (fun c_7 => ?_) (fun c_7 => ?_)
  · rw [if_pos c_7] at hf
    refine lv_bipush (v := (-2)) hx hb dX9_drawn_26 (by decide) ?_
    rw [← hQQ]
    cases hf
    exact rw_i hx hb hr hlocks hP hS dX9_drawn_28
  rw [if_neg c_7] at hf
  refine lv_iload_n hx hb dX9_drawn_10 rfl (lv_at hl 1 rfl) ?_
  obtain ⟨r_11, e_11, hf⟩ := ob_bind hf
  have hPX_11 : va_P D vwCl ([]) s.heap := P_nil
  refine ro_call1 (va_runS (As := [.int v1]) (rest := []) ⟨hx, hb, hml, hown, htl⟩ (c_X9_isSeed l D ct G fu v1 e_11) (cw_X9_X9_isSeed htl ⟨Nat.le_of_ble_eq_true rfl, Nat.le_of_ble_eq_true rfl⟩) ⟨Bx_blind, Bx_pre hPX_11 hK hN (hX.stay hS hGE)⟩ rfl rfl hl.1 rfl (lv_room (Nat.le_of_ble_eq_true rfl)) dX9_drawn_11 ⟨Nat.zero_le _, Nat.zero_le _⟩) ?_
  refine lv_if_eq (tgt := 26) hx hb dX9_drawn_14 (by decide) (fun c_14 => ?_) (fun c_14 => ?_)
  · rw [if_pos c_14] at hf
    refine lv_bipush (v := (-2)) hx hb dX9_drawn_26 (by decide) ?_
    rw [← hQQ]
    cases hf
    exact rw_i hx hb hr hlocks hP hS dX9_drawn_28
  rw [if_neg c_14] at hf
  refine lv_iload_n hx hb dX9_drawn_17 rfl (lv_at hl 2 rfl) ?_
  refine lv_if_lt (tgt := 26) hx hb dX9_drawn_18 (by decide) (fun c_18 => ?_) (fun c_18 => ?_)
  · rw [if_pos c_18] at hf
    refine lv_bipush (v := (-2)) hx hb dX9_drawn_26 (by decide) ?_
    rw [← hQQ]
    cases hf
    exact rw_i hx hb hr hlocks hP hS dX9_drawn_28
  rw [if_neg c_18] at hf
  refine lv_iload_n hx hb dX9_drawn_21 rfl (lv_at hl 2 rfl) ?_
  refine lv_iconst (v := 1) hx hb dX9_drawn_22 (by decide) ?_
  refine lv_icmp_le (tgt := 29) hx hb dX9_drawn_23 (by decide) (fun c_23 => ?_) (fun c_23 => ?_)
  rotate_left 1
  · rw [if_neg c_23] at hf
    refine lv_bipush (v := (-2)) hx hb dX9_drawn_26 (by decide) ?_
    rw [← hQQ]
    cases hf
    exact rw_i hx hb hr hlocks hP hS dX9_drawn_28
  rw [if_pos c_23] at hf
  refine lv_aload_n hx hb dX9_drawn_29 rfl (lv_at hl 0 rfl) ?_
  refine lv_iload_n hx hb dX9_drawn_30 rfl (lv_at hl 1 rfl) ?_
  refine lv_i2l hx hb dX9_drawn_31 rfl ?_
  obtain ⟨r_32, e_32, hf⟩ := ob_bind hf
  have hPX_32 : va_P D vwCl (csQ ct A x) s.heap := hP
  refine wr_call1 (va_runV (As := [.long v1.toInt64]) (rest := []) ⟨hx, hb, hml, hown, htl⟩ (c_X9_drawDay l D ct G A fu x v1.toInt64 e_32 hDx) (cw_X9_X9_drawDay htl ⟨Nat.le_of_ble_eq_true rfl, Nat.le_of_ble_eq_true rfl⟩) ⟨Bx_blind, va_recv hK hPX_32 (ci := 9) (q0 := 0) rfl rfl, Bx_pre hPX_32 hK hN (hX.stay hS hGE)⟩ rfl rfl hl.1 rfl (lv_room (Nat.le_of_ble_eq_true rfl)) dX9_drawn_32 ⟨Nat.zero_le _, Nat.zero_le _⟩) hS (wA_Q _ _) (fun H_32 locs_32 hB_32 _ hk_32 hS => ?_)
  have hP : va_P D vwCl (csQ ct A r_32.2) H_32 := hB_32
  refine lv_istore_n (lv' := [(3, .int r_32.1), (0, .ref (A 0)), (1, .int v1), (2, .int v2)]) hx hb dX9_drawn_35 rfl hl (by decide) rfl (fun ls hl => ?_)
  refine lv_iload_n hx hb dX9_drawn_36 rfl (lv_at hl 3 rfl) ?_
  refine lv_if_ne (tgt := 52) hx hb dX9_drawn_37 (by decide) (fun c_37 => ?_) (fun c_37 => ?_)
  · rw [if_neg c_37] at hf
    refine lv_iload_n hx hb dX9_drawn_52 rfl (lv_at hl 0 rfl) ?_
    rw [← hQQ]
    cases hf
    exact rw_i hx hb hr hlocks hP hS dX9_drawn_53
  rw [if_pos c_37] at hf
  refine lv_aload_n hx hb dX9_drawn_40 rfl (lv_at hl 1 rfl) ?_
  refine va_get (D := D) (ci := 9) (v := .ref (A 90)) (C := RX9) (T := TX9) (N := 14) hx hb htl inlX9 hown hK hP 0 qh_0 rfl 7 (by decide) (htl _ wq_2_8) (fun _ h9 => h9) rfl dX9_drawn_41 ?_
  refine lv_bipush (v := 60) hx hb dX9_drawn_44 (by decide) ?_
  obtain ⟨r_46, e_46, hf⟩ := ob_bind hf
  have hPX_46 : va_P D vwCl (cs8 ct (fun i => A (90 + i)) (r_32.2 11)) H_32 := (qs_11 hP)
  refine ro_call1 (va_runVN (As := [.int 60]) (rest := []) ⟨hx, hb, hml, hown, htl⟩ (c_X8_levelAt l D ct G (fun i => A (90 + i)) fu (r_32.2 11) (60 : Int32) e_46) (cw_X9_X8_levelAt htl hN ⟨Nat.le_of_ble_eq_true rfl, Nat.le_of_ble_eq_true rfl⟩) ⟨Bx_blind, va_recv hK hPX_46 (ci := 8) (q0 := 0) rfl rfl, Bx_pre hPX_46 hK hN (hX.stay hS hGE)⟩ rfl rfl hl.1 rfl (lv_room (Nat.le_of_ble_eq_true rfl)) dX9_drawn_46 ⟨Nat.zero_le _, Nat.zero_le _⟩) ?_
  refine lv_goto (tgt := 53) hx hb dX9_drawn_49 (by decide) ?_
  rw [← hQQ]
  cases hf
  exact rw_i hx hb hr hlocks hP hS dX9_drawn_53
theorem c_X9_drawn (l : Launch) (D : va_G) (ct : Nat → ClassId) (G : GT) (A : Nat → Nat) (fu : Nat) (x : Nat → Ob) (v1 : Int32) (v2 : Int32) {r : Int32 × (Nat → Ob)} (hf : p_X9_drawn fu x v1 v2 = some r)  (hDx : ∀ x : Nat → Ob, va_D (GE G) (csQ ct A x)) : Met l yX9_drawn (.code yX9_drawn cX9_drawn 4 (some .int) :: wsL_law) rm_X9_drawn (va_Pc [.ref (A 0), .int v1, .int v2] (Bx D ct G (csQ ct A x))) (Qwr (some (.int r.1)) (fun H => va_P D vwCl (csQ ct A r.2) H) (wA (csQ ct A x))) 0 0 (wA (csQ ct A x)) := by
  refine Met.ofW (cc := cX9_drawn) (maxL := 4) (ret := (some .int)) (by decide) rfl ?_
  intro p e s m args below meth c s₁ B hml hv
  obtain ⟨rfl, hP, hK, hN, hX⟩ := hv
  have hts := atoms_spec (ws := .code yX9_drawn cX9_drawn 4 (some .int) :: wsL_law) B.pre
  rw [lg_entry_eq]
  exact b_X9_drawn A fu x v1 v2 B.exec B.bytes B.returns hml (findClass_of_methodNamed B.named) (fun w h => hts w (List.mem_cons_of_mem _ h)) B.notSynchronized hK hN hX hP hf hDx  (lv_entry [.ref (A 0), .int v1, .int v2] (n := 4) (Nat.le_of_ble_eq_true rfl))
def p_X9_luck_L35 (fu : Nat)  : Nat → (Nat → Ob) → Int32 → Int32 → Int32 → Int32 → Int32 → Option (Int32 × (Nat → Ob))
  | 0, _, _, _, _, _, _ => none
  | n + 1, xz, v1, v2, v3, v4, v5 =>
    if v2 ≤ v5 then some (v4, xz) else (p_X9_drawDay fu xz (v1.toInt64 + v5.toInt64)).bind fun r_48 => (p_X5_drift fu (r_48.2 12) (r_48.2 5) (r_48.2 11) v3 (0 : Int32)).bind fun r_66 => if (((va_up r_48.2 12 r_66) 12).1 4 0) = ((-1) : Int32) then p_X9_luck_L35 fu  n (va_up r_48.2 12 r_66) v1 v2 v3 v4 (v5 + 1) else p_X9_luck_L35 fu  n (va_up r_48.2 12 r_66) v1 v2 v3 (v4 + 1) (v5 + 1)
def p_X9_luck (fu : Nat) (x : Nat → Ob) (v1 : Int32) (v2 : Int32) (v3 : Int32) : Option (Int32 × (Nat → Ob)) :=
  (p_X9_isSeed fu v1).bind fun r_1 => if r_1 = 0 then some (((-2) : Int32), x) else if v2 < (1 : Int32) then some (((-2) : Int32), x) else if (20 : Int32) < v2 then some (((-2) : Int32), x) else (p_X9_isReach fu x v3).bind fun r_20 => if r_20 = 0 then some (((-2) : Int32), x) else p_X9_luck_L35 fu fu x v1 v2 v3 0 0
abbrev rm_X9_luck : Room := { frames := 4, cells := 0, slots := 0, locals := 97 }
set_option maxHeartbeats 4000000 in
set_option maxRecDepth 100000 in
theorem b_X9_luck {p : Program} {l : Launch} {e : Env} {s : State} {m : MethodId} {args : Array Value} {below : List Frame} {meth : Method} {c : Code} {ls : Array Slot} {D : va_G} {ct : Nat → ClassId} {G : GT} (A : Nat → Nat) (fu : Nat) (x : Nat → Ob) (v1 : Int32) (v2 : Int32) (v3 : Int32) {r : Int32 × (Nat → Ob)} (hx : p.tables.exec = Jvm.exec) (hb : c.code = cX9_luck) (hr : meth.sig.returnType = (some .int)) (hml : c.maxLocals = 6) (hown : s.vm.findClass RX9 = some m.cls) (htl : ∀ w ∈ wsL_law, w.before args s = true) (hlocks : meth.locks = false) (hK : va_K D vwCl (tyl ct) s) (hN : ∀ w ∈ NW, va_Nw w s) (hX : SX G s s.heap) (hP0 : va_P D vwCl (csQ ct A x) s.heap) (hf : p_X9_luck fu x v1 v2 v3 = some r) (hDx : ∀ x : Nat → Ob, va_D (GE G) (csQ ct A x))  (hl : lv_has ls 6 [(0, .ref (A 0)), (1, .int v1), (2, .int v2), (3, .int v3)]) : W p l e rm_X9_luck s m args below meth c s.heap [] 0 0 (MQ below (Qwr (some (.int r.1)) (fun H => va_P D vwCl (csQ ct A r.2) H) (wA (csQ ct A x))) args s 0 0 (wA (csQ ct A x))) (F0 m 0 ls []) := by
  generalize hQQ : MQ below (Qwr (some (.int r.1)) (fun H => va_P D vwCl (csQ ct A r.2) H) (wA (csQ ct A x))) args s 0 0 (wA (csQ ct A x)) = QQ
  have hDW : ∀ x1 : Nat → Ob, va_D (wA (csQ ct A x)) (csQ ct A x1) := fun x1 => D_any (D_self (hDx x1)) (wA_Q x1 x)
  have hGE : ∀ q, wA (csQ ct A x) q → GE G q := wA_GE (hDx x)
  have hP := hP0
  have hS : va_S (wA (csQ ct A x)) s.heap s.heap [] := va_S.rf
  have hL35 : ∀ (n : Nat) (xz : Nat → Ob) (v1 : Int32) (v2 : Int32) (v3 : Int32) (v4 : Int32) (v5 : Int32), ∀ (H : Heap) (locs : List Loc) (ls : Array Slot), va_P D vwCl (csQ ct A xz) H → va_S (wA (csQ ct A x)) s.heap H locs → lv_has ls 6 [(0, .ref (A 0)), (1, .int v1), (2, .int v2), (3, .int v3), (4, .int v4), (5, .int v5)] → p_X9_luck_L35 fu  n xz v1 v2 v3 v4 v5 = some r → W p l e rm_X9_luck s m args below meth c H locs 0 0 QQ (F0 m 35 ls []) := by
    intro  n
    induction n with
    | zero =>
      intro xz v1 v2 v3 v4 v5 H locs ls hP hS hl hf 
      rw [p_X9_luck_L35] at hf
      cases hf
    | succ n ih =>
      intro xz v1 v2 v3 v4 v5 H locs ls hP hS hl hf 
      rw [p_X9_luck_L35] at hf
      refine lv_iload hx hb dX9_luck_35 (lv_at hl 5 rfl) ?_
      refine lv_iload_n hx hb dX9_luck_37 rfl (lv_at hl 2 rfl) ?_
      refine lv_icmp_ge (tgt := 89) hx hb dX9_luck_38 (by decide) (fun c_38 => ?_) (fun c_38 => ?_)
      · rw [if_pos c_38] at hf
        refine lv_iload hx hb dX9_luck_89 (lv_at hl 4 rfl) ?_
        rw [← hQQ]
        cases hf
        exact rw_i hx hb hr hlocks hP hS dX9_luck_91
      rw [if_neg c_38] at hf
      refine lv_aload_n hx hb dX9_luck_41 rfl (lv_at hl 0 rfl) ?_
      refine lv_iload_n hx hb dX9_luck_42 rfl (lv_at hl 1 rfl) ?_
      refine lv_i2l hx hb dX9_luck_43 rfl ?_
      refine lv_iload hx hb dX9_luck_44 (lv_at hl 5 rfl) ?_
      refine lv_i2l hx hb dX9_luck_46 rfl ?_
      refine lv_ladd hx hb dX9_luck_47 ?_
      obtain ⟨r_48, e_48, hf⟩ := ob_bind hf
      have hPX_48 : va_P D vwCl (csQ ct A xz) H := hP
      refine wr_call1 (va_runV (As := [.long (v1.toInt64 + v5.toInt64)]) (rest := []) ⟨hx, hb, hml, hown, htl⟩ (c_X9_drawDay l D ct G A fu xz (v1.toInt64 + v5.toInt64) e_48 hDx) (cw_X9_X9_drawDay htl ⟨Nat.le_of_ble_eq_true rfl, Nat.le_of_ble_eq_true rfl⟩) ⟨Bx_blind, va_recv hK hPX_48 (ci := 9) (q0 := 0) rfl rfl, Bx_pre hPX_48 hK hN (hX.stay hS hGE)⟩ rfl rfl hl.1 rfl (lv_room (Nat.le_of_ble_eq_true rfl)) dX9_luck_48 ⟨Nat.zero_le _, Nat.zero_le _⟩) hS (wA_Q _ _) (fun H_48 locs_48 hB_48 _ hk_48 hS => ?_)
      have hP : va_P D vwCl (csQ ct A r_48.2) H_48 := hB_48
      refine lv_pop hx hb dX9_luck_51 rfl ?_
      refine lv_aload_n hx hb dX9_luck_52 rfl (lv_at hl 0 rfl) ?_
      refine va_get (D := D) (ci := 9) (v := .ref (A 93)) (C := RX9) (T := TX9) (N := 14) hx hb htl inlX9 hown hK hP 0 qh_0 rfl 8 (by decide) (htl _ wq_2_12) (fun _ h9 => h9) rfl dX9_luck_53 ?_
      refine lv_aload_n hx hb dX9_luck_56 rfl (lv_at hl 0 rfl) ?_
      refine va_get (D := D) (ci := 9) (v := .ref (A 21)) (C := RX9) (T := TX9) (N := 14) hx hb htl inlX9 hown hK hP 0 qh_0 rfl 2 (by decide) (htl _ wq_2_0) (fun _ h9 => h9) rfl dX9_luck_57 ?_
      refine lv_aload_n hx hb dX9_luck_60 rfl (lv_at hl 0 rfl) ?_
      refine va_get (D := D) (ci := 9) (v := .ref (A 90)) (C := RX9) (T := TX9) (N := 14) hx hb htl inlX9 hown hK hP 0 qh_0 rfl 7 (by decide) (htl _ wq_2_8) (fun _ h9 => h9) rfl dX9_luck_61 ?_
      refine lv_iload_n hx hb dX9_luck_64 rfl (lv_at hl 3 rfl) ?_
      refine lv_iconst (v := 0) hx hb dX9_luck_65 (by decide) ?_
      obtain ⟨r_66, e_66, hf⟩ := ob_bind hf
      have hPX_66 : va_P D vwCl (cs5 ct (fun i => A (93 + i)) (r_48.2 12) ++ (cs2 ct (fun i => A (21 + i)) (r_48.2 5) ++ (cs8 ct (fun i => A (90 + i)) (r_48.2 11)))) H_48 := (va_P.app (qs_12 hP) (va_P.app (qs_5 hP) (qs_11 hP)))
      refine wr_call0 (va_runVN (As := [.ref (A 21), .ref (A 90), .int v3, .int 0]) (rest := []) ⟨hx, hb, hml, hown, htl⟩ (c_X5_drift l D ct G (fun i => A (93 + i)) (fun i => A (21 + i)) (fun i => A (90 + i)) fu (r_48.2 12) (r_48.2 5) (r_48.2 11) v3 (0 : Int32) e_66 ((hDx r_48.2).sub (ws' := cs5 ct (fun i => A (93 + i)) (r_48.2 12) ++ (cs2 ct (fun i => A (21 + i)) (r_48.2 5) ++ (cs8 ct (fun i => A (90 + i)) (r_48.2 11)))) [93, 94, 21, 22, 23, 24, 25, 26, 27, 28, 29, 30, 31, 32, 33, 90, 91, 92] (by decide) rfl)) (cw_X9_X5_drift htl hN ⟨Nat.le_of_ble_eq_true rfl, Nat.le_of_ble_eq_true rfl⟩) ⟨Bx_blind, va_recv hK hPX_66 (ci := 5) (q0 := 0) rfl rfl, Bx_pre hPX_66 hK hN (hX.stay hS hGE)⟩ rfl rfl hl.1 rfl (lv_room (Nat.le_of_ble_eq_true rfl)) dX9_luck_66 ⟨Nat.zero_le _, Nat.zero_le _⟩) hS qa_12 (fun H_66 locs_66 hB_66 _ hk_66 hS => ?_)
      have hP : va_P D vwCl (csQ ct A (va_up r_48.2 12 r_66)) H_66 := qj_12 hP (hDW r_48.2) hk_66 hB_66
      refine lv_aload_n hx hb dX9_luck_69 rfl (lv_at hl 0 rfl) ?_
      refine va_get (D := D) (ci := 9) (v := .ref (A 93)) (C := RX9) (T := TX9) (N := 14) hx hb htl inlX9 hown hK hP 0 qh_0 rfl 8 (by decide) (htl _ wq_2_12) (fun _ h9 => h9) rfl dX9_luck_70 ?_
      refine va_getN (D := D) (ci := 5) (v := .int (((va_up r_48.2 12 r_66) 12).1 4 0)) (C := RX5) (T := TX5) (N := 9) hx hb htl inlX5 hown hK hP 93 qh_12 rfl 4 (by decide) (va_Nw.use rfl (hN _ nm_15)) (fun _ h9 => h9) rfl dX9_luck_73 ?_
      refine lv_iconst (v := (-1)) hx hb dX9_luck_76 (by decide) ?_
      refine lv_icmp_eq (tgt := 83) hx hb dX9_luck_77 (by decide) (fun c_77 => ?_) (fun c_77 => ?_)
      · rw [if_pos c_77] at hf
        refine lv_iinc (v := (v5 + 1)) (lv' := [(5, .int (v5 + 1)), (0, .ref (A 0)), (1, .int v1), (2, .int v2), (3, .int v3), (4, .int v4)]) hx hb dX9_luck_83 hl (k := 5) rfl rfl (by decide) rfl (fun ls hl => ?_)
        refine lv_goto (tgt := 35) hx hb dX9_luck_86 (by decide) ?_
        exact ih (va_up r_48.2 12 r_66) v1 v2 v3 v4 (v5 + 1) _ _ _ hP hS (lv_sub hl [1, 2, 3, 4, 5, 0] rfl) hf 
      rw [if_neg c_77] at hf
      refine lv_iinc (v := (v4 + 1)) (lv' := [(4, .int (v4 + 1)), (0, .ref (A 0)), (1, .int v1), (2, .int v2), (3, .int v3), (5, .int v5)]) hx hb dX9_luck_80 hl (k := 4) rfl rfl (by decide) rfl (fun ls hl => ?_)
      refine lv_iinc (v := (v5 + 1)) (lv' := [(5, .int (v5 + 1)), (4, .int (v4 + 1)), (0, .ref (A 0)), (1, .int v1), (2, .int v2), (3, .int v3)]) hx hb dX9_luck_83 hl (k := 5) rfl rfl (by decide) rfl (fun ls hl => ?_)
      refine lv_goto (tgt := 35) hx hb dX9_luck_86 (by decide) ?_
      exact ih (va_up r_48.2 12 r_66) v1 v2 v3 (v4 + 1) (v5 + 1) _ _ _ hP hS (lv_sub hl [2, 3, 4, 5, 1, 0] rfl) hf 
  rw [p_X9_luck] at hf
  refine lv_iload_n hx hb dX9_luck_0 rfl (lv_at hl 1 rfl) ?_
  obtain ⟨r_1, e_1, hf⟩ := ob_bind hf
  have hPX_1 : va_P D vwCl ([]) s.heap := P_nil
  refine ro_call1 (va_runS (As := [.int v1]) (rest := []) ⟨hx, hb, hml, hown, htl⟩ (c_X9_isSeed l D ct G fu v1 e_1) (cw_X9_X9_isSeed htl ⟨Nat.le_of_ble_eq_true rfl, Nat.le_of_ble_eq_true rfl⟩) ⟨Bx_blind, Bx_pre hPX_1 hK hN (hX.stay hS hGE)⟩ rfl rfl hl.1 rfl (lv_room (Nat.le_of_ble_eq_true rfl)) dX9_luck_1 ⟨Nat.zero_le _, Nat.zero_le _⟩) ?_
  refine lv_if_eq (tgt := 26) hx hb dX9_luck_4 (by decide) (fun c_4 => ?_) (fun c_4 => ?_)
  · rw [if_pos c_4] at hf
    refine lv_bipush (v := (-2)) hx hb dX9_luck_26 (by decide) ?_
    rw [← hQQ]
    cases hf
    exact rw_i hx hb hr hlocks hP hS dX9_luck_28
  rw [if_neg c_4] at hf
  refine lv_iload_n hx hb dX9_luck_7 rfl (lv_at hl 2 rfl) ?_
  refine lv_iconst (v := 1) hx hb dX9_luck_8 (by decide) ?_
  refine lv_icmp_lt (tgt := 26) hx hb dX9_luck_9 (by decide) (fun c_9 => ?_) (fun c_9 => ?_)
  · rw [if_pos c_9] at hf
    refine lv_bipush (v := (-2)) hx hb dX9_luck_26 (by decide) ?_
    rw [← hQQ]
    cases hf
    exact rw_i hx hb hr hlocks hP hS dX9_luck_28
  rw [if_neg c_9] at hf
  refine lv_iload_n hx hb dX9_luck_12 rfl (lv_at hl 2 rfl) ?_
  refine lv_bipush (v := 20) hx hb dX9_luck_13 (by decide) ?_
  refine lv_icmp_gt (tgt := 26) hx hb dX9_luck_15 (by decide) (fun c_15 => ?_) (fun c_15 => ?_)
  · rw [if_pos c_15] at hf
    refine lv_bipush (v := (-2)) hx hb dX9_luck_26 (by decide) ?_
    rw [← hQQ]
    cases hf
    exact rw_i hx hb hr hlocks hP hS dX9_luck_28
  rw [if_neg c_15] at hf
  refine lv_aload_n hx hb dX9_luck_18 rfl (lv_at hl 0 rfl) ?_
  refine lv_iload_n hx hb dX9_luck_19 rfl (lv_at hl 3 rfl) ?_
  obtain ⟨r_20, e_20, hf⟩ := ob_bind hf
  have hPX_20 : va_P D vwCl (csQ ct A x) s.heap := hP
  refine ro_call1 (va_runV (As := [.int v3]) (rest := []) ⟨hx, hb, hml, hown, htl⟩ (c_X9_isReach l D ct G A fu x v3 e_20) (cw_X9_X9_isReach htl ⟨Nat.le_of_ble_eq_true rfl, Nat.le_of_ble_eq_true rfl⟩) ⟨Bx_blind, va_recv hK hPX_20 (ci := 9) (q0 := 0) rfl rfl, Bx_pre hPX_20 hK hN (hX.stay hS hGE)⟩ rfl rfl hl.1 rfl (lv_room (Nat.le_of_ble_eq_true rfl)) dX9_luck_20 ⟨Nat.zero_le _, Nat.zero_le _⟩) ?_
  refine lv_if_ne (tgt := 29) hx hb dX9_luck_23 (by decide) (fun c_23 => ?_) (fun c_23 => ?_)
  rotate_left 1
  · rw [if_pos c_23] at hf
    refine lv_bipush (v := (-2)) hx hb dX9_luck_26 (by decide) ?_
    rw [← hQQ]
    cases hf
    exact rw_i hx hb hr hlocks hP hS dX9_luck_28
  rw [if_neg c_23] at hf
  refine lv_iconst (v := 0) hx hb dX9_luck_29 (by decide) ?_
  refine lv_istore (lv' := [(4, .int 0), (0, .ref (A 0)), (1, .int v1), (2, .int v2), (3, .int v3)]) hx hb dX9_luck_30 hl (by decide) rfl (fun ls hl => ?_)
  refine lv_iconst (v := 0) hx hb dX9_luck_32 (by decide) ?_
  refine lv_istore (lv' := [(5, .int 0), (4, .int 0), (0, .ref (A 0)), (1, .int v1), (2, .int v2), (3, .int v3)]) hx hb dX9_luck_33 hl (by decide) rfl (fun ls hl => ?_)
  exact hL35 fu x v1 v2 v3 0 0 _ _ _ hP hS (lv_sub hl [2, 3, 4, 5, 1, 0] rfl) hf 
theorem c_X9_luck (l : Launch) (D : va_G) (ct : Nat → ClassId) (G : GT) (A : Nat → Nat) (fu : Nat) (x : Nat → Ob) (v1 : Int32) (v2 : Int32) (v3 : Int32) {r : Int32 × (Nat → Ob)} (hf : p_X9_luck fu x v1 v2 v3 = some r)  (hDx : ∀ x : Nat → Ob, va_D (GE G) (csQ ct A x)) : Met l yX9_luck (.code yX9_luck cX9_luck 6 (some .int) :: wsL_law) rm_X9_luck (va_Pc [.ref (A 0), .int v1, .int v2, .int v3] (Bx D ct G (csQ ct A x))) (Qwr (some (.int r.1)) (fun H => va_P D vwCl (csQ ct A r.2) H) (wA (csQ ct A x))) 0 0 (wA (csQ ct A x)) := by
  refine Met.ofW (cc := cX9_luck) (maxL := 6) (ret := (some .int)) (by decide) rfl ?_
  intro p e s m args below meth c s₁ B hml hv
  obtain ⟨rfl, hP, hK, hN, hX⟩ := hv
  have hts := atoms_spec (ws := .code yX9_luck cX9_luck 6 (some .int) :: wsL_law) B.pre
  rw [lg_entry_eq]
  exact b_X9_luck A fu x v1 v2 v3 B.exec B.bytes B.returns hml (findClass_of_methodNamed B.named) (fun w h => hts w (List.mem_cons_of_mem _ h)) B.notSynchronized hK hN hX hP hf hDx  (lv_entry [.ref (A 0), .int v1, .int v2, .int v3] (n := 6) (Nat.le_of_ble_eq_true rfl))
theorem hd_X2_addAct : yX2_addAct.cls ≠ "java/lang/invoke/MethodHandle" ∧ yX2_addAct.cls ≠ "java/lang/invoke/VarHandle" ∧ (parseMethodDescriptor yX2_addAct.desc).map (fun d => d.parameters.length) = some 3 := by decide +kernel
theorem cw_X9_X2_addAct {R : Room} {s : State} {args : Array Value} (ht : ∀ w ∈ wsL_law, w.before args s = true) (hN : ∀ w ∈ NW, va_Nw w s) (hR : rm_X2_addAct.frames + 1 ≤ R.frames ∧ 8 + (4 + 11) + rm_X2_addAct.locals ≤ R.locals) : va_CN R s args RX9 368 yX2_addAct "QuotedRiver" cX2_addAct 4 none ((.code yX2_addAct cX2_addAct 4 none) :: wsL_law) rm_X2_addAct 0 0 3 ∧ (Cond.instanceMethod yX2_addAct).before args s = true ∧ (Cond.selects RX2 yX2_addAct yX2_addAct).before args s = true := ⟨va_cnB 3 ht (GL wq_55_8) rfl rfl rfl (hN _ nm_99) (ht _ wq_1_23) hd_X2_addAct hR, ht _ wq_55_6, ht _ wq_55_7⟩
def p_X9_close_J55 (fu : Nat)  (xz : Nat → Ob) (v1 : Int32) (v2 : Int32) (s0 : Int32) : Option (Int32 × (Nat → Ob)) :=
    (p_X2_addAct fu (xz 5) (1 : Int32) v1 v2).bind fun r_63 => (p_X8_settle fu ((va_up xz 5 r_63) 10) ((va_up xz 5 r_63) 5)).bind fun r_74 => some (s0, (va_up (va_up xz 5 r_63) 10 r_74))
def p_X9_close (fu : Nat) (x : Nat → Ob) (v1 : Int32) (v2 : Int32) : Option (Int32 × (Nat → Ob)) :=
  (p_X9_isJoin fu x v1).bind fun r_2 => if r_2 = 0 then some (((-2) : Int32), x) else if v2 < 0 then some (((-2) : Int32), x) else if v2 ≤ (1 : Int32) then if ((x 5).1 16 0) < (30 : Int32) then (p_X9_bit fu v1).bind fun r_43 => if (((x 10).1 2 0) &&& r_43) = 0 then p_X9_close_J55 fu x v1 v2 0 else p_X9_close_J55 fu x v1 v2 1 else some (((-5) : Int32), x) else some (((-2) : Int32), x)
abbrev rm_X9_close : Room := { frames := 4, cells := 0, slots := 0, locals := 89 }
set_option maxHeartbeats 4000000 in
set_option maxRecDepth 100000 in
theorem b_X9_close {p : Program} {l : Launch} {e : Env} {s : State} {m : MethodId} {args : Array Value} {below : List Frame} {meth : Method} {c : Code} {ls : Array Slot} {D : va_G} {ct : Nat → ClassId} {G : GT} (A : Nat → Nat) (fu : Nat) (x : Nat → Ob) (v1 : Int32) (v2 : Int32) {r : Int32 × (Nat → Ob)} (hx : p.tables.exec = Jvm.exec) (hb : c.code = cX9_close) (hr : meth.sig.returnType = (some .int)) (hml : c.maxLocals = 4) (hown : s.vm.findClass RX9 = some m.cls) (htl : ∀ w ∈ wsL_law, w.before args s = true) (hlocks : meth.locks = false) (hK : va_K D vwCl (tyl ct) s) (hN : ∀ w ∈ NW, va_Nw w s) (hX : SX G s s.heap) (hP0 : va_P D vwCl (csQ ct A x) s.heap) (hf : p_X9_close fu x v1 v2 = some r) (hDx : ∀ x : Nat → Ob, va_D (GE G) (csQ ct A x))  (hl : lv_has ls 4 [(0, .ref (A 0)), (1, .int v1), (2, .int v2)]) : W p l e rm_X9_close s m args below meth c s.heap [] 0 0 (MQ below (Qwr (some (.int r.1)) (fun H => va_P D vwCl (csQ ct A r.2) H) (wA (csQ ct A x))) args s 0 0 (wA (csQ ct A x))) (F0 m 0 ls []) := by
  generalize hQQ : MQ below (Qwr (some (.int r.1)) (fun H => va_P D vwCl (csQ ct A r.2) H) (wA (csQ ct A x))) args s 0 0 (wA (csQ ct A x)) = QQ
  have hDW : ∀ x1 : Nat → Ob, va_D (wA (csQ ct A x)) (csQ ct A x1) := fun x1 => D_any (D_self (hDx x1)) (wA_Q x1 x)
  have hGE : ∀ q, wA (csQ ct A x) q → GE G q := wA_GE (hDx x)
  have hP := hP0
  have hS : va_S (wA (csQ ct A x)) s.heap s.heap [] := va_S.rf
  have hJ55 : ∀ (xz : Nat → Ob) (v1 : Int32) (v2 : Int32) (s0 : Int32), ∀ (H : Heap) (locs : List Loc) (ls : Array Slot), va_P D vwCl (csQ ct A xz) H → va_S (wA (csQ ct A x)) s.heap H locs → lv_has ls 4 [(0, .ref (A 0)), (1, .int v1), (2, .int v2)] → p_X9_close_J55 fu  xz v1 v2 s0 = some r → W p l e rm_X9_close s m args below meth c H locs 0 0 QQ (F0 m 55 ls [.int s0]) := by
    intro  xz v1 v2 s0 H locs ls hP hS hl hf 
    rw [p_X9_close_J55] at hf
    refine lv_istore_n (lv' := [(3, .int s0), (0, .ref (A 0)), (1, .int v1), (2, .int v2)]) hx hb dX9_close_55 rfl hl (by decide) rfl (fun ls hl => ?_)
    refine lv_aload_n hx hb dX9_close_56 rfl (lv_at hl 1 rfl) ?_
    refine va_get (D := D) (ci := 9) (v := .ref (A 21)) (C := RX9) (T := TX9) (N := 14) hx hb htl inlX9 hown hK hP 0 qh_0 rfl 2 (by decide) (htl _ wq_2_0) (fun _ h9 => h9) rfl dX9_close_57 ?_
    refine lv_iconst (v := 1) hx hb dX9_close_60 (by decide) ?_
    refine lv_iload_n hx hb dX9_close_61 rfl (lv_at hl 2 rfl) ?_
    refine lv_iload_n hx hb dX9_close_62 rfl (lv_at hl 3 rfl) ?_
    obtain ⟨r_63, e_63, hf⟩ := ob_bind hf
    have hPX_63 : va_P D vwCl (cs2 ct (fun i => A (21 + i)) (xz 5)) H := (qs_5 hP)
    refine wr_call0 (va_runVN (As := [.int 1, .int v1, .int v2]) (rest := []) ⟨hx, hb, hml, hown, htl⟩ (c_X2_addAct l D ct G (fun i => A (21 + i)) fu (xz 5) (1 : Int32) v1 v2 e_63 ((hDx xz).sub (ws' := cs2 ct (fun i => A (21 + i)) (xz 5)) [21, 22, 23, 24, 25, 26, 27, 28, 29, 30, 31, 32, 33] (by decide) rfl)) (cw_X9_X2_addAct htl hN ⟨Nat.le_of_ble_eq_true rfl, Nat.le_of_ble_eq_true rfl⟩) ⟨Bx_blind, va_recv hK hPX_63 (ci := 2) (q0 := 0) rfl rfl, Bx_pre hPX_63 hK hN (hX.stay hS hGE)⟩ rfl rfl hl.1 rfl (lv_room (Nat.le_of_ble_eq_true rfl)) dX9_close_63 ⟨Nat.zero_le _, Nat.zero_le _⟩) hS qa_5 (fun H_63 locs_63 hB_63 _ hk_63 hS => ?_)
    have hP : va_P D vwCl (csQ ct A (va_up xz 5 r_63)) H_63 := qj_5 hP (hDW xz) hk_63 hB_63
    refine lv_aload_n hx hb dX9_close_66 rfl (lv_at hl 1 rfl) ?_
    refine va_get (D := D) (ci := 9) (v := .ref (A 87)) (C := RX9) (T := TX9) (N := 14) hx hb htl inlX9 hown hK hP 0 qh_0 rfl 6 (by decide) (htl _ wq_2_7) (fun _ h9 => h9) rfl dX9_close_67 ?_
    refine lv_aload_n hx hb dX9_close_70 rfl (lv_at hl 1 rfl) ?_
    refine va_get (D := D) (ci := 9) (v := .ref (A 21)) (C := RX9) (T := TX9) (N := 14) hx hb htl inlX9 hown hK hP 0 qh_0 rfl 2 (by decide) (htl _ wq_2_0) (fun _ h9 => h9) rfl dX9_close_71 ?_
    obtain ⟨r_74, e_74, hf⟩ := ob_bind hf
    have hPX_74 : va_P D vwCl (cs8 ct (fun i => A (87 + i)) ((va_up xz 5 r_63) 10) ++ (cs2 ct (fun i => A (21 + i)) ((va_up xz 5 r_63) 5))) H_63 := (va_P.app (qs_10 hP) (qs_5 hP))
    refine wr_call0 (va_runVN (As := [.ref (A 21)]) (rest := []) ⟨hx, hb, hml, hown, htl⟩ (c_X8_settle l D ct G (fun i => A (87 + i)) (fun i => A (21 + i)) fu ((va_up xz 5 r_63) 10) ((va_up xz 5 r_63) 5) e_74 ((hDx (va_up xz 5 r_63)).sub (ws' := cs8 ct (fun i => A (87 + i)) ((va_up xz 5 r_63) 10) ++ (cs2 ct (fun i => A (21 + i)) ((va_up xz 5 r_63) 5))) [87, 88, 89, 21, 22, 23, 24, 25, 26, 27, 28, 29, 30, 31, 32, 33] (by decide) rfl)) (cw_X9_X8_settle htl hN ⟨Nat.le_of_ble_eq_true rfl, Nat.le_of_ble_eq_true rfl⟩) ⟨Bx_blind, va_recv hK hPX_74 (ci := 8) (q0 := 0) rfl rfl, Bx_pre hPX_74 hK hN (hX.stay hS hGE)⟩ rfl rfl hl.1 rfl (lv_room (Nat.le_of_ble_eq_true rfl)) dX9_close_74 ⟨Nat.zero_le _, Nat.zero_le _⟩) hS qa_10 (fun H_74 locs_74 hB_74 _ hk_74 hS => ?_)
    have hP : va_P D vwCl (csQ ct A (va_up (va_up xz 5 r_63) 10 r_74)) H_74 := qj_10 hP (hDW (va_up xz 5 r_63)) hk_74 hB_74
    refine lv_iload_n hx hb dX9_close_77 rfl (lv_at hl 0 rfl) ?_
    rw [← hQQ]
    cases hf
    exact rw_i hx hb hr hlocks hP hS dX9_close_78
  rw [p_X9_close] at hf
  refine lv_aload_n hx hb dX9_close_0 rfl (lv_at hl 0 rfl) ?_
  refine lv_iload_n hx hb dX9_close_1 rfl (lv_at hl 1 rfl) ?_
  obtain ⟨r_2, e_2, hf⟩ := ob_bind hf
  have hPX_2 : va_P D vwCl (csQ ct A x) s.heap := hP
  refine ro_call1 (va_runV (As := [.int v1]) (rest := []) ⟨hx, hb, hml, hown, htl⟩ (c_X9_isJoin l D ct G A fu x v1 e_2) (cw_X9_X9_isJoin htl ⟨Nat.le_of_ble_eq_true rfl, Nat.le_of_ble_eq_true rfl⟩) ⟨Bx_blind, va_recv hK hPX_2 (ci := 9) (q0 := 0) rfl rfl, Bx_pre hPX_2 hK hN (hX.stay hS hGE)⟩ rfl rfl hl.1 rfl (lv_room (Nat.le_of_ble_eq_true rfl)) dX9_close_2 ⟨Nat.zero_le _, Nat.zero_le _⟩) ?_
  refine lv_if_eq (tgt := 17) hx hb dX9_close_5 (by decide) (fun c_5 => ?_) (fun c_5 => ?_)
  · rw [if_pos c_5] at hf
    refine lv_bipush (v := (-2)) hx hb dX9_close_17 (by decide) ?_
    rw [← hQQ]
    cases hf
    exact rw_i hx hb hr hlocks hP hS dX9_close_19
  rw [if_neg c_5] at hf
  refine lv_iload_n hx hb dX9_close_8 rfl (lv_at hl 2 rfl) ?_
  refine lv_if_lt (tgt := 17) hx hb dX9_close_9 (by decide) (fun c_9 => ?_) (fun c_9 => ?_)
  · rw [if_pos c_9] at hf
    refine lv_bipush (v := (-2)) hx hb dX9_close_17 (by decide) ?_
    rw [← hQQ]
    cases hf
    exact rw_i hx hb hr hlocks hP hS dX9_close_19
  rw [if_neg c_9] at hf
  refine lv_iload_n hx hb dX9_close_12 rfl (lv_at hl 2 rfl) ?_
  refine lv_iconst (v := 1) hx hb dX9_close_13 (by decide) ?_
  refine lv_icmp_le (tgt := 20) hx hb dX9_close_14 (by decide) (fun c_14 => ?_) (fun c_14 => ?_)
  rotate_left 1
  · rw [if_neg c_14] at hf
    refine lv_bipush (v := (-2)) hx hb dX9_close_17 (by decide) ?_
    rw [← hQQ]
    cases hf
    exact rw_i hx hb hr hlocks hP hS dX9_close_19
  rw [if_pos c_14] at hf
  refine lv_aload_n hx hb dX9_close_20 rfl (lv_at hl 0 rfl) ?_
  refine va_get (D := D) (ci := 9) (v := .ref (A 21)) (C := RX9) (T := TX9) (N := 14) hx hb htl inlX9 hown hK hP 0 qh_0 rfl 2 (by decide) (htl _ wq_2_0) (fun _ h9 => h9) rfl dX9_close_21 ?_
  refine va_getN (D := D) (ci := 2) (v := .int ((x 5).1 16 0)) (C := RX2) (T := TX2) (N := 20) hx hb htl inlX2 hown hK hP 21 qh_5 rfl 16 (by decide) (va_Nw.use rfl (hN _ nm_31)) (fun _ h9 => h9) rfl dX9_close_24 ?_
  refine lv_bipush (v := 30) hx hb dX9_close_27 (by decide) ?_
  refine lv_icmp_lt (tgt := 35) hx hb dX9_close_29 (by decide) (fun c_29 => ?_) (fun c_29 => ?_)
  rotate_left 1
  · rw [if_neg c_29] at hf
    refine lv_bipush (v := (-5)) hx hb dX9_close_32 (by decide) ?_
    rw [← hQQ]
    cases hf
    exact rw_i hx hb hr hlocks hP hS dX9_close_34
  rw [if_pos c_29] at hf
  refine lv_aload_n hx hb dX9_close_35 rfl (lv_at hl 0 rfl) ?_
  refine va_get (D := D) (ci := 9) (v := .ref (A 87)) (C := RX9) (T := TX9) (N := 14) hx hb htl inlX9 hown hK hP 0 qh_0 rfl 6 (by decide) (htl _ wq_2_7) (fun _ h9 => h9) rfl dX9_close_36 ?_
  refine va_getN (D := D) (ci := 8) (v := .int ((x 10).1 2 0)) (C := RX8) (T := TX8) (N := 3) hx hb htl inlX8 hown hK hP 87 qh_10 rfl 2 (by decide) (va_Nw.use rfl (hN _ nm_25)) (fun _ h9 => h9) rfl dX9_close_39 ?_
  refine lv_iload_n hx hb dX9_close_42 rfl (lv_at hl 1 rfl) ?_
  obtain ⟨r_43, e_43, hf⟩ := ob_bind hf
  have hPX_43 : va_P D vwCl ([]) s.heap := P_nil
  refine ro_call1 (va_runS (As := [.int v1]) (rest := [.int ((x 10).1 2 0)]) ⟨hx, hb, hml, hown, htl⟩ (c_X9_bit l D ct G fu v1 e_43) (cw_X9_X9_bit htl ⟨Nat.le_of_ble_eq_true rfl, Nat.le_of_ble_eq_true rfl⟩) ⟨Bx_blind, Bx_pre hPX_43 hK hN (hX.stay hS hGE)⟩ rfl rfl hl.1 rfl (lv_room (Nat.le_of_ble_eq_true rfl)) dX9_close_43 ⟨Nat.zero_le _, Nat.zero_le _⟩) ?_
  refine lv_iand hx hb dX9_close_46 ?_
  refine lv_if_eq (tgt := 54) hx hb dX9_close_47 (by decide) (fun c_47 => ?_) (fun c_47 => ?_)
  · rw [if_pos c_47] at hf
    refine lv_iconst (v := 0) hx hb dX9_close_54 (by decide) ?_
    exact hJ55 x v1 v2 0 _ _ _ hP hS (lv_sub hl [0, 1, 2] rfl) hf 
  rw [if_neg c_47] at hf
  refine lv_iconst (v := 1) hx hb dX9_close_50 (by decide) ?_
  refine lv_goto (tgt := 55) hx hb dX9_close_51 (by decide) ?_
  exact hJ55 x v1 v2 1 _ _ _ hP hS (lv_sub hl [0, 1, 2] rfl) hf 
theorem c_X9_close (l : Launch) (D : va_G) (ct : Nat → ClassId) (G : GT) (A : Nat → Nat) (fu : Nat) (x : Nat → Ob) (v1 : Int32) (v2 : Int32) {r : Int32 × (Nat → Ob)} (hf : p_X9_close fu x v1 v2 = some r)  (hDx : ∀ x : Nat → Ob, va_D (GE G) (csQ ct A x)) : Met l yX9_close (.code yX9_close cX9_close 4 (some .int) :: wsL_law) rm_X9_close (va_Pc [.ref (A 0), .int v1, .int v2] (Bx D ct G (csQ ct A x))) (Qwr (some (.int r.1)) (fun H => va_P D vwCl (csQ ct A r.2) H) (wA (csQ ct A x))) 0 0 (wA (csQ ct A x)) := by
  refine Met.ofW (cc := cX9_close) (maxL := 4) (ret := (some .int)) (by decide) rfl ?_
  intro p e s m args below meth c s₁ B hml hv
  obtain ⟨rfl, hP, hK, hN, hX⟩ := hv
  have hts := atoms_spec (ws := .code yX9_close cX9_close 4 (some .int) :: wsL_law) B.pre
  rw [lg_entry_eq]
  exact b_X9_close A fu x v1 v2 B.exec B.bytes B.returns hml (findClass_of_methodNamed B.named) (fun w h => hts w (List.mem_cons_of_mem _ h)) B.notSynchronized hK hN hX hP hf hDx  (lv_entry [.ref (A 0), .int v1, .int v2] (n := 4) (Nat.le_of_ble_eq_true rfl))
def p_X9_pours (fu : Nat) (x : Nat → Ob) (v1 : Int32) (v2 : Int32) : Option (Int32 × (Nat → Ob)) :=
  (p_X9_hasStep fu x v1).bind fun r_2 => if r_2 = 0 then some (((-2) : Int32), x) else if v2 < (1 : Int32) then some (((-2) : Int32), x) else if v2 ≤ (30 : Int32) then if ((x 5).1 16 0) < (30 : Int32) then (p_X2_addAct fu (x 5) (2 : Int32) v1 v2).bind fun r_44 => (p_X8_settle fu ((va_up x 5 r_44) 10) ((va_up x 5 r_44) 5)).bind fun r_55 => (p_X8_levelAt fu ((va_up (va_up x 5 r_44) 10 r_55) 10) v1).bind fun r_63 => some (r_63, (va_up (va_up x 5 r_44) 10 r_55)) else some (((-5) : Int32), x) else some (((-2) : Int32), x)
abbrev rm_X9_pours : Room := { frames := 4, cells := 0, slots := 0, locals := 89 }
set_option maxHeartbeats 4000000 in
set_option maxRecDepth 100000 in
theorem b_X9_pours {p : Program} {l : Launch} {e : Env} {s : State} {m : MethodId} {args : Array Value} {below : List Frame} {meth : Method} {c : Code} {ls : Array Slot} {D : va_G} {ct : Nat → ClassId} {G : GT} (A : Nat → Nat) (fu : Nat) (x : Nat → Ob) (v1 : Int32) (v2 : Int32) {r : Int32 × (Nat → Ob)} (hx : p.tables.exec = Jvm.exec) (hb : c.code = cX9_pours) (hr : meth.sig.returnType = (some .int)) (hml : c.maxLocals = 3) (hown : s.vm.findClass RX9 = some m.cls) (htl : ∀ w ∈ wsL_law, w.before args s = true) (hlocks : meth.locks = false) (hK : va_K D vwCl (tyl ct) s) (hN : ∀ w ∈ NW, va_Nw w s) (hX : SX G s s.heap) (hP0 : va_P D vwCl (csQ ct A x) s.heap) (hf : p_X9_pours fu x v1 v2 = some r) (hDx : ∀ x : Nat → Ob, va_D (GE G) (csQ ct A x))  (hl : lv_has ls 3 [(0, .ref (A 0)), (1, .int v1), (2, .int v2)]) : W p l e rm_X9_pours s m args below meth c s.heap [] 0 0 (MQ below (Qwr (some (.int r.1)) (fun H => va_P D vwCl (csQ ct A r.2) H) (wA (csQ ct A x))) args s 0 0 (wA (csQ ct A x))) (F0 m 0 ls []) := by
  generalize hQQ : MQ below (Qwr (some (.int r.1)) (fun H => va_P D vwCl (csQ ct A r.2) H) (wA (csQ ct A x))) args s 0 0 (wA (csQ ct A x)) = QQ
  have hDW : ∀ x1 : Nat → Ob, va_D (wA (csQ ct A x)) (csQ ct A x1) := fun x1 => D_any (D_self (hDx x1)) (wA_Q x1 x)
  have hGE : ∀ q, wA (csQ ct A x) q → GE G q := wA_GE (hDx x)
  have hP := hP0
  have hS : va_S (wA (csQ ct A x)) s.heap s.heap [] := va_S.rf
  rw [p_X9_pours] at hf
  refine lv_aload_n hx hb dX9_pours_0 rfl (lv_at hl 0 rfl) ?_
  refine lv_iload_n hx hb dX9_pours_1 rfl (lv_at hl 1 rfl) ?_
  obtain ⟨r_2, e_2, hf⟩ := ob_bind hf
  have hPX_2 : va_P D vwCl (csQ ct A x) s.heap := hP
  refine ro_call1 (va_runV (As := [.int v1]) (rest := []) ⟨hx, hb, hml, hown, htl⟩ (c_X9_hasStep l D ct G A fu x v1 e_2) (cw_X9_X9_hasStep htl ⟨Nat.le_of_ble_eq_true rfl, Nat.le_of_ble_eq_true rfl⟩) ⟨Bx_blind, va_recv hK hPX_2 (ci := 9) (q0 := 0) rfl rfl, Bx_pre hPX_2 hK hN (hX.stay hS hGE)⟩ rfl rfl hl.1 rfl (lv_room (Nat.le_of_ble_eq_true rfl)) dX9_pours_2 ⟨Nat.zero_le _, Nat.zero_le _⟩) ?_
  refine lv_if_eq (tgt := 19) hx hb dX9_pours_5 (by decide) (fun c_5 => ?_) (fun c_5 => ?_)
  · rw [if_pos c_5] at hf
    refine lv_bipush (v := (-2)) hx hb dX9_pours_19 (by decide) ?_
    rw [← hQQ]
    cases hf
    exact rw_i hx hb hr hlocks hP hS dX9_pours_21
  rw [if_neg c_5] at hf
  refine lv_iload_n hx hb dX9_pours_8 rfl (lv_at hl 2 rfl) ?_
  refine lv_iconst (v := 1) hx hb dX9_pours_9 (by decide) ?_
  refine lv_icmp_lt (tgt := 19) hx hb dX9_pours_10 (by decide) (fun c_10 => ?_) (fun c_10 => ?_)
  · rw [if_pos c_10] at hf
    refine lv_bipush (v := (-2)) hx hb dX9_pours_19 (by decide) ?_
    rw [← hQQ]
    cases hf
    exact rw_i hx hb hr hlocks hP hS dX9_pours_21
  rw [if_neg c_10] at hf
  refine lv_iload_n hx hb dX9_pours_13 rfl (lv_at hl 2 rfl) ?_
  refine lv_bipush (v := 30) hx hb dX9_pours_14 (by decide) ?_
  refine lv_icmp_le (tgt := 22) hx hb dX9_pours_16 (by decide) (fun c_16 => ?_) (fun c_16 => ?_)
  rotate_left 1
  · rw [if_neg c_16] at hf
    refine lv_bipush (v := (-2)) hx hb dX9_pours_19 (by decide) ?_
    rw [← hQQ]
    cases hf
    exact rw_i hx hb hr hlocks hP hS dX9_pours_21
  rw [if_pos c_16] at hf
  refine lv_aload_n hx hb dX9_pours_22 rfl (lv_at hl 0 rfl) ?_
  refine va_get (D := D) (ci := 9) (v := .ref (A 21)) (C := RX9) (T := TX9) (N := 14) hx hb htl inlX9 hown hK hP 0 qh_0 rfl 2 (by decide) (htl _ wq_2_0) (fun _ h9 => h9) rfl dX9_pours_23 ?_
  refine va_getN (D := D) (ci := 2) (v := .int ((x 5).1 16 0)) (C := RX2) (T := TX2) (N := 20) hx hb htl inlX2 hown hK hP 21 qh_5 rfl 16 (by decide) (va_Nw.use rfl (hN _ nm_31)) (fun _ h9 => h9) rfl dX9_pours_26 ?_
  refine lv_bipush (v := 30) hx hb dX9_pours_29 (by decide) ?_
  refine lv_icmp_lt (tgt := 37) hx hb dX9_pours_31 (by decide) (fun c_31 => ?_) (fun c_31 => ?_)
  rotate_left 1
  · rw [if_neg c_31] at hf
    refine lv_bipush (v := (-5)) hx hb dX9_pours_34 (by decide) ?_
    rw [← hQQ]
    cases hf
    exact rw_i hx hb hr hlocks hP hS dX9_pours_36
  rw [if_pos c_31] at hf
  refine lv_aload_n hx hb dX9_pours_37 rfl (lv_at hl 0 rfl) ?_
  refine va_get (D := D) (ci := 9) (v := .ref (A 21)) (C := RX9) (T := TX9) (N := 14) hx hb htl inlX9 hown hK hP 0 qh_0 rfl 2 (by decide) (htl _ wq_2_0) (fun _ h9 => h9) rfl dX9_pours_38 ?_
  refine lv_iconst (v := 2) hx hb dX9_pours_41 (by decide) ?_
  refine lv_iload_n hx hb dX9_pours_42 rfl (lv_at hl 1 rfl) ?_
  refine lv_iload_n hx hb dX9_pours_43 rfl (lv_at hl 2 rfl) ?_
  obtain ⟨r_44, e_44, hf⟩ := ob_bind hf
  have hPX_44 : va_P D vwCl (cs2 ct (fun i => A (21 + i)) (x 5)) s.heap := (qs_5 hP)
  refine wr_call0 (va_runVN (As := [.int 2, .int v1, .int v2]) (rest := []) ⟨hx, hb, hml, hown, htl⟩ (c_X2_addAct l D ct G (fun i => A (21 + i)) fu (x 5) (2 : Int32) v1 v2 e_44 ((hDx x).sub (ws' := cs2 ct (fun i => A (21 + i)) (x 5)) [21, 22, 23, 24, 25, 26, 27, 28, 29, 30, 31, 32, 33] (by decide) rfl)) (cw_X9_X2_addAct htl hN ⟨Nat.le_of_ble_eq_true rfl, Nat.le_of_ble_eq_true rfl⟩) ⟨Bx_blind, va_recv hK hPX_44 (ci := 2) (q0 := 0) rfl rfl, Bx_pre hPX_44 hK hN (hX.stay hS hGE)⟩ rfl rfl hl.1 rfl (lv_room (Nat.le_of_ble_eq_true rfl)) dX9_pours_44 ⟨Nat.zero_le _, Nat.zero_le _⟩) hS qa_5 (fun H_44 locs_44 hB_44 _ hk_44 hS => ?_)
  have hP : va_P D vwCl (csQ ct A (va_up x 5 r_44)) H_44 := qj_5 hP (hDW x) hk_44 hB_44
  refine lv_aload_n hx hb dX9_pours_47 rfl (lv_at hl 0 rfl) ?_
  refine va_get (D := D) (ci := 9) (v := .ref (A 87)) (C := RX9) (T := TX9) (N := 14) hx hb htl inlX9 hown hK hP 0 qh_0 rfl 6 (by decide) (htl _ wq_2_7) (fun _ h9 => h9) rfl dX9_pours_48 ?_
  refine lv_aload_n hx hb dX9_pours_51 rfl (lv_at hl 0 rfl) ?_
  refine va_get (D := D) (ci := 9) (v := .ref (A 21)) (C := RX9) (T := TX9) (N := 14) hx hb htl inlX9 hown hK hP 0 qh_0 rfl 2 (by decide) (htl _ wq_2_0) (fun _ h9 => h9) rfl dX9_pours_52 ?_
  obtain ⟨r_55, e_55, hf⟩ := ob_bind hf
  have hPX_55 : va_P D vwCl (cs8 ct (fun i => A (87 + i)) ((va_up x 5 r_44) 10) ++ (cs2 ct (fun i => A (21 + i)) ((va_up x 5 r_44) 5))) H_44 := (va_P.app (qs_10 hP) (qs_5 hP))
  refine wr_call0 (va_runVN (As := [.ref (A 21)]) (rest := []) ⟨hx, hb, hml, hown, htl⟩ (c_X8_settle l D ct G (fun i => A (87 + i)) (fun i => A (21 + i)) fu ((va_up x 5 r_44) 10) ((va_up x 5 r_44) 5) e_55 ((hDx (va_up x 5 r_44)).sub (ws' := cs8 ct (fun i => A (87 + i)) ((va_up x 5 r_44) 10) ++ (cs2 ct (fun i => A (21 + i)) ((va_up x 5 r_44) 5))) [87, 88, 89, 21, 22, 23, 24, 25, 26, 27, 28, 29, 30, 31, 32, 33] (by decide) rfl)) (cw_X9_X8_settle htl hN ⟨Nat.le_of_ble_eq_true rfl, Nat.le_of_ble_eq_true rfl⟩) ⟨Bx_blind, va_recv hK hPX_55 (ci := 8) (q0 := 0) rfl rfl, Bx_pre hPX_55 hK hN (hX.stay hS hGE)⟩ rfl rfl hl.1 rfl (lv_room (Nat.le_of_ble_eq_true rfl)) dX9_pours_55 ⟨Nat.zero_le _, Nat.zero_le _⟩) hS qa_10 (fun H_55 locs_55 hB_55 _ hk_55 hS => ?_)
  have hP : va_P D vwCl (csQ ct A (va_up (va_up x 5 r_44) 10 r_55)) H_55 := qj_10 hP (hDW (va_up x 5 r_44)) hk_55 hB_55
  refine lv_aload_n hx hb dX9_pours_58 rfl (lv_at hl 0 rfl) ?_
  refine va_get (D := D) (ci := 9) (v := .ref (A 87)) (C := RX9) (T := TX9) (N := 14) hx hb htl inlX9 hown hK hP 0 qh_0 rfl 6 (by decide) (htl _ wq_2_7) (fun _ h9 => h9) rfl dX9_pours_59 ?_
  refine lv_iload_n hx hb dX9_pours_62 rfl (lv_at hl 1 rfl) ?_
  obtain ⟨r_63, e_63, hf⟩ := ob_bind hf
  have hPX_63 : va_P D vwCl (cs8 ct (fun i => A (87 + i)) ((va_up (va_up x 5 r_44) 10 r_55) 10)) H_55 := (qs_10 hP)
  refine ro_call1 (va_runVN (As := [.int v1]) (rest := []) ⟨hx, hb, hml, hown, htl⟩ (c_X8_levelAt l D ct G (fun i => A (87 + i)) fu ((va_up (va_up x 5 r_44) 10 r_55) 10) v1 e_63) (cw_X9_X8_levelAt htl hN ⟨Nat.le_of_ble_eq_true rfl, Nat.le_of_ble_eq_true rfl⟩) ⟨Bx_blind, va_recv hK hPX_63 (ci := 8) (q0 := 0) rfl rfl, Bx_pre hPX_63 hK hN (hX.stay hS hGE)⟩ rfl rfl hl.1 rfl (lv_room (Nat.le_of_ble_eq_true rfl)) dX9_pours_63 ⟨Nat.zero_le _, Nat.zero_le _⟩) ?_
  rw [← hQQ]
  cases hf
  exact rw_i hx hb hr hlocks hP hS dX9_pours_66
theorem c_X9_pours (l : Launch) (D : va_G) (ct : Nat → ClassId) (G : GT) (A : Nat → Nat) (fu : Nat) (x : Nat → Ob) (v1 : Int32) (v2 : Int32) {r : Int32 × (Nat → Ob)} (hf : p_X9_pours fu x v1 v2 = some r)  (hDx : ∀ x : Nat → Ob, va_D (GE G) (csQ ct A x)) : Met l yX9_pours (.code yX9_pours cX9_pours 3 (some .int) :: wsL_law) rm_X9_pours (va_Pc [.ref (A 0), .int v1, .int v2] (Bx D ct G (csQ ct A x))) (Qwr (some (.int r.1)) (fun H => va_P D vwCl (csQ ct A r.2) H) (wA (csQ ct A x))) 0 0 (wA (csQ ct A x)) := by
  refine Met.ofW (cc := cX9_pours) (maxL := 3) (ret := (some .int)) (by decide) rfl ?_
  intro p e s m args below meth c s₁ B hml hv
  obtain ⟨rfl, hP, hK, hN, hX⟩ := hv
  have hts := atoms_spec (ws := .code yX9_pours cX9_pours 3 (some .int) :: wsL_law) B.pre
  rw [lg_entry_eq]
  exact b_X9_pours A fu x v1 v2 B.exec B.bytes B.returns hml (findClass_of_methodNamed B.named) (fun w h => hts w (List.mem_cons_of_mem _ h)) B.notSynchronized hK hN hX hP hf hDx  (lv_entry [.ref (A 0), .int v1, .int v2] (n := 3) (Nat.le_of_ble_eq_true rfl))
def p_X9_undo (fu : Nat) (x : Nat → Ob) : Option (Int32 × (Nat → Ob)) :=
  if ((x 5).1 0 0) = 0 then some (((-2) : Int32), x) else if (0 : Int32) < ((x 5).1 16 0) then (p_X8_settle fu ((va_up x 5 (oI (x 5) 16 (((x 5).1 16 0) - 1))) 10) ((va_up x 5 (oI (x 5) 16 (((x 5).1 16 0) - 1))) 5)).bind fun r_47 => some ((((va_up (va_up x 5 (oI (x 5) 16 (((x 5).1 16 0) - 1))) 10 r_47) 5).1 16 0), (va_up (va_up x 5 (oI (x 5) 16 (((x 5).1 16 0) - 1))) 10 r_47)) else some (((-5) : Int32), x)
abbrev rm_X9_undo : Room := { frames := 4, cells := 0, slots := 0, locals := 89 }
set_option maxHeartbeats 4000000 in
set_option maxRecDepth 100000 in
theorem b_X9_undo {p : Program} {l : Launch} {e : Env} {s : State} {m : MethodId} {args : Array Value} {below : List Frame} {meth : Method} {c : Code} {ls : Array Slot} {D : va_G} {ct : Nat → ClassId} {G : GT} (A : Nat → Nat) (fu : Nat) (x : Nat → Ob) {r : Int32 × (Nat → Ob)} (hx : p.tables.exec = Jvm.exec) (hb : c.code = cX9_undo) (hr : meth.sig.returnType = (some .int)) (hml : c.maxLocals = 1) (hown : s.vm.findClass RX9 = some m.cls) (htl : ∀ w ∈ wsL_law, w.before args s = true) (hlocks : meth.locks = false) (hK : va_K D vwCl (tyl ct) s) (hN : ∀ w ∈ NW, va_Nw w s) (hX : SX G s s.heap) (hP0 : va_P D vwCl (csQ ct A x) s.heap) (hf : p_X9_undo fu x = some r) (hDx : ∀ x : Nat → Ob, va_D (GE G) (csQ ct A x))  (hl : lv_has ls 1 [(0, .ref (A 0))]) : W p l e rm_X9_undo s m args below meth c s.heap [] 0 0 (MQ below (Qwr (some (.int r.1)) (fun H => va_P D vwCl (csQ ct A r.2) H) (wA (csQ ct A x))) args s 0 0 (wA (csQ ct A x))) (F0 m 0 ls []) := by
  generalize hQQ : MQ below (Qwr (some (.int r.1)) (fun H => va_P D vwCl (csQ ct A r.2) H) (wA (csQ ct A x))) args s 0 0 (wA (csQ ct A x)) = QQ
  have hDW : ∀ x1 : Nat → Ob, va_D (wA (csQ ct A x)) (csQ ct A x1) := fun x1 => D_any (D_self (hDx x1)) (wA_Q x1 x)
  have hGE : ∀ q, wA (csQ ct A x) q → GE G q := wA_GE (hDx x)
  have hP := hP0
  have hS : va_S (wA (csQ ct A x)) s.heap s.heap [] := va_S.rf
  rw [p_X9_undo] at hf
  refine lv_aload_n hx hb dX9_undo_0 rfl (lv_at hl 0 rfl) ?_
  refine va_get (D := D) (ci := 9) (v := .ref (A 21)) (C := RX9) (T := TX9) (N := 14) hx hb htl inlX9 hown hK hP 0 qh_0 rfl 2 (by decide) (htl _ wq_2_0) (fun _ h9 => h9) rfl dX9_undo_1 ?_
  refine va_getN (D := D) (ci := 2) (v := .int ((x 5).1 0 0)) (C := RX2) (T := TX2) (N := 20) hx hb htl inlX2 hown hK hP 21 qh_5 rfl 0 (by decide) (va_Nw.use rfl (hN _ nm_14)) (fun _ h9 => h9) rfl dX9_undo_4 ?_
  refine lv_if_ne (tgt := 13) hx hb dX9_undo_7 (by decide) (fun c_7 => ?_) (fun c_7 => ?_)
  rotate_left 1
  · rw [if_pos c_7] at hf
    refine lv_bipush (v := (-2)) hx hb dX9_undo_10 (by decide) ?_
    rw [← hQQ]
    cases hf
    exact rw_i hx hb hr hlocks hP hS dX9_undo_12
  rw [if_neg c_7] at hf
  refine lv_aload_n hx hb dX9_undo_13 rfl (lv_at hl 0 rfl) ?_
  refine va_get (D := D) (ci := 9) (v := .ref (A 21)) (C := RX9) (T := TX9) (N := 14) hx hb htl inlX9 hown hK hP 0 qh_0 rfl 2 (by decide) (htl _ wq_2_0) (fun _ h9 => h9) rfl dX9_undo_14 ?_
  refine va_getN (D := D) (ci := 2) (v := .int ((x 5).1 16 0)) (C := RX2) (T := TX2) (N := 20) hx hb htl inlX2 hown hK hP 21 qh_5 rfl 16 (by decide) (va_Nw.use rfl (hN _ nm_31)) (fun _ h9 => h9) rfl dX9_undo_17 ?_
  refine lv_if_gt (tgt := 26) hx hb dX9_undo_20 (by decide) (fun c_20 => ?_) (fun c_20 => ?_)
  rotate_left 1
  · rw [if_neg c_20] at hf
    refine lv_bipush (v := (-5)) hx hb dX9_undo_23 (by decide) ?_
    rw [← hQQ]
    cases hf
    exact rw_i hx hb hr hlocks hP hS dX9_undo_25
  rw [if_pos c_20] at hf
  refine lv_aload_n hx hb dX9_undo_26 rfl (lv_at hl 0 rfl) ?_
  refine va_get (D := D) (ci := 9) (v := .ref (A 21)) (C := RX9) (T := TX9) (N := 14) hx hb htl inlX9 hown hK hP 0 qh_0 rfl 2 (by decide) (htl _ wq_2_0) (fun _ h9 => h9) rfl dX9_undo_27 ?_
  refine lv_dup hx hb dX9_undo_30 rfl ?_
  refine va_getN (D := D) (ci := 2) (v := .int ((x 5).1 16 0)) (C := RX2) (T := TX2) (N := 20) hx hb htl inlX2 hown hK hP 21 qh_5 rfl 16 (by decide) (va_Nw.use rfl (hN _ nm_31)) (fun _ h9 => h9) rfl dX9_undo_31 ?_
  refine lv_iconst (v := 1) hx hb dX9_undo_34 (by decide) ?_
  refine lv_isub hx hb dX9_undo_35 ?_
  refine va_putN (D := D) (ci := 2) (v := .int (((x 5).1 16 0) - 1)) (ty := .int) (C := RX2) (T := TX2) (N := 20) hx hb htl inlX2 tyX2 tyX2_ok nmX2 hown hK hP (hDW x) hS 21 qh_5 rfl 16 (by decide) (va_Nw.use rfl (hN _ nm_31)) (fun _ h9 => h9) rfl (tyX2_ok 16 (by decide)) rfl rfl (Nat.le_of_ble_eq_true rfl) dX9_undo_36 (fun H_36 locs_36 hP _ hS => ?_)
  have hP : va_P D vwCl (csQ ct A (va_up x 5 (oI (x 5) 16 (((x 5).1 16 0) - 1)))) H_36 := stQ_5_16 hP
  refine lv_aload_n hx hb dX9_undo_39 rfl (lv_at hl 0 rfl) ?_
  refine va_get (D := D) (ci := 9) (v := .ref (A 87)) (C := RX9) (T := TX9) (N := 14) hx hb htl inlX9 hown hK hP 0 qh_0 rfl 6 (by decide) (htl _ wq_2_7) (fun _ h9 => h9) rfl dX9_undo_40 ?_
  refine lv_aload_n hx hb dX9_undo_43 rfl (lv_at hl 0 rfl) ?_
  refine va_get (D := D) (ci := 9) (v := .ref (A 21)) (C := RX9) (T := TX9) (N := 14) hx hb htl inlX9 hown hK hP 0 qh_0 rfl 2 (by decide) (htl _ wq_2_0) (fun _ h9 => h9) rfl dX9_undo_44 ?_
  obtain ⟨r_47, e_47, hf⟩ := ob_bind hf
  have hPX_47 : va_P D vwCl (cs8 ct (fun i => A (87 + i)) ((va_up x 5 (oI (x 5) 16 (((x 5).1 16 0) - 1))) 10) ++ (cs2 ct (fun i => A (21 + i)) ((va_up x 5 (oI (x 5) 16 (((x 5).1 16 0) - 1))) 5))) H_36 := (va_P.app (qs_10 hP) (qs_5 hP))
  refine wr_call0 (va_runVN (As := [.ref (A 21)]) (rest := []) ⟨hx, hb, hml, hown, htl⟩ (c_X8_settle l D ct G (fun i => A (87 + i)) (fun i => A (21 + i)) fu ((va_up x 5 (oI (x 5) 16 (((x 5).1 16 0) - 1))) 10) ((va_up x 5 (oI (x 5) 16 (((x 5).1 16 0) - 1))) 5) e_47 ((hDx (va_up x 5 (oI (x 5) 16 (((x 5).1 16 0) - 1)))).sub (ws' := cs8 ct (fun i => A (87 + i)) ((va_up x 5 (oI (x 5) 16 (((x 5).1 16 0) - 1))) 10) ++ (cs2 ct (fun i => A (21 + i)) ((va_up x 5 (oI (x 5) 16 (((x 5).1 16 0) - 1))) 5))) [87, 88, 89, 21, 22, 23, 24, 25, 26, 27, 28, 29, 30, 31, 32, 33] (by decide) rfl)) (cw_X9_X8_settle htl hN ⟨Nat.le_of_ble_eq_true rfl, Nat.le_of_ble_eq_true rfl⟩) ⟨Bx_blind, va_recv hK hPX_47 (ci := 8) (q0 := 0) rfl rfl, Bx_pre hPX_47 hK hN (hX.stay hS hGE)⟩ rfl rfl hl.1 rfl (lv_room (Nat.le_of_ble_eq_true rfl)) dX9_undo_47 ⟨Nat.zero_le _, Nat.zero_le _⟩) hS qa_10 (fun H_47 locs_47 hB_47 _ hk_47 hS => ?_)
  have hP : va_P D vwCl (csQ ct A (va_up (va_up x 5 (oI (x 5) 16 (((x 5).1 16 0) - 1))) 10 r_47)) H_47 := qj_10 hP (hDW (va_up x 5 (oI (x 5) 16 (((x 5).1 16 0) - 1)))) hk_47 hB_47
  refine lv_aload_n hx hb dX9_undo_50 rfl (lv_at hl 0 rfl) ?_
  refine va_get (D := D) (ci := 9) (v := .ref (A 21)) (C := RX9) (T := TX9) (N := 14) hx hb htl inlX9 hown hK hP 0 qh_0 rfl 2 (by decide) (htl _ wq_2_0) (fun _ h9 => h9) rfl dX9_undo_51 ?_
  refine va_getN (D := D) (ci := 2) (v := .int (((va_up (va_up x 5 (oI (x 5) 16 (((x 5).1 16 0) - 1))) 10 r_47) 5).1 16 0)) (C := RX2) (T := TX2) (N := 20) hx hb htl inlX2 hown hK hP 21 qh_5 rfl 16 (by decide) (va_Nw.use rfl (hN _ nm_31)) (fun _ h9 => h9) rfl dX9_undo_54 ?_
  rw [← hQQ]
  cases hf
  exact rw_i hx hb hr hlocks hP hS dX9_undo_57
theorem c_X9_undo (l : Launch) (D : va_G) (ct : Nat → ClassId) (G : GT) (A : Nat → Nat) (fu : Nat) (x : Nat → Ob) {r : Int32 × (Nat → Ob)} (hf : p_X9_undo fu x = some r)  (hDx : ∀ x : Nat → Ob, va_D (GE G) (csQ ct A x)) : Met l yX9_undo (.code yX9_undo cX9_undo 1 (some .int) :: wsL_law) rm_X9_undo (va_Pc [.ref (A 0)] (Bx D ct G (csQ ct A x))) (Qwr (some (.int r.1)) (fun H => va_P D vwCl (csQ ct A r.2) H) (wA (csQ ct A x))) 0 0 (wA (csQ ct A x)) := by
  refine Met.ofW (cc := cX9_undo) (maxL := 1) (ret := (some .int)) (by decide) rfl ?_
  intro p e s m args below meth c s₁ B hml hv
  obtain ⟨rfl, hP, hK, hN, hX⟩ := hv
  have hts := atoms_spec (ws := .code yX9_undo cX9_undo 1 (some .int) :: wsL_law) B.pre
  rw [lg_entry_eq]
  exact b_X9_undo A fu x B.exec B.bytes B.returns hml (findClass_of_methodNamed B.named) (fun w h => hts w (List.mem_cons_of_mem _ h)) B.notSynchronized hK hN hX hP hf hDx  (lv_entry [.ref (A 0)] (n := 1) (Nat.le_of_ble_eq_true rfl))
def p_X9_anew (fu : Nat) (x : Nat → Ob) : Option (Int32 × (Nat → Ob)) :=
  if ((x 5).1 0 0) = 0 then some (((-2) : Int32), x) else (p_X8_settle fu ((va_up x 5 (oI (x 5) 16 (0 : Int32))) 10) ((va_up x 5 (oI (x 5) 16 (0 : Int32))) 5)).bind fun r_37 => some (((x 5).1 16 0), (va_up (va_up x 5 (oI (x 5) 16 (0 : Int32))) 10 r_37))
abbrev rm_X9_anew : Room := { frames := 4, cells := 0, slots := 0, locals := 89 }
set_option maxHeartbeats 4000000 in
set_option maxRecDepth 100000 in
theorem b_X9_anew {p : Program} {l : Launch} {e : Env} {s : State} {m : MethodId} {args : Array Value} {below : List Frame} {meth : Method} {c : Code} {ls : Array Slot} {D : va_G} {ct : Nat → ClassId} {G : GT} (A : Nat → Nat) (fu : Nat) (x : Nat → Ob) {r : Int32 × (Nat → Ob)} (hx : p.tables.exec = Jvm.exec) (hb : c.code = cX9_anew) (hr : meth.sig.returnType = (some .int)) (hml : c.maxLocals = 2) (hown : s.vm.findClass RX9 = some m.cls) (htl : ∀ w ∈ wsL_law, w.before args s = true) (hlocks : meth.locks = false) (hK : va_K D vwCl (tyl ct) s) (hN : ∀ w ∈ NW, va_Nw w s) (hX : SX G s s.heap) (hP0 : va_P D vwCl (csQ ct A x) s.heap) (hf : p_X9_anew fu x = some r) (hDx : ∀ x : Nat → Ob, va_D (GE G) (csQ ct A x))  (hl : lv_has ls 2 [(0, .ref (A 0))]) : W p l e rm_X9_anew s m args below meth c s.heap [] 0 0 (MQ below (Qwr (some (.int r.1)) (fun H => va_P D vwCl (csQ ct A r.2) H) (wA (csQ ct A x))) args s 0 0 (wA (csQ ct A x))) (F0 m 0 ls []) := by
  generalize hQQ : MQ below (Qwr (some (.int r.1)) (fun H => va_P D vwCl (csQ ct A r.2) H) (wA (csQ ct A x))) args s 0 0 (wA (csQ ct A x)) = QQ
  have hDW : ∀ x1 : Nat → Ob, va_D (wA (csQ ct A x)) (csQ ct A x1) := fun x1 => D_any (D_self (hDx x1)) (wA_Q x1 x)
  have hGE : ∀ q, wA (csQ ct A x) q → GE G q := wA_GE (hDx x)
  have hP := hP0
  have hS : va_S (wA (csQ ct A x)) s.heap s.heap [] := va_S.rf
  rw [p_X9_anew] at hf
  refine lv_aload_n hx hb dX9_anew_0 rfl (lv_at hl 0 rfl) ?_
  refine va_get (D := D) (ci := 9) (v := .ref (A 21)) (C := RX9) (T := TX9) (N := 14) hx hb htl inlX9 hown hK hP 0 qh_0 rfl 2 (by decide) (htl _ wq_2_0) (fun _ h9 => h9) rfl dX9_anew_1 ?_
  refine va_getN (D := D) (ci := 2) (v := .int ((x 5).1 0 0)) (C := RX2) (T := TX2) (N := 20) hx hb htl inlX2 hown hK hP 21 qh_5 rfl 0 (by decide) (va_Nw.use rfl (hN _ nm_14)) (fun _ h9 => h9) rfl dX9_anew_4 ?_
  refine lv_if_ne (tgt := 13) hx hb dX9_anew_7 (by decide) (fun c_7 => ?_) (fun c_7 => ?_)
  rotate_left 1
  · rw [if_pos c_7] at hf
    refine lv_bipush (v := (-2)) hx hb dX9_anew_10 (by decide) ?_
    rw [← hQQ]
    cases hf
    exact rw_i hx hb hr hlocks hP hS dX9_anew_12
  rw [if_neg c_7] at hf
  refine lv_aload_n hx hb dX9_anew_13 rfl (lv_at hl 0 rfl) ?_
  refine va_get (D := D) (ci := 9) (v := .ref (A 21)) (C := RX9) (T := TX9) (N := 14) hx hb htl inlX9 hown hK hP 0 qh_0 rfl 2 (by decide) (htl _ wq_2_0) (fun _ h9 => h9) rfl dX9_anew_14 ?_
  refine va_getN (D := D) (ci := 2) (v := .int ((x 5).1 16 0)) (C := RX2) (T := TX2) (N := 20) hx hb htl inlX2 hown hK hP 21 qh_5 rfl 16 (by decide) (va_Nw.use rfl (hN _ nm_31)) (fun _ h9 => h9) rfl dX9_anew_17 ?_
  refine lv_istore_n (lv' := [(1, .int ((x 5).1 16 0)), (0, .ref (A 0))]) hx hb dX9_anew_20 rfl hl (by decide) rfl (fun ls hl => ?_)
  refine lv_aload_n hx hb dX9_anew_21 rfl (lv_at hl 1 rfl) ?_
  refine va_get (D := D) (ci := 9) (v := .ref (A 21)) (C := RX9) (T := TX9) (N := 14) hx hb htl inlX9 hown hK hP 0 qh_0 rfl 2 (by decide) (htl _ wq_2_0) (fun _ h9 => h9) rfl dX9_anew_22 ?_
  refine lv_iconst (v := 0) hx hb dX9_anew_25 (by decide) ?_
  refine va_putN (D := D) (ci := 2) (v := .int 0) (ty := .int) (C := RX2) (T := TX2) (N := 20) hx hb htl inlX2 tyX2 tyX2_ok nmX2 hown hK hP (hDW x) hS 21 qh_5 rfl 16 (by decide) (va_Nw.use rfl (hN _ nm_31)) (fun _ h9 => h9) rfl (tyX2_ok 16 (by decide)) rfl rfl (Nat.le_of_ble_eq_true rfl) dX9_anew_26 (fun H_26 locs_26 hP _ hS => ?_)
  have hP : va_P D vwCl (csQ ct A (va_up x 5 (oI (x 5) 16 (0 : Int32)))) H_26 := stQ_5_16 hP
  refine lv_aload_n hx hb dX9_anew_29 rfl (lv_at hl 1 rfl) ?_
  refine va_get (D := D) (ci := 9) (v := .ref (A 87)) (C := RX9) (T := TX9) (N := 14) hx hb htl inlX9 hown hK hP 0 qh_0 rfl 6 (by decide) (htl _ wq_2_7) (fun _ h9 => h9) rfl dX9_anew_30 ?_
  refine lv_aload_n hx hb dX9_anew_33 rfl (lv_at hl 1 rfl) ?_
  refine va_get (D := D) (ci := 9) (v := .ref (A 21)) (C := RX9) (T := TX9) (N := 14) hx hb htl inlX9 hown hK hP 0 qh_0 rfl 2 (by decide) (htl _ wq_2_0) (fun _ h9 => h9) rfl dX9_anew_34 ?_
  obtain ⟨r_37, e_37, hf⟩ := ob_bind hf
  have hPX_37 : va_P D vwCl (cs8 ct (fun i => A (87 + i)) ((va_up x 5 (oI (x 5) 16 (0 : Int32))) 10) ++ (cs2 ct (fun i => A (21 + i)) ((va_up x 5 (oI (x 5) 16 (0 : Int32))) 5))) H_26 := (va_P.app (qs_10 hP) (qs_5 hP))
  refine wr_call0 (va_runVN (As := [.ref (A 21)]) (rest := []) ⟨hx, hb, hml, hown, htl⟩ (c_X8_settle l D ct G (fun i => A (87 + i)) (fun i => A (21 + i)) fu ((va_up x 5 (oI (x 5) 16 (0 : Int32))) 10) ((va_up x 5 (oI (x 5) 16 (0 : Int32))) 5) e_37 ((hDx (va_up x 5 (oI (x 5) 16 (0 : Int32)))).sub (ws' := cs8 ct (fun i => A (87 + i)) ((va_up x 5 (oI (x 5) 16 (0 : Int32))) 10) ++ (cs2 ct (fun i => A (21 + i)) ((va_up x 5 (oI (x 5) 16 (0 : Int32))) 5))) [87, 88, 89, 21, 22, 23, 24, 25, 26, 27, 28, 29, 30, 31, 32, 33] (by decide) rfl)) (cw_X9_X8_settle htl hN ⟨Nat.le_of_ble_eq_true rfl, Nat.le_of_ble_eq_true rfl⟩) ⟨Bx_blind, va_recv hK hPX_37 (ci := 8) (q0 := 0) rfl rfl, Bx_pre hPX_37 hK hN (hX.stay hS hGE)⟩ rfl rfl hl.1 rfl (lv_room (Nat.le_of_ble_eq_true rfl)) dX9_anew_37 ⟨Nat.zero_le _, Nat.zero_le _⟩) hS qa_10 (fun H_37 locs_37 hB_37 _ hk_37 hS => ?_)
  have hP : va_P D vwCl (csQ ct A (va_up (va_up x 5 (oI (x 5) 16 (0 : Int32))) 10 r_37)) H_37 := qj_10 hP (hDW (va_up x 5 (oI (x 5) 16 (0 : Int32)))) hk_37 hB_37
  refine lv_iload_n hx hb dX9_anew_40 rfl (lv_at hl 0 rfl) ?_
  rw [← hQQ]
  cases hf
  exact rw_i hx hb hr hlocks hP hS dX9_anew_41
theorem c_X9_anew (l : Launch) (D : va_G) (ct : Nat → ClassId) (G : GT) (A : Nat → Nat) (fu : Nat) (x : Nat → Ob) {r : Int32 × (Nat → Ob)} (hf : p_X9_anew fu x = some r)  (hDx : ∀ x : Nat → Ob, va_D (GE G) (csQ ct A x)) : Met l yX9_anew (.code yX9_anew cX9_anew 2 (some .int) :: wsL_law) rm_X9_anew (va_Pc [.ref (A 0)] (Bx D ct G (csQ ct A x))) (Qwr (some (.int r.1)) (fun H => va_P D vwCl (csQ ct A r.2) H) (wA (csQ ct A x))) 0 0 (wA (csQ ct A x)) := by
  refine Met.ofW (cc := cX9_anew) (maxL := 2) (ret := (some .int)) (by decide) rfl ?_
  intro p e s m args below meth c s₁ B hml hv
  obtain ⟨rfl, hP, hK, hN, hX⟩ := hv
  have hts := atoms_spec (ws := .code yX9_anew cX9_anew 2 (some .int) :: wsL_law) B.pre
  rw [lg_entry_eq]
  exact b_X9_anew A fu x B.exec B.bytes B.returns hml (findClass_of_methodNamed B.named) (fun w h => hts w (List.mem_cons_of_mem _ h)) B.notSynchronized hK hN hX hP hf hDx  (lv_entry [.ref (A 0)] (n := 2) (Nat.le_of_ble_eq_true rfl))
def p_X9_deepen (fu : Nat) (x : Nat → Ob) (v1 : Int32) (v2 : Int32) : Option (Int32 × (Nat → Ob)) :=
  (p_X9_isReach fu x v1).bind fun r_2 => if r_2 = 0 then some (((-2) : Int32), x) else if v2 < 0 then some (((-2) : Int32), x) else if v2 ≤ (20 : Int32) then if ((x 5).1 16 0) ≤ 0 then (p_X9_pick fu 10 ((x 5).1 7) v1).bind fun r_42 => (p_X9_put fu 10 ((x 5).1 7) v1 v2).bind fun r_55 => some (r_42, (va_up x 5 (oA (x 5) 7 r_55))) else some (((-5) : Int32), x) else some (((-2) : Int32), x)
abbrev rm_X9_deepen : Room := { frames := 1, cells := 0, slots := 0, locals := 22 }
set_option maxHeartbeats 4000000 in
set_option maxRecDepth 100000 in
theorem b_X9_deepen {p : Program} {l : Launch} {e : Env} {s : State} {m : MethodId} {args : Array Value} {below : List Frame} {meth : Method} {c : Code} {ls : Array Slot} {D : va_G} {ct : Nat → ClassId} {G : GT} (A : Nat → Nat) (fu : Nat) (x : Nat → Ob) (v1 : Int32) (v2 : Int32) {r : Int32 × (Nat → Ob)} (hx : p.tables.exec = Jvm.exec) (hb : c.code = cX9_deepen) (hr : meth.sig.returnType = (some .int)) (hml : c.maxLocals = 4) (hown : s.vm.findClass RX9 = some m.cls) (htl : ∀ w ∈ wsL_law, w.before args s = true) (hlocks : meth.locks = false) (hK : va_K D vwCl (tyl ct) s) (hN : ∀ w ∈ NW, va_Nw w s) (hX : SX G s s.heap) (hP0 : va_P D vwCl (csQ ct A x) s.heap) (hf : p_X9_deepen fu x v1 v2 = some r) (hDx : ∀ x : Nat → Ob, va_D (GE G) (csQ ct A x))  (hl : lv_has ls 4 [(0, .ref (A 0)), (1, .int v1), (2, .int v2)]) : W p l e rm_X9_deepen s m args below meth c s.heap [] 0 0 (MQ below (Qwr (some (.int r.1)) (fun H => va_P D vwCl (csQ ct A r.2) H) (wA (csQ ct A x))) args s 0 0 (wA (csQ ct A x))) (F0 m 0 ls []) := by
  generalize hQQ : MQ below (Qwr (some (.int r.1)) (fun H => va_P D vwCl (csQ ct A r.2) H) (wA (csQ ct A x))) args s 0 0 (wA (csQ ct A x)) = QQ
  have hDW : ∀ x1 : Nat → Ob, va_D (wA (csQ ct A x)) (csQ ct A x1) := fun x1 => D_any (D_self (hDx x1)) (wA_Q x1 x)
  have hGE : ∀ q, wA (csQ ct A x) q → GE G q := wA_GE (hDx x)
  have hP := hP0
  have hS : va_S (wA (csQ ct A x)) s.heap s.heap [] := va_S.rf
  rw [p_X9_deepen] at hf
  refine lv_aload_n hx hb dX9_deepen_0 rfl (lv_at hl 0 rfl) ?_
  refine lv_iload_n hx hb dX9_deepen_1 rfl (lv_at hl 1 rfl) ?_
  obtain ⟨r_2, e_2, hf⟩ := ob_bind hf
  have hPX_2 : va_P D vwCl (csQ ct A x) s.heap := hP
  refine ro_call1 (va_runV (As := [.int v1]) (rest := []) ⟨hx, hb, hml, hown, htl⟩ (c_X9_isReach l D ct G A fu x v1 e_2) (cw_X9_X9_isReach htl ⟨Nat.le_of_ble_eq_true rfl, Nat.le_of_ble_eq_true rfl⟩) ⟨Bx_blind, va_recv hK hPX_2 (ci := 9) (q0 := 0) rfl rfl, Bx_pre hPX_2 hK hN (hX.stay hS hGE)⟩ rfl rfl hl.1 rfl (lv_room (Nat.le_of_ble_eq_true rfl)) dX9_deepen_2 ⟨Nat.zero_le _, Nat.zero_le _⟩) ?_
  refine lv_if_eq (tgt := 18) hx hb dX9_deepen_5 (by decide) (fun c_5 => ?_) (fun c_5 => ?_)
  · rw [if_pos c_5] at hf
    refine lv_bipush (v := (-2)) hx hb dX9_deepen_18 (by decide) ?_
    rw [← hQQ]
    cases hf
    exact rw_i hx hb hr hlocks hP hS dX9_deepen_20
  rw [if_neg c_5] at hf
  refine lv_iload_n hx hb dX9_deepen_8 rfl (lv_at hl 2 rfl) ?_
  refine lv_if_lt (tgt := 18) hx hb dX9_deepen_9 (by decide) (fun c_9 => ?_) (fun c_9 => ?_)
  · rw [if_pos c_9] at hf
    refine lv_bipush (v := (-2)) hx hb dX9_deepen_18 (by decide) ?_
    rw [← hQQ]
    cases hf
    exact rw_i hx hb hr hlocks hP hS dX9_deepen_20
  rw [if_neg c_9] at hf
  refine lv_iload_n hx hb dX9_deepen_12 rfl (lv_at hl 2 rfl) ?_
  refine lv_bipush (v := 20) hx hb dX9_deepen_13 (by decide) ?_
  refine lv_icmp_le (tgt := 21) hx hb dX9_deepen_15 (by decide) (fun c_15 => ?_) (fun c_15 => ?_)
  rotate_left 1
  · rw [if_neg c_15] at hf
    refine lv_bipush (v := (-2)) hx hb dX9_deepen_18 (by decide) ?_
    rw [← hQQ]
    cases hf
    exact rw_i hx hb hr hlocks hP hS dX9_deepen_20
  rw [if_pos c_15] at hf
  refine lv_aload_n hx hb dX9_deepen_21 rfl (lv_at hl 0 rfl) ?_
  refine va_get (D := D) (ci := 9) (v := .ref (A 21)) (C := RX9) (T := TX9) (N := 14) hx hb htl inlX9 hown hK hP 0 qh_0 rfl 2 (by decide) (htl _ wq_2_0) (fun _ h9 => h9) rfl dX9_deepen_22 ?_
  refine va_getN (D := D) (ci := 2) (v := .int ((x 5).1 16 0)) (C := RX2) (T := TX2) (N := 20) hx hb htl inlX2 hown hK hP 21 qh_5 rfl 16 (by decide) (va_Nw.use rfl (hN _ nm_31)) (fun _ h9 => h9) rfl dX9_deepen_25 ?_
  refine lv_if_le (tgt := 34) hx hb dX9_deepen_28 (by decide) (fun c_28 => ?_) (fun c_28 => ?_)
  rotate_left 1
  · rw [if_neg c_28] at hf
    refine lv_bipush (v := (-5)) hx hb dX9_deepen_31 (by decide) ?_
    rw [← hQQ]
    cases hf
    exact rw_i hx hb hr hlocks hP hS dX9_deepen_33
  rw [if_pos c_28] at hf
  refine lv_aload_n hx hb dX9_deepen_34 rfl (lv_at hl 0 rfl) ?_
  refine va_get (D := D) (ci := 9) (v := .ref (A 21)) (C := RX9) (T := TX9) (N := 14) hx hb htl inlX9 hown hK hP 0 qh_0 rfl 2 (by decide) (htl _ wq_2_0) (fun _ h9 => h9) rfl dX9_deepen_35 ?_
  refine va_getN (D := D) (ci := 2) (v := .ref (A 24)) (C := RX2) (T := TX2) (N := 20) hx hb htl inlX2 hown hK hP 21 qh_5 rfl 7 (by decide) (va_Nw.use rfl (hN _ nm_6)) (fun _ h9 => h9) rfl dX9_deepen_38 ?_
  refine lv_iload_n hx hb dX9_deepen_41 rfl (lv_at hl 1 rfl) ?_
  obtain ⟨r_42, e_42, hf⟩ := ob_bind hf
  have hPX_42 : va_P D vwCl ([((A 24), .inl (ct 0, 10, .inl ((x 5).1 7)))]) s.heap := (P_one hP 24 qat_24)
  refine ro_call1 (va_runS (As := [.ref (A 24), .int v1]) (rest := []) ⟨hx, hb, hml, hown, htl⟩ (c_X9_pick l D ct G (A 24) fu 10 ((x 5).1 7) v1 e_42) (cw_X9_X9_pick htl ⟨Nat.le_of_ble_eq_true rfl, Nat.le_of_ble_eq_true rfl⟩) ⟨Bx_blind, Bx_pre hPX_42 hK hN (hX.stay hS hGE)⟩ rfl rfl hl.1 rfl (lv_room (Nat.le_of_ble_eq_true rfl)) dX9_deepen_42 ⟨Nat.zero_le _, Nat.zero_le _⟩) ?_
  refine lv_istore_n (lv' := [(3, .int r_42), (0, .ref (A 0)), (1, .int v1), (2, .int v2)]) hx hb dX9_deepen_45 rfl hl (by decide) rfl (fun ls hl => ?_)
  refine lv_aload_n hx hb dX9_deepen_46 rfl (lv_at hl 1 rfl) ?_
  refine va_get (D := D) (ci := 9) (v := .ref (A 21)) (C := RX9) (T := TX9) (N := 14) hx hb htl inlX9 hown hK hP 0 qh_0 rfl 2 (by decide) (htl _ wq_2_0) (fun _ h9 => h9) rfl dX9_deepen_47 ?_
  refine va_getN (D := D) (ci := 2) (v := .ref (A 24)) (C := RX2) (T := TX2) (N := 20) hx hb htl inlX2 hown hK hP 21 qh_5 rfl 7 (by decide) (va_Nw.use rfl (hN _ nm_6)) (fun _ h9 => h9) rfl dX9_deepen_50 ?_
  refine lv_iload_n hx hb dX9_deepen_53 rfl (lv_at hl 2 rfl) ?_
  refine lv_iload_n hx hb dX9_deepen_54 rfl (lv_at hl 3 rfl) ?_
  obtain ⟨r_55, e_55, hf⟩ := ob_bind hf
  have hPX_55 : va_P D vwCl ([((A 24), .inl (ct 0, 10, .inl ((x 5).1 7)))]) s.heap := (P_one hP 24 qat_24)
  refine wr_call0 (va_runS (As := [.ref (A 24), .int v1, .int v2]) (rest := []) ⟨hx, hb, hml, hown, htl⟩ (c_X9_put l D ct G (A 24) fu 10 ((x 5).1 7) v1 v2 e_55 (qdA_24 (hDx x))) (cw_X9_X9_put htl ⟨Nat.le_of_ble_eq_true rfl, Nat.le_of_ble_eq_true rfl⟩) ⟨Bx_blind, Bx_pre hPX_55 hK hN (hX.stay hS hGE)⟩ rfl rfl hl.1 rfl (lv_room (Nat.le_of_ble_eq_true rfl)) dX9_deepen_55 ⟨Nat.zero_le _, Nat.zero_le _⟩) hS qaA_24 (fun H_55 locs_55 hB_55 _ hk_55 hS => ?_)
  have hP : va_P D vwCl (csQ ct A (va_up x 5 (oA (x 5) 7 r_55))) H_55 := qjA_24 hP (hDW x) hk_55 hB_55
  refine lv_iload_n hx hb dX9_deepen_58 rfl (lv_at hl 0 rfl) ?_
  rw [← hQQ]
  cases hf
  exact rw_i hx hb hr hlocks hP hS dX9_deepen_59
theorem c_X9_deepen (l : Launch) (D : va_G) (ct : Nat → ClassId) (G : GT) (A : Nat → Nat) (fu : Nat) (x : Nat → Ob) (v1 : Int32) (v2 : Int32) {r : Int32 × (Nat → Ob)} (hf : p_X9_deepen fu x v1 v2 = some r)  (hDx : ∀ x : Nat → Ob, va_D (GE G) (csQ ct A x)) : Met l yX9_deepen (.code yX9_deepen cX9_deepen 4 (some .int) :: wsL_law) rm_X9_deepen (va_Pc [.ref (A 0), .int v1, .int v2] (Bx D ct G (csQ ct A x))) (Qwr (some (.int r.1)) (fun H => va_P D vwCl (csQ ct A r.2) H) (wA (csQ ct A x))) 0 0 (wA (csQ ct A x)) := by
  refine Met.ofW (cc := cX9_deepen) (maxL := 4) (ret := (some .int)) (by decide) rfl ?_
  intro p e s m args below meth c s₁ B hml hv
  obtain ⟨rfl, hP, hK, hN, hX⟩ := hv
  have hts := atoms_spec (ws := .code yX9_deepen cX9_deepen 4 (some .int) :: wsL_law) B.pre
  rw [lg_entry_eq]
  exact b_X9_deepen A fu x v1 v2 B.exec B.bytes B.returns hml (findClass_of_methodNamed B.named) (fun w h => hts w (List.mem_cons_of_mem _ h)) B.notSynchronized hK hN hX hP hf hDx  (lv_entry [.ref (A 0), .int v1, .int v2] (n := 4) (Nat.le_of_ble_eq_true rfl))
def p_X9_rowsThere_L13 (fu : Nat) (x : Nat → Ob)  : Nat → Int32 → Int32 → Int32 → Option (Int32)
  | 0, _, _, _ => none
  | n + 1, v1, v3, v4 =>
    if v3 ≤ v4 then some v1 else if inb v4 4 = true then oLet v4.toNatClampNeg (fun j_22 => if ((x (14 + j_22)).1 0 0) = 0 then p_X9_rowsThere_L13 fu x  n v1 v3 (v4 + 1) else p_X9_rowsThere_L13 fu x  n (v1 + 1) v3 (v4 + 1)) else none
def p_X9_rowsThere (fu : Nat) (x : Nat → Ob) : Option (Int32) :=
  p_X9_rowsThere_L13 fu x fu 0 4 0
abbrev rm_X9_rowsThere : Room := { frames := 0, cells := 0, slots := 0, locals := 0 }
set_option maxHeartbeats 4000000 in
set_option maxRecDepth 100000 in
theorem b_X9_rowsThere {p : Program} {l : Launch} {e : Env} {s : State} {m : MethodId} {args : Array Value} {below : List Frame} {meth : Method} {c : Code} {ls : Array Slot} {D : va_G} {ct : Nat → ClassId} {G : GT} (A : Nat → Nat) (fu : Nat) (x : Nat → Ob) {r : Int32} (hx : p.tables.exec = Jvm.exec) (hb : c.code = cX9_rowsThere) (hr : meth.sig.returnType = (some .int)) (hml : c.maxLocals = 6) (hown : s.vm.findClass RX9 = some m.cls) (htl : ∀ w ∈ wsL_law, w.before args s = true) (hlocks : meth.locks = false) (hK : va_K D vwCl (tyl ct) s) (hN : ∀ w ∈ NW, va_Nw w s) (hX : SX G s s.heap) (hP0 : va_P D vwCl (csQ ct A x) s.heap) (hf : p_X9_rowsThere fu x = some r)  (hl : lv_has ls 6 [(0, .ref (A 0))]) : W p l e rm_X9_rowsThere s m args below meth c s.heap [] 0 0 (MQ below (Qro (some (.int r))) args s 0 0 (fun _ => False)) (F0 m 0 ls []) := by
  generalize hQQ : MQ below (Qro (some (.int r))) args s 0 0 (fun _ => False) = QQ
  have hP := hP0
  have hL13 : ∀ (n : Nat) (v1 : Int32) (v3 : Int32) (v4 : Int32), ∀ (ls : Array Slot), lv_has ls 6 [(1, .int v1), (2, .ref (A 97)), (3, .int v3), (4, .int v4)] → p_X9_rowsThere_L13 fu x  n v1 v3 v4 = some r → W p l e rm_X9_rowsThere s m args below meth c s.heap [] 0 0 QQ (F0 m 13 ls []) := by
    intro  n
    induction n with
    | zero =>
      intro v1 v3 v4 ls hl hf 
      rw [p_X9_rowsThere_L13] at hf
      cases hf
    | succ n ih =>
      intro v1 v3 v4 ls hl hf 
      rw [p_X9_rowsThere_L13] at hf
      refine lv_iload hx hb dX9_rowsThere_13 (lv_at hl 3 rfl) ?_
      refine lv_iload_n hx hb dX9_rowsThere_15 rfl (lv_at hl 2 rfl) ?_
      refine lv_icmp_ge (tgt := 47) hx hb dX9_rowsThere_16 (by decide) (fun c_16 => ?_) (fun c_16 => ?_)
      · rw [if_pos c_16] at hf
        refine lv_iload_n hx hb dX9_rowsThere_47 rfl (lv_at hl 0 rfl) ?_
        rw [← hQQ]
        exact rf_i hx hb hr hlocks hf dX9_rowsThere_48
      rw [if_neg c_16] at hf
      refine lv_aload_n hx hb dX9_rowsThere_19 rfl (lv_at hl 1 rfl) ?_
      refine lv_iload hx hb dX9_rowsThere_20 (lv_at hl 3 rfl) ?_
      obtain ⟨hi_22, hf⟩ := ob_in hf
      refine va_aldq (D := D) (tys := tyl ct) hx hb hK hP 97 5 rfl rfl hi_22 dX9_rowsThere_22 ?_
      obtain ⟨j_22, ej_22, hf⟩ := ob_let hf
      have hj_22 : j_22 < 4 := by rw [ej_22]; exact vp_lt hi_22
      rw [← ej_22]
      refine W.eq (g2 := F0 m 23 ls [.ref (A (98 + 2 * j_22))]) rfl ?_
      refine lv_astore (lv' := [(5, .ref (A (98 + 2 * j_22))), (1, .int v1), (2, .ref (A 97)), (3, .int v3), (4, .int v4)]) hx hb dX9_rowsThere_23 hl (by decide) rfl (fun ls hl => ?_)
      refine lv_aload hx hb dX9_rowsThere_25 (lv_at hl 0 rfl) ?_
      refine lv_ifnull hx hb dX9_rowsThere_27 ?_
      refine lv_aload hx hb dX9_rowsThere_30 (lv_at hl 0 rfl) ?_
      refine va_getN (D := D) (ci := 3) (v := .int ((x (14 + j_22)).1 0 0)) (C := RX3) (T := TX3) (N := 4) hx hb htl inlX3 hown hK hP (98 + 2 * j_22) (qrow_at0 hj_22) rfl 0 (by decide) (va_Nw.use rfl (hN _ nm_34)) (fun _ h9 => h9) rfl dX9_rowsThere_32 ?_
      refine lv_if_eq (tgt := 41) hx hb dX9_rowsThere_35 (by decide) (fun c_35 => ?_) (fun c_35 => ?_)
      · rw [if_pos c_35] at hf
        refine lv_iinc (v := (v4 + 1)) (lv' := [(4, .int (v4 + 1)), (5, .ref (A (98 + 2 * j_22))), (1, .int v1), (2, .ref (A 97)), (3, .int v3)]) hx hb dX9_rowsThere_41 hl (k := 4) rfl rfl (by decide) rfl (fun ls hl => ?_)
        refine lv_goto (tgt := 13) hx hb dX9_rowsThere_44 (by decide) ?_
        exact ih v1 v3 (v4 + 1) _ (lv_sub hl [2, 3, 4, 0] rfl) hf 
      rw [if_neg c_35] at hf
      refine lv_iinc (v := (v1 + 1)) (lv' := [(1, .int (v1 + 1)), (5, .ref (A (98 + 2 * j_22))), (2, .ref (A 97)), (3, .int v3), (4, .int v4)]) hx hb dX9_rowsThere_38 hl (k := 1) rfl rfl (by decide) rfl (fun ls hl => ?_)
      refine lv_iinc (v := (v4 + 1)) (lv' := [(4, .int (v4 + 1)), (1, .int (v1 + 1)), (5, .ref (A (98 + 2 * j_22))), (2, .ref (A 97)), (3, .int v3)]) hx hb dX9_rowsThere_41 hl (k := 4) rfl rfl (by decide) rfl (fun ls hl => ?_)
      refine lv_goto (tgt := 13) hx hb dX9_rowsThere_44 (by decide) ?_
      exact ih (v1 + 1) v3 (v4 + 1) _ (lv_sub hl [1, 3, 4, 0] rfl) hf 
  rw [p_X9_rowsThere] at hf
  refine lv_iconst (v := 0) hx hb dX9_rowsThere_0 (by decide) ?_
  refine lv_istore_n (lv' := [(1, .int 0), (0, .ref (A 0))]) hx hb dX9_rowsThere_1 rfl hl (by decide) rfl (fun ls hl => ?_)
  refine lv_aload_n hx hb dX9_rowsThere_2 rfl (lv_at hl 1 rfl) ?_
  refine va_get (D := D) (ci := 9) (v := .ref (A 97)) (C := RX9) (T := TX9) (N := 14) hx hb htl inlX9 hown hK hP 0 qh_0 rfl 10 (by decide) (htl _ wq_2_15) (fun _ h9 => h9) rfl dX9_rowsThere_3 ?_
  refine lv_astore_n (lv' := [(2, .ref (A 97)), (1, .int 0), (0, .ref (A 0))]) hx hb dX9_rowsThere_6 rfl hl (by decide) rfl (fun ls hl => ?_)
  refine lv_aload_n hx hb dX9_rowsThere_7 rfl (lv_at hl 0 rfl) ?_
  refine va_alen (D := D) (tys := tyl ct) (v := 4) hx hb hK hP 97 5 rfl rfl rfl dX9_rowsThere_8 ?_
  refine lv_istore_n (lv' := [(3, .int 4), (2, .ref (A 97)), (1, .int 0), (0, .ref (A 0))]) hx hb dX9_rowsThere_9 rfl hl (by decide) rfl (fun ls hl => ?_)
  refine lv_iconst (v := 0) hx hb dX9_rowsThere_10 (by decide) ?_
  refine lv_istore (lv' := [(4, .int 0), (3, .int 4), (2, .ref (A 97)), (1, .int 0), (0, .ref (A 0))]) hx hb dX9_rowsThere_11 hl (by decide) rfl (fun ls hl => ?_)
  exact hL13 fu 0 4 0 _ (lv_sub hl [3, 2, 1, 0] rfl) hf 
theorem c_X9_rowsThere (l : Launch) (D : va_G) (ct : Nat → ClassId) (G : GT) (A : Nat → Nat) (fu : Nat) (x : Nat → Ob) {r : Int32} (hf : p_X9_rowsThere fu x = some r)  : Met l yX9_rowsThere (.code yX9_rowsThere cX9_rowsThere 6 (some .int) :: wsL_law) rm_X9_rowsThere (va_Pc [.ref (A 0)] (Bx D ct G (csQ ct A x))) (Qro (some (.int r))) 0 0 (fun _ => False) := by
  refine Met.ofW (cc := cX9_rowsThere) (maxL := 6) (ret := (some .int)) (by decide) rfl ?_
  intro p e s m args below meth c s₁ B hml hv
  obtain ⟨rfl, hP, hK, hN, hX⟩ := hv
  have hts := atoms_spec (ws := .code yX9_rowsThere cX9_rowsThere 6 (some .int) :: wsL_law) B.pre
  rw [lg_entry_eq]
  exact b_X9_rowsThere A fu x B.exec B.bytes B.returns hml (findClass_of_methodNamed B.named) (fun w h => hts w (List.mem_cons_of_mem _ h)) B.notSynchronized hK hN hX hP hf   (lv_entry [.ref (A 0)] (n := 6) (Nat.le_of_ble_eq_true rfl))
