def p_X10_hasBy (fu : Nat) (v0 : Int32) (v1 : Int32) : Option (Int32) :=
  some ((6 * v0) - (v0 * (v0 + v1)))
abbrev rm_X10_hasBy : Room := { frames := 0, cells := 0, slots := 0, locals := 0 }
set_option maxHeartbeats 4000000 in
set_option maxRecDepth 100000 in
theorem b_X10_hasBy {p : Program} {l : Launch} {e : Env} {s : State} {m : MethodId} {args : Array Value} {below : List Frame} {meth : Method} {c : Code} {ls : Array Slot} {D : va_G} {ct : Nat → ClassId} {G : GT}  (fu : Nat) (v0 : Int32) (v1 : Int32) {r : Int32} (hx : p.tables.exec = Jvm.exec) (hb : c.code = cX10_hasBy) (hr : meth.sig.returnType = (some .int)) (hml : c.maxLocals = 2) (hown : s.vm.findClass RX10 = some m.cls) (htl : ∀ w ∈ wsL_law, w.before args s = true) (hlocks : meth.locks = false) (hK : va_K D vwCl (tyl ct) s) (hN : ∀ w ∈ NW, va_Nw w s) (hX : SX G s s.heap) (hP0 : va_P D vwCl ([]) s.heap) (hf : p_X10_hasBy fu v0 v1 = some r)  (hl : lv_has ls 2 [(0, .int v0), (1, .int v1)]) : W p l e rm_X10_hasBy s m args below meth c s.heap [] 0 0 (MQ below (Qro (some (.int r))) args s 0 0 (fun _ => False)) (F0 m 0 ls []) := by
  generalize hQQ : MQ below (Qro (some (.int r))) args s 0 0 (fun _ => False) = QQ
  have hP := hP0
  rw [p_X10_hasBy] at hf
  refine lv_bipush (v := 6) hx hb dX10_hasBy_0 (by decide) ?_
  refine lv_iload_n hx hb dX10_hasBy_2 rfl (lv_at hl 0 rfl) ?_
  refine lv_imul hx hb dX10_hasBy_3 ?_
  refine lv_iload_n hx hb dX10_hasBy_4 rfl (lv_at hl 0 rfl) ?_
  refine lv_iload_n hx hb dX10_hasBy_5 rfl (lv_at hl 0 rfl) ?_
  refine lv_iload_n hx hb dX10_hasBy_6 rfl (lv_at hl 1 rfl) ?_
  refine lv_iadd hx hb dX10_hasBy_7 ?_
  refine lv_imul hx hb dX10_hasBy_8 ?_
  refine lv_isub hx hb dX10_hasBy_9 ?_
  rw [← hQQ]
  exact rf_i hx hb hr hlocks hf dX10_hasBy_10
theorem c_X10_hasBy (l : Launch) (D : va_G) (ct : Nat → ClassId) (G : GT)  (fu : Nat) (v0 : Int32) (v1 : Int32) {r : Int32} (hf : p_X10_hasBy fu v0 v1 = some r)  : Met l yX10_hasBy (.code yX10_hasBy cX10_hasBy 2 (some .int) :: wsL_law) rm_X10_hasBy (va_Pc [.int v0, .int v1] (Bx D ct G ([]))) (Qro (some (.int r))) 0 0 (fun _ => False) := by
  refine Met.ofW (cc := cX10_hasBy) (maxL := 2) (ret := (some .int)) (by decide) rfl ?_
  intro p e s m args below meth c s₁ B hml hv
  obtain ⟨rfl, hP, hK, hN, hX⟩ := hv
  have hts := atoms_spec (ws := .code yX10_hasBy cX10_hasBy 2 (some .int) :: wsL_law) B.pre
  rw [lg_entry_eq]
  exact b_X10_hasBy  fu v0 v1 B.exec B.bytes B.returns hml (findClass_of_methodNamed B.named) (fun w h => hts w (List.mem_cons_of_mem _ h)) B.notSynchronized hK hN hX hP hf   (lv_entry [.int v0, .int v1] (n := 2) (Nat.le_of_ble_eq_true rfl))
theorem hd_X10_hasBy : yX10_hasBy.cls ≠ "java/lang/invoke/MethodHandle" ∧ yX10_hasBy.cls ≠ "java/lang/invoke/VarHandle" ∧ (parseMethodDescriptor yX10_hasBy.desc).map (fun d => d.parameters.length) = some 2 := by decide +kernel
theorem cw_X10_X10_hasBy {R : Room} {s : State} {args : Array Value} (ht : ∀ w ∈ wsL_law, w.before args s = true) (hR : rm_X10_hasBy.frames + 1 ≤ R.frames ∧ 8 + (2 + 11) + rm_X10_hasBy.locals ≤ R.locals) : CallB R s args RX10 349 yX10_hasBy cX10_hasBy 2 (some .int) ((.code yX10_hasBy cX10_hasBy 2 (some .int)) :: wsL_law) rm_X10_hasBy 0 0 2 ∧ (Cond.static yX10_hasBy).before args s = true := va_cwS 2 ht (GS wq_41_11 wq_41_12 wq_1_5 wq_41_13) rfl rfl rfl hd_X10_hasBy hR
def p_X10_isRest_L2 (fu : Nat)  : Nat → Int32 → Int32 → Int32 → Option (Int32)
  | 0, _, _, _ => none
  | n + 1, v0, v1, v2 =>
    if (5 : Int32) ≤ v2 then some (1 : Int32) else (p_X10_hasBy fu v2 v1).bind fun r_9 => (p_X10_hasBy fu v0 v1).bind fun r_14 => if r_14 < r_9 then some (0 : Int32) else (p_X10_hasBy fu v2 v0).bind fun r_22 => (p_X10_hasBy fu v1 v0).bind fun r_27 => if r_22 ≤ r_27 then p_X10_isRest_L2 fu  n v0 v1 (v2 + 1) else some (0 : Int32)
def p_X10_isRest (fu : Nat) (v0 : Int32) (v1 : Int32) : Option (Int32) :=
  p_X10_isRest_L2 fu fu v0 v1 0
abbrev rm_X10_isRest : Room := { frames := 1, cells := 0, slots := 0, locals := 21 }
set_option maxHeartbeats 4000000 in
set_option maxRecDepth 100000 in
theorem b_X10_isRest {p : Program} {l : Launch} {e : Env} {s : State} {m : MethodId} {args : Array Value} {below : List Frame} {meth : Method} {c : Code} {ls : Array Slot} {D : va_G} {ct : Nat → ClassId} {G : GT}  (fu : Nat) (v0 : Int32) (v1 : Int32) {r : Int32} (hx : p.tables.exec = Jvm.exec) (hb : c.code = cX10_isRest) (hr : meth.sig.returnType = (some .boolean)) (hml : c.maxLocals = 3) (hown : s.vm.findClass RX10 = some m.cls) (htl : ∀ w ∈ wsL_law, w.before args s = true) (hlocks : meth.locks = false) (hK : va_K D vwCl (tyl ct) s) (hN : ∀ w ∈ NW, va_Nw w s) (hX : SX G s s.heap) (hP0 : va_P D vwCl ([]) s.heap) (hf : p_X10_isRest fu v0 v1 = some r)  (hl : lv_has ls 3 [(0, .int v0), (1, .int v1)]) : W p l e rm_X10_isRest s m args below meth c s.heap [] 0 0 (MQ below (Qro (some (.int r))) args s 0 0 (fun _ => False)) (F0 m 0 ls []) := by
  generalize hQQ : MQ below (Qro (some (.int r))) args s 0 0 (fun _ => False) = QQ
  have hP := hP0
  have hL2 : ∀ (n : Nat) (v0 : Int32) (v1 : Int32) (v2 : Int32), ∀ (ls : Array Slot), lv_has ls 3 [(0, .int v0), (1, .int v1), (2, .int v2)] → p_X10_isRest_L2 fu  n v0 v1 v2 = some r → W p l e rm_X10_isRest s m args below meth c s.heap [] 0 0 QQ (F0 m 2 ls []) := by
    intro  n
    induction n with
    | zero =>
      intro v0 v1 v2 ls hl hf 
      rw [p_X10_isRest_L2] at hf
      cases hf
    | succ n ih =>
      intro v0 v1 v2 ls hl hf 
      rw [p_X10_isRest_L2] at hf
      refine lv_iload_n hx hb dX10_isRest_2 rfl (lv_at hl 2 rfl) ?_
      refine lv_iconst (v := 5) hx hb dX10_isRest_3 (by decide) ?_
      refine lv_icmp_ge (tgt := 41) hx hb dX10_isRest_4 (by decide) (fun c_4 => ?_) (fun c_4 => ?_)
      · rw [if_pos c_4] at hf
        refine lv_iconst (v := 1) hx hb dX10_isRest_41 (by decide) ?_
        rw [← hQQ]
        exact rf_z hx hb hr hlocks rfl hf dX10_isRest_42
      rw [if_neg c_4] at hf
      refine lv_iload_n hx hb dX10_isRest_7 rfl (lv_at hl 2 rfl) ?_
      refine lv_iload_n hx hb dX10_isRest_8 rfl (lv_at hl 1 rfl) ?_
      obtain ⟨r_9, e_9, hf⟩ := ob_bind hf
      have hPX_9 : va_P D vwCl ([]) s.heap := P_nil
      refine ro_call1 (va_runS (As := [.int v2, .int v1]) (rest := []) ⟨hx, hb, hml, hown, htl⟩ (c_X10_hasBy l D ct G fu v2 v1 e_9) (cw_X10_X10_hasBy htl ⟨Nat.le_of_ble_eq_true rfl, Nat.le_of_ble_eq_true rfl⟩) ⟨Bx_blind, Bx_pre hPX_9 hK hN hX⟩ rfl rfl hl.1 rfl (lv_room (Nat.le_of_ble_eq_true rfl)) dX10_isRest_9 ⟨Nat.zero_le _, Nat.zero_le _⟩) ?_
      refine lv_iload_n hx hb dX10_isRest_12 rfl (lv_at hl 0 rfl) ?_
      refine lv_iload_n hx hb dX10_isRest_13 rfl (lv_at hl 1 rfl) ?_
      obtain ⟨r_14, e_14, hf⟩ := ob_bind hf
      have hPX_14 : va_P D vwCl ([]) s.heap := P_nil
      refine ro_call1 (va_runS (As := [.int v0, .int v1]) (rest := [.int r_9]) ⟨hx, hb, hml, hown, htl⟩ (c_X10_hasBy l D ct G fu v0 v1 e_14) (cw_X10_X10_hasBy htl ⟨Nat.le_of_ble_eq_true rfl, Nat.le_of_ble_eq_true rfl⟩) ⟨Bx_blind, Bx_pre hPX_14 hK hN hX⟩ rfl rfl hl.1 rfl (lv_room (Nat.le_of_ble_eq_true rfl)) dX10_isRest_14 ⟨Nat.zero_le _, Nat.zero_le _⟩) ?_
      refine lv_icmp_gt (tgt := 33) hx hb dX10_isRest_17 (by decide) (fun c_17 => ?_) (fun c_17 => ?_)
      · rw [if_pos c_17] at hf
        refine lv_iconst (v := 0) hx hb dX10_isRest_33 (by decide) ?_
        rw [← hQQ]
        exact rf_z hx hb hr hlocks rfl hf dX10_isRest_34
      rw [if_neg c_17] at hf
      refine lv_iload_n hx hb dX10_isRest_20 rfl (lv_at hl 2 rfl) ?_
      refine lv_iload_n hx hb dX10_isRest_21 rfl (lv_at hl 0 rfl) ?_
      obtain ⟨r_22, e_22, hf⟩ := ob_bind hf
      have hPX_22 : va_P D vwCl ([]) s.heap := P_nil
      refine ro_call1 (va_runS (As := [.int v2, .int v0]) (rest := []) ⟨hx, hb, hml, hown, htl⟩ (c_X10_hasBy l D ct G fu v2 v0 e_22) (cw_X10_X10_hasBy htl ⟨Nat.le_of_ble_eq_true rfl, Nat.le_of_ble_eq_true rfl⟩) ⟨Bx_blind, Bx_pre hPX_22 hK hN hX⟩ rfl rfl hl.1 rfl (lv_room (Nat.le_of_ble_eq_true rfl)) dX10_isRest_22 ⟨Nat.zero_le _, Nat.zero_le _⟩) ?_
      refine lv_iload_n hx hb dX10_isRest_25 rfl (lv_at hl 1 rfl) ?_
      refine lv_iload_n hx hb dX10_isRest_26 rfl (lv_at hl 0 rfl) ?_
      obtain ⟨r_27, e_27, hf⟩ := ob_bind hf
      have hPX_27 : va_P D vwCl ([]) s.heap := P_nil
      refine ro_call1 (va_runS (As := [.int v1, .int v0]) (rest := [.int r_22]) ⟨hx, hb, hml, hown, htl⟩ (c_X10_hasBy l D ct G fu v1 v0 e_27) (cw_X10_X10_hasBy htl ⟨Nat.le_of_ble_eq_true rfl, Nat.le_of_ble_eq_true rfl⟩) ⟨Bx_blind, Bx_pre hPX_27 hK hN hX⟩ rfl rfl hl.1 rfl (lv_room (Nat.le_of_ble_eq_true rfl)) dX10_isRest_27 ⟨Nat.zero_le _, Nat.zero_le _⟩) ?_
      refine lv_icmp_le (tgt := 35) hx hb dX10_isRest_30 (by decide) (fun c_30 => ?_) (fun c_30 => ?_)
      · rw [if_pos c_30] at hf
        refine lv_iinc (v := (v2 + 1)) (lv' := [(2, .int (v2 + 1)), (0, .int v0), (1, .int v1)]) hx hb dX10_isRest_35 hl (k := 2) rfl rfl (by decide) rfl (fun ls hl => ?_)
        refine lv_goto (tgt := 2) hx hb dX10_isRest_38 (by decide) ?_
        exact ih v0 v1 (v2 + 1) _ (lv_sub hl [1, 2, 0] rfl) hf 
      rw [if_neg c_30] at hf
      refine lv_iconst (v := 0) hx hb dX10_isRest_33 (by decide) ?_
      rw [← hQQ]
      exact rf_z hx hb hr hlocks rfl hf dX10_isRest_34
  rw [p_X10_isRest] at hf
  refine lv_iconst (v := 0) hx hb dX10_isRest_0 (by decide) ?_
  refine lv_istore_n (lv' := [(2, .int 0), (0, .int v0), (1, .int v1)]) hx hb dX10_isRest_1 rfl hl (by decide) rfl (fun ls hl => ?_)
  exact hL2 fu v0 v1 0 _ (lv_sub hl [1, 2, 0] rfl) hf 
theorem c_X10_isRest (l : Launch) (D : va_G) (ct : Nat → ClassId) (G : GT)  (fu : Nat) (v0 : Int32) (v1 : Int32) {r : Int32} (hf : p_X10_isRest fu v0 v1 = some r)  : Met l yX10_isRest (.code yX10_isRest cX10_isRest 3 (some .boolean) :: wsL_law) rm_X10_isRest (va_Pc [.int v0, .int v1] (Bx D ct G ([]))) (Qro (some (.int r))) 0 0 (fun _ => False) := by
  refine Met.ofW (cc := cX10_isRest) (maxL := 3) (ret := (some .boolean)) (by decide) rfl ?_
  intro p e s m args below meth c s₁ B hml hv
  obtain ⟨rfl, hP, hK, hN, hX⟩ := hv
  have hts := atoms_spec (ws := .code yX10_isRest cX10_isRest 3 (some .boolean) :: wsL_law) B.pre
  rw [lg_entry_eq]
  exact b_X10_isRest  fu v0 v1 B.exec B.bytes B.returns hml (findClass_of_methodNamed B.named) (fun w h => hts w (List.mem_cons_of_mem _ h)) B.notSynchronized hK hN hX hP hf   (lv_entry [.int v0, .int v1] (n := 3) (Nat.le_of_ble_eq_true rfl))
theorem hd_X10_isRest : yX10_isRest.cls ≠ "java/lang/invoke/MethodHandle" ∧ yX10_isRest.cls ≠ "java/lang/invoke/VarHandle" ∧ (parseMethodDescriptor yX10_isRest.desc).map (fun d => d.parameters.length) = some 2 := by decide +kernel
theorem cw_X10_X10_isRest {R : Room} {s : State} {args : Array Value} (ht : ∀ w ∈ wsL_law, w.before args s = true) (hR : rm_X10_isRest.frames + 1 ≤ R.frames ∧ 8 + (3 + 11) + rm_X10_isRest.locals ≤ R.locals) : CallB R s args RX10 352 yX10_isRest cX10_isRest 3 (some .boolean) ((.code yX10_isRest cX10_isRest 3 (some .boolean)) :: wsL_law) rm_X10_isRest 0 0 2 ∧ (Cond.static yX10_isRest).before args s = true := va_cwS 2 ht (GS wq_53_1 wq_53_2 wq_1_5 wq_53_3) rfl rfl rfl hd_X10_isRest hR
def p_X10_rests_L4 (fu : Nat) (o : Ob)  : Nat → Int32 → Int32 → Option (Int32)
  | 0, _, _ => none
  | n + 1, v1, v2 =>
    if (25 : Int32) ≤ v2 then some v1 else if (5 : Int32) = 0 then none else if (5 : Int32) = 0 then none else (p_X10_isRest fu (v2 / 5) (v2 - v2 / 5 * 5)).bind fun r_17 => if r_17 = 0 then p_X10_rests_L4 fu o  n (v1 + 0) (v2 + 1) else p_X10_rests_L4 fu o  n (v1 + 1) (v2 + 1)
def p_X10_rests (fu : Nat) (o : Ob) : Option (Int32) :=
  p_X10_rests_L4 fu o fu 0 0
abbrev rm_X10_rests : Room := { frames := 2, cells := 0, slots := 0, locals := 43 }
set_option maxHeartbeats 4000000 in
set_option maxRecDepth 100000 in
theorem b_X10_rests {p : Program} {l : Launch} {e : Env} {s : State} {m : MethodId} {args : Array Value} {below : List Frame} {meth : Method} {c : Code} {ls : Array Slot} {D : va_G} {ct : Nat → ClassId} {G : GT} (a : Nat → Nat) (fu : Nat) (o : Ob) {r : Int32} (hx : p.tables.exec = Jvm.exec) (hb : c.code = cX10_rests) (hr : meth.sig.returnType = (some .int)) (hml : c.maxLocals = 3) (hown : s.vm.findClass RX10 = some m.cls) (htl : ∀ w ∈ wsL_law, w.before args s = true) (hlocks : meth.locks = false) (hK : va_K D vwCl (tyl ct) s) (hN : ∀ w ∈ NW, va_Nw w s) (hX : SX G s s.heap) (hP0 : va_P D vwCl (cs10 ct a o) s.heap) (hf : p_X10_rests fu o = some r)  (hl : lv_has ls 3 [(0, .ref (a 0))]) : W p l e rm_X10_rests s m args below meth c s.heap [] 0 0 (MQ below (Qro (some (.int r))) args s 0 0 (fun _ => False)) (F0 m 0 ls []) := by
  generalize hQQ : MQ below (Qro (some (.int r))) args s 0 0 (fun _ => False) = QQ
  have hP := hP0
  have hL4 : ∀ (n : Nat) (v1 : Int32) (v2 : Int32), ∀ (ls : Array Slot), lv_has ls 3 [(1, .int v1), (2, .int v2)] → p_X10_rests_L4 fu o  n v1 v2 = some r → W p l e rm_X10_rests s m args below meth c s.heap [] 0 0 QQ (F0 m 4 ls []) := by
    intro  n
    induction n with
    | zero =>
      intro v1 v2 ls hl hf 
      rw [p_X10_rests_L4] at hf
      cases hf
    | succ n ih =>
      intro v1 v2 ls hl hf 
      rw [p_X10_rests_L4] at hf
      refine lv_iload_n hx hb dX10_rests_4 rfl (lv_at hl 1 rfl) ?_
      refine lv_bipush (v := 25) hx hb dX10_rests_5 (by decide) ?_
      refine lv_icmp_ge (tgt := 36) hx hb dX10_rests_7 (by decide) (fun c_7 => ?_) (fun c_7 => ?_)
      · rw [if_pos c_7] at hf
        refine lv_iload_n hx hb dX10_rests_36 rfl (lv_at hl 0 rfl) ?_
        rw [← hQQ]
        exact rf_i hx hb hr hlocks hf dX10_rests_37
      rw [if_neg c_7] at hf
      refine lv_iload_n hx hb dX10_rests_10 rfl (lv_at hl 0 rfl) ?_
      refine lv_iload_n hx hb dX10_rests_11 rfl (lv_at hl 1 rfl) ?_
      refine lv_iconst (v := 5) hx hb dX10_rests_12 (by decide) ?_
      obtain ⟨hne_13, hf⟩ := ob_ne hf
      refine lv_idiv hx hb dX10_rests_13 hne_13 ?_
      refine lv_iload_n hx hb dX10_rests_14 rfl (lv_at hl 1 rfl) ?_
      refine lv_iconst (v := 5) hx hb dX10_rests_15 (by decide) ?_
      obtain ⟨hne_16, hf⟩ := ob_ne hf
      refine lv_irem hx hb dX10_rests_16 hne_16 ?_
      obtain ⟨r_17, e_17, hf⟩ := ob_bind hf
      have hPX_17 : va_P D vwCl ([]) s.heap := P_nil
      refine ro_call1 (va_runS (As := [.int (v2 / 5), .int (v2 - v2 / 5 * 5)]) (rest := [.int v1]) ⟨hx, hb, hml, hown, htl⟩ (c_X10_isRest l D ct G fu (v2 / 5) (v2 - v2 / 5 * 5) e_17) (cw_X10_X10_isRest htl ⟨Nat.le_of_ble_eq_true rfl, Nat.le_of_ble_eq_true rfl⟩) ⟨Bx_blind, Bx_pre hPX_17 hK hN hX⟩ rfl rfl hl.1 rfl (lv_room (Nat.le_of_ble_eq_true rfl)) dX10_rests_17 ⟨Nat.zero_le _, Nat.zero_le _⟩) ?_
      refine lv_if_eq (tgt := 27) hx hb dX10_rests_20 (by decide) (fun c_20 => ?_) (fun c_20 => ?_)
      · rw [if_pos c_20] at hf
        refine lv_iconst (v := 0) hx hb dX10_rests_27 (by decide) ?_
        refine lv_iadd hx hb dX10_rests_28 ?_
        refine lv_istore_n (lv' := [(1, .int (v1 + 0)), (2, .int v2)]) hx hb dX10_rests_29 rfl hl (by decide) rfl (fun ls hl => ?_)
        refine lv_iinc (v := (v2 + 1)) (lv' := [(2, .int (v2 + 1)), (1, .int (v1 + 0))]) hx hb dX10_rests_30 hl (k := 1) rfl rfl (by decide) rfl (fun ls hl => ?_)
        refine lv_goto (tgt := 4) hx hb dX10_rests_33 (by decide) ?_
        exact ih (v1 + 0) (v2 + 1) _ (lv_sub hl [1, 0] rfl) hf 
      rw [if_neg c_20] at hf
      refine lv_iconst (v := 1) hx hb dX10_rests_23 (by decide) ?_
      refine lv_goto (tgt := 28) hx hb dX10_rests_24 (by decide) ?_
      refine lv_iadd hx hb dX10_rests_28 ?_
      refine lv_istore_n (lv' := [(1, .int (v1 + 1)), (2, .int v2)]) hx hb dX10_rests_29 rfl hl (by decide) rfl (fun ls hl => ?_)
      refine lv_iinc (v := (v2 + 1)) (lv' := [(2, .int (v2 + 1)), (1, .int (v1 + 1))]) hx hb dX10_rests_30 hl (k := 1) rfl rfl (by decide) rfl (fun ls hl => ?_)
      refine lv_goto (tgt := 4) hx hb dX10_rests_33 (by decide) ?_
      exact ih (v1 + 1) (v2 + 1) _ (lv_sub hl [1, 0] rfl) hf 
  rw [p_X10_rests] at hf
  refine lv_iconst (v := 0) hx hb dX10_rests_0 (by decide) ?_
  refine lv_istore_n (lv' := [(1, .int 0), (0, .ref (a 0))]) hx hb dX10_rests_1 rfl hl (by decide) rfl (fun ls hl => ?_)
  refine lv_iconst (v := 0) hx hb dX10_rests_2 (by decide) ?_
  refine lv_istore_n (lv' := [(2, .int 0), (1, .int 0), (0, .ref (a 0))]) hx hb dX10_rests_3 rfl hl (by decide) rfl (fun ls hl => ?_)
  exact hL4 fu 0 0 _ (lv_sub hl [1, 0] rfl) hf 
theorem c_X10_rests (l : Launch) (D : va_G) (ct : Nat → ClassId) (G : GT) (a : Nat → Nat) (fu : Nat) (o : Ob) {r : Int32} (hf : p_X10_rests fu o = some r)  : Met l yX10_rests (.code yX10_rests cX10_rests 3 (some .int) :: wsL_law) rm_X10_rests (va_Pc [.ref (a 0)] (Bx D ct G (cs10 ct a o))) (Qro (some (.int r))) 0 0 (fun _ => False) := by
  refine Met.ofW (cc := cX10_rests) (maxL := 3) (ret := (some .int)) (by decide) rfl ?_
  intro p e s m args below meth c s₁ B hml hv
  obtain ⟨rfl, hP, hK, hN, hX⟩ := hv
  have hts := atoms_spec (ws := .code yX10_rests cX10_rests 3 (some .int) :: wsL_law) B.pre
  rw [lg_entry_eq]
  exact b_X10_rests a fu o B.exec B.bytes B.returns hml (findClass_of_methodNamed B.named) (fun w h => hts w (List.mem_cons_of_mem _ h)) B.notSynchronized hK hN hX hP hf   (lv_entry [.ref (a 0)] (n := 3) (Nat.le_of_ble_eq_true rfl))
def p_X10_rest_L2 (fu : Nat) (o : Ob) (c20 : Int32 → Option (Int32)) : Nat → Int32 → Option (Int32)
  | 0, _ => none
  | n + 1, v1 =>
    if (25 : Int32) ≤ v1 then some ((-1) : Int32) else if (5 : Int32) = 0 then none else if (5 : Int32) = 0 then none else (p_X10_isRest fu (v1 / 5) (v1 - v1 / 5 * 5)).bind fun r_14 => if r_14 = 0 then p_X10_rest_L2 fu o c20 n (v1 + 1) else c20 v1
def p_X10_rest (fu : Nat) (o : Ob) : Option (Int32) :=
  p_X10_rest_L2 fu o (fun v1 => if (5 : Int32) = 0 then none else if (5 : Int32) = 0 then none else some ((10 * (v1 / 5)) + (v1 - v1 / 5 * 5))) fu 0
abbrev rm_X10_rest : Room := { frames := 2, cells := 0, slots := 0, locals := 43 }
set_option maxHeartbeats 4000000 in
set_option maxRecDepth 100000 in
theorem b_X10_rest {p : Program} {l : Launch} {e : Env} {s : State} {m : MethodId} {args : Array Value} {below : List Frame} {meth : Method} {c : Code} {ls : Array Slot} {D : va_G} {ct : Nat → ClassId} {G : GT} (a : Nat → Nat) (fu : Nat) (o : Ob) {r : Int32} (hx : p.tables.exec = Jvm.exec) (hb : c.code = cX10_rest) (hr : meth.sig.returnType = (some .int)) (hml : c.maxLocals = 2) (hown : s.vm.findClass RX10 = some m.cls) (htl : ∀ w ∈ wsL_law, w.before args s = true) (hlocks : meth.locks = false) (hK : va_K D vwCl (tyl ct) s) (hN : ∀ w ∈ NW, va_Nw w s) (hX : SX G s s.heap) (hP0 : va_P D vwCl (cs10 ct a o) s.heap) (hf : p_X10_rest fu o = some r)  (hl : lv_has ls 2 [(0, .ref (a 0))]) : W p l e rm_X10_rest s m args below meth c s.heap [] 0 0 (MQ below (Qro (some (.int r))) args s 0 0 (fun _ => False)) (F0 m 0 ls []) := by
  generalize hQQ : MQ below (Qro (some (.int r))) args s 0 0 (fun _ => False) = QQ
  have hP := hP0
  have hL2 : ∀ (c20 : Int32 → Option (Int32)) (n : Nat) (v1 : Int32), ∀ (ls : Array Slot), lv_has ls 2 [(1, .int v1)] → p_X10_rest_L2 fu o c20 n v1 = some r → (∀ (v1 : Int32), ∀ (ls : Array Slot), lv_has ls 2 [(1, .int v1)] → c20 v1 = some r → W p l e rm_X10_rest s m args below meth c s.heap [] 0 0 QQ (F0 m 20 ls [])) → W p l e rm_X10_rest s m args below meth c s.heap [] 0 0 QQ (F0 m 2 ls []) := by
    intro c20 n
    induction n with
    | zero =>
      intro v1 ls hl hf k20
      rw [p_X10_rest_L2] at hf
      cases hf
    | succ n ih =>
      intro v1 ls hl hf k20
      rw [p_X10_rest_L2] at hf
      refine lv_iload_n hx hb dX10_rest_2 rfl (lv_at hl 0 rfl) ?_
      refine lv_bipush (v := 25) hx hb dX10_rest_3 (by decide) ?_
      refine lv_icmp_ge (tgt := 37) hx hb dX10_rest_5 (by decide) (fun c_5 => ?_) (fun c_5 => ?_)
      · rw [if_pos c_5] at hf
        refine lv_iconst (v := (-1)) hx hb dX10_rest_37 (by decide) ?_
        rw [← hQQ]
        exact rf_i hx hb hr hlocks hf dX10_rest_38
      rw [if_neg c_5] at hf
      refine lv_iload_n hx hb dX10_rest_8 rfl (lv_at hl 0 rfl) ?_
      refine lv_iconst (v := 5) hx hb dX10_rest_9 (by decide) ?_
      obtain ⟨hne_10, hf⟩ := ob_ne hf
      refine lv_idiv hx hb dX10_rest_10 hne_10 ?_
      refine lv_iload_n hx hb dX10_rest_11 rfl (lv_at hl 0 rfl) ?_
      refine lv_iconst (v := 5) hx hb dX10_rest_12 (by decide) ?_
      obtain ⟨hne_13, hf⟩ := ob_ne hf
      refine lv_irem hx hb dX10_rest_13 hne_13 ?_
      obtain ⟨r_14, e_14, hf⟩ := ob_bind hf
      have hPX_14 : va_P D vwCl ([]) s.heap := P_nil
      refine ro_call1 (va_runS (As := [.int (v1 / 5), .int (v1 - v1 / 5 * 5)]) (rest := []) ⟨hx, hb, hml, hown, htl⟩ (c_X10_isRest l D ct G fu (v1 / 5) (v1 - v1 / 5 * 5) e_14) (cw_X10_X10_isRest htl ⟨Nat.le_of_ble_eq_true rfl, Nat.le_of_ble_eq_true rfl⟩) ⟨Bx_blind, Bx_pre hPX_14 hK hN hX⟩ rfl rfl hl.1 rfl (lv_room (Nat.le_of_ble_eq_true rfl)) dX10_rest_14 ⟨Nat.zero_le _, Nat.zero_le _⟩) ?_
      refine lv_if_eq (tgt := 31) hx hb dX10_rest_17 (by decide) (fun c_17 => ?_) (fun c_17 => ?_)
      rotate_left 1
      · rw [if_neg c_17] at hf
        exact k20 v1 _ (lv_sub hl [0] rfl) hf
      rw [if_pos c_17] at hf
      refine lv_iinc (v := (v1 + 1)) (lv' := [(1, .int (v1 + 1))]) hx hb dX10_rest_31 hl (k := 0) rfl rfl (by decide) rfl (fun ls hl => ?_)
      refine lv_goto (tgt := 2) hx hb dX10_rest_34 (by decide) ?_
      exact ih (v1 + 1) _ (lv_sub hl [0] rfl) hf k20
  rw [p_X10_rest] at hf
  refine lv_iconst (v := 0) hx hb dX10_rest_0 (by decide) ?_
  refine lv_istore_n (lv' := [(1, .int 0), (0, .ref (a 0))]) hx hb dX10_rest_1 rfl hl (by decide) rfl (fun ls hl => ?_)
  refine hL2 _ fu 0 _ (lv_sub hl [0] rfl) hf (fun v1 ls hl hf => ?_)
  refine lv_bipush (v := 10) hx hb dX10_rest_20 (by decide) ?_
  refine lv_iload_n hx hb dX10_rest_22 rfl (lv_at hl 0 rfl) ?_
  refine lv_iconst (v := 5) hx hb dX10_rest_23 (by decide) ?_
  obtain ⟨hne_24, hf⟩ := ob_ne hf
  refine lv_idiv hx hb dX10_rest_24 hne_24 ?_
  refine lv_imul hx hb dX10_rest_25 ?_
  refine lv_iload_n hx hb dX10_rest_26 rfl (lv_at hl 0 rfl) ?_
  refine lv_iconst (v := 5) hx hb dX10_rest_27 (by decide) ?_
  obtain ⟨hne_28, hf⟩ := ob_ne hf
  refine lv_irem hx hb dX10_rest_28 hne_28 ?_
  refine lv_iadd hx hb dX10_rest_29 ?_
  rw [← hQQ]
  exact rf_i hx hb hr hlocks hf dX10_rest_30
theorem c_X10_rest (l : Launch) (D : va_G) (ct : Nat → ClassId) (G : GT) (a : Nat → Nat) (fu : Nat) (o : Ob) {r : Int32} (hf : p_X10_rest fu o = some r)  : Met l yX10_rest (.code yX10_rest cX10_rest 2 (some .int) :: wsL_law) rm_X10_rest (va_Pc [.ref (a 0)] (Bx D ct G (cs10 ct a o))) (Qro (some (.int r))) 0 0 (fun _ => False) := by
  refine Met.ofW (cc := cX10_rest) (maxL := 2) (ret := (some .int)) (by decide) rfl ?_
  intro p e s m args below meth c s₁ B hml hv
  obtain ⟨rfl, hP, hK, hN, hX⟩ := hv
  have hts := atoms_spec (ws := .code yX10_rest cX10_rest 2 (some .int) :: wsL_law) B.pre
  rw [lg_entry_eq]
  exact b_X10_rest a fu o B.exec B.bytes B.returns hml (findClass_of_methodNamed B.named) (fun w h => hts w (List.mem_cons_of_mem _ h)) B.notSynchronized hK hN hX hP hf   (lv_entry [.ref (a 0)] (n := 2) (Nat.le_of_ble_eq_true rfl))
def p_X10_has (fu : Nat) (o : Ob) (v1 : Int32) (v2 : Int32) : Option (Int32) :=
  (p_X10_in fu v1.toInt64 (0 : Int64) (4 : Int64)).bind fun r_6 => if r_6 = 0 then some ((-1000) : Int32) else (p_X10_in fu v2.toInt64 (0 : Int64) (4 : Int64)).bind fun r_18 => if r_18 = 0 then some ((-1000) : Int32) else (p_X10_hasBy fu v1 v2).bind fun r_26 => some r_26
abbrev rm_X10_has : Room := { frames := 1, cells := 0, slots := 0, locals := 25 }
set_option maxHeartbeats 4000000 in
set_option maxRecDepth 100000 in
theorem b_X10_has {p : Program} {l : Launch} {e : Env} {s : State} {m : MethodId} {args : Array Value} {below : List Frame} {meth : Method} {c : Code} {ls : Array Slot} {D : va_G} {ct : Nat → ClassId} {G : GT} (a : Nat → Nat) (fu : Nat) (o : Ob) (v1 : Int32) (v2 : Int32) {r : Int32} (hx : p.tables.exec = Jvm.exec) (hb : c.code = cX10_has) (hr : meth.sig.returnType = (some .int)) (hml : c.maxLocals = 3) (hown : s.vm.findClass RX10 = some m.cls) (htl : ∀ w ∈ wsL_law, w.before args s = true) (hlocks : meth.locks = false) (hK : va_K D vwCl (tyl ct) s) (hN : ∀ w ∈ NW, va_Nw w s) (hX : SX G s s.heap) (hP0 : va_P D vwCl (cs10 ct a o) s.heap) (hf : p_X10_has fu o v1 v2 = some r)  (hl : lv_has ls 3 [(0, .ref (a 0)), (1, .int v1), (2, .int v2)]) : W p l e rm_X10_has s m args below meth c s.heap [] 0 0 (MQ below (Qro (some (.int r))) args s 0 0 (fun _ => False)) (F0 m 0 ls []) := by
  generalize hQQ : MQ below (Qro (some (.int r))) args s 0 0 (fun _ => False) = QQ
  have hP := hP0
  rw [p_X10_has] at hf
  refine lv_iload_n hx hb dX10_has_0 rfl (lv_at hl 1 rfl) ?_
  refine lv_i2l hx hb dX10_has_1 rfl ?_
  refine lv_lconst (v := 0) hx hb dX10_has_2 (by decide) ?_
  refine lv_ldc2 (v := 4) hx hb hown (htl _ wq_41_10) dX10_has_3 ?_
  obtain ⟨r_6, e_6, hf⟩ := ob_bind hf
  have hPX_6 : va_P D vwCl ([]) s.heap := P_nil
  refine ro_call1 (va_runS (As := [.long v1.toInt64, .long 0, .long 4]) (rest := []) ⟨hx, hb, hml, hown, htl⟩ (c_X10_in l D ct G fu v1.toInt64 (0 : Int64) (4 : Int64) e_6) (cw_X10_X10_in htl ⟨Nat.le_of_ble_eq_true rfl, Nat.le_of_ble_eq_true rfl⟩) ⟨Bx_blind, Bx_pre hPX_6 hK hN hX⟩ rfl rfl hl.1 rfl (lv_room (Nat.le_of_ble_eq_true rfl)) dX10_has_6 ⟨Nat.zero_le _, Nat.zero_le _⟩) ?_
  refine lv_if_eq (tgt := 32) hx hb dX10_has_9 (by decide) (fun c_9 => ?_) (fun c_9 => ?_)
  · rw [if_pos c_9] at hf
    refine lv_sipush (v := (-1000)) hx hb dX10_has_32 (by decide) ?_
    rw [← hQQ]
    exact rf_i hx hb hr hlocks hf dX10_has_35
  rw [if_neg c_9] at hf
  refine lv_iload_n hx hb dX10_has_12 rfl (lv_at hl 2 rfl) ?_
  refine lv_i2l hx hb dX10_has_13 rfl ?_
  refine lv_lconst (v := 0) hx hb dX10_has_14 (by decide) ?_
  refine lv_ldc2 (v := 4) hx hb hown (htl _ wq_41_10) dX10_has_15 ?_
  obtain ⟨r_18, e_18, hf⟩ := ob_bind hf
  have hPX_18 : va_P D vwCl ([]) s.heap := P_nil
  refine ro_call1 (va_runS (As := [.long v2.toInt64, .long 0, .long 4]) (rest := []) ⟨hx, hb, hml, hown, htl⟩ (c_X10_in l D ct G fu v2.toInt64 (0 : Int64) (4 : Int64) e_18) (cw_X10_X10_in htl ⟨Nat.le_of_ble_eq_true rfl, Nat.le_of_ble_eq_true rfl⟩) ⟨Bx_blind, Bx_pre hPX_18 hK hN hX⟩ rfl rfl hl.1 rfl (lv_room (Nat.le_of_ble_eq_true rfl)) dX10_has_18 ⟨Nat.zero_le _, Nat.zero_le _⟩) ?_
  refine lv_if_eq (tgt := 32) hx hb dX10_has_21 (by decide) (fun c_21 => ?_) (fun c_21 => ?_)
  · rw [if_pos c_21] at hf
    refine lv_sipush (v := (-1000)) hx hb dX10_has_32 (by decide) ?_
    rw [← hQQ]
    exact rf_i hx hb hr hlocks hf dX10_has_35
  rw [if_neg c_21] at hf
  refine lv_iload_n hx hb dX10_has_24 rfl (lv_at hl 1 rfl) ?_
  refine lv_iload_n hx hb dX10_has_25 rfl (lv_at hl 2 rfl) ?_
  obtain ⟨r_26, e_26, hf⟩ := ob_bind hf
  have hPX_26 : va_P D vwCl ([]) s.heap := P_nil
  refine ro_call1 (va_runS (As := [.int v1, .int v2]) (rest := []) ⟨hx, hb, hml, hown, htl⟩ (c_X10_hasBy l D ct G fu v1 v2 e_26) (cw_X10_X10_hasBy htl ⟨Nat.le_of_ble_eq_true rfl, Nat.le_of_ble_eq_true rfl⟩) ⟨Bx_blind, Bx_pre hPX_26 hK hN hX⟩ rfl rfl hl.1 rfl (lv_room (Nat.le_of_ble_eq_true rfl)) dX10_has_26 ⟨Nat.zero_le _, Nat.zero_le _⟩) ?_
  refine lv_goto (tgt := 35) hx hb dX10_has_29 (by decide) ?_
  rw [← hQQ]
  exact rf_i hx hb hr hlocks hf dX10_has_35
theorem c_X10_has (l : Launch) (D : va_G) (ct : Nat → ClassId) (G : GT) (a : Nat → Nat) (fu : Nat) (o : Ob) (v1 : Int32) (v2 : Int32) {r : Int32} (hf : p_X10_has fu o v1 v2 = some r)  : Met l yX10_has (.code yX10_has cX10_has 3 (some .int) :: wsL_law) rm_X10_has (va_Pc [.ref (a 0), .int v1, .int v2] (Bx D ct G (cs10 ct a o))) (Qro (some (.int r))) 0 0 (fun _ => False) := by
  refine Met.ofW (cc := cX10_has) (maxL := 3) (ret := (some .int)) (by decide) rfl ?_
  intro p e s m args below meth c s₁ B hml hv
  obtain ⟨rfl, hP, hK, hN, hX⟩ := hv
  have hts := atoms_spec (ws := .code yX10_has cX10_has 3 (some .int) :: wsL_law) B.pre
  rw [lg_entry_eq]
  exact b_X10_has a fu o v1 v2 B.exec B.bytes B.returns hml (findClass_of_methodNamed B.named) (fun w h => hts w (List.mem_cons_of_mem _ h)) B.notSynchronized hK hN hX hP hf   (lv_entry [.ref (a 0), .int v1, .int v2] (n := 3) (Nat.le_of_ble_eq_true rfl))
def p_X10_answer_L19 (fu : Nat) (o : Ob)  : Nat → Int32 → Int32 → Int32 → Option (Int32)
  | 0, _, _, _ => none
  | n + 1, v1, v2, v3 =>
    if (5 : Int32) ≤ v3 then some v2 else (p_X10_hasBy fu v3 v1).bind fun r_26 => (p_X10_hasBy fu v2 v1).bind fun r_31 => if r_26 ≤ r_31 then p_X10_answer_L19 fu o  n v1 v2 (v3 + 1) else p_X10_answer_L19 fu o  n v1 v3 (v3 + 1)
def p_X10_answer (fu : Nat) (o : Ob) (v1 : Int32) : Option (Int32) :=
  (p_X10_in fu v1.toInt64 (0 : Int64) (4 : Int64)).bind fun r_6 => if r_6 = 0 then some ((-2) : Int32) else p_X10_answer_L19 fu o fu v1 0 1
abbrev rm_X10_answer : Room := { frames := 1, cells := 0, slots := 0, locals := 25 }
set_option maxHeartbeats 4000000 in
set_option maxRecDepth 100000 in
theorem b_X10_answer {p : Program} {l : Launch} {e : Env} {s : State} {m : MethodId} {args : Array Value} {below : List Frame} {meth : Method} {c : Code} {ls : Array Slot} {D : va_G} {ct : Nat → ClassId} {G : GT} (a : Nat → Nat) (fu : Nat) (o : Ob) (v1 : Int32) {r : Int32} (hx : p.tables.exec = Jvm.exec) (hb : c.code = cX10_answer) (hr : meth.sig.returnType = (some .int)) (hml : c.maxLocals = 4) (hown : s.vm.findClass RX10 = some m.cls) (htl : ∀ w ∈ wsL_law, w.before args s = true) (hlocks : meth.locks = false) (hK : va_K D vwCl (tyl ct) s) (hN : ∀ w ∈ NW, va_Nw w s) (hX : SX G s s.heap) (hP0 : va_P D vwCl (cs10 ct a o) s.heap) (hf : p_X10_answer fu o v1 = some r)  (hl : lv_has ls 4 [(0, .ref (a 0)), (1, .int v1)]) : W p l e rm_X10_answer s m args below meth c s.heap [] 0 0 (MQ below (Qro (some (.int r))) args s 0 0 (fun _ => False)) (F0 m 0 ls []) := by
  generalize hQQ : MQ below (Qro (some (.int r))) args s 0 0 (fun _ => False) = QQ
  have hP := hP0
  have hL19 : ∀ (n : Nat) (v1 : Int32) (v2 : Int32) (v3 : Int32), ∀ (ls : Array Slot), lv_has ls 4 [(1, .int v1), (2, .int v2), (3, .int v3)] → p_X10_answer_L19 fu o  n v1 v2 v3 = some r → W p l e rm_X10_answer s m args below meth c s.heap [] 0 0 QQ (F0 m 19 ls []) := by
    intro  n
    induction n with
    | zero =>
      intro v1 v2 v3 ls hl hf 
      rw [p_X10_answer_L19] at hf
      cases hf
    | succ n ih =>
      intro v1 v2 v3 ls hl hf 
      rw [p_X10_answer_L19] at hf
      refine lv_iload_n hx hb dX10_answer_19 rfl (lv_at hl 2 rfl) ?_
      refine lv_iconst (v := 5) hx hb dX10_answer_20 (by decide) ?_
      refine lv_icmp_ge (tgt := 49) hx hb dX10_answer_21 (by decide) (fun c_21 => ?_) (fun c_21 => ?_)
      · rw [if_pos c_21] at hf
        refine lv_iload_n hx hb dX10_answer_49 rfl (lv_at hl 1 rfl) ?_
        rw [← hQQ]
        exact rf_i hx hb hr hlocks hf dX10_answer_50
      rw [if_neg c_21] at hf
      refine lv_iload_n hx hb dX10_answer_24 rfl (lv_at hl 2 rfl) ?_
      refine lv_iload_n hx hb dX10_answer_25 rfl (lv_at hl 0 rfl) ?_
      obtain ⟨r_26, e_26, hf⟩ := ob_bind hf
      have hPX_26 : va_P D vwCl ([]) s.heap := P_nil
      refine ro_call1 (va_runS (As := [.int v3, .int v1]) (rest := []) ⟨hx, hb, hml, hown, htl⟩ (c_X10_hasBy l D ct G fu v3 v1 e_26) (cw_X10_X10_hasBy htl ⟨Nat.le_of_ble_eq_true rfl, Nat.le_of_ble_eq_true rfl⟩) ⟨Bx_blind, Bx_pre hPX_26 hK hN hX⟩ rfl rfl hl.1 rfl (lv_room (Nat.le_of_ble_eq_true rfl)) dX10_answer_26 ⟨Nat.zero_le _, Nat.zero_le _⟩) ?_
      refine lv_iload_n hx hb dX10_answer_29 rfl (lv_at hl 1 rfl) ?_
      refine lv_iload_n hx hb dX10_answer_30 rfl (lv_at hl 0 rfl) ?_
      obtain ⟨r_31, e_31, hf⟩ := ob_bind hf
      have hPX_31 : va_P D vwCl ([]) s.heap := P_nil
      refine ro_call1 (va_runS (As := [.int v2, .int v1]) (rest := [.int r_26]) ⟨hx, hb, hml, hown, htl⟩ (c_X10_hasBy l D ct G fu v2 v1 e_31) (cw_X10_X10_hasBy htl ⟨Nat.le_of_ble_eq_true rfl, Nat.le_of_ble_eq_true rfl⟩) ⟨Bx_blind, Bx_pre hPX_31 hK hN hX⟩ rfl rfl hl.1 rfl (lv_room (Nat.le_of_ble_eq_true rfl)) dX10_answer_31 ⟨Nat.zero_le _, Nat.zero_le _⟩) ?_
      refine lv_icmp_le (tgt := 41) hx hb dX10_answer_34 (by decide) (fun c_34 => ?_) (fun c_34 => ?_)
      · rw [if_pos c_34] at hf
        refine lv_iload_n hx hb dX10_answer_41 rfl (lv_at hl 1 rfl) ?_
        refine lv_istore_n (lv' := [(2, .int v2), (1, .int v1), (3, .int v3)]) hx hb dX10_answer_42 rfl hl (by decide) rfl (fun ls hl => ?_)
        refine lv_iinc (v := (v3 + 1)) (lv' := [(3, .int (v3 + 1)), (2, .int v2), (1, .int v1)]) hx hb dX10_answer_43 hl (k := 2) rfl rfl (by decide) rfl (fun ls hl => ?_)
        refine lv_goto (tgt := 19) hx hb dX10_answer_46 (by decide) ?_
        exact ih v1 v2 (v3 + 1) _ (lv_sub hl [2, 1, 0] rfl) hf 
      rw [if_neg c_34] at hf
      refine lv_iload_n hx hb dX10_answer_37 rfl (lv_at hl 2 rfl) ?_
      refine lv_goto (tgt := 42) hx hb dX10_answer_38 (by decide) ?_
      refine lv_istore_n (lv' := [(2, .int v3), (1, .int v1), (3, .int v3)]) hx hb dX10_answer_42 rfl hl (by decide) rfl (fun ls hl => ?_)
      refine lv_iinc (v := (v3 + 1)) (lv' := [(3, .int (v3 + 1)), (2, .int v3), (1, .int v1)]) hx hb dX10_answer_43 hl (k := 2) rfl rfl (by decide) rfl (fun ls hl => ?_)
      refine lv_goto (tgt := 19) hx hb dX10_answer_46 (by decide) ?_
      exact ih v1 v3 (v3 + 1) _ (lv_sub hl [2, 1, 0] rfl) hf 
  rw [p_X10_answer] at hf
  refine lv_iload_n hx hb dX10_answer_0 rfl (lv_at hl 1 rfl) ?_
  refine lv_i2l hx hb dX10_answer_1 rfl ?_
  refine lv_lconst (v := 0) hx hb dX10_answer_2 (by decide) ?_
  refine lv_ldc2 (v := 4) hx hb hown (htl _ wq_41_10) dX10_answer_3 ?_
  obtain ⟨r_6, e_6, hf⟩ := ob_bind hf
  have hPX_6 : va_P D vwCl ([]) s.heap := P_nil
  refine ro_call1 (va_runS (As := [.long v1.toInt64, .long 0, .long 4]) (rest := []) ⟨hx, hb, hml, hown, htl⟩ (c_X10_in l D ct G fu v1.toInt64 (0 : Int64) (4 : Int64) e_6) (cw_X10_X10_in htl ⟨Nat.le_of_ble_eq_true rfl, Nat.le_of_ble_eq_true rfl⟩) ⟨Bx_blind, Bx_pre hPX_6 hK hN hX⟩ rfl rfl hl.1 rfl (lv_room (Nat.le_of_ble_eq_true rfl)) dX10_answer_6 ⟨Nat.zero_le _, Nat.zero_le _⟩) ?_
  refine lv_if_ne (tgt := 15) hx hb dX10_answer_9 (by decide) (fun c_9 => ?_) (fun c_9 => ?_)
  rotate_left 1
  · rw [if_pos c_9] at hf
    refine lv_bipush (v := (-2)) hx hb dX10_answer_12 (by decide) ?_
    rw [← hQQ]
    exact rf_i hx hb hr hlocks hf dX10_answer_14
  rw [if_neg c_9] at hf
  refine lv_iconst (v := 0) hx hb dX10_answer_15 (by decide) ?_
  refine lv_istore_n (lv' := [(2, .int 0), (0, .ref (a 0)), (1, .int v1)]) hx hb dX10_answer_16 rfl hl (by decide) rfl (fun ls hl => ?_)
  refine lv_iconst (v := 1) hx hb dX10_answer_17 (by decide) ?_
  refine lv_istore_n (lv' := [(3, .int 1), (2, .int 0), (0, .ref (a 0)), (1, .int v1)]) hx hb dX10_answer_18 rfl hl (by decide) rfl (fun ls hl => ?_)
  exact hL19 fu v1 0 1 _ (lv_sub hl [3, 1, 0] rfl) hf 
theorem c_X10_answer (l : Launch) (D : va_G) (ct : Nat → ClassId) (G : GT) (a : Nat → Nat) (fu : Nat) (o : Ob) (v1 : Int32) {r : Int32} (hf : p_X10_answer fu o v1 = some r)  : Met l yX10_answer (.code yX10_answer cX10_answer 4 (some .int) :: wsL_law) rm_X10_answer (va_Pc [.ref (a 0), .int v1] (Bx D ct G (cs10 ct a o))) (Qro (some (.int r))) 0 0 (fun _ => False) := by
  refine Met.ofW (cc := cX10_answer) (maxL := 4) (ret := (some .int)) (by decide) rfl ?_
  intro p e s m args below meth c s₁ B hml hv
  obtain ⟨rfl, hP, hK, hN, hX⟩ := hv
  have hts := atoms_spec (ws := .code yX10_answer cX10_answer 4 (some .int) :: wsL_law) B.pre
  rw [lg_entry_eq]
  exact b_X10_answer a fu o v1 B.exec B.bytes B.returns hml (findClass_of_methodNamed B.named) (fun w h => hts w (List.mem_cons_of_mem _ h)) B.notSynchronized hK hN hX hP hf   (lv_entry [.ref (a 0), .int v1] (n := 4) (Nat.le_of_ble_eq_true rfl))
def p_X10_treaty_L4 (fu : Nat) (o : Ob)  : Nat → Int32 → Int32 → Option (Int32)
  | 0, _, _ => none
  | n + 1, v1, v2 =>
    if (25 : Int32) ≤ v2 then some v1 else if (5 : Int32) = 0 then none else if (5 : Int32) = 0 then none else (p_X10_hasBy fu (v2 / 5) (v2 - v2 / 5 * 5)).bind fun r_17 => if (5 : Int32) = 0 then none else if (5 : Int32) = 0 then none else (p_X10_hasBy fu (v2 - v2 / 5 * 5) (v2 / 5)).bind fun r_26 => p_X10_treaty_L4 fu o  n (if v1 < (r_17 + r_26) then (r_17 + r_26) else v1) (v2 + 1)
def p_X10_treaty (fu : Nat) (o : Ob) : Option (Int32) :=
  p_X10_treaty_L4 fu o fu 0 0
abbrev rm_X10_treaty : Room := { frames := 1, cells := 0, slots := 0, locals := 21 }
set_option maxHeartbeats 4000000 in
set_option maxRecDepth 100000 in
theorem b_X10_treaty {p : Program} {l : Launch} {e : Env} {s : State} {m : MethodId} {args : Array Value} {below : List Frame} {meth : Method} {c : Code} {ls : Array Slot} {D : va_G} {ct : Nat → ClassId} {G : GT} (a : Nat → Nat) (fu : Nat) (o : Ob) {r : Int32} (hx : p.tables.exec = Jvm.exec) (hb : c.code = cX10_treaty) (hr : meth.sig.returnType = (some .int)) (hml : c.maxLocals = 3) (hown : s.vm.findClass RX10 = some m.cls) (htl : ∀ w ∈ wsL_law, w.before args s = true) (hlocks : meth.locks = false) (hK : va_K D vwCl (tyl ct) s) (hN : ∀ w ∈ NW, va_Nw w s) (hX : SX G s s.heap) (hP0 : va_P D vwCl (cs10 ct a o) s.heap) (hf : p_X10_treaty fu o = some r)  (hl : lv_has ls 3 [(0, .ref (a 0))]) : W p l e rm_X10_treaty s m args below meth c s.heap [] 0 0 (MQ below (Qro (some (.int r))) args s 0 0 (fun _ => False)) (F0 m 0 ls []) := by
  generalize hQQ : MQ below (Qro (some (.int r))) args s 0 0 (fun _ => False) = QQ
  have hP := hP0
  have hL4 : ∀ (n : Nat) (v1 : Int32) (v2 : Int32), ∀ (ls : Array Slot), lv_has ls 3 [(1, .int v1), (2, .int v2)] → p_X10_treaty_L4 fu o  n v1 v2 = some r → W p l e rm_X10_treaty s m args below meth c s.heap [] 0 0 QQ (F0 m 4 ls []) := by
    intro  n
    induction n with
    | zero =>
      intro v1 v2 ls hl hf 
      rw [p_X10_treaty_L4] at hf
      cases hf
    | succ n ih =>
      intro v1 v2 ls hl hf 
      rw [p_X10_treaty_L4] at hf
      refine lv_iload_n hx hb dX10_treaty_4 rfl (lv_at hl 1 rfl) ?_
      refine lv_bipush (v := 25) hx hb dX10_treaty_5 (by decide) ?_
      refine lv_icmp_ge (tgt := 40) hx hb dX10_treaty_7 (by decide) (fun c_7 => ?_) (fun c_7 => ?_)
      · rw [if_pos c_7] at hf
        refine lv_iload_n hx hb dX10_treaty_40 rfl (lv_at hl 0 rfl) ?_
        rw [← hQQ]
        exact rf_i hx hb hr hlocks hf dX10_treaty_41
      rw [if_neg c_7] at hf
      refine lv_iload_n hx hb dX10_treaty_10 rfl (lv_at hl 0 rfl) ?_
      refine lv_iload_n hx hb dX10_treaty_11 rfl (lv_at hl 1 rfl) ?_
      refine lv_iconst (v := 5) hx hb dX10_treaty_12 (by decide) ?_
      obtain ⟨hne_13, hf⟩ := ob_ne hf
      refine lv_idiv hx hb dX10_treaty_13 hne_13 ?_
      refine lv_iload_n hx hb dX10_treaty_14 rfl (lv_at hl 1 rfl) ?_
      refine lv_iconst (v := 5) hx hb dX10_treaty_15 (by decide) ?_
      obtain ⟨hne_16, hf⟩ := ob_ne hf
      refine lv_irem hx hb dX10_treaty_16 hne_16 ?_
      obtain ⟨r_17, e_17, hf⟩ := ob_bind hf
      have hPX_17 : va_P D vwCl ([]) s.heap := P_nil
      refine ro_call1 (va_runS (As := [.int (v2 / 5), .int (v2 - v2 / 5 * 5)]) (rest := [.int v1]) ⟨hx, hb, hml, hown, htl⟩ (c_X10_hasBy l D ct G fu (v2 / 5) (v2 - v2 / 5 * 5) e_17) (cw_X10_X10_hasBy htl ⟨Nat.le_of_ble_eq_true rfl, Nat.le_of_ble_eq_true rfl⟩) ⟨Bx_blind, Bx_pre hPX_17 hK hN hX⟩ rfl rfl hl.1 rfl (lv_room (Nat.le_of_ble_eq_true rfl)) dX10_treaty_17 ⟨Nat.zero_le _, Nat.zero_le _⟩) ?_
      refine lv_iload_n hx hb dX10_treaty_20 rfl (lv_at hl 1 rfl) ?_
      refine lv_iconst (v := 5) hx hb dX10_treaty_21 (by decide) ?_
      obtain ⟨hne_22, hf⟩ := ob_ne hf
      refine lv_irem hx hb dX10_treaty_22 hne_22 ?_
      refine lv_iload_n hx hb dX10_treaty_23 rfl (lv_at hl 1 rfl) ?_
      refine lv_iconst (v := 5) hx hb dX10_treaty_24 (by decide) ?_
      obtain ⟨hne_25, hf⟩ := ob_ne hf
      refine lv_idiv hx hb dX10_treaty_25 hne_25 ?_
      obtain ⟨r_26, e_26, hf⟩ := ob_bind hf
      have hPX_26 : va_P D vwCl ([]) s.heap := P_nil
      refine ro_call1 (va_runS (As := [.int (v2 - v2 / 5 * 5), .int (v2 / 5)]) (rest := [.int r_17, .int v1]) ⟨hx, hb, hml, hown, htl⟩ (c_X10_hasBy l D ct G fu (v2 - v2 / 5 * 5) (v2 / 5) e_26) (cw_X10_X10_hasBy htl ⟨Nat.le_of_ble_eq_true rfl, Nat.le_of_ble_eq_true rfl⟩) ⟨Bx_blind, Bx_pre hPX_26 hK hN hX⟩ rfl rfl hl.1 rfl (lv_room (Nat.le_of_ble_eq_true rfl)) dX10_treaty_26 ⟨Nat.zero_le _, Nat.zero_le _⟩) ?_
      refine lv_iadd hx hb dX10_treaty_29 ?_
      refine va_mmax hx hb (hml.trans hl.1.symm) hown (htl _ wq_23_7) (htl _ wq_15_21) (htl _ wq_12_23) (htl _ wq_15_22) (Nat.le_of_ble_eq_true rfl) (Nat.le_of_ble_eq_true rfl) (Nat.zero_le _) (Nat.zero_le _) dX10_treaty_30 ?_
      refine lv_istore_n (lv' := [(1, .int (if v1 < (r_17 + r_26) then (r_17 + r_26) else v1)), (2, .int v2)]) hx hb dX10_treaty_33 rfl hl (by decide) rfl (fun ls hl => ?_)
      refine lv_iinc (v := (v2 + 1)) (lv' := [(2, .int (v2 + 1)), (1, .int (if v1 < (r_17 + r_26) then (r_17 + r_26) else v1))]) hx hb dX10_treaty_34 hl (k := 1) rfl rfl (by decide) rfl (fun ls hl => ?_)
      refine lv_goto (tgt := 4) hx hb dX10_treaty_37 (by decide) ?_
      exact ih (if v1 < (r_17 + r_26) then (r_17 + r_26) else v1) (v2 + 1) _ (lv_sub hl [1, 0] rfl) hf 
  rw [p_X10_treaty] at hf
  refine lv_iconst (v := 0) hx hb dX10_treaty_0 (by decide) ?_
  refine lv_istore_n (lv' := [(1, .int 0), (0, .ref (a 0))]) hx hb dX10_treaty_1 rfl hl (by decide) rfl (fun ls hl => ?_)
  refine lv_iconst (v := 0) hx hb dX10_treaty_2 (by decide) ?_
  refine lv_istore_n (lv' := [(2, .int 0), (1, .int 0), (0, .ref (a 0))]) hx hb dX10_treaty_3 rfl hl (by decide) rfl (fun ls hl => ?_)
  exact hL4 fu 0 0 _ (lv_sub hl [1, 0] rfl) hf 
theorem c_X10_treaty (l : Launch) (D : va_G) (ct : Nat → ClassId) (G : GT) (a : Nat → Nat) (fu : Nat) (o : Ob) {r : Int32} (hf : p_X10_treaty fu o = some r)  : Met l yX10_treaty (.code yX10_treaty cX10_treaty 3 (some .int) :: wsL_law) rm_X10_treaty (va_Pc [.ref (a 0)] (Bx D ct G (cs10 ct a o))) (Qro (some (.int r))) 0 0 (fun _ => False) := by
  refine Met.ofW (cc := cX10_treaty) (maxL := 3) (ret := (some .int)) (by decide) rfl ?_
  intro p e s m args below meth c s₁ B hml hv
  obtain ⟨rfl, hP, hK, hN, hX⟩ := hv
  have hts := atoms_spec (ws := .code yX10_treaty cX10_treaty 3 (some .int) :: wsL_law) B.pre
  rw [lg_entry_eq]
  exact b_X10_treaty a fu o B.exec B.bytes B.returns hml (findClass_of_methodNamed B.named) (fun w h => hts w (List.mem_cons_of_mem _ h)) B.notSynchronized hK hN hX hP hf   (lv_entry [.ref (a 0)] (n := 3) (Nat.le_of_ble_eq_true rfl))
def p_X10_startWeights_L2 (fu : Nat) (c22 : Ob → Option (Ob)) : Nat → Ob → Int32 → Option (Ob)
  | 0, _, _ => none
  | n + 1, oz, v1 =>
    if (1300 : Int32) ≤ v1 then c22 oz else if inb v1 1300 = true then p_X10_startWeights_L2 fu c22 n (oLA oz 35 (vp_updL (oz.2 35) v1.toNatClampNeg (0 : Int64))) (v1 + 1) else none
def p_X10_startWeights (fu : Nat) (o : Ob) : Option (Ob) :=
  p_X10_startWeights_L2 fu (fun oz => if inb (0 : Int32) 98 = true then if inb (0 : Int32) 61 = true then if inb (((oz.1 1) (0 : Int32).toNatClampNeg) + ((oz.1 15) (0 : Int32).toNatClampNeg)) 1300 = true then some (oLA oz 35 (vp_updL (oz.2 35) ((((oz.1 1) (0 : Int32).toNatClampNeg) + ((oz.1 15) (0 : Int32).toNatClampNeg)).toNatClampNeg) (1 : Int64))) else none else none else none) fu o 0
abbrev rm_X10_startWeights : Room := { frames := 0, cells := 0, slots := 0, locals := 0 }
set_option maxHeartbeats 4000000 in
set_option maxRecDepth 100000 in
theorem b_X10_startWeights {p : Program} {l : Launch} {e : Env} {s : State} {m : MethodId} {args : Array Value} {below : List Frame} {meth : Method} {c : Code} {ls : Array Slot} {D : va_G} {ct : Nat → ClassId} {G : GT} (a : Nat → Nat) (fu : Nat) (o : Ob) {r : Ob} (hx : p.tables.exec = Jvm.exec) (hb : c.code = cX10_startWeights) (hr : meth.sig.returnType = none) (hml : c.maxLocals = 2) (hown : s.vm.findClass RX10 = some m.cls) (htl : ∀ w ∈ wsL_law, w.before args s = true) (hlocks : meth.locks = false) (hK : va_K D vwCl (tyl ct) s) (hN : ∀ w ∈ NW, va_Nw w s) (hX : SX G s s.heap) (hP0 : va_P D vwCl (cs10 ct a o) s.heap) (hf : p_X10_startWeights fu o = some r) (hD0 : va_D (GE G) (cs10 ct a o))  (hl : lv_has ls 2 [(0, .ref (a 0))]) : W p l e rm_X10_startWeights s m args below meth c s.heap [] 0 0 (MQ below (Qwr none (fun H => va_P D vwCl (cs10 ct a r) H) (wA (cs10 ct a o))) args s 0 0 (wA (cs10 ct a o))) (F0 m 0 ls []) := by
  generalize hQQ : MQ below (Qwr none (fun H => va_P D vwCl (cs10 ct a r) H) (wA (cs10 ct a o))) args s 0 0 (wA (cs10 ct a o)) = QQ
  have hDx : ∀ (oy : Ob), va_D (GE G) (cs10 ct a oy) := fun oy => D_cr hD0 rfl
  have hDW : ∀ (oy : Ob), va_D (wA (cs10 ct a o)) (cs10 ct a oy) := fun oy => D_cr (D_self hD0) rfl
  have hGE : ∀ q, wA (cs10 ct a o) q → GE G q := wA_GE hD0
  have hP := hP0
  have hS : va_S (wA (cs10 ct a o)) s.heap s.heap [] := va_S.rf
  have hL2 : ∀ (c22 : Ob → Option (Ob)) (n : Nat) (oz : Ob) (v1 : Int32), ∀ (H : Heap) (locs : List Loc) (ls : Array Slot), va_P D vwCl (cs10 ct a oz) H → va_S (wA (cs10 ct a o)) s.heap H locs → lv_has ls 2 [(0, .ref (a 0)), (1, .int v1)] → p_X10_startWeights_L2 fu c22 n oz v1 = some r → (∀ (oz : Ob), ∀ (H : Heap) (locs : List Loc) (ls : Array Slot), va_P D vwCl (cs10 ct a oz) H → va_S (wA (cs10 ct a o)) s.heap H locs → lv_has ls 2 [(0, .ref (a 0))] → c22 oz = some r → W p l e rm_X10_startWeights s m args below meth c H locs 0 0 QQ (F0 m 22 ls [])) → W p l e rm_X10_startWeights s m args below meth c H locs 0 0 QQ (F0 m 2 ls []) := by
    intro c22 n
    induction n with
    | zero =>
      intro oz v1 H locs ls hP hS hl hf k22
      rw [p_X10_startWeights_L2] at hf
      cases hf
    | succ n ih =>
      intro oz v1 H locs ls hP hS hl hf k22
      rw [p_X10_startWeights_L2] at hf
      refine lv_iload_n hx hb dX10_startWeights_2 rfl (lv_at hl 1 rfl) ?_
      refine lv_sipush (v := 1300) hx hb dX10_startWeights_3 (by decide) ?_
      refine lv_icmp_ge (tgt := 22) hx hb dX10_startWeights_6 (by decide) (fun c_6 => ?_) (fun c_6 => ?_)
      · rw [if_pos c_6] at hf
        exact k22 oz _ _ _ hP hS (lv_sub hl [0] rfl) hf
      rw [if_neg c_6] at hf
      refine lv_aload_n hx hb dX10_startWeights_9 rfl (lv_at hl 0 rfl) ?_
      refine va_get (D := D) (ci := 10) (v := .ref (a 18)) (C := RX10) (T := TX10) (N := 42) hx hb htl inlX10 hown hK hP 0 rfl rfl 35 (by decide) (htl _ wq_7_21) (fun _ h9 => h9) rfl dX10_startWeights_10 ?_
      refine lv_iload_n hx hb dX10_startWeights_13 rfl (lv_at hl 1 rfl) ?_
      refine lv_lconst (v := 0) hx hb dX10_startWeights_14 (by decide) ?_
      obtain ⟨hi_15, hf⟩ := ob_in hf
      refine va_last (D := D) (tys := tyl ct) hx hb hK hP (hDW oz) hS 18 1 rfl rfl hi_15 dX10_startWeights_15 (fun H_15 locs_15 hP _ hS => ?_)
      have hP : va_P D vwCl (cs10 ct a (oLA oz 35 (vp_updL (oz.2 35) v1.toNatClampNeg (0 : Int64)))) H_15 := sa10_35 hP
      refine lv_iinc (v := (v1 + 1)) (lv' := [(1, .int (v1 + 1)), (0, .ref (a 0))]) hx hb dX10_startWeights_16 hl (k := 1) rfl rfl (by decide) rfl (fun ls hl => ?_)
      refine lv_goto (tgt := 2) hx hb dX10_startWeights_19 (by decide) ?_
      exact ih (oLA oz 35 (vp_updL (oz.2 35) v1.toNatClampNeg (0 : Int64))) (v1 + 1) _ _ _ hP hS (lv_sub hl [1, 0] rfl) hf k22
  rw [p_X10_startWeights] at hf
  refine lv_iconst (v := 0) hx hb dX10_startWeights_0 (by decide) ?_
  refine lv_istore_n (lv' := [(1, .int 0), (0, .ref (a 0))]) hx hb dX10_startWeights_1 rfl hl (by decide) rfl (fun ls hl => ?_)
  refine hL2 _ fu o 0 _ _ _ hP hS (lv_sub hl [1, 0] rfl) hf (fun oz H locs ls hP hS hl hf => ?_)
  refine lv_aload_n hx hb dX10_startWeights_22 rfl (lv_at hl 0 rfl) ?_
  refine va_get (D := D) (ci := 10) (v := .ref (a 18)) (C := RX10) (T := TX10) (N := 42) hx hb htl inlX10 hown hK hP 0 rfl rfl 35 (by decide) (htl _ wq_7_21) (fun _ h9 => h9) rfl dX10_startWeights_23 ?_
  refine lv_aload_n hx hb dX10_startWeights_26 rfl (lv_at hl 0 rfl) ?_
  refine va_get (D := D) (ci := 10) (v := .ref (a 1)) (C := RX10) (T := TX10) (N := 42) hx hb htl inlX10 hown hK hP 0 rfl rfl 1 (by decide) (htl _ wq_7_0) (fun _ h9 => h9) rfl dX10_startWeights_27 ?_
  refine lv_iconst (v := 0) hx hb dX10_startWeights_30 (by decide) ?_
  obtain ⟨hi_31, hf⟩ := ob_in hf
  refine va_iald (D := D) (tys := tyl ct) hx hb hK hP 1 0 rfl rfl hi_31 dX10_startWeights_31 ?_
  refine lv_aload_n hx hb dX10_startWeights_32 rfl (lv_at hl 0 rfl) ?_
  refine va_get (D := D) (ci := 10) (v := .ref (a 7)) (C := RX10) (T := TX10) (N := 42) hx hb htl inlX10 hown hK hP 0 rfl rfl 15 (by decide) (htl _ wq_7_9) (fun _ h9 => h9) rfl dX10_startWeights_33 ?_
  refine lv_iconst (v := 0) hx hb dX10_startWeights_36 (by decide) ?_
  obtain ⟨hi_37, hf⟩ := ob_in hf
  refine va_iald (D := D) (tys := tyl ct) hx hb hK hP 7 0 rfl rfl hi_37 dX10_startWeights_37 ?_
  refine lv_iadd hx hb dX10_startWeights_38 ?_
  refine lv_lconst (v := 1) hx hb dX10_startWeights_39 (by decide) ?_
  obtain ⟨hi_40, hf⟩ := ob_in hf
  refine va_last (D := D) (tys := tyl ct) hx hb hK hP (hDW oz) hS 18 1 rfl rfl hi_40 dX10_startWeights_40 (fun H_40 locs_40 hP _ hS => ?_)
  have hP : va_P D vwCl (cs10 ct a (oLA oz 35 (vp_updL (oz.2 35) ((((oz.1 1) (0 : Int32).toNatClampNeg) + ((oz.1 15) (0 : Int32).toNatClampNeg)).toNatClampNeg) (1 : Int64)))) H_40 := sa10_35 hP
  rw [← hQQ]
  cases hf
  exact rw_v hx hb hr hlocks hP hS dX10_startWeights_41
theorem c_X10_startWeights (l : Launch) (D : va_G) (ct : Nat → ClassId) (G : GT) (a : Nat → Nat) (fu : Nat) (o : Ob) {r : Ob} (hf : p_X10_startWeights fu o = some r)  (hD0 : va_D (GE G) (cs10 ct a o)) : Met l yX10_startWeights (.code yX10_startWeights cX10_startWeights 2 none :: wsL_law) rm_X10_startWeights (va_Pc [.ref (a 0)] (Bx D ct G (cs10 ct a o))) (Qwr none (fun H => va_P D vwCl (cs10 ct a r) H) (wA (cs10 ct a o))) 0 0 (wA (cs10 ct a o)) := by
  refine Met.ofW (cc := cX10_startWeights) (maxL := 2) (ret := none) (by decide) rfl ?_
  intro p e s m args below meth c s₁ B hml hv
  obtain ⟨rfl, hP, hK, hN, hX⟩ := hv
  have hts := atoms_spec (ws := .code yX10_startWeights cX10_startWeights 2 none :: wsL_law) B.pre
  rw [lg_entry_eq]
  exact b_X10_startWeights a fu o B.exec B.bytes B.returns hml (findClass_of_methodNamed B.named) (fun w h => hts w (List.mem_cons_of_mem _ h)) B.notSynchronized hK hN hX hP hf hD0  (lv_entry [.ref (a 0)] (n := 2) (Nat.le_of_ble_eq_true rfl))
def p_X10_stepWeights_L2 (fu : Nat) (c22 : Ob → Int32 → Option (Ob)) : Nat → Ob → Int32 → Int32 → Option (Ob)
  | 0, _, _, _ => none
  | n + 1, oz, v1, v2 =>
    if (1300 : Int32) ≤ v2 then c22 oz v1 else if inb v2 1300 = true then p_X10_stepWeights_L2 fu c22 n (oLA oz 36 (vp_updL (oz.2 36) v2.toNatClampNeg (0 : Int64))) v1 (v2 + 1) else none
def p_X10_stepWeights_L24 (fu : Nat) (c122 : Ob → Option (Ob)) : Nat → Ob → Int32 → Int32 → Option (Ob)
  | 0, _, _, _ => none
  | n + 1, oz, v1, v2 =>
    if (1300 : Int32) ≤ v2 then c122 oz else if inb v2 1300 = true then if (lg_cmp ((oz.2 35) v2.toNatClampNeg) 0) = 0 then p_X10_stepWeights_L24 fu c122 n oz v1 (v2 + 1) else if inb v1 61 = true then if inb ((if (0 : Int32) < (v2 - 1) then (v2 - 1) else (0 : Int32)) + ((oz.1 15) v1.toNatClampNeg)) 1300 = true then if inb v2 1300 = true then if inb (1 : Int32) 98 = true then if inb ((if (0 : Int32) < (v2 - 1) then (v2 - 1) else (0 : Int32)) + ((oz.1 15) v1.toNatClampNeg)) 1300 = true then if inb (2 : Int32) 98 = true then if inb (((if (0 : Int32) < (v2 - 1) then (v2 - 1) else (0 : Int32)) + ((oz.1 15) v1.toNatClampNeg)) + (((oLA oz 36 (vp_updL (oz.2 36) (((if (0 : Int32) < (v2 - 1) then (v2 - 1) else (0 : Int32)) + ((oz.1 15) v1.toNatClampNeg)).toNatClampNeg) (((oz.2 36) ((if (0 : Int32) < (v2 - 1) then (v2 - 1) else (0 : Int32)) + ((oz.1 15) v1.toNatClampNeg)).toNatClampNeg) + (((oz.2 35) v2.toNatClampNeg) * (10 - ((oz.1 1) (1 : Int32).toNatClampNeg)).toInt64)))).1 1) (2 : Int32).toNatClampNeg)) 1300 = true then if inb v2 1300 = true then if inb (1 : Int32) 98 = true then if inb (((if (0 : Int32) < (v2 - 1) then (v2 - 1) else (0 : Int32)) + ((oz.1 15) v1.toNatClampNeg)) + (((oLA oz 36 (vp_updL (oz.2 36) (((if (0 : Int32) < (v2 - 1) then (v2 - 1) else (0 : Int32)) + ((oz.1 15) v1.toNatClampNeg)).toNatClampNeg) (((oz.2 36) ((if (0 : Int32) < (v2 - 1) then (v2 - 1) else (0 : Int32)) + ((oz.1 15) v1.toNatClampNeg)).toNatClampNeg) + (((oz.2 35) v2.toNatClampNeg) * (10 - ((oz.1 1) (1 : Int32).toNatClampNeg)).toInt64)))).1 1) (2 : Int32).toNatClampNeg)) 1300 = true then p_X10_stepWeights_L24 fu c122 n (oLA (oLA oz 36 (vp_updL (oz.2 36) (((if (0 : Int32) < (v2 - 1) then (v2 - 1) else (0 : Int32)) + ((oz.1 15) v1.toNatClampNeg)).toNatClampNeg) (((oz.2 36) ((if (0 : Int32) < (v2 - 1) then (v2 - 1) else (0 : Int32)) + ((oz.1 15) v1.toNatClampNeg)).toNatClampNeg) + (((oz.2 35) v2.toNatClampNeg) * (10 - ((oz.1 1) (1 : Int32).toNatClampNeg)).toInt64)))) 36 (vp_updL ((oLA oz 36 (vp_updL (oz.2 36) (((if (0 : Int32) < (v2 - 1) then (v2 - 1) else (0 : Int32)) + ((oz.1 15) v1.toNatClampNeg)).toNatClampNeg) (((oz.2 36) ((if (0 : Int32) < (v2 - 1) then (v2 - 1) else (0 : Int32)) + ((oz.1 15) v1.toNatClampNeg)).toNatClampNeg) + (((oz.2 35) v2.toNatClampNeg) * (10 - ((oz.1 1) (1 : Int32).toNatClampNeg)).toInt64)))).2 36) ((((if (0 : Int32) < (v2 - 1) then (v2 - 1) else (0 : Int32)) + ((oz.1 15) v1.toNatClampNeg)) + (((oLA oz 36 (vp_updL (oz.2 36) (((if (0 : Int32) < (v2 - 1) then (v2 - 1) else (0 : Int32)) + ((oz.1 15) v1.toNatClampNeg)).toNatClampNeg) (((oz.2 36) ((if (0 : Int32) < (v2 - 1) then (v2 - 1) else (0 : Int32)) + ((oz.1 15) v1.toNatClampNeg)).toNatClampNeg) + (((oz.2 35) v2.toNatClampNeg) * (10 - ((oz.1 1) (1 : Int32).toNatClampNeg)).toInt64)))).1 1) (2 : Int32).toNatClampNeg)).toNatClampNeg) ((((oLA oz 36 (vp_updL (oz.2 36) (((if (0 : Int32) < (v2 - 1) then (v2 - 1) else (0 : Int32)) + ((oz.1 15) v1.toNatClampNeg)).toNatClampNeg) (((oz.2 36) ((if (0 : Int32) < (v2 - 1) then (v2 - 1) else (0 : Int32)) + ((oz.1 15) v1.toNatClampNeg)).toNatClampNeg) + (((oz.2 35) v2.toNatClampNeg) * (10 - ((oz.1 1) (1 : Int32).toNatClampNeg)).toInt64)))).2 36) (((if (0 : Int32) < (v2 - 1) then (v2 - 1) else (0 : Int32)) + ((oz.1 15) v1.toNatClampNeg)) + (((oLA oz 36 (vp_updL (oz.2 36) (((if (0 : Int32) < (v2 - 1) then (v2 - 1) else (0 : Int32)) + ((oz.1 15) v1.toNatClampNeg)).toNatClampNeg) (((oz.2 36) ((if (0 : Int32) < (v2 - 1) then (v2 - 1) else (0 : Int32)) + ((oz.1 15) v1.toNatClampNeg)).toNatClampNeg) + (((oz.2 35) v2.toNatClampNeg) * (10 - ((oz.1 1) (1 : Int32).toNatClampNeg)).toInt64)))).1 1) (2 : Int32).toNatClampNeg)).toNatClampNeg) + ((((oLA oz 36 (vp_updL (oz.2 36) (((if (0 : Int32) < (v2 - 1) then (v2 - 1) else (0 : Int32)) + ((oz.1 15) v1.toNatClampNeg)).toNatClampNeg) (((oz.2 36) ((if (0 : Int32) < (v2 - 1) then (v2 - 1) else (0 : Int32)) + ((oz.1 15) v1.toNatClampNeg)).toNatClampNeg) + (((oz.2 35) v2.toNatClampNeg) * (10 - ((oz.1 1) (1 : Int32).toNatClampNeg)).toInt64)))).2 35) v2.toNatClampNeg) * (((oLA oz 36 (vp_updL (oz.2 36) (((if (0 : Int32) < (v2 - 1) then (v2 - 1) else (0 : Int32)) + ((oz.1 15) v1.toNatClampNeg)).toNatClampNeg) (((oz.2 36) ((if (0 : Int32) < (v2 - 1) then (v2 - 1) else (0 : Int32)) + ((oz.1 15) v1.toNatClampNeg)).toNatClampNeg) + (((oz.2 35) v2.toNatClampNeg) * (10 - ((oz.1 1) (1 : Int32).toNatClampNeg)).toInt64)))).1 1) (1 : Int32).toNatClampNeg).toInt64)))) v1 (v2 + 1) else none else none else none else none else none else none else none else none else none else none else none
def p_X10_stepWeights_L124 (fu : Nat)  : Nat → Ob → Int32 → Option (Ob)
  | 0, _, _ => none
  | n + 1, oz, v2 =>
    if (1300 : Int32) ≤ v2 then some oz else if inb v2 1300 = true then if inb v2 1300 = true then p_X10_stepWeights_L124 fu  n (oLA oz 35 (vp_updL (oz.2 35) v2.toNatClampNeg ((oz.2 36) v2.toNatClampNeg))) (v2 + 1) else none else none
def p_X10_stepWeights (fu : Nat) (o : Ob) (v1 : Int32) : Option (Ob) :=
  p_X10_stepWeights_L2 fu (fun oz v1 => p_X10_stepWeights_L24 fu (fun oz => p_X10_stepWeights_L124 fu fu oz 0) fu oz v1 0) fu o v1 0
abbrev rm_X10_stepWeights : Room := { frames := 1, cells := 0, slots := 0, locals := 13 }
set_option maxHeartbeats 4000000 in
set_option maxRecDepth 100000 in
theorem b_X10_stepWeights {p : Program} {l : Launch} {e : Env} {s : State} {m : MethodId} {args : Array Value} {below : List Frame} {meth : Method} {c : Code} {ls : Array Slot} {D : va_G} {ct : Nat → ClassId} {G : GT} (a : Nat → Nat) (fu : Nat) (o : Ob) (v1 : Int32) {r : Ob} (hx : p.tables.exec = Jvm.exec) (hb : c.code = cX10_stepWeights) (hr : meth.sig.returnType = none) (hml : c.maxLocals = 4) (hown : s.vm.findClass RX10 = some m.cls) (htl : ∀ w ∈ wsL_law, w.before args s = true) (hlocks : meth.locks = false) (hK : va_K D vwCl (tyl ct) s) (hN : ∀ w ∈ NW, va_Nw w s) (hX : SX G s s.heap) (hP0 : va_P D vwCl (cs10 ct a o) s.heap) (hf : p_X10_stepWeights fu o v1 = some r) (hD0 : va_D (GE G) (cs10 ct a o))  (hl : lv_has ls 4 [(0, .ref (a 0)), (1, .int v1)]) : W p l e rm_X10_stepWeights s m args below meth c s.heap [] 0 0 (MQ below (Qwr none (fun H => va_P D vwCl (cs10 ct a r) H) (wA (cs10 ct a o))) args s 0 0 (wA (cs10 ct a o))) (F0 m 0 ls []) := by
  generalize hQQ : MQ below (Qwr none (fun H => va_P D vwCl (cs10 ct a r) H) (wA (cs10 ct a o))) args s 0 0 (wA (cs10 ct a o)) = QQ
  have hDx : ∀ (oy : Ob), va_D (GE G) (cs10 ct a oy) := fun oy => D_cr hD0 rfl
  have hDW : ∀ (oy : Ob), va_D (wA (cs10 ct a o)) (cs10 ct a oy) := fun oy => D_cr (D_self hD0) rfl
  have hGE : ∀ q, wA (cs10 ct a o) q → GE G q := wA_GE hD0
  have hP := hP0
  have hS : va_S (wA (cs10 ct a o)) s.heap s.heap [] := va_S.rf
  have hL2 : ∀ (c22 : Ob → Int32 → Option (Ob)) (n : Nat) (oz : Ob) (v1 : Int32) (v2 : Int32), ∀ (H : Heap) (locs : List Loc) (ls : Array Slot), va_P D vwCl (cs10 ct a oz) H → va_S (wA (cs10 ct a o)) s.heap H locs → lv_has ls 4 [(0, .ref (a 0)), (1, .int v1), (2, .int v2)] → p_X10_stepWeights_L2 fu c22 n oz v1 v2 = some r → (∀ (oz : Ob) (v1 : Int32), ∀ (H : Heap) (locs : List Loc) (ls : Array Slot), va_P D vwCl (cs10 ct a oz) H → va_S (wA (cs10 ct a o)) s.heap H locs → lv_has ls 4 [(0, .ref (a 0)), (1, .int v1)] → c22 oz v1 = some r → W p l e rm_X10_stepWeights s m args below meth c H locs 0 0 QQ (F0 m 22 ls [])) → W p l e rm_X10_stepWeights s m args below meth c H locs 0 0 QQ (F0 m 2 ls []) := by
    intro c22 n
    induction n with
    | zero =>
      intro oz v1 v2 H locs ls hP hS hl hf k22
      rw [p_X10_stepWeights_L2] at hf
      cases hf
    | succ n ih =>
      intro oz v1 v2 H locs ls hP hS hl hf k22
      rw [p_X10_stepWeights_L2] at hf
      refine lv_iload_n hx hb dX10_stepWeights_2 rfl (lv_at hl 2 rfl) ?_
      refine lv_sipush (v := 1300) hx hb dX10_stepWeights_3 (by decide) ?_
      refine lv_icmp_ge (tgt := 22) hx hb dX10_stepWeights_6 (by decide) (fun c_6 => ?_) (fun c_6 => ?_)
      · rw [if_pos c_6] at hf
        exact k22 oz v1 _ _ _ hP hS (lv_sub hl [0, 1] rfl) hf
      rw [if_neg c_6] at hf
      refine lv_aload_n hx hb dX10_stepWeights_9 rfl (lv_at hl 0 rfl) ?_
      refine va_get (D := D) (ci := 10) (v := .ref (a 19)) (C := RX10) (T := TX10) (N := 42) hx hb htl inlX10 hown hK hP 0 rfl rfl 36 (by decide) (htl _ wq_7_22) (fun _ h9 => h9) rfl dX10_stepWeights_10 ?_
      refine lv_iload_n hx hb dX10_stepWeights_13 rfl (lv_at hl 2 rfl) ?_
      refine lv_lconst (v := 0) hx hb dX10_stepWeights_14 (by decide) ?_
      obtain ⟨hi_15, hf⟩ := ob_in hf
      refine va_last (D := D) (tys := tyl ct) hx hb hK hP (hDW oz) hS 19 1 rfl rfl hi_15 dX10_stepWeights_15 (fun H_15 locs_15 hP _ hS => ?_)
      have hP : va_P D vwCl (cs10 ct a (oLA oz 36 (vp_updL (oz.2 36) v2.toNatClampNeg (0 : Int64)))) H_15 := sa10_36 hP
      refine lv_iinc (v := (v2 + 1)) (lv' := [(2, .int (v2 + 1)), (0, .ref (a 0)), (1, .int v1)]) hx hb dX10_stepWeights_16 hl (k := 2) rfl rfl (by decide) rfl (fun ls hl => ?_)
      refine lv_goto (tgt := 2) hx hb dX10_stepWeights_19 (by decide) ?_
      exact ih (oLA oz 36 (vp_updL (oz.2 36) v2.toNatClampNeg (0 : Int64))) v1 (v2 + 1) _ _ _ hP hS (lv_sub hl [1, 2, 0] rfl) hf k22
  have hL24 : ∀ (c122 : Ob → Option (Ob)) (n : Nat) (oz : Ob) (v1 : Int32) (v2 : Int32), ∀ (H : Heap) (locs : List Loc) (ls : Array Slot), va_P D vwCl (cs10 ct a oz) H → va_S (wA (cs10 ct a o)) s.heap H locs → lv_has ls 4 [(0, .ref (a 0)), (1, .int v1), (2, .int v2)] → p_X10_stepWeights_L24 fu c122 n oz v1 v2 = some r → (∀ (oz : Ob), ∀ (H : Heap) (locs : List Loc) (ls : Array Slot), va_P D vwCl (cs10 ct a oz) H → va_S (wA (cs10 ct a o)) s.heap H locs → lv_has ls 4 [(0, .ref (a 0))] → c122 oz = some r → W p l e rm_X10_stepWeights s m args below meth c H locs 0 0 QQ (F0 m 122 ls [])) → W p l e rm_X10_stepWeights s m args below meth c H locs 0 0 QQ (F0 m 24 ls []) := by
    intro c122 n
    induction n with
    | zero =>
      intro oz v1 v2 H locs ls hP hS hl hf k122
      rw [p_X10_stepWeights_L24] at hf
      cases hf
    | succ n ih =>
      intro oz v1 v2 H locs ls hP hS hl hf k122
      rw [p_X10_stepWeights_L24] at hf
      refine lv_iload_n hx hb dX10_stepWeights_24 rfl (lv_at hl 2 rfl) ?_
      refine lv_sipush (v := 1300) hx hb dX10_stepWeights_25 (by decide) ?_
      refine lv_icmp_ge (tgt := 122) hx hb dX10_stepWeights_28 (by decide) (fun c_28 => ?_) (fun c_28 => ?_)
      · rw [if_pos c_28] at hf
        exact k122 oz _ _ _ hP hS (lv_sub hl [0] rfl) hf
      rw [if_neg c_28] at hf
      refine lv_aload_n hx hb dX10_stepWeights_31 rfl (lv_at hl 0 rfl) ?_
      refine va_get (D := D) (ci := 10) (v := .ref (a 18)) (C := RX10) (T := TX10) (N := 42) hx hb htl inlX10 hown hK hP 0 rfl rfl 35 (by decide) (htl _ wq_7_21) (fun _ h9 => h9) rfl dX10_stepWeights_32 ?_
      refine lv_iload_n hx hb dX10_stepWeights_35 rfl (lv_at hl 2 rfl) ?_
      obtain ⟨hi_36, hf⟩ := ob_in hf
      refine va_lald (D := D) (tys := tyl ct) hx hb hK hP 18 1 rfl rfl hi_36 dX10_stepWeights_36 ?_
      refine lv_lconst (v := 0) hx hb dX10_stepWeights_37 (by decide) ?_
      refine W.lcmp hx hb dX10_stepWeights_38 ?_
      refine lv_if_ne (tgt := 45) hx hb dX10_stepWeights_39 (by decide) (fun c_39 => ?_) (fun c_39 => ?_)
      rotate_left 1
      · rw [if_pos c_39] at hf
        refine lv_goto (tgt := 116) hx hb dX10_stepWeights_42 (by decide) ?_
        refine lv_iinc (v := (v2 + 1)) (lv' := [(2, .int (v2 + 1)), (0, .ref (a 0)), (1, .int v1)]) hx hb dX10_stepWeights_116 hl (k := 2) rfl rfl (by decide) rfl (fun ls hl => ?_)
        refine lv_goto (tgt := 24) hx hb dX10_stepWeights_119 (by decide) ?_
        exact ih oz v1 (v2 + 1) _ _ _ hP hS (lv_sub hl [1, 2, 0] rfl) hf k122
      rw [if_neg c_39] at hf
      refine lv_iconst (v := 0) hx hb dX10_stepWeights_45 (by decide) ?_
      refine lv_iload_n hx hb dX10_stepWeights_46 rfl (lv_at hl 2 rfl) ?_
      refine lv_iconst (v := 1) hx hb dX10_stepWeights_47 (by decide) ?_
      refine lv_isub hx hb dX10_stepWeights_48 ?_
      refine va_mmax hx hb (hml.trans hl.1.symm) hown (htl _ wq_23_7) (htl _ wq_15_21) (htl _ wq_12_23) (htl _ wq_15_22) (Nat.le_of_ble_eq_true rfl) (Nat.le_of_ble_eq_true rfl) (Nat.zero_le _) (Nat.zero_le _) dX10_stepWeights_49 ?_
      refine lv_aload_n hx hb dX10_stepWeights_52 rfl (lv_at hl 0 rfl) ?_
      refine va_get (D := D) (ci := 10) (v := .ref (a 7)) (C := RX10) (T := TX10) (N := 42) hx hb htl inlX10 hown hK hP 0 rfl rfl 15 (by decide) (htl _ wq_7_9) (fun _ h9 => h9) rfl dX10_stepWeights_53 ?_
      refine lv_iload_n hx hb dX10_stepWeights_56 rfl (lv_at hl 1 rfl) ?_
      obtain ⟨hi_57, hf⟩ := ob_in hf
      refine va_iald (D := D) (tys := tyl ct) hx hb hK hP 7 0 rfl rfl hi_57 dX10_stepWeights_57 ?_
      refine lv_iadd hx hb dX10_stepWeights_58 ?_
      refine lv_istore_n (lv' := [(3, .int ((if (0 : Int32) < (v2 - 1) then (v2 - 1) else (0 : Int32)) + ((oz.1 15) v1.toNatClampNeg))), (0, .ref (a 0)), (1, .int v1), (2, .int v2)]) hx hb dX10_stepWeights_59 rfl hl (by decide) rfl (fun ls hl => ?_)
      refine lv_aload_n hx hb dX10_stepWeights_60 rfl (lv_at hl 1 rfl) ?_
      refine va_get (D := D) (ci := 10) (v := .ref (a 19)) (C := RX10) (T := TX10) (N := 42) hx hb htl inlX10 hown hK hP 0 rfl rfl 36 (by decide) (htl _ wq_7_22) (fun _ h9 => h9) rfl dX10_stepWeights_61 ?_
      refine lv_iload_n hx hb dX10_stepWeights_64 rfl (lv_at hl 0 rfl) ?_
      refine lv_dup2_11 hx hb dX10_stepWeights_65 rfl rfl ?_
      obtain ⟨hi_66, hf⟩ := ob_in hf
      refine va_lald (D := D) (tys := tyl ct) hx hb hK hP 19 1 rfl rfl hi_66 dX10_stepWeights_66 ?_
      refine lv_aload_n hx hb dX10_stepWeights_67 rfl (lv_at hl 1 rfl) ?_
      refine va_get (D := D) (ci := 10) (v := .ref (a 18)) (C := RX10) (T := TX10) (N := 42) hx hb htl inlX10 hown hK hP 0 rfl rfl 35 (by decide) (htl _ wq_7_21) (fun _ h9 => h9) rfl dX10_stepWeights_68 ?_
      refine lv_iload_n hx hb dX10_stepWeights_71 rfl (lv_at hl 3 rfl) ?_
      obtain ⟨hi_72, hf⟩ := ob_in hf
      refine va_lald (D := D) (tys := tyl ct) hx hb hK hP 18 1 rfl rfl hi_72 dX10_stepWeights_72 ?_
      refine lv_bipush (v := 10) hx hb dX10_stepWeights_73 (by decide) ?_
      refine lv_aload_n hx hb dX10_stepWeights_75 rfl (lv_at hl 1 rfl) ?_
      refine va_get (D := D) (ci := 10) (v := .ref (a 1)) (C := RX10) (T := TX10) (N := 42) hx hb htl inlX10 hown hK hP 0 rfl rfl 1 (by decide) (htl _ wq_7_0) (fun _ h9 => h9) rfl dX10_stepWeights_76 ?_
      refine lv_iconst (v := 1) hx hb dX10_stepWeights_79 (by decide) ?_
      obtain ⟨hi_80, hf⟩ := ob_in hf
      refine va_iald (D := D) (tys := tyl ct) hx hb hK hP 1 0 rfl rfl hi_80 dX10_stepWeights_80 ?_
      refine lv_isub hx hb dX10_stepWeights_81 ?_
      refine lv_i2l hx hb dX10_stepWeights_82 rfl ?_
      refine lv_lmul hx hb dX10_stepWeights_83 ?_
      refine lv_ladd hx hb dX10_stepWeights_84 ?_
      obtain ⟨hi_85, hf⟩ := ob_in hf
      refine va_last (D := D) (tys := tyl ct) hx hb hK hP (hDW oz) hS 19 1 rfl rfl hi_85 dX10_stepWeights_85 (fun H_85 locs_85 hP _ hS => ?_)
      have hP : va_P D vwCl (cs10 ct a (oLA oz 36 (vp_updL (oz.2 36) (((if (0 : Int32) < (v2 - 1) then (v2 - 1) else (0 : Int32)) + ((oz.1 15) v1.toNatClampNeg)).toNatClampNeg) (((oz.2 36) ((if (0 : Int32) < (v2 - 1) then (v2 - 1) else (0 : Int32)) + ((oz.1 15) v1.toNatClampNeg)).toNatClampNeg) + (((oz.2 35) v2.toNatClampNeg) * (10 - ((oz.1 1) (1 : Int32).toNatClampNeg)).toInt64))))) H_85 := sa10_36 hP
      refine lv_aload_n hx hb dX10_stepWeights_86 rfl (lv_at hl 1 rfl) ?_
      refine va_get (D := D) (ci := 10) (v := .ref (a 19)) (C := RX10) (T := TX10) (N := 42) hx hb htl inlX10 hown hK hP 0 rfl rfl 36 (by decide) (htl _ wq_7_22) (fun _ h9 => h9) rfl dX10_stepWeights_87 ?_
      refine lv_iload_n hx hb dX10_stepWeights_90 rfl (lv_at hl 0 rfl) ?_
      refine lv_aload_n hx hb dX10_stepWeights_91 rfl (lv_at hl 1 rfl) ?_
      refine va_get (D := D) (ci := 10) (v := .ref (a 1)) (C := RX10) (T := TX10) (N := 42) hx hb htl inlX10 hown hK hP 0 rfl rfl 1 (by decide) (htl _ wq_7_0) (fun _ h9 => h9) rfl dX10_stepWeights_92 ?_
      refine lv_iconst (v := 2) hx hb dX10_stepWeights_95 (by decide) ?_
      obtain ⟨hi_96, hf⟩ := ob_in hf
      refine va_iald (D := D) (tys := tyl ct) hx hb hK hP 1 0 rfl rfl hi_96 dX10_stepWeights_96 ?_
      refine lv_iadd hx hb dX10_stepWeights_97 ?_
      refine lv_dup2_11 hx hb dX10_stepWeights_98 rfl rfl ?_
      obtain ⟨hi_99, hf⟩ := ob_in hf
      refine va_lald (D := D) (tys := tyl ct) hx hb hK hP 19 1 rfl rfl hi_99 dX10_stepWeights_99 ?_
      refine lv_aload_n hx hb dX10_stepWeights_100 rfl (lv_at hl 1 rfl) ?_
      refine va_get (D := D) (ci := 10) (v := .ref (a 18)) (C := RX10) (T := TX10) (N := 42) hx hb htl inlX10 hown hK hP 0 rfl rfl 35 (by decide) (htl _ wq_7_21) (fun _ h9 => h9) rfl dX10_stepWeights_101 ?_
      refine lv_iload_n hx hb dX10_stepWeights_104 rfl (lv_at hl 3 rfl) ?_
      obtain ⟨hi_105, hf⟩ := ob_in hf
      refine va_lald (D := D) (tys := tyl ct) hx hb hK hP 18 1 rfl rfl hi_105 dX10_stepWeights_105 ?_
      refine lv_aload_n hx hb dX10_stepWeights_106 rfl (lv_at hl 1 rfl) ?_
      refine va_get (D := D) (ci := 10) (v := .ref (a 1)) (C := RX10) (T := TX10) (N := 42) hx hb htl inlX10 hown hK hP 0 rfl rfl 1 (by decide) (htl _ wq_7_0) (fun _ h9 => h9) rfl dX10_stepWeights_107 ?_
      refine lv_iconst (v := 1) hx hb dX10_stepWeights_110 (by decide) ?_
      obtain ⟨hi_111, hf⟩ := ob_in hf
      refine va_iald (D := D) (tys := tyl ct) hx hb hK hP 1 0 rfl rfl hi_111 dX10_stepWeights_111 ?_
      refine lv_i2l hx hb dX10_stepWeights_112 rfl ?_
      refine lv_lmul hx hb dX10_stepWeights_113 ?_
      refine lv_ladd hx hb dX10_stepWeights_114 ?_
      obtain ⟨hi_115, hf⟩ := ob_in hf
      refine va_last (D := D) (tys := tyl ct) hx hb hK hP (hDW (oLA oz 36 (vp_updL (oz.2 36) (((if (0 : Int32) < (v2 - 1) then (v2 - 1) else (0 : Int32)) + ((oz.1 15) v1.toNatClampNeg)).toNatClampNeg) (((oz.2 36) ((if (0 : Int32) < (v2 - 1) then (v2 - 1) else (0 : Int32)) + ((oz.1 15) v1.toNatClampNeg)).toNatClampNeg) + (((oz.2 35) v2.toNatClampNeg) * (10 - ((oz.1 1) (1 : Int32).toNatClampNeg)).toInt64))))) hS 19 1 rfl rfl hi_115 dX10_stepWeights_115 (fun H_115 locs_115 hP _ hS => ?_)
      have hP : va_P D vwCl (cs10 ct a (oLA (oLA oz 36 (vp_updL (oz.2 36) (((if (0 : Int32) < (v2 - 1) then (v2 - 1) else (0 : Int32)) + ((oz.1 15) v1.toNatClampNeg)).toNatClampNeg) (((oz.2 36) ((if (0 : Int32) < (v2 - 1) then (v2 - 1) else (0 : Int32)) + ((oz.1 15) v1.toNatClampNeg)).toNatClampNeg) + (((oz.2 35) v2.toNatClampNeg) * (10 - ((oz.1 1) (1 : Int32).toNatClampNeg)).toInt64)))) 36 (vp_updL ((oLA oz 36 (vp_updL (oz.2 36) (((if (0 : Int32) < (v2 - 1) then (v2 - 1) else (0 : Int32)) + ((oz.1 15) v1.toNatClampNeg)).toNatClampNeg) (((oz.2 36) ((if (0 : Int32) < (v2 - 1) then (v2 - 1) else (0 : Int32)) + ((oz.1 15) v1.toNatClampNeg)).toNatClampNeg) + (((oz.2 35) v2.toNatClampNeg) * (10 - ((oz.1 1) (1 : Int32).toNatClampNeg)).toInt64)))).2 36) ((((if (0 : Int32) < (v2 - 1) then (v2 - 1) else (0 : Int32)) + ((oz.1 15) v1.toNatClampNeg)) + (((oLA oz 36 (vp_updL (oz.2 36) (((if (0 : Int32) < (v2 - 1) then (v2 - 1) else (0 : Int32)) + ((oz.1 15) v1.toNatClampNeg)).toNatClampNeg) (((oz.2 36) ((if (0 : Int32) < (v2 - 1) then (v2 - 1) else (0 : Int32)) + ((oz.1 15) v1.toNatClampNeg)).toNatClampNeg) + (((oz.2 35) v2.toNatClampNeg) * (10 - ((oz.1 1) (1 : Int32).toNatClampNeg)).toInt64)))).1 1) (2 : Int32).toNatClampNeg)).toNatClampNeg) ((((oLA oz 36 (vp_updL (oz.2 36) (((if (0 : Int32) < (v2 - 1) then (v2 - 1) else (0 : Int32)) + ((oz.1 15) v1.toNatClampNeg)).toNatClampNeg) (((oz.2 36) ((if (0 : Int32) < (v2 - 1) then (v2 - 1) else (0 : Int32)) + ((oz.1 15) v1.toNatClampNeg)).toNatClampNeg) + (((oz.2 35) v2.toNatClampNeg) * (10 - ((oz.1 1) (1 : Int32).toNatClampNeg)).toInt64)))).2 36) (((if (0 : Int32) < (v2 - 1) then (v2 - 1) else (0 : Int32)) + ((oz.1 15) v1.toNatClampNeg)) + (((oLA oz 36 (vp_updL (oz.2 36) (((if (0 : Int32) < (v2 - 1) then (v2 - 1) else (0 : Int32)) + ((oz.1 15) v1.toNatClampNeg)).toNatClampNeg) (((oz.2 36) ((if (0 : Int32) < (v2 - 1) then (v2 - 1) else (0 : Int32)) + ((oz.1 15) v1.toNatClampNeg)).toNatClampNeg) + (((oz.2 35) v2.toNatClampNeg) * (10 - ((oz.1 1) (1 : Int32).toNatClampNeg)).toInt64)))).1 1) (2 : Int32).toNatClampNeg)).toNatClampNeg) + ((((oLA oz 36 (vp_updL (oz.2 36) (((if (0 : Int32) < (v2 - 1) then (v2 - 1) else (0 : Int32)) + ((oz.1 15) v1.toNatClampNeg)).toNatClampNeg) (((oz.2 36) ((if (0 : Int32) < (v2 - 1) then (v2 - 1) else (0 : Int32)) + ((oz.1 15) v1.toNatClampNeg)).toNatClampNeg) + (((oz.2 35) v2.toNatClampNeg) * (10 - ((oz.1 1) (1 : Int32).toNatClampNeg)).toInt64)))).2 35) v2.toNatClampNeg) * (((oLA oz 36 (vp_updL (oz.2 36) (((if (0 : Int32) < (v2 - 1) then (v2 - 1) else (0 : Int32)) + ((oz.1 15) v1.toNatClampNeg)).toNatClampNeg) (((oz.2 36) ((if (0 : Int32) < (v2 - 1) then (v2 - 1) else (0 : Int32)) + ((oz.1 15) v1.toNatClampNeg)).toNatClampNeg) + (((oz.2 35) v2.toNatClampNeg) * (10 - ((oz.1 1) (1 : Int32).toNatClampNeg)).toInt64)))).1 1) (1 : Int32).toNatClampNeg).toInt64))))) H_115 := sa10_36 hP
      refine lv_iinc (v := (v2 + 1)) (lv' := [(2, .int (v2 + 1)), (3, .int ((if (0 : Int32) < (v2 - 1) then (v2 - 1) else (0 : Int32)) + ((oz.1 15) v1.toNatClampNeg))), (0, .ref (a 0)), (1, .int v1)]) hx hb dX10_stepWeights_116 hl (k := 3) rfl rfl (by decide) rfl (fun ls hl => ?_)
      refine lv_goto (tgt := 24) hx hb dX10_stepWeights_119 (by decide) ?_
      exact ih (oLA (oLA oz 36 (vp_updL (oz.2 36) (((if (0 : Int32) < (v2 - 1) then (v2 - 1) else (0 : Int32)) + ((oz.1 15) v1.toNatClampNeg)).toNatClampNeg) (((oz.2 36) ((if (0 : Int32) < (v2 - 1) then (v2 - 1) else (0 : Int32)) + ((oz.1 15) v1.toNatClampNeg)).toNatClampNeg) + (((oz.2 35) v2.toNatClampNeg) * (10 - ((oz.1 1) (1 : Int32).toNatClampNeg)).toInt64)))) 36 (vp_updL ((oLA oz 36 (vp_updL (oz.2 36) (((if (0 : Int32) < (v2 - 1) then (v2 - 1) else (0 : Int32)) + ((oz.1 15) v1.toNatClampNeg)).toNatClampNeg) (((oz.2 36) ((if (0 : Int32) < (v2 - 1) then (v2 - 1) else (0 : Int32)) + ((oz.1 15) v1.toNatClampNeg)).toNatClampNeg) + (((oz.2 35) v2.toNatClampNeg) * (10 - ((oz.1 1) (1 : Int32).toNatClampNeg)).toInt64)))).2 36) ((((if (0 : Int32) < (v2 - 1) then (v2 - 1) else (0 : Int32)) + ((oz.1 15) v1.toNatClampNeg)) + (((oLA oz 36 (vp_updL (oz.2 36) (((if (0 : Int32) < (v2 - 1) then (v2 - 1) else (0 : Int32)) + ((oz.1 15) v1.toNatClampNeg)).toNatClampNeg) (((oz.2 36) ((if (0 : Int32) < (v2 - 1) then (v2 - 1) else (0 : Int32)) + ((oz.1 15) v1.toNatClampNeg)).toNatClampNeg) + (((oz.2 35) v2.toNatClampNeg) * (10 - ((oz.1 1) (1 : Int32).toNatClampNeg)).toInt64)))).1 1) (2 : Int32).toNatClampNeg)).toNatClampNeg) ((((oLA oz 36 (vp_updL (oz.2 36) (((if (0 : Int32) < (v2 - 1) then (v2 - 1) else (0 : Int32)) + ((oz.1 15) v1.toNatClampNeg)).toNatClampNeg) (((oz.2 36) ((if (0 : Int32) < (v2 - 1) then (v2 - 1) else (0 : Int32)) + ((oz.1 15) v1.toNatClampNeg)).toNatClampNeg) + (((oz.2 35) v2.toNatClampNeg) * (10 - ((oz.1 1) (1 : Int32).toNatClampNeg)).toInt64)))).2 36) (((if (0 : Int32) < (v2 - 1) then (v2 - 1) else (0 : Int32)) + ((oz.1 15) v1.toNatClampNeg)) + (((oLA oz 36 (vp_updL (oz.2 36) (((if (0 : Int32) < (v2 - 1) then (v2 - 1) else (0 : Int32)) + ((oz.1 15) v1.toNatClampNeg)).toNatClampNeg) (((oz.2 36) ((if (0 : Int32) < (v2 - 1) then (v2 - 1) else (0 : Int32)) + ((oz.1 15) v1.toNatClampNeg)).toNatClampNeg) + (((oz.2 35) v2.toNatClampNeg) * (10 - ((oz.1 1) (1 : Int32).toNatClampNeg)).toInt64)))).1 1) (2 : Int32).toNatClampNeg)).toNatClampNeg) + ((((oLA oz 36 (vp_updL (oz.2 36) (((if (0 : Int32) < (v2 - 1) then (v2 - 1) else (0 : Int32)) + ((oz.1 15) v1.toNatClampNeg)).toNatClampNeg) (((oz.2 36) ((if (0 : Int32) < (v2 - 1) then (v2 - 1) else (0 : Int32)) + ((oz.1 15) v1.toNatClampNeg)).toNatClampNeg) + (((oz.2 35) v2.toNatClampNeg) * (10 - ((oz.1 1) (1 : Int32).toNatClampNeg)).toInt64)))).2 35) v2.toNatClampNeg) * (((oLA oz 36 (vp_updL (oz.2 36) (((if (0 : Int32) < (v2 - 1) then (v2 - 1) else (0 : Int32)) + ((oz.1 15) v1.toNatClampNeg)).toNatClampNeg) (((oz.2 36) ((if (0 : Int32) < (v2 - 1) then (v2 - 1) else (0 : Int32)) + ((oz.1 15) v1.toNatClampNeg)).toNatClampNeg) + (((oz.2 35) v2.toNatClampNeg) * (10 - ((oz.1 1) (1 : Int32).toNatClampNeg)).toInt64)))).1 1) (1 : Int32).toNatClampNeg).toInt64)))) v1 (v2 + 1) _ _ _ hP hS (lv_sub hl [2, 3, 0] rfl) hf k122
  have hL124 : ∀ (n : Nat) (oz : Ob) (v2 : Int32), ∀ (H : Heap) (locs : List Loc) (ls : Array Slot), va_P D vwCl (cs10 ct a oz) H → va_S (wA (cs10 ct a o)) s.heap H locs → lv_has ls 4 [(0, .ref (a 0)), (2, .int v2)] → p_X10_stepWeights_L124 fu  n oz v2 = some r → W p l e rm_X10_stepWeights s m args below meth c H locs 0 0 QQ (F0 m 124 ls []) := by
    intro  n
    induction n with
    | zero =>
      intro oz v2 H locs ls hP hS hl hf 
      rw [p_X10_stepWeights_L124] at hf
      cases hf
    | succ n ih =>
      intro oz v2 H locs ls hP hS hl hf 
      rw [p_X10_stepWeights_L124] at hf
      refine lv_iload_n hx hb dX10_stepWeights_124 rfl (lv_at hl 1 rfl) ?_
      refine lv_sipush (v := 1300) hx hb dX10_stepWeights_125 (by decide) ?_
      refine lv_icmp_ge (tgt := 149) hx hb dX10_stepWeights_128 (by decide) (fun c_128 => ?_) (fun c_128 => ?_)
      · rw [if_pos c_128] at hf
        rw [← hQQ]
        cases hf
        exact rw_v hx hb hr hlocks hP hS dX10_stepWeights_149
      rw [if_neg c_128] at hf
      refine lv_aload_n hx hb dX10_stepWeights_131 rfl (lv_at hl 0 rfl) ?_
      refine va_get (D := D) (ci := 10) (v := .ref (a 18)) (C := RX10) (T := TX10) (N := 42) hx hb htl inlX10 hown hK hP 0 rfl rfl 35 (by decide) (htl _ wq_7_21) (fun _ h9 => h9) rfl dX10_stepWeights_132 ?_
      refine lv_iload_n hx hb dX10_stepWeights_135 rfl (lv_at hl 1 rfl) ?_
      refine lv_aload_n hx hb dX10_stepWeights_136 rfl (lv_at hl 0 rfl) ?_
      refine va_get (D := D) (ci := 10) (v := .ref (a 19)) (C := RX10) (T := TX10) (N := 42) hx hb htl inlX10 hown hK hP 0 rfl rfl 36 (by decide) (htl _ wq_7_22) (fun _ h9 => h9) rfl dX10_stepWeights_137 ?_
      refine lv_iload_n hx hb dX10_stepWeights_140 rfl (lv_at hl 1 rfl) ?_
      obtain ⟨hi_141, hf⟩ := ob_in hf
      refine va_lald (D := D) (tys := tyl ct) hx hb hK hP 19 1 rfl rfl hi_141 dX10_stepWeights_141 ?_
      obtain ⟨hi_142, hf⟩ := ob_in hf
      refine va_last (D := D) (tys := tyl ct) hx hb hK hP (hDW oz) hS 18 1 rfl rfl hi_142 dX10_stepWeights_142 (fun H_142 locs_142 hP _ hS => ?_)
      have hP : va_P D vwCl (cs10 ct a (oLA oz 35 (vp_updL (oz.2 35) v2.toNatClampNeg ((oz.2 36) v2.toNatClampNeg)))) H_142 := sa10_35 hP
      refine lv_iinc (v := (v2 + 1)) (lv' := [(2, .int (v2 + 1)), (0, .ref (a 0))]) hx hb dX10_stepWeights_143 hl (k := 1) rfl rfl (by decide) rfl (fun ls hl => ?_)
      refine lv_goto (tgt := 124) hx hb dX10_stepWeights_146 (by decide) ?_
      exact ih (oLA oz 35 (vp_updL (oz.2 35) v2.toNatClampNeg ((oz.2 36) v2.toNatClampNeg))) (v2 + 1) _ _ _ hP hS (lv_sub hl [1, 0] rfl) hf 
  rw [p_X10_stepWeights] at hf
  refine lv_iconst (v := 0) hx hb dX10_stepWeights_0 (by decide) ?_
  refine lv_istore_n (lv' := [(2, .int 0), (0, .ref (a 0)), (1, .int v1)]) hx hb dX10_stepWeights_1 rfl hl (by decide) rfl (fun ls hl => ?_)
  refine hL2 _ fu o v1 0 _ _ _ hP hS (lv_sub hl [1, 2, 0] rfl) hf (fun oz v1 H locs ls hP hS hl hf => ?_)
  refine lv_iconst (v := 0) hx hb dX10_stepWeights_22 (by decide) ?_
  refine lv_istore_n (lv' := [(2, .int 0), (0, .ref (a 0)), (1, .int v1)]) hx hb dX10_stepWeights_23 rfl hl (by decide) rfl (fun ls hl => ?_)
  refine hL24 _ fu oz v1 0 _ _ _ hP hS (lv_sub hl [1, 2, 0] rfl) hf (fun oz H locs ls hP hS hl hf => ?_)
  refine lv_iconst (v := 0) hx hb dX10_stepWeights_122 (by decide) ?_
  refine lv_istore_n (lv' := [(2, .int 0), (0, .ref (a 0))]) hx hb dX10_stepWeights_123 rfl hl (by decide) rfl (fun ls hl => ?_)
  exact hL124 fu oz 0 _ _ _ hP hS (lv_sub hl [1, 0] rfl) hf 
theorem c_X10_stepWeights (l : Launch) (D : va_G) (ct : Nat → ClassId) (G : GT) (a : Nat → Nat) (fu : Nat) (o : Ob) (v1 : Int32) {r : Ob} (hf : p_X10_stepWeights fu o v1 = some r)  (hD0 : va_D (GE G) (cs10 ct a o)) : Met l yX10_stepWeights (.code yX10_stepWeights cX10_stepWeights 4 none :: wsL_law) rm_X10_stepWeights (va_Pc [.ref (a 0), .int v1] (Bx D ct G (cs10 ct a o))) (Qwr none (fun H => va_P D vwCl (cs10 ct a r) H) (wA (cs10 ct a o))) 0 0 (wA (cs10 ct a o)) := by
  refine Met.ofW (cc := cX10_stepWeights) (maxL := 4) (ret := none) (by decide) rfl ?_
  intro p e s m args below meth c s₁ B hml hv
  obtain ⟨rfl, hP, hK, hN, hX⟩ := hv
  have hts := atoms_spec (ws := .code yX10_stepWeights cX10_stepWeights 4 none :: wsL_law) B.pre
  rw [lg_entry_eq]
  exact b_X10_stepWeights a fu o v1 B.exec B.bytes B.returns hml (findClass_of_methodNamed B.named) (fun w h => hts w (List.mem_cons_of_mem _ h)) B.notSynchronized hK hN hX hP hf hD0  (lv_entry [.ref (a 0), .int v1] (n := 4) (Nat.le_of_ble_eq_true rfl))
def p_X10_weightFrom_L5 (fu : Nat) (o : Ob)  : Nat → Int32 → Int64 → Int32 → Option (Int64)
  | 0, _, _, _ => none
  | n + 1, v2, v3, v5 =>
    if v2 ≤ v5 then some v3 else if inb v5 1300 = true then p_X10_weightFrom_L5 fu o  n v2 (v3 + ((o.2 35) v5.toNatClampNeg)) (v5 + 1) else none
def p_X10_weightFrom (fu : Nat) (o : Ob) (v1 : Int32) (v2 : Int32) : Option (Int64) :=
  p_X10_weightFrom_L5 fu o fu v2 0 v1
abbrev rm_X10_weightFrom : Room := { frames := 0, cells := 0, slots := 0, locals := 0 }
set_option maxHeartbeats 4000000 in
set_option maxRecDepth 100000 in
theorem b_X10_weightFrom {p : Program} {l : Launch} {e : Env} {s : State} {m : MethodId} {args : Array Value} {below : List Frame} {meth : Method} {c : Code} {ls : Array Slot} {D : va_G} {ct : Nat → ClassId} {G : GT} (a : Nat → Nat) (fu : Nat) (o : Ob) (v1 : Int32) (v2 : Int32) {r : Int64} (hx : p.tables.exec = Jvm.exec) (hb : c.code = cX10_weightFrom) (hr : meth.sig.returnType = (some .long)) (hml : c.maxLocals = 6) (hown : s.vm.findClass RX10 = some m.cls) (htl : ∀ w ∈ wsL_law, w.before args s = true) (hlocks : meth.locks = false) (hK : va_K D vwCl (tyl ct) s) (hN : ∀ w ∈ NW, va_Nw w s) (hX : SX G s s.heap) (hP0 : va_P D vwCl (cs10 ct a o) s.heap) (hf : p_X10_weightFrom fu o v1 v2 = some r)  (hl : lv_has ls 6 [(0, .ref (a 0)), (1, .int v1), (2, .int v2)]) : W p l e rm_X10_weightFrom s m args below meth c s.heap [] 0 0 (MQ below (Qro (some (.long r))) args s 0 0 (fun _ => False)) (F0 m 0 ls []) := by
  generalize hQQ : MQ below (Qro (some (.long r))) args s 0 0 (fun _ => False) = QQ
  have hP := hP0
  have hL5 : ∀ (n : Nat) (v2 : Int32) (v3 : Int64) (v5 : Int32), ∀ (ls : Array Slot), lv_has ls 6 [(0, .ref (a 0)), (2, .int v2), (3, .long v3), (5, .int v5)] → p_X10_weightFrom_L5 fu o  n v2 v3 v5 = some r → W p l e rm_X10_weightFrom s m args below meth c s.heap [] 0 0 QQ (F0 m 5 ls []) := by
    intro  n
    induction n with
    | zero =>
      intro v2 v3 v5 ls hl hf 
      rw [p_X10_weightFrom_L5] at hf
      cases hf
    | succ n ih =>
      intro v2 v3 v5 ls hl hf 
      rw [p_X10_weightFrom_L5] at hf
      refine lv_iload hx hb dX10_weightFrom_5 (lv_at hl 3 rfl) ?_
      refine lv_iload_n hx hb dX10_weightFrom_7 rfl (lv_at hl 1 rfl) ?_
      refine lv_icmp_ge (tgt := 27) hx hb dX10_weightFrom_8 (by decide) (fun c_8 => ?_) (fun c_8 => ?_)
      · rw [if_pos c_8] at hf
        refine lv_lload_n hx hb dX10_weightFrom_27 rfl (lv_at hl 2 rfl) ?_
        rw [← hQQ]
        exact rf_l hx hb hr hlocks hf dX10_weightFrom_28
      rw [if_neg c_8] at hf
      refine lv_lload_n hx hb dX10_weightFrom_11 rfl (lv_at hl 2 rfl) ?_
      refine lv_aload_n hx hb dX10_weightFrom_12 rfl (lv_at hl 0 rfl) ?_
      refine va_get (D := D) (ci := 10) (v := .ref (a 18)) (C := RX10) (T := TX10) (N := 42) hx hb htl inlX10 hown hK hP 0 rfl rfl 35 (by decide) (htl _ wq_7_21) (fun _ h9 => h9) rfl dX10_weightFrom_13 ?_
      refine lv_iload hx hb dX10_weightFrom_16 (lv_at hl 3 rfl) ?_
      obtain ⟨hi_18, hf⟩ := ob_in hf
      refine va_lald (D := D) (tys := tyl ct) hx hb hK hP 18 1 rfl rfl hi_18 dX10_weightFrom_18 ?_
      refine lv_ladd hx hb dX10_weightFrom_19 ?_
      refine lv_lstore_n (lv' := [(3, .long (v3 + ((o.2 35) v5.toNatClampNeg))), (0, .ref (a 0)), (2, .int v2), (5, .int v5)]) hx hb dX10_weightFrom_20 rfl hl (by decide) rfl (fun ls hl => ?_)
      refine lv_iinc (v := (v5 + 1)) (lv' := [(5, .int (v5 + 1)), (3, .long (v3 + ((o.2 35) v5.toNatClampNeg))), (0, .ref (a 0)), (2, .int v2)]) hx hb dX10_weightFrom_21 hl (k := 3) rfl rfl (by decide) rfl (fun ls hl => ?_)
      refine lv_goto (tgt := 5) hx hb dX10_weightFrom_24 (by decide) ?_
      exact ih v2 (v3 + ((o.2 35) v5.toNatClampNeg)) (v5 + 1) _ (lv_sub hl [2, 3, 1, 0] rfl) hf 
  rw [p_X10_weightFrom] at hf
  refine lv_lconst (v := 0) hx hb dX10_weightFrom_0 (by decide) ?_
  refine lv_lstore_n (lv' := [(3, .long 0), (0, .ref (a 0)), (1, .int v1), (2, .int v2)]) hx hb dX10_weightFrom_1 rfl hl (by decide) rfl (fun ls hl => ?_)
  refine lv_iload_n hx hb dX10_weightFrom_2 rfl (lv_at hl 2 rfl) ?_
  refine lv_istore (lv' := [(5, .int v1), (3, .long 0), (0, .ref (a 0)), (1, .int v1), (2, .int v2)]) hx hb dX10_weightFrom_3 hl (by decide) rfl (fun ls hl => ?_)
  exact hL5 fu v2 0 v1 _ (lv_sub hl [2, 4, 1, 0] rfl) hf 
theorem c_X10_weightFrom (l : Launch) (D : va_G) (ct : Nat → ClassId) (G : GT) (a : Nat → Nat) (fu : Nat) (o : Ob) (v1 : Int32) (v2 : Int32) {r : Int64} (hf : p_X10_weightFrom fu o v1 v2 = some r)  : Met l yX10_weightFrom (.code yX10_weightFrom cX10_weightFrom 6 (some .long) :: wsL_law) rm_X10_weightFrom (va_Pc [.ref (a 0), .int v1, .int v2] (Bx D ct G (cs10 ct a o))) (Qro (some (.long r))) 0 0 (fun _ => False) := by
  refine Met.ofW (cc := cX10_weightFrom) (maxL := 6) (ret := (some .long)) (by decide) rfl ?_
  intro p e s m args below meth c s₁ B hml hv
  obtain ⟨rfl, hP, hK, hN, hX⟩ := hv
  have hts := atoms_spec (ws := .code yX10_weightFrom cX10_weightFrom 6 (some .long) :: wsL_law) B.pre
  rw [lg_entry_eq]
  exact b_X10_weightFrom a fu o v1 v2 B.exec B.bytes B.returns hml (findClass_of_methodNamed B.named) (fun w h => hts w (List.mem_cons_of_mem _ h)) B.notSynchronized hK hN hX hP hf   (lv_entry [.ref (a 0), .int v1, .int v2] (n := 6) (Nat.le_of_ble_eq_true rfl))
def p_X10_divisor_L6 (fu : Nat)  : Nat → Int64 → Int64 → Option (Int64)
  | 0, _, _ => none
  | n + 1, v4, v6 =>
    if (lg_cmp v6 0) = 0 then some v4 else if v6 = 0 then none else p_X10_divisor_L6 fu  n v6 (v4 - v4 / v6 * v6)
def p_X10_divisor (fu : Nat) (v0 : Int64) (v2 : Int64) : Option (Int64) :=
  p_X10_divisor_L6 fu fu v0 v2
abbrev rm_X10_divisor : Room := { frames := 0, cells := 0, slots := 0, locals := 0 }
set_option maxHeartbeats 4000000 in
set_option maxRecDepth 100000 in
theorem b_X10_divisor {p : Program} {l : Launch} {e : Env} {s : State} {m : MethodId} {args : Array Value} {below : List Frame} {meth : Method} {c : Code} {ls : Array Slot} {D : va_G} {ct : Nat → ClassId} {G : GT}  (fu : Nat) (v0 : Int64) (v2 : Int64) {r : Int64} (hx : p.tables.exec = Jvm.exec) (hb : c.code = cX10_divisor) (hr : meth.sig.returnType = (some .long)) (hml : c.maxLocals = 10) (hown : s.vm.findClass RX10 = some m.cls) (htl : ∀ w ∈ wsL_law, w.before args s = true) (hlocks : meth.locks = false) (hK : va_K D vwCl (tyl ct) s) (hN : ∀ w ∈ NW, va_Nw w s) (hX : SX G s s.heap) (hP0 : va_P D vwCl ([]) s.heap) (hf : p_X10_divisor fu v0 v2 = some r)  (hl : lv_has ls 10 [(0, .long v0), (2, .long v2)]) : W p l e rm_X10_divisor s m args below meth c s.heap [] 0 0 (MQ below (Qro (some (.long r))) args s 0 0 (fun _ => False)) (F0 m 0 ls []) := by
  generalize hQQ : MQ below (Qro (some (.long r))) args s 0 0 (fun _ => False) = QQ
  have hP := hP0
  have hL6 : ∀ (n : Nat) (v4 : Int64) (v6 : Int64), ∀ (ls : Array Slot), lv_has ls 10 [(4, .long v4), (6, .long v6)] → p_X10_divisor_L6 fu  n v4 v6 = some r → W p l e rm_X10_divisor s m args below meth c s.heap [] 0 0 QQ (F0 m 6 ls []) := by
    intro  n
    induction n with
    | zero =>
      intro v4 v6 ls hl hf 
      rw [p_X10_divisor_L6] at hf
      cases hf
    | succ n ih =>
      intro v4 v6 ls hl hf 
      rw [p_X10_divisor_L6] at hf
      refine lv_lload hx hb dX10_divisor_6 (lv_at hl 1 rfl) ?_
      refine lv_lconst (v := 0) hx hb dX10_divisor_8 (by decide) ?_
      refine W.lcmp hx hb dX10_divisor_9 ?_
      refine lv_if_eq (tgt := 31) hx hb dX10_divisor_10 (by decide) (fun c_10 => ?_) (fun c_10 => ?_)
      · rw [if_pos c_10] at hf
        refine lv_lload hx hb dX10_divisor_31 (lv_at hl 0 rfl) ?_
        rw [← hQQ]
        exact rf_l hx hb hr hlocks hf dX10_divisor_33
      rw [if_neg c_10] at hf
      refine lv_lload hx hb dX10_divisor_13 (lv_at hl 0 rfl) ?_
      refine lv_lload hx hb dX10_divisor_15 (lv_at hl 1 rfl) ?_
      obtain ⟨hne_17, hf⟩ := ob_neL hf
      refine lv_lrem hx hb dX10_divisor_17 hne_17 ?_
      refine lv_lstore (lv' := [(8, .long (v4 - v4 / v6 * v6)), (4, .long v4), (6, .long v6)]) hx hb dX10_divisor_18 hl (by decide) rfl (fun ls hl => ?_)
      refine lv_lload hx hb dX10_divisor_20 (lv_at hl 2 rfl) ?_
      refine lv_lstore (lv' := [(4, .long v6), (8, .long (v4 - v4 / v6 * v6)), (6, .long v6)]) hx hb dX10_divisor_22 hl (by decide) rfl (fun ls hl => ?_)
      refine lv_lload hx hb dX10_divisor_24 (lv_at hl 1 rfl) ?_
      refine lv_lstore (lv' := [(6, .long (v4 - v4 / v6 * v6)), (4, .long v6), (8, .long (v4 - v4 / v6 * v6))]) hx hb dX10_divisor_26 hl (by decide) rfl (fun ls hl => ?_)
      refine lv_goto (tgt := 6) hx hb dX10_divisor_28 (by decide) ?_
      exact ih v6 (v4 - v4 / v6 * v6) _ (lv_sub hl [1, 0] rfl) hf 
  rw [p_X10_divisor] at hf
  refine lv_lload_n hx hb dX10_divisor_0 rfl (lv_at hl 0 rfl) ?_
  refine lv_lstore (lv' := [(4, .long v0), (0, .long v0), (2, .long v2)]) hx hb dX10_divisor_1 hl (by decide) rfl (fun ls hl => ?_)
  refine lv_lload_n hx hb dX10_divisor_3 rfl (lv_at hl 2 rfl) ?_
  refine lv_lstore (lv' := [(6, .long v2), (4, .long v0), (0, .long v0), (2, .long v2)]) hx hb dX10_divisor_4 hl (by decide) rfl (fun ls hl => ?_)
  exact hL6 fu v0 v2 _ (lv_sub hl [1, 0] rfl) hf 
theorem c_X10_divisor (l : Launch) (D : va_G) (ct : Nat → ClassId) (G : GT)  (fu : Nat) (v0 : Int64) (v2 : Int64) {r : Int64} (hf : p_X10_divisor fu v0 v2 = some r)  : Met l yX10_divisor (.code yX10_divisor cX10_divisor 10 (some .long) :: wsL_law) rm_X10_divisor (va_Pc [.long v0, .long v2] (Bx D ct G ([]))) (Qro (some (.long r))) 0 0 (fun _ => False) := by
  refine Met.ofW (cc := cX10_divisor) (maxL := 10) (ret := (some .long)) (by decide) rfl ?_
  intro p e s m args below meth c s₁ B hml hv
  obtain ⟨rfl, hP, hK, hN, hX⟩ := hv
  have hts := atoms_spec (ws := .code yX10_divisor cX10_divisor 10 (some .long) :: wsL_law) B.pre
  rw [lg_entry_eq]
  exact b_X10_divisor  fu v0 v2 B.exec B.bytes B.returns hml (findClass_of_methodNamed B.named) (fun w h => hts w (List.mem_cons_of_mem _ h)) B.notSynchronized hK hN hX hP hf   (lv_entry [.long v0, .long v2] (n := 10) (Nat.le_of_ble_eq_true rfl))
theorem hd_X10_startWeights : yX10_startWeights.cls ≠ "java/lang/invoke/MethodHandle" ∧ yX10_startWeights.cls ≠ "java/lang/invoke/VarHandle" ∧ (parseMethodDescriptor yX10_startWeights.desc).map (fun d => d.parameters.length) = some 0 := by decide +kernel
theorem cw_X10_X10_startWeights {R : Room} {s : State} {args : Array Value} (ht : ∀ w ∈ wsL_law, w.before args s = true) (hR : rm_X10_startWeights.frames + 1 ≤ R.frames ∧ 8 + (2 + 11) + rm_X10_startWeights.locals ≤ R.locals) : CallW R s args RX10 RX10 363 yX10_startWeights cX10_startWeights 2 none ((.code yX10_startWeights cX10_startWeights 2 none) :: wsL_law) rm_X10_startWeights 0 0 0 := cwV 0 ht (GV wq_40_2 wq_40_3 wq_40_4 wq_1_5 wq_40_5) rfl rfl rfl ⟨rfl, hd_X10_startWeights⟩ hR
theorem hd_X10_stepWeights : yX10_stepWeights.cls ≠ "java/lang/invoke/MethodHandle" ∧ yX10_stepWeights.cls ≠ "java/lang/invoke/VarHandle" ∧ (parseMethodDescriptor yX10_stepWeights.desc).map (fun d => d.parameters.length) = some 1 := by decide +kernel
theorem cw_X10_X10_stepWeights {R : Room} {s : State} {args : Array Value} (ht : ∀ w ∈ wsL_law, w.before args s = true) (hR : rm_X10_stepWeights.frames + 1 ≤ R.frames ∧ 8 + (4 + 11) + rm_X10_stepWeights.locals ≤ R.locals) : CallW R s args RX10 RX10 366 yX10_stepWeights cX10_stepWeights 4 none ((.code yX10_stepWeights cX10_stepWeights 4 none) :: wsL_law) rm_X10_stepWeights 0 0 1 := cwV 1 ht (GV wq_40_6 wq_40_7 wq_40_8 wq_1_5 wq_40_9) rfl rfl rfl ⟨rfl, hd_X10_stepWeights⟩ hR
theorem hd_X10_weightFrom : yX10_weightFrom.cls ≠ "java/lang/invoke/MethodHandle" ∧ yX10_weightFrom.cls ≠ "java/lang/invoke/VarHandle" ∧ (parseMethodDescriptor yX10_weightFrom.desc).map (fun d => d.parameters.length) = some 2 := by decide +kernel
theorem cw_X10_X10_weightFrom {R : Room} {s : State} {args : Array Value} (ht : ∀ w ∈ wsL_law, w.before args s = true) (hR : rm_X10_weightFrom.frames + 1 ≤ R.frames ∧ 8 + (6 + 11) + rm_X10_weightFrom.locals ≤ R.locals) : CallW R s args RX10 RX10 369 yX10_weightFrom cX10_weightFrom 6 (some .long) ((.code yX10_weightFrom cX10_weightFrom 6 (some .long)) :: wsL_law) rm_X10_weightFrom 0 0 2 := cwV 2 ht (GV wq_40_10 wq_40_11 wq_40_12 wq_1_5 wq_40_13) rfl rfl rfl ⟨rfl, hd_X10_weightFrom⟩ hR
theorem hd_X10_divisor : yX10_divisor.cls ≠ "java/lang/invoke/MethodHandle" ∧ yX10_divisor.cls ≠ "java/lang/invoke/VarHandle" ∧ (parseMethodDescriptor yX10_divisor.desc).map (fun d => d.parameters.length) = some 2 := by decide +kernel
theorem cw_X10_X10_divisor {R : Room} {s : State} {args : Array Value} (ht : ∀ w ∈ wsL_law, w.before args s = true) (hR : rm_X10_divisor.frames + 1 ≤ R.frames ∧ 8 + (10 + 11) + rm_X10_divisor.locals ≤ R.locals) : CallB R s args RX10 372 yX10_divisor cX10_divisor 10 (some .long) ((.code yX10_divisor cX10_divisor 10 (some .long)) :: wsL_law) rm_X10_divisor 0 0 2 ∧ (Cond.static yX10_divisor).before args s = true := va_cwS 2 ht (GS wq_40_14 wq_40_15 wq_1_5 wq_40_16) rfl rfl rfl hd_X10_divisor hR
def p_X10_chance_L52 (fu : Nat) (c70 : Ob → Int32 → Int32 → Option (Int64 × Ob)) : Nat → Ob → Int32 → Int32 → Int32 → Int32 → Option (Int64 × Ob)
  | 0, _, _, _, _, _ => none
  | n + 1, oz, v1, v2, v3, v4 =>
    if v1 < v4 then c70 oz v2 v3 else (p_X10_stepWeights fu oz v4).bind fun r_61 => p_X10_chance_L52 fu c70 n r_61 v1 v2 v3 (v4 + 1)
def p_X10_chance_J101 (fu : Nat)  (oz : Ob) (v4 : Int64) (v6 : Int64) (s0 : Int64) : Option (Int64 × Ob) :=
    (p_X10_divisor fu v4 v6).bind fun r_105 => if r_105 = 0 then none else some ((s0 / r_105), oz)
def p_X10_chance (fu : Nat) (o : Ob) (v1 : Int32) (v2 : Int32) (v3 : Int32) : Option (Int64 × Ob) :=
  (p_X10_asksRivers fu o).bind fun r_1 => if r_1.1 = 0 then some (((-2) : Int64), r_1.2) else (p_X10_in fu v1.toInt64 (0 : Int64) (14 : Int64)).bind fun r_13 => if r_13 = 0 then some (((-2) : Int64), r_1.2) else (p_X10_in fu v2.toInt64 (0 : Int64) (99 : Int64)).bind fun r_25 => if r_25 = 0 then some (((-2) : Int64), r_1.2) else (p_X10_in fu v3.toInt64 (0 : Int64) (1 : Int64)).bind fun r_35 => if r_35 = 0 then some (((-2) : Int64), r_1.2) else (p_X10_startWeights fu r_1.2).bind fun r_46 => p_X10_chance_L52 fu (fun oz v2 v3 => (p_X10_weightFrom fu oz v2 (1300 : Int32)).bind fun r_75 => (p_X10_weightFrom fu oz (0 : Int32) (1300 : Int32)).bind fun r_85 => if v3 = 0 then p_X10_chance_J101 fu oz r_75 r_85 r_75 else p_X10_chance_J101 fu oz r_75 r_85 r_85) fu r_46 v1 v2 v3 1
abbrev rm_X10_chance : Room := { frames := 4, cells := 0, slots := 0, locals := 86 }
set_option maxHeartbeats 4000000 in
set_option maxRecDepth 100000 in
theorem b_X10_chance {p : Program} {l : Launch} {e : Env} {s : State} {m : MethodId} {args : Array Value} {below : List Frame} {meth : Method} {c : Code} {ls : Array Slot} {D : va_G} {ct : Nat → ClassId} {G : GT} (a : Nat → Nat) (fu : Nat) (o : Ob) (v1 : Int32) (v2 : Int32) (v3 : Int32) {r : Int64 × Ob} (hx : p.tables.exec = Jvm.exec) (hb : c.code = cX10_chance) (hr : meth.sig.returnType = (some .long)) (hml : c.maxLocals = 8) (hown : s.vm.findClass RX10 = some m.cls) (htl : ∀ w ∈ wsL_law, w.before args s = true) (hlocks : meth.locks = false) (hK : va_K D vwCl (tyl ct) s) (hN : ∀ w ∈ NW, va_Nw w s) (hX : SX G s s.heap) (hP0 : va_P D vwCl (cs10 ct a o) s.heap) (hf : p_X10_chance fu o v1 v2 v3 = some r) (hD0 : va_D (GE G) (cs10 ct a o))  (hl : lv_has ls 8 [(0, .ref (a 0)), (1, .int v1), (2, .int v2), (3, .int v3)]) : W p l e rm_X10_chance s m args below meth c s.heap [] 0 0 (MQ below (Qwr (some (.long r.1)) (fun H => va_P D vwCl (cs10 ct a r.2) H) (wA (cs10 ct a o))) args s 0 0 (wA (cs10 ct a o))) (F0 m 0 ls []) := by
  generalize hQQ : MQ below (Qwr (some (.long r.1)) (fun H => va_P D vwCl (cs10 ct a r.2) H) (wA (cs10 ct a o))) args s 0 0 (wA (cs10 ct a o)) = QQ
  have hDx : ∀ (oy : Ob), va_D (GE G) (cs10 ct a oy) := fun oy => D_cr hD0 rfl
  have hDW : ∀ (oy : Ob), va_D (wA (cs10 ct a o)) (cs10 ct a oy) := fun oy => D_cr (D_self hD0) rfl
  have hGE : ∀ q, wA (cs10 ct a o) q → GE G q := wA_GE hD0
  have hP := hP0
  have hS : va_S (wA (cs10 ct a o)) s.heap s.heap [] := va_S.rf
  have hL52 : ∀ (c70 : Ob → Int32 → Int32 → Option (Int64 × Ob)) (n : Nat) (oz : Ob) (v1 : Int32) (v2 : Int32) (v3 : Int32) (v4 : Int32), ∀ (H : Heap) (locs : List Loc) (ls : Array Slot), va_P D vwCl (cs10 ct a oz) H → va_S (wA (cs10 ct a o)) s.heap H locs → lv_has ls 8 [(0, .ref (a 0)), (1, .int v1), (2, .int v2), (3, .int v3), (4, .int v4)] → p_X10_chance_L52 fu c70 n oz v1 v2 v3 v4 = some r → (∀ (oz : Ob) (v2 : Int32) (v3 : Int32), ∀ (H : Heap) (locs : List Loc) (ls : Array Slot), va_P D vwCl (cs10 ct a oz) H → va_S (wA (cs10 ct a o)) s.heap H locs → lv_has ls 8 [(0, .ref (a 0)), (2, .int v2), (3, .int v3)] → c70 oz v2 v3 = some r → W p l e rm_X10_chance s m args below meth c H locs 0 0 QQ (F0 m 70 ls [])) → W p l e rm_X10_chance s m args below meth c H locs 0 0 QQ (F0 m 52 ls []) := by
    intro c70 n
    induction n with
    | zero =>
      intro oz v1 v2 v3 v4 H locs ls hP hS hl hf k70
      rw [p_X10_chance_L52] at hf
      cases hf
    | succ n ih =>
      intro oz v1 v2 v3 v4 H locs ls hP hS hl hf k70
      rw [p_X10_chance_L52] at hf
      refine lv_iload hx hb dX10_chance_52 (lv_at hl 4 rfl) ?_
      refine lv_iload_n hx hb dX10_chance_54 rfl (lv_at hl 1 rfl) ?_
      refine lv_icmp_gt (tgt := 70) hx hb dX10_chance_55 (by decide) (fun c_55 => ?_) (fun c_55 => ?_)
      · rw [if_pos c_55] at hf
        exact k70 oz v2 v3 _ _ _ hP hS (lv_sub hl [0, 2, 3] rfl) hf
      rw [if_neg c_55] at hf
      refine lv_aload_n hx hb dX10_chance_58 rfl (lv_at hl 0 rfl) ?_
      refine lv_iload hx hb dX10_chance_59 (lv_at hl 4 rfl) ?_
      obtain ⟨r_61, e_61, hf⟩ := ob_bind hf
      have hPX_61 : va_P D vwCl (cs10 ct a oz) H := hP
      refine wr_call0 (va_runV (As := [.int v4]) (rest := []) ⟨hx, hb, hml, hown, htl⟩ (c_X10_stepWeights l D ct G a fu oz v4 e_61 (hDx oz)) (cw_X10_X10_stepWeights htl ⟨Nat.le_of_ble_eq_true rfl, Nat.le_of_ble_eq_true rfl⟩) ⟨Bx_blind, va_recv hK hPX_61 (ci := 10) (q0 := 0) rfl rfl, Bx_pre hPX_61 hK hN (hX.stay hS hGE)⟩ rfl rfl hl.1 rfl (lv_room (Nat.le_of_ble_eq_true rfl)) dX10_chance_61 ⟨Nat.zero_le _, Nat.zero_le _⟩) hS (wA_cg rfl) (fun H_61 locs_61 hB_61 _ hk_61 hS => ?_)
      have hP : va_P D vwCl (cs10 ct a r_61) H_61 := hB_61
      refine lv_iinc (v := (v4 + 1)) (lv' := [(4, .int (v4 + 1)), (0, .ref (a 0)), (1, .int v1), (2, .int v2), (3, .int v3)]) hx hb dX10_chance_64 hl (k := 4) rfl rfl (by decide) rfl (fun ls hl => ?_)
      refine lv_goto (tgt := 52) hx hb dX10_chance_67 (by decide) ?_
      exact ih r_61 v1 v2 v3 (v4 + 1) _ _ _ hP hS (lv_sub hl [1, 2, 3, 4, 0] rfl) hf k70
  have hJ101 : ∀ (oz : Ob) (v4 : Int64) (v6 : Int64) (s0 : Int64), ∀ (H : Heap) (locs : List Loc) (ls : Array Slot), va_P D vwCl (cs10 ct a oz) H → va_S (wA (cs10 ct a o)) s.heap H locs → lv_has ls 8 [(4, .long v4), (6, .long v6)] → p_X10_chance_J101 fu  oz v4 v6 s0 = some r → W p l e rm_X10_chance s m args below meth c H locs 0 0 QQ (F0 m 101 ls [.long s0]) := by
    intro  oz v4 v6 s0 H locs ls hP hS hl hf 
    rw [p_X10_chance_J101] at hf
    refine lv_lload hx hb dX10_chance_101 (lv_at hl 0 rfl) ?_
    refine lv_lload hx hb dX10_chance_103 (lv_at hl 1 rfl) ?_
    obtain ⟨r_105, e_105, hf⟩ := ob_bind hf
    have hPX_105 : va_P D vwCl ([]) H := P_nil
    refine ro_call1 (va_runS (As := [.long v4, .long v6]) (rest := [.long s0]) ⟨hx, hb, hml, hown, htl⟩ (c_X10_divisor l D ct G fu v4 v6 e_105) (cw_X10_X10_divisor htl ⟨Nat.le_of_ble_eq_true rfl, Nat.le_of_ble_eq_true rfl⟩) ⟨Bx_blind, Bx_pre hPX_105 hK hN (hX.stay hS hGE)⟩ rfl rfl hl.1 rfl (lv_room (Nat.le_of_ble_eq_true rfl)) dX10_chance_105 ⟨Nat.zero_le _, Nat.zero_le _⟩) ?_
    obtain ⟨hne_108, hf⟩ := ob_neL hf
    refine lv_ldiv hx hb dX10_chance_108 hne_108 ?_
    rw [← hQQ]
    cases hf
    exact rw_l hx hb hr hlocks hP hS dX10_chance_109
  rw [p_X10_chance] at hf
  refine lv_aload_n hx hb dX10_chance_0 rfl (lv_at hl 0 rfl) ?_
  obtain ⟨r_1, e_1, hf⟩ := ob_bind hf
  have hPX_1 : va_P D vwCl (cs10 ct a o) s.heap := hP
  refine wr_call1 (va_runV (As := []) (rest := []) ⟨hx, hb, hml, hown, htl⟩ (c_X10_asksRivers l D ct G a fu o e_1 (hDx o)) (cw_X10_X10_asksRivers htl ⟨Nat.le_of_ble_eq_true rfl, Nat.le_of_ble_eq_true rfl⟩) ⟨Bx_blind, va_recv hK hPX_1 (ci := 10) (q0 := 0) rfl rfl, Bx_pre hPX_1 hK hN (hX.stay hS hGE)⟩ rfl rfl hl.1 rfl (lv_room (Nat.le_of_ble_eq_true rfl)) dX10_chance_1 ⟨Nat.zero_le _, Nat.zero_le _⟩) hS (wA_cg rfl) (fun H_1 locs_1 hB_1 _ hk_1 hS => ?_)
  have hP : va_P D vwCl (cs10 ct a r_1.2) H_1 := hB_1
  refine lv_if_eq (tgt := 41) hx hb dX10_chance_4 (by decide) (fun c_4 => ?_) (fun c_4 => ?_)
  · rw [if_pos c_4] at hf
    refine lv_ldc2 (v := (-2)) hx hb hown (htl _ wq_40_1) dX10_chance_41 ?_
    rw [← hQQ]
    cases hf
    exact rw_l hx hb hr hlocks hP hS dX10_chance_44
  rw [if_neg c_4] at hf
  refine lv_iload_n hx hb dX10_chance_7 rfl (lv_at hl 1 rfl) ?_
  refine lv_i2l hx hb dX10_chance_8 rfl ?_
  refine lv_lconst (v := 0) hx hb dX10_chance_9 (by decide) ?_
  refine lv_ldc2 (v := 14) hx hb hown (htl _ wq_40_0) dX10_chance_10 ?_
  obtain ⟨r_13, e_13, hf⟩ := ob_bind hf
  have hPX_13 : va_P D vwCl ([]) H_1 := P_nil
  refine ro_call1 (va_runS (As := [.long v1.toInt64, .long 0, .long 14]) (rest := []) ⟨hx, hb, hml, hown, htl⟩ (c_X10_in l D ct G fu v1.toInt64 (0 : Int64) (14 : Int64) e_13) (cw_X10_X10_in htl ⟨Nat.le_of_ble_eq_true rfl, Nat.le_of_ble_eq_true rfl⟩) ⟨Bx_blind, Bx_pre hPX_13 hK hN (hX.stay hS hGE)⟩ rfl rfl hl.1 rfl (lv_room (Nat.le_of_ble_eq_true rfl)) dX10_chance_13 ⟨Nat.zero_le _, Nat.zero_le _⟩) ?_
  refine lv_if_eq (tgt := 41) hx hb dX10_chance_16 (by decide) (fun c_16 => ?_) (fun c_16 => ?_)
  · rw [if_pos c_16] at hf
    refine lv_ldc2 (v := (-2)) hx hb hown (htl _ wq_40_1) dX10_chance_41 ?_
    rw [← hQQ]
    cases hf
    exact rw_l hx hb hr hlocks hP hS dX10_chance_44
  rw [if_neg c_16] at hf
  refine lv_iload_n hx hb dX10_chance_19 rfl (lv_at hl 2 rfl) ?_
  refine lv_i2l hx hb dX10_chance_20 rfl ?_
  refine lv_lconst (v := 0) hx hb dX10_chance_21 (by decide) ?_
  refine lv_ldc2 (v := 99) hx hb hown (htl _ wq_54_15) dX10_chance_22 ?_
  obtain ⟨r_25, e_25, hf⟩ := ob_bind hf
  have hPX_25 : va_P D vwCl ([]) H_1 := P_nil
  refine ro_call1 (va_runS (As := [.long v2.toInt64, .long 0, .long 99]) (rest := []) ⟨hx, hb, hml, hown, htl⟩ (c_X10_in l D ct G fu v2.toInt64 (0 : Int64) (99 : Int64) e_25) (cw_X10_X10_in htl ⟨Nat.le_of_ble_eq_true rfl, Nat.le_of_ble_eq_true rfl⟩) ⟨Bx_blind, Bx_pre hPX_25 hK hN (hX.stay hS hGE)⟩ rfl rfl hl.1 rfl (lv_room (Nat.le_of_ble_eq_true rfl)) dX10_chance_25 ⟨Nat.zero_le _, Nat.zero_le _⟩) ?_
  refine lv_if_eq (tgt := 41) hx hb dX10_chance_28 (by decide) (fun c_28 => ?_) (fun c_28 => ?_)
  · rw [if_pos c_28] at hf
    refine lv_ldc2 (v := (-2)) hx hb hown (htl _ wq_40_1) dX10_chance_41 ?_
    rw [← hQQ]
    cases hf
    exact rw_l hx hb hr hlocks hP hS dX10_chance_44
  rw [if_neg c_28] at hf
  refine lv_iload_n hx hb dX10_chance_31 rfl (lv_at hl 3 rfl) ?_
  refine lv_i2l hx hb dX10_chance_32 rfl ?_
  refine lv_lconst (v := 0) hx hb dX10_chance_33 (by decide) ?_
  refine lv_lconst (v := 1) hx hb dX10_chance_34 (by decide) ?_
  obtain ⟨r_35, e_35, hf⟩ := ob_bind hf
  have hPX_35 : va_P D vwCl ([]) H_1 := P_nil
  refine ro_call1 (va_runS (As := [.long v3.toInt64, .long 0, .long 1]) (rest := []) ⟨hx, hb, hml, hown, htl⟩ (c_X10_in l D ct G fu v3.toInt64 (0 : Int64) (1 : Int64) e_35) (cw_X10_X10_in htl ⟨Nat.le_of_ble_eq_true rfl, Nat.le_of_ble_eq_true rfl⟩) ⟨Bx_blind, Bx_pre hPX_35 hK hN (hX.stay hS hGE)⟩ rfl rfl hl.1 rfl (lv_room (Nat.le_of_ble_eq_true rfl)) dX10_chance_35 ⟨Nat.zero_le _, Nat.zero_le _⟩) ?_
  refine lv_if_ne (tgt := 45) hx hb dX10_chance_38 (by decide) (fun c_38 => ?_) (fun c_38 => ?_)
  rotate_left 1
  · rw [if_pos c_38] at hf
    refine lv_ldc2 (v := (-2)) hx hb hown (htl _ wq_40_1) dX10_chance_41 ?_
    rw [← hQQ]
    cases hf
    exact rw_l hx hb hr hlocks hP hS dX10_chance_44
  rw [if_neg c_38] at hf
  refine lv_aload_n hx hb dX10_chance_45 rfl (lv_at hl 0 rfl) ?_
  obtain ⟨r_46, e_46, hf⟩ := ob_bind hf
  have hPX_46 : va_P D vwCl (cs10 ct a r_1.2) H_1 := hP
  refine wr_call0 (va_runV (As := []) (rest := []) ⟨hx, hb, hml, hown, htl⟩ (c_X10_startWeights l D ct G a fu r_1.2 e_46 (hDx r_1.2)) (cw_X10_X10_startWeights htl ⟨Nat.le_of_ble_eq_true rfl, Nat.le_of_ble_eq_true rfl⟩) ⟨Bx_blind, va_recv hK hPX_46 (ci := 10) (q0 := 0) rfl rfl, Bx_pre hPX_46 hK hN (hX.stay hS hGE)⟩ rfl rfl hl.1 rfl (lv_room (Nat.le_of_ble_eq_true rfl)) dX10_chance_46 ⟨Nat.zero_le _, Nat.zero_le _⟩) hS (wA_cg rfl) (fun H_46 locs_46 hB_46 _ hk_46 hS => ?_)
  have hP : va_P D vwCl (cs10 ct a r_46) H_46 := hB_46
  refine lv_iconst (v := 1) hx hb dX10_chance_49 (by decide) ?_
  refine lv_istore (lv' := [(4, .int 1), (0, .ref (a 0)), (1, .int v1), (2, .int v2), (3, .int v3)]) hx hb dX10_chance_50 hl (by decide) rfl (fun ls hl => ?_)
  refine hL52 _ fu r_46 v1 v2 v3 1 _ _ _ hP hS (lv_sub hl [1, 2, 3, 4, 0] rfl) hf (fun oz v2 v3 H locs ls hP hS hl hf => ?_)
  refine lv_aload_n hx hb dX10_chance_70 rfl (lv_at hl 0 rfl) ?_
  refine lv_iload_n hx hb dX10_chance_71 rfl (lv_at hl 1 rfl) ?_
  refine lv_sipush (v := 1300) hx hb dX10_chance_72 (by decide) ?_
  obtain ⟨r_75, e_75, hf⟩ := ob_bind hf
  have hPX_75 : va_P D vwCl (cs10 ct a oz) H := hP
  refine ro_call1 (va_runV (As := [.int v2, .int 1300]) (rest := []) ⟨hx, hb, hml, hown, htl⟩ (c_X10_weightFrom l D ct G a fu oz v2 (1300 : Int32) e_75) (cw_X10_X10_weightFrom htl ⟨Nat.le_of_ble_eq_true rfl, Nat.le_of_ble_eq_true rfl⟩) ⟨Bx_blind, va_recv hK hPX_75 (ci := 10) (q0 := 0) rfl rfl, Bx_pre hPX_75 hK hN (hX.stay hS hGE)⟩ rfl rfl hl.1 rfl (lv_room (Nat.le_of_ble_eq_true rfl)) dX10_chance_75 ⟨Nat.zero_le _, Nat.zero_le _⟩) ?_
  refine lv_lstore (lv' := [(4, .long r_75), (0, .ref (a 0)), (2, .int v2), (3, .int v3)]) hx hb dX10_chance_78 hl (by decide) rfl (fun ls hl => ?_)
  refine lv_aload_n hx hb dX10_chance_80 rfl (lv_at hl 1 rfl) ?_
  refine lv_iconst (v := 0) hx hb dX10_chance_81 (by decide) ?_
  refine lv_sipush (v := 1300) hx hb dX10_chance_82 (by decide) ?_
  obtain ⟨r_85, e_85, hf⟩ := ob_bind hf
  have hPX_85 : va_P D vwCl (cs10 ct a oz) H := hP
  refine ro_call1 (va_runV (As := [.int 0, .int 1300]) (rest := []) ⟨hx, hb, hml, hown, htl⟩ (c_X10_weightFrom l D ct G a fu oz (0 : Int32) (1300 : Int32) e_85) (cw_X10_X10_weightFrom htl ⟨Nat.le_of_ble_eq_true rfl, Nat.le_of_ble_eq_true rfl⟩) ⟨Bx_blind, va_recv hK hPX_85 (ci := 10) (q0 := 0) rfl rfl, Bx_pre hPX_85 hK hN (hX.stay hS hGE)⟩ rfl rfl hl.1 rfl (lv_room (Nat.le_of_ble_eq_true rfl)) dX10_chance_85 ⟨Nat.zero_le _, Nat.zero_le _⟩) ?_
  refine lv_lstore (lv' := [(6, .long r_85), (4, .long r_75), (0, .ref (a 0)), (2, .int v2), (3, .int v3)]) hx hb dX10_chance_88 hl (by decide) rfl (fun ls hl => ?_)
  refine lv_iload_n hx hb dX10_chance_90 rfl (lv_at hl 4 rfl) ?_
  refine lv_if_ne (tgt := 99) hx hb dX10_chance_91 (by decide) (fun c_91 => ?_) (fun c_91 => ?_)
  · rw [if_neg c_91] at hf
    refine lv_lload hx hb dX10_chance_99 (lv_at hl 0 rfl) ?_
    exact hJ101 oz r_75 r_85 r_85 _ _ _ hP hS (lv_sub hl [1, 0] rfl) hf 
  rw [if_pos c_91] at hf
  refine lv_lload hx hb dX10_chance_94 (lv_at hl 1 rfl) ?_
  refine lv_goto (tgt := 101) hx hb dX10_chance_96 (by decide) ?_
  exact hJ101 oz r_75 r_85 r_75 _ _ _ hP hS (lv_sub hl [1, 0] rfl) hf 
theorem c_X10_chance (l : Launch) (D : va_G) (ct : Nat → ClassId) (G : GT) (a : Nat → Nat) (fu : Nat) (o : Ob) (v1 : Int32) (v2 : Int32) (v3 : Int32) {r : Int64 × Ob} (hf : p_X10_chance fu o v1 v2 v3 = some r)  (hD0 : va_D (GE G) (cs10 ct a o)) : Met l yX10_chance (.code yX10_chance cX10_chance 8 (some .long) :: wsL_law) rm_X10_chance (va_Pc [.ref (a 0), .int v1, .int v2, .int v3] (Bx D ct G (cs10 ct a o))) (Qwr (some (.long r.1)) (fun H => va_P D vwCl (cs10 ct a r.2) H) (wA (cs10 ct a o))) 0 0 (wA (cs10 ct a o)) := by
  refine Met.ofW (cc := cX10_chance) (maxL := 8) (ret := (some .long)) (by decide) rfl ?_
  intro p e s m args below meth c s₁ B hml hv
  obtain ⟨rfl, hP, hK, hN, hX⟩ := hv
  have hts := atoms_spec (ws := .code yX10_chance cX10_chance 8 (some .long) :: wsL_law) B.pre
  rw [lg_entry_eq]
  exact b_X10_chance a fu o v1 v2 v3 B.exec B.bytes B.returns hml (findClass_of_methodNamed B.named) (fun w h => hts w (List.mem_cons_of_mem _ h)) B.notSynchronized hK hN hX hP hf hD0  (lv_entry [.ref (a 0), .int v1, .int v2, .int v3] (n := 8) (Nat.le_of_ble_eq_true rfl))
def p_X10_mean_L39 (fu : Nat) (c55 : Ob → Int32 → Option (Int64 × Ob)) : Nat → Ob → Int32 → Int32 → Int32 → Option (Int64 × Ob)
  | 0, _, _, _, _ => none
  | n + 1, oz, v1, v2, v3 =>
    if v1 < v3 then c55 oz v2 else (p_X10_stepWeights fu oz v3).bind fun r_46 => p_X10_mean_L39 fu c55 n r_46 v1 v2 (v3 + 1)
def p_X10_mean_L60 (fu : Nat) (c88 : Ob → Int32 → Int64 → Option (Int64 × Ob)) : Nat → Ob → Int32 → Int64 → Int32 → Option (Int64 × Ob)
  | 0, _, _, _, _ => none
  | n + 1, oz, v2, v3, v5 =>
    if (1300 : Int32) ≤ v5 then c88 oz v2 v3 else if inb v5 1300 = true then p_X10_mean_L60 fu c88 n oz v2 (v3 + (v5.toInt64 * ((oz.2 35) v5.toNatClampNeg))) (v5 + 1) else none
def p_X10_mean_J108 (fu : Nat)  (oz : Ob) (v3 : Int64) (v5 : Int64) (s0 : Int64) : Option (Int64 × Ob) :=
    (p_X10_divisor fu v3 v5).bind fun r_111 => if r_111 = 0 then none else some ((s0 / r_111), oz)
def p_X10_mean (fu : Nat) (o : Ob) (v1 : Int32) (v2 : Int32) : Option (Int64 × Ob) :=
  (p_X10_asksRivers fu o).bind fun r_1 => if r_1.1 = 0 then some (((-2) : Int64), r_1.2) else (p_X10_in fu v1.toInt64 (0 : Int64) (14 : Int64)).bind fun r_13 => if r_13 = 0 then some (((-2) : Int64), r_1.2) else (p_X10_in fu v2.toInt64 (0 : Int64) (1 : Int64)).bind fun r_23 => if r_23 = 0 then some (((-2) : Int64), r_1.2) else (p_X10_startWeights fu r_1.2).bind fun r_34 => p_X10_mean_L39 fu (fun oz v2 => p_X10_mean_L60 fu (fun oz v2 v3 => (p_X10_weightFrom fu oz (0 : Int32) (1300 : Int32)).bind fun r_93 => if v2 = 0 then p_X10_mean_J108 fu oz v3 r_93 v3 else p_X10_mean_J108 fu oz v3 r_93 r_93) fu oz v2 0 0) fu r_34 v1 v2 1
abbrev rm_X10_mean : Room := { frames := 4, cells := 0, slots := 0, locals := 86 }
set_option maxHeartbeats 4000000 in
set_option maxRecDepth 100000 in
theorem b_X10_mean {p : Program} {l : Launch} {e : Env} {s : State} {m : MethodId} {args : Array Value} {below : List Frame} {meth : Method} {c : Code} {ls : Array Slot} {D : va_G} {ct : Nat → ClassId} {G : GT} (a : Nat → Nat) (fu : Nat) (o : Ob) (v1 : Int32) (v2 : Int32) {r : Int64 × Ob} (hx : p.tables.exec = Jvm.exec) (hb : c.code = cX10_mean) (hr : meth.sig.returnType = (some .long)) (hml : c.maxLocals = 7) (hown : s.vm.findClass RX10 = some m.cls) (htl : ∀ w ∈ wsL_law, w.before args s = true) (hlocks : meth.locks = false) (hK : va_K D vwCl (tyl ct) s) (hN : ∀ w ∈ NW, va_Nw w s) (hX : SX G s s.heap) (hP0 : va_P D vwCl (cs10 ct a o) s.heap) (hf : p_X10_mean fu o v1 v2 = some r) (hD0 : va_D (GE G) (cs10 ct a o))  (hl : lv_has ls 7 [(0, .ref (a 0)), (1, .int v1), (2, .int v2)]) : W p l e rm_X10_mean s m args below meth c s.heap [] 0 0 (MQ below (Qwr (some (.long r.1)) (fun H => va_P D vwCl (cs10 ct a r.2) H) (wA (cs10 ct a o))) args s 0 0 (wA (cs10 ct a o))) (F0 m 0 ls []) := by
  generalize hQQ : MQ below (Qwr (some (.long r.1)) (fun H => va_P D vwCl (cs10 ct a r.2) H) (wA (cs10 ct a o))) args s 0 0 (wA (cs10 ct a o)) = QQ
  have hDx : ∀ (oy : Ob), va_D (GE G) (cs10 ct a oy) := fun oy => D_cr hD0 rfl
  have hDW : ∀ (oy : Ob), va_D (wA (cs10 ct a o)) (cs10 ct a oy) := fun oy => D_cr (D_self hD0) rfl
  have hGE : ∀ q, wA (cs10 ct a o) q → GE G q := wA_GE hD0
  have hP := hP0
  have hS : va_S (wA (cs10 ct a o)) s.heap s.heap [] := va_S.rf
  have hL39 : ∀ (c55 : Ob → Int32 → Option (Int64 × Ob)) (n : Nat) (oz : Ob) (v1 : Int32) (v2 : Int32) (v3 : Int32), ∀ (H : Heap) (locs : List Loc) (ls : Array Slot), va_P D vwCl (cs10 ct a oz) H → va_S (wA (cs10 ct a o)) s.heap H locs → lv_has ls 7 [(0, .ref (a 0)), (1, .int v1), (2, .int v2), (3, .int v3)] → p_X10_mean_L39 fu c55 n oz v1 v2 v3 = some r → (∀ (oz : Ob) (v2 : Int32), ∀ (H : Heap) (locs : List Loc) (ls : Array Slot), va_P D vwCl (cs10 ct a oz) H → va_S (wA (cs10 ct a o)) s.heap H locs → lv_has ls 7 [(0, .ref (a 0)), (2, .int v2)] → c55 oz v2 = some r → W p l e rm_X10_mean s m args below meth c H locs 0 0 QQ (F0 m 55 ls [])) → W p l e rm_X10_mean s m args below meth c H locs 0 0 QQ (F0 m 39 ls []) := by
    intro c55 n
    induction n with
    | zero =>
      intro oz v1 v2 v3 H locs ls hP hS hl hf k55
      rw [p_X10_mean_L39] at hf
      cases hf
    | succ n ih =>
      intro oz v1 v2 v3 H locs ls hP hS hl hf k55
      rw [p_X10_mean_L39] at hf
      refine lv_iload_n hx hb dX10_mean_39 rfl (lv_at hl 3 rfl) ?_
      refine lv_iload_n hx hb dX10_mean_40 rfl (lv_at hl 1 rfl) ?_
      refine lv_icmp_gt (tgt := 55) hx hb dX10_mean_41 (by decide) (fun c_41 => ?_) (fun c_41 => ?_)
      · rw [if_pos c_41] at hf
        exact k55 oz v2 _ _ _ hP hS (lv_sub hl [0, 2] rfl) hf
      rw [if_neg c_41] at hf
      refine lv_aload_n hx hb dX10_mean_44 rfl (lv_at hl 0 rfl) ?_
      refine lv_iload_n hx hb dX10_mean_45 rfl (lv_at hl 3 rfl) ?_
      obtain ⟨r_46, e_46, hf⟩ := ob_bind hf
      have hPX_46 : va_P D vwCl (cs10 ct a oz) H := hP
      refine wr_call0 (va_runV (As := [.int v3]) (rest := []) ⟨hx, hb, hml, hown, htl⟩ (c_X10_stepWeights l D ct G a fu oz v3 e_46 (hDx oz)) (cw_X10_X10_stepWeights htl ⟨Nat.le_of_ble_eq_true rfl, Nat.le_of_ble_eq_true rfl⟩) ⟨Bx_blind, va_recv hK hPX_46 (ci := 10) (q0 := 0) rfl rfl, Bx_pre hPX_46 hK hN (hX.stay hS hGE)⟩ rfl rfl hl.1 rfl (lv_room (Nat.le_of_ble_eq_true rfl)) dX10_mean_46 ⟨Nat.zero_le _, Nat.zero_le _⟩) hS (wA_cg rfl) (fun H_46 locs_46 hB_46 _ hk_46 hS => ?_)
      have hP : va_P D vwCl (cs10 ct a r_46) H_46 := hB_46
      refine lv_iinc (v := (v3 + 1)) (lv' := [(3, .int (v3 + 1)), (0, .ref (a 0)), (1, .int v1), (2, .int v2)]) hx hb dX10_mean_49 hl (k := 3) rfl rfl (by decide) rfl (fun ls hl => ?_)
      refine lv_goto (tgt := 39) hx hb dX10_mean_52 (by decide) ?_
      exact ih r_46 v1 v2 (v3 + 1) _ _ _ hP hS (lv_sub hl [1, 2, 3, 0] rfl) hf k55
  have hL60 : ∀ (c88 : Ob → Int32 → Int64 → Option (Int64 × Ob)) (n : Nat) (oz : Ob) (v2 : Int32) (v3 : Int64) (v5 : Int32), ∀ (H : Heap) (locs : List Loc) (ls : Array Slot), va_P D vwCl (cs10 ct a oz) H → va_S (wA (cs10 ct a o)) s.heap H locs → lv_has ls 7 [(0, .ref (a 0)), (2, .int v2), (3, .long v3), (5, .int v5)] → p_X10_mean_L60 fu c88 n oz v2 v3 v5 = some r → (∀ (oz : Ob) (v2 : Int32) (v3 : Int64), ∀ (H : Heap) (locs : List Loc) (ls : Array Slot), va_P D vwCl (cs10 ct a oz) H → va_S (wA (cs10 ct a o)) s.heap H locs → lv_has ls 7 [(0, .ref (a 0)), (2, .int v2), (3, .long v3)] → c88 oz v2 v3 = some r → W p l e rm_X10_mean s m args below meth c H locs 0 0 QQ (F0 m 88 ls [])) → W p l e rm_X10_mean s m args below meth c H locs 0 0 QQ (F0 m 60 ls []) := by
    intro c88 n
    induction n with
    | zero =>
      intro oz v2 v3 v5 H locs ls hP hS hl hf k88
      rw [p_X10_mean_L60] at hf
      cases hf
    | succ n ih =>
      intro oz v2 v3 v5 H locs ls hP hS hl hf k88
      rw [p_X10_mean_L60] at hf
      refine lv_iload hx hb dX10_mean_60 (lv_at hl 3 rfl) ?_
      refine lv_sipush (v := 1300) hx hb dX10_mean_62 (by decide) ?_
      refine lv_icmp_ge (tgt := 88) hx hb dX10_mean_65 (by decide) (fun c_65 => ?_) (fun c_65 => ?_)
      · rw [if_pos c_65] at hf
        exact k88 oz v2 v3 _ _ _ hP hS (lv_sub hl [0, 1, 2] rfl) hf
      rw [if_neg c_65] at hf
      refine lv_lload_n hx hb dX10_mean_68 rfl (lv_at hl 2 rfl) ?_
      refine lv_iload hx hb dX10_mean_69 (lv_at hl 3 rfl) ?_
      refine lv_i2l hx hb dX10_mean_71 rfl ?_
      refine lv_aload_n hx hb dX10_mean_72 rfl (lv_at hl 0 rfl) ?_
      refine va_get (D := D) (ci := 10) (v := .ref (a 18)) (C := RX10) (T := TX10) (N := 42) hx hb htl inlX10 hown hK hP 0 rfl rfl 35 (by decide) (htl _ wq_7_21) (fun _ h9 => h9) rfl dX10_mean_73 ?_
      refine lv_iload hx hb dX10_mean_76 (lv_at hl 3 rfl) ?_
      obtain ⟨hi_78, hf⟩ := ob_in hf
      refine va_lald (D := D) (tys := tyl ct) hx hb hK hP 18 1 rfl rfl hi_78 dX10_mean_78 ?_
      refine lv_lmul hx hb dX10_mean_79 ?_
      refine lv_ladd hx hb dX10_mean_80 ?_
      refine lv_lstore_n (lv' := [(3, .long (v3 + (v5.toInt64 * ((oz.2 35) v5.toNatClampNeg)))), (0, .ref (a 0)), (2, .int v2), (5, .int v5)]) hx hb dX10_mean_81 rfl hl (by decide) rfl (fun ls hl => ?_)
      refine lv_iinc (v := (v5 + 1)) (lv' := [(5, .int (v5 + 1)), (3, .long (v3 + (v5.toInt64 * ((oz.2 35) v5.toNatClampNeg)))), (0, .ref (a 0)), (2, .int v2)]) hx hb dX10_mean_82 hl (k := 3) rfl rfl (by decide) rfl (fun ls hl => ?_)
      refine lv_goto (tgt := 60) hx hb dX10_mean_85 (by decide) ?_
      exact ih oz v2 (v3 + (v5.toInt64 * ((oz.2 35) v5.toNatClampNeg))) (v5 + 1) _ _ _ hP hS (lv_sub hl [2, 3, 1, 0] rfl) hf k88
  have hJ108 : ∀ (oz : Ob) (v3 : Int64) (v5 : Int64) (s0 : Int64), ∀ (H : Heap) (locs : List Loc) (ls : Array Slot), va_P D vwCl (cs10 ct a oz) H → va_S (wA (cs10 ct a o)) s.heap H locs → lv_has ls 7 [(3, .long v3), (5, .long v5)] → p_X10_mean_J108 fu  oz v3 v5 s0 = some r → W p l e rm_X10_mean s m args below meth c H locs 0 0 QQ (F0 m 108 ls [.long s0]) := by
    intro  oz v3 v5 s0 H locs ls hP hS hl hf 
    rw [p_X10_mean_J108] at hf
    refine lv_lload_n hx hb dX10_mean_108 rfl (lv_at hl 0 rfl) ?_
    refine lv_lload hx hb dX10_mean_109 (lv_at hl 1 rfl) ?_
    obtain ⟨r_111, e_111, hf⟩ := ob_bind hf
    have hPX_111 : va_P D vwCl ([]) H := P_nil
    refine ro_call1 (va_runS (As := [.long v3, .long v5]) (rest := [.long s0]) ⟨hx, hb, hml, hown, htl⟩ (c_X10_divisor l D ct G fu v3 v5 e_111) (cw_X10_X10_divisor htl ⟨Nat.le_of_ble_eq_true rfl, Nat.le_of_ble_eq_true rfl⟩) ⟨Bx_blind, Bx_pre hPX_111 hK hN (hX.stay hS hGE)⟩ rfl rfl hl.1 rfl (lv_room (Nat.le_of_ble_eq_true rfl)) dX10_mean_111 ⟨Nat.zero_le _, Nat.zero_le _⟩) ?_
    obtain ⟨hne_114, hf⟩ := ob_neL hf
    refine lv_ldiv hx hb dX10_mean_114 hne_114 ?_
    rw [← hQQ]
    cases hf
    exact rw_l hx hb hr hlocks hP hS dX10_mean_115
  rw [p_X10_mean] at hf
  refine lv_aload_n hx hb dX10_mean_0 rfl (lv_at hl 0 rfl) ?_
  obtain ⟨r_1, e_1, hf⟩ := ob_bind hf
  have hPX_1 : va_P D vwCl (cs10 ct a o) s.heap := hP
  refine wr_call1 (va_runV (As := []) (rest := []) ⟨hx, hb, hml, hown, htl⟩ (c_X10_asksRivers l D ct G a fu o e_1 (hDx o)) (cw_X10_X10_asksRivers htl ⟨Nat.le_of_ble_eq_true rfl, Nat.le_of_ble_eq_true rfl⟩) ⟨Bx_blind, va_recv hK hPX_1 (ci := 10) (q0 := 0) rfl rfl, Bx_pre hPX_1 hK hN (hX.stay hS hGE)⟩ rfl rfl hl.1 rfl (lv_room (Nat.le_of_ble_eq_true rfl)) dX10_mean_1 ⟨Nat.zero_le _, Nat.zero_le _⟩) hS (wA_cg rfl) (fun H_1 locs_1 hB_1 _ hk_1 hS => ?_)
  have hP : va_P D vwCl (cs10 ct a r_1.2) H_1 := hB_1
  refine lv_if_eq (tgt := 29) hx hb dX10_mean_4 (by decide) (fun c_4 => ?_) (fun c_4 => ?_)
  · rw [if_pos c_4] at hf
    refine lv_ldc2 (v := (-2)) hx hb hown (htl _ wq_40_1) dX10_mean_29 ?_
    rw [← hQQ]
    cases hf
    exact rw_l hx hb hr hlocks hP hS dX10_mean_32
  rw [if_neg c_4] at hf
  refine lv_iload_n hx hb dX10_mean_7 rfl (lv_at hl 1 rfl) ?_
  refine lv_i2l hx hb dX10_mean_8 rfl ?_
  refine lv_lconst (v := 0) hx hb dX10_mean_9 (by decide) ?_
  refine lv_ldc2 (v := 14) hx hb hown (htl _ wq_40_0) dX10_mean_10 ?_
  obtain ⟨r_13, e_13, hf⟩ := ob_bind hf
  have hPX_13 : va_P D vwCl ([]) H_1 := P_nil
  refine ro_call1 (va_runS (As := [.long v1.toInt64, .long 0, .long 14]) (rest := []) ⟨hx, hb, hml, hown, htl⟩ (c_X10_in l D ct G fu v1.toInt64 (0 : Int64) (14 : Int64) e_13) (cw_X10_X10_in htl ⟨Nat.le_of_ble_eq_true rfl, Nat.le_of_ble_eq_true rfl⟩) ⟨Bx_blind, Bx_pre hPX_13 hK hN (hX.stay hS hGE)⟩ rfl rfl hl.1 rfl (lv_room (Nat.le_of_ble_eq_true rfl)) dX10_mean_13 ⟨Nat.zero_le _, Nat.zero_le _⟩) ?_
  refine lv_if_eq (tgt := 29) hx hb dX10_mean_16 (by decide) (fun c_16 => ?_) (fun c_16 => ?_)
  · rw [if_pos c_16] at hf
    refine lv_ldc2 (v := (-2)) hx hb hown (htl _ wq_40_1) dX10_mean_29 ?_
    rw [← hQQ]
    cases hf
    exact rw_l hx hb hr hlocks hP hS dX10_mean_32
  rw [if_neg c_16] at hf
  refine lv_iload_n hx hb dX10_mean_19 rfl (lv_at hl 2 rfl) ?_
  refine lv_i2l hx hb dX10_mean_20 rfl ?_
  refine lv_lconst (v := 0) hx hb dX10_mean_21 (by decide) ?_
  refine lv_lconst (v := 1) hx hb dX10_mean_22 (by decide) ?_
  obtain ⟨r_23, e_23, hf⟩ := ob_bind hf
  have hPX_23 : va_P D vwCl ([]) H_1 := P_nil
  refine ro_call1 (va_runS (As := [.long v2.toInt64, .long 0, .long 1]) (rest := []) ⟨hx, hb, hml, hown, htl⟩ (c_X10_in l D ct G fu v2.toInt64 (0 : Int64) (1 : Int64) e_23) (cw_X10_X10_in htl ⟨Nat.le_of_ble_eq_true rfl, Nat.le_of_ble_eq_true rfl⟩) ⟨Bx_blind, Bx_pre hPX_23 hK hN (hX.stay hS hGE)⟩ rfl rfl hl.1 rfl (lv_room (Nat.le_of_ble_eq_true rfl)) dX10_mean_23 ⟨Nat.zero_le _, Nat.zero_le _⟩) ?_
  refine lv_if_ne (tgt := 33) hx hb dX10_mean_26 (by decide) (fun c_26 => ?_) (fun c_26 => ?_)
  rotate_left 1
  · rw [if_pos c_26] at hf
    refine lv_ldc2 (v := (-2)) hx hb hown (htl _ wq_40_1) dX10_mean_29 ?_
    rw [← hQQ]
    cases hf
    exact rw_l hx hb hr hlocks hP hS dX10_mean_32
  rw [if_neg c_26] at hf
  refine lv_aload_n hx hb dX10_mean_33 rfl (lv_at hl 0 rfl) ?_
  obtain ⟨r_34, e_34, hf⟩ := ob_bind hf
  have hPX_34 : va_P D vwCl (cs10 ct a r_1.2) H_1 := hP
  refine wr_call0 (va_runV (As := []) (rest := []) ⟨hx, hb, hml, hown, htl⟩ (c_X10_startWeights l D ct G a fu r_1.2 e_34 (hDx r_1.2)) (cw_X10_X10_startWeights htl ⟨Nat.le_of_ble_eq_true rfl, Nat.le_of_ble_eq_true rfl⟩) ⟨Bx_blind, va_recv hK hPX_34 (ci := 10) (q0 := 0) rfl rfl, Bx_pre hPX_34 hK hN (hX.stay hS hGE)⟩ rfl rfl hl.1 rfl (lv_room (Nat.le_of_ble_eq_true rfl)) dX10_mean_34 ⟨Nat.zero_le _, Nat.zero_le _⟩) hS (wA_cg rfl) (fun H_34 locs_34 hB_34 _ hk_34 hS => ?_)
  have hP : va_P D vwCl (cs10 ct a r_34) H_34 := hB_34
  refine lv_iconst (v := 1) hx hb dX10_mean_37 (by decide) ?_
  refine lv_istore_n (lv' := [(3, .int 1), (0, .ref (a 0)), (1, .int v1), (2, .int v2)]) hx hb dX10_mean_38 rfl hl (by decide) rfl (fun ls hl => ?_)
  refine hL39 _ fu r_34 v1 v2 1 _ _ _ hP hS (lv_sub hl [1, 2, 3, 0] rfl) hf (fun oz v2 H locs ls hP hS hl hf => ?_)
  refine lv_lconst (v := 0) hx hb dX10_mean_55 (by decide) ?_
  refine lv_lstore_n (lv' := [(3, .long 0), (0, .ref (a 0)), (2, .int v2)]) hx hb dX10_mean_56 rfl hl (by decide) rfl (fun ls hl => ?_)
  refine lv_iconst (v := 0) hx hb dX10_mean_57 (by decide) ?_
  refine lv_istore (lv' := [(5, .int 0), (3, .long 0), (0, .ref (a 0)), (2, .int v2)]) hx hb dX10_mean_58 hl (by decide) rfl (fun ls hl => ?_)
  refine hL60 _ fu oz v2 0 0 _ _ _ hP hS (lv_sub hl [2, 3, 1, 0] rfl) hf (fun oz v2 v3 H locs ls hP hS hl hf => ?_)
  refine lv_aload_n hx hb dX10_mean_88 rfl (lv_at hl 0 rfl) ?_
  refine lv_iconst (v := 0) hx hb dX10_mean_89 (by decide) ?_
  refine lv_sipush (v := 1300) hx hb dX10_mean_90 (by decide) ?_
  obtain ⟨r_93, e_93, hf⟩ := ob_bind hf
  have hPX_93 : va_P D vwCl (cs10 ct a oz) H := hP
  refine ro_call1 (va_runV (As := [.int 0, .int 1300]) (rest := []) ⟨hx, hb, hml, hown, htl⟩ (c_X10_weightFrom l D ct G a fu oz (0 : Int32) (1300 : Int32) e_93) (cw_X10_X10_weightFrom htl ⟨Nat.le_of_ble_eq_true rfl, Nat.le_of_ble_eq_true rfl⟩) ⟨Bx_blind, va_recv hK hPX_93 (ci := 10) (q0 := 0) rfl rfl, Bx_pre hPX_93 hK hN (hX.stay hS hGE)⟩ rfl rfl hl.1 rfl (lv_room (Nat.le_of_ble_eq_true rfl)) dX10_mean_93 ⟨Nat.zero_le _, Nat.zero_le _⟩) ?_
  refine lv_lstore (lv' := [(5, .long r_93), (0, .ref (a 0)), (2, .int v2), (3, .long v3)]) hx hb dX10_mean_96 hl (by decide) rfl (fun ls hl => ?_)
  refine lv_iload_n hx hb dX10_mean_98 rfl (lv_at hl 2 rfl) ?_
  refine lv_if_ne (tgt := 106) hx hb dX10_mean_99 (by decide) (fun c_99 => ?_) (fun c_99 => ?_)
  · rw [if_neg c_99] at hf
    refine lv_lload hx hb dX10_mean_106 (lv_at hl 0 rfl) ?_
    exact hJ108 oz v3 r_93 r_93 _ _ _ hP hS (lv_sub hl [3, 0] rfl) hf 
  rw [if_pos c_99] at hf
  refine lv_lload_n hx hb dX10_mean_102 rfl (lv_at hl 3 rfl) ?_
  refine lv_goto (tgt := 108) hx hb dX10_mean_103 (by decide) ?_
  exact hJ108 oz v3 r_93 v3 _ _ _ hP hS (lv_sub hl [3, 0] rfl) hf 
theorem c_X10_mean (l : Launch) (D : va_G) (ct : Nat → ClassId) (G : GT) (a : Nat → Nat) (fu : Nat) (o : Ob) (v1 : Int32) (v2 : Int32) {r : Int64 × Ob} (hf : p_X10_mean fu o v1 v2 = some r)  (hD0 : va_D (GE G) (cs10 ct a o)) : Met l yX10_mean (.code yX10_mean cX10_mean 7 (some .long) :: wsL_law) rm_X10_mean (va_Pc [.ref (a 0), .int v1, .int v2] (Bx D ct G (cs10 ct a o))) (Qwr (some (.long r.1)) (fun H => va_P D vwCl (cs10 ct a r.2) H) (wA (cs10 ct a o))) 0 0 (wA (cs10 ct a o)) := by
  refine Met.ofW (cc := cX10_mean) (maxL := 7) (ret := (some .long)) (by decide) rfl ?_
  intro p e s m args below meth c s₁ B hml hv
  obtain ⟨rfl, hP, hK, hN, hX⟩ := hv
  have hts := atoms_spec (ws := .code yX10_mean cX10_mean 7 (some .long) :: wsL_law) B.pre
  rw [lg_entry_eq]
  exact b_X10_mean a fu o v1 v2 B.exec B.bytes B.returns hml (findClass_of_methodNamed B.named) (fun w h => hts w (List.mem_cons_of_mem _ h)) B.notSynchronized hK hN hX hP hf hD0  (lv_entry [.ref (a 0), .int v1, .int v2] (n := 7) (Nat.le_of_ble_eq_true rfl))
def p_X10_risk_J44 (fu : Nat) (c29 : Ob → Int32 → Int32 → Int32 → Option (Int32 × Ob)) (oz : Ob) (v1 : Int32) (v2 : Int32) (v3 : Int32) : Option (Int32 × Ob) :=
    (p_X10_of fu oz v1 (2 : Int32)).bind fun r_52 => (p_X10_weightFrom fu oz (0 : Int32) r_52).bind fun r_55 => (p_X10_weightFrom fu oz (0 : Int32) (1300 : Int32)).bind fun r_66 => if (lg_cmp (100 * r_55) (v2.toInt64 * r_66)) < 0 then c29 oz v1 v2 (v3 + 1) else some (v3, oz)
def p_X10_risk_L29 (fu : Nat)  : Nat → Ob → Int32 → Int32 → Int32 → Option (Int32 × Ob)
  | 0, _, _, _, _ => none
  | n + 1, oz, v1, v2, v3 =>
    if (14 : Int32) < v3 then some (((-1) : Int32), oz) else if v3 ≤ 0 then p_X10_risk_J44 fu (fun oz v1 v2 v3 => p_X10_risk_L29 fu  n oz v1 v2 v3) oz v1 v2 v3 else (p_X10_stepWeights fu oz v3).bind fun r_41 => p_X10_risk_J44 fu (fun oz v1 v2 v3 => p_X10_risk_L29 fu  n oz v1 v2 v3) r_41 v1 v2 v3
def p_X10_risk (fu : Nat) (o : Ob) (v1 : Int32) (v2 : Int32) : Option (Int32 × Ob) :=
  (p_X10_asksReach fu o v1).bind fun r_2 => if r_2.1 = 0 then some (((-2) : Int32), r_2.2) else (p_X10_in fu v2.toInt64 (0 : Int64) (100 : Int64)).bind fun r_14 => if r_14 = 0 then some (((-2) : Int32), r_2.2) else (p_X10_startWeights fu r_2.2).bind fun r_24 => p_X10_risk_L29 fu fu r_24 v1 v2 0
abbrev rm_X10_risk : Room := { frames := 4, cells := 0, slots := 0, locals := 87 }
set_option maxHeartbeats 4000000 in
set_option maxRecDepth 100000 in
theorem b_X10_risk {p : Program} {l : Launch} {e : Env} {s : State} {m : MethodId} {args : Array Value} {below : List Frame} {meth : Method} {c : Code} {ls : Array Slot} {D : va_G} {ct : Nat → ClassId} {G : GT} (a : Nat → Nat) (fu : Nat) (o : Ob) (v1 : Int32) (v2 : Int32) {r : Int32 × Ob} (hx : p.tables.exec = Jvm.exec) (hb : c.code = cX10_risk) (hr : meth.sig.returnType = (some .int)) (hml : c.maxLocals = 4) (hown : s.vm.findClass RX10 = some m.cls) (htl : ∀ w ∈ wsL_law, w.before args s = true) (hlocks : meth.locks = false) (hK : va_K D vwCl (tyl ct) s) (hN : ∀ w ∈ NW, va_Nw w s) (hX : SX G s s.heap) (hP0 : va_P D vwCl (cs10 ct a o) s.heap) (hf : p_X10_risk fu o v1 v2 = some r) (hD0 : va_D (GE G) (cs10 ct a o))  (hl : lv_has ls 4 [(0, .ref (a 0)), (1, .int v1), (2, .int v2)]) : W p l e rm_X10_risk s m args below meth c s.heap [] 0 0 (MQ below (Qwr (some (.int r.1)) (fun H => va_P D vwCl (cs10 ct a r.2) H) (wA (cs10 ct a o))) args s 0 0 (wA (cs10 ct a o))) (F0 m 0 ls []) := by
  generalize hQQ : MQ below (Qwr (some (.int r.1)) (fun H => va_P D vwCl (cs10 ct a r.2) H) (wA (cs10 ct a o))) args s 0 0 (wA (cs10 ct a o)) = QQ
  have hDx : ∀ (oy : Ob), va_D (GE G) (cs10 ct a oy) := fun oy => D_cr hD0 rfl
  have hDW : ∀ (oy : Ob), va_D (wA (cs10 ct a o)) (cs10 ct a oy) := fun oy => D_cr (D_self hD0) rfl
  have hGE : ∀ q, wA (cs10 ct a o) q → GE G q := wA_GE hD0
  have hP := hP0
  have hS : va_S (wA (cs10 ct a o)) s.heap s.heap [] := va_S.rf
  have hJ44 : ∀ (c29 : Ob → Int32 → Int32 → Int32 → Option (Int32 × Ob)) (oz : Ob) (v1 : Int32) (v2 : Int32) (v3 : Int32), ∀ (H : Heap) (locs : List Loc) (ls : Array Slot), va_P D vwCl (cs10 ct a oz) H → va_S (wA (cs10 ct a o)) s.heap H locs → lv_has ls 4 [(0, .ref (a 0)), (1, .int v1), (2, .int v2), (3, .int v3)] → p_X10_risk_J44 fu c29 oz v1 v2 v3 = some r → (∀ (oz : Ob) (v1 : Int32) (v2 : Int32) (v3 : Int32), ∀ (H : Heap) (locs : List Loc) (ls : Array Slot), va_P D vwCl (cs10 ct a oz) H → va_S (wA (cs10 ct a o)) s.heap H locs → lv_has ls 4 [(0, .ref (a 0)), (1, .int v1), (2, .int v2), (3, .int v3)] → c29 oz v1 v2 v3 = some r → W p l e rm_X10_risk s m args below meth c H locs 0 0 QQ (F0 m 29 ls [])) → W p l e rm_X10_risk s m args below meth c H locs 0 0 QQ (F0 m 44 ls []) := by
    intro c29 oz v1 v2 v3 H locs ls hP hS hl hf k29
    rw [p_X10_risk_J44] at hf
    refine lv_ldc2 (v := 100) hx hb hown (htl _ wq_55_1) dX10_risk_44 ?_
    refine lv_aload_n hx hb dX10_risk_47 rfl (lv_at hl 0 rfl) ?_
    refine lv_iconst (v := 0) hx hb dX10_risk_48 (by decide) ?_
    refine lv_aload_n hx hb dX10_risk_49 rfl (lv_at hl 0 rfl) ?_
    refine lv_iload_n hx hb dX10_risk_50 rfl (lv_at hl 1 rfl) ?_
    refine lv_iconst (v := 2) hx hb dX10_risk_51 (by decide) ?_
    obtain ⟨r_52, e_52, hf⟩ := ob_bind hf
    have hPX_52 : va_P D vwCl (cs10 ct a oz) H := hP
    refine ro_call1 (va_runV (As := [.int v1, .int 2]) (rest := [.int 0, .ref (a 0), .long 100]) ⟨hx, hb, hml, hown, htl⟩ (c_X10_of l D ct G a fu oz v1 (2 : Int32) e_52) (cw_X10_X10_of htl ⟨Nat.le_of_ble_eq_true rfl, Nat.le_of_ble_eq_true rfl⟩) ⟨Bx_blind, va_recv hK hPX_52 (ci := 10) (q0 := 0) rfl rfl, Bx_pre hPX_52 hK hN (hX.stay hS hGE)⟩ rfl rfl hl.1 rfl (lv_room (Nat.le_of_ble_eq_true rfl)) dX10_risk_52 ⟨Nat.zero_le _, Nat.zero_le _⟩) ?_
    obtain ⟨r_55, e_55, hf⟩ := ob_bind hf
    have hPX_55 : va_P D vwCl (cs10 ct a oz) H := hP
    refine ro_call1 (va_runV (As := [.int 0, .int r_52]) (rest := [.long 100]) ⟨hx, hb, hml, hown, htl⟩ (c_X10_weightFrom l D ct G a fu oz (0 : Int32) r_52 e_55) (cw_X10_X10_weightFrom htl ⟨Nat.le_of_ble_eq_true rfl, Nat.le_of_ble_eq_true rfl⟩) ⟨Bx_blind, va_recv hK hPX_55 (ci := 10) (q0 := 0) rfl rfl, Bx_pre hPX_55 hK hN (hX.stay hS hGE)⟩ rfl rfl hl.1 rfl (lv_room (Nat.le_of_ble_eq_true rfl)) dX10_risk_55 ⟨Nat.zero_le _, Nat.zero_le _⟩) ?_
    refine lv_lmul hx hb dX10_risk_58 ?_
    refine lv_iload_n hx hb dX10_risk_59 rfl (lv_at hl 2 rfl) ?_
    refine lv_i2l hx hb dX10_risk_60 rfl ?_
    refine lv_aload_n hx hb dX10_risk_61 rfl (lv_at hl 0 rfl) ?_
    refine lv_iconst (v := 0) hx hb dX10_risk_62 (by decide) ?_
    refine lv_sipush (v := 1300) hx hb dX10_risk_63 (by decide) ?_
    obtain ⟨r_66, e_66, hf⟩ := ob_bind hf
    have hPX_66 : va_P D vwCl (cs10 ct a oz) H := hP
    refine ro_call1 (va_runV (As := [.int 0, .int 1300]) (rest := [.long v2.toInt64, .long (100 * r_55)]) ⟨hx, hb, hml, hown, htl⟩ (c_X10_weightFrom l D ct G a fu oz (0 : Int32) (1300 : Int32) e_66) (cw_X10_X10_weightFrom htl ⟨Nat.le_of_ble_eq_true rfl, Nat.le_of_ble_eq_true rfl⟩) ⟨Bx_blind, va_recv hK hPX_66 (ci := 10) (q0 := 0) rfl rfl, Bx_pre hPX_66 hK hN (hX.stay hS hGE)⟩ rfl rfl hl.1 rfl (lv_room (Nat.le_of_ble_eq_true rfl)) dX10_risk_66 ⟨Nat.zero_le _, Nat.zero_le _⟩) ?_
    refine lv_lmul hx hb dX10_risk_69 ?_
    refine W.lcmp hx hb dX10_risk_70 ?_
    refine lv_if_lt (tgt := 76) hx hb dX10_risk_71 (by decide) (fun c_71 => ?_) (fun c_71 => ?_)
    · rw [if_pos c_71] at hf
      refine lv_iinc (v := (v3 + 1)) (lv' := [(3, .int (v3 + 1)), (0, .ref (a 0)), (1, .int v1), (2, .int v2)]) hx hb dX10_risk_76 hl (k := 3) rfl rfl (by decide) rfl (fun ls hl => ?_)
      refine lv_goto (tgt := 29) hx hb dX10_risk_79 (by decide) ?_
      exact k29 oz v1 v2 (v3 + 1) _ _ _ hP hS (lv_sub hl [1, 2, 3, 0] rfl) hf
    rw [if_neg c_71] at hf
    refine lv_iload_n hx hb dX10_risk_74 rfl (lv_at hl 3 rfl) ?_
    rw [← hQQ]
    cases hf
    exact rw_i hx hb hr hlocks hP hS dX10_risk_75
  have hL29 : ∀ (n : Nat) (oz : Ob) (v1 : Int32) (v2 : Int32) (v3 : Int32), ∀ (H : Heap) (locs : List Loc) (ls : Array Slot), va_P D vwCl (cs10 ct a oz) H → va_S (wA (cs10 ct a o)) s.heap H locs → lv_has ls 4 [(0, .ref (a 0)), (1, .int v1), (2, .int v2), (3, .int v3)] → p_X10_risk_L29 fu  n oz v1 v2 v3 = some r → W p l e rm_X10_risk s m args below meth c H locs 0 0 QQ (F0 m 29 ls []) := by
    intro  n
    induction n with
    | zero =>
      intro oz v1 v2 v3 H locs ls hP hS hl hf 
      rw [p_X10_risk_L29] at hf
      cases hf
    | succ n ih =>
      intro oz v1 v2 v3 H locs ls hP hS hl hf 
      rw [p_X10_risk_L29] at hf
      refine lv_iload_n hx hb dX10_risk_29 rfl (lv_at hl 3 rfl) ?_
      refine lv_bipush (v := 14) hx hb dX10_risk_30 (by decide) ?_
      refine lv_icmp_gt (tgt := 82) hx hb dX10_risk_32 (by decide) (fun c_32 => ?_) (fun c_32 => ?_)
      · rw [if_pos c_32] at hf
        refine lv_iconst (v := (-1)) hx hb dX10_risk_82 (by decide) ?_
        rw [← hQQ]
        cases hf
        exact rw_i hx hb hr hlocks hP hS dX10_risk_83
      rw [if_neg c_32] at hf
      refine lv_iload_n hx hb dX10_risk_35 rfl (lv_at hl 3 rfl) ?_
      refine lv_if_le (tgt := 44) hx hb dX10_risk_36 (by decide) (fun c_36 => ?_) (fun c_36 => ?_)
      · rw [if_pos c_36] at hf
        exact hJ44 _ oz v1 v2 v3 _ _ _ hP hS (lv_sub hl [0, 1, 2, 3] rfl) hf (fun oz v1 v2 v3 H locs ls hP hS hl hf => ih oz v1 v2 v3 H locs ls hP hS hl hf )
      rw [if_neg c_36] at hf
      refine lv_aload_n hx hb dX10_risk_39 rfl (lv_at hl 0 rfl) ?_
      refine lv_iload_n hx hb dX10_risk_40 rfl (lv_at hl 3 rfl) ?_
      obtain ⟨r_41, e_41, hf⟩ := ob_bind hf
      have hPX_41 : va_P D vwCl (cs10 ct a oz) H := hP
      refine wr_call0 (va_runV (As := [.int v3]) (rest := []) ⟨hx, hb, hml, hown, htl⟩ (c_X10_stepWeights l D ct G a fu oz v3 e_41 (hDx oz)) (cw_X10_X10_stepWeights htl ⟨Nat.le_of_ble_eq_true rfl, Nat.le_of_ble_eq_true rfl⟩) ⟨Bx_blind, va_recv hK hPX_41 (ci := 10) (q0 := 0) rfl rfl, Bx_pre hPX_41 hK hN (hX.stay hS hGE)⟩ rfl rfl hl.1 rfl (lv_room (Nat.le_of_ble_eq_true rfl)) dX10_risk_41 ⟨Nat.zero_le _, Nat.zero_le _⟩) hS (wA_cg rfl) (fun H_41 locs_41 hB_41 _ hk_41 hS => ?_)
      have hP : va_P D vwCl (cs10 ct a r_41) H_41 := hB_41
      exact hJ44 _ r_41 v1 v2 v3 _ _ _ hP hS (lv_sub hl [0, 1, 2, 3] rfl) hf (fun oz v1 v2 v3 H locs ls hP hS hl hf => ih oz v1 v2 v3 H locs ls hP hS hl hf )
  rw [p_X10_risk] at hf
  refine lv_aload_n hx hb dX10_risk_0 rfl (lv_at hl 0 rfl) ?_
  refine lv_iload_n hx hb dX10_risk_1 rfl (lv_at hl 1 rfl) ?_
  obtain ⟨r_2, e_2, hf⟩ := ob_bind hf
  have hPX_2 : va_P D vwCl (cs10 ct a o) s.heap := hP
  refine wr_call1 (va_runV (As := [.int v1]) (rest := []) ⟨hx, hb, hml, hown, htl⟩ (c_X10_asksReach l D ct G a fu o v1 e_2 (hDx o)) (cw_X10_X10_asksReach htl ⟨Nat.le_of_ble_eq_true rfl, Nat.le_of_ble_eq_true rfl⟩) ⟨Bx_blind, va_recv hK hPX_2 (ci := 10) (q0 := 0) rfl rfl, Bx_pre hPX_2 hK hN (hX.stay hS hGE)⟩ rfl rfl hl.1 rfl (lv_room (Nat.le_of_ble_eq_true rfl)) dX10_risk_2 ⟨Nat.zero_le _, Nat.zero_le _⟩) hS (wA_cg rfl) (fun H_2 locs_2 hB_2 _ hk_2 hS => ?_)
  have hP : va_P D vwCl (cs10 ct a r_2.2) H_2 := hB_2
  refine lv_if_eq (tgt := 20) hx hb dX10_risk_5 (by decide) (fun c_5 => ?_) (fun c_5 => ?_)
  · rw [if_pos c_5] at hf
    refine lv_bipush (v := (-2)) hx hb dX10_risk_20 (by decide) ?_
    rw [← hQQ]
    cases hf
    exact rw_i hx hb hr hlocks hP hS dX10_risk_22
  rw [if_neg c_5] at hf
  refine lv_iload_n hx hb dX10_risk_8 rfl (lv_at hl 2 rfl) ?_
  refine lv_i2l hx hb dX10_risk_9 rfl ?_
  refine lv_lconst (v := 0) hx hb dX10_risk_10 (by decide) ?_
  refine lv_ldc2 (v := 100) hx hb hown (htl _ wq_55_1) dX10_risk_11 ?_
  obtain ⟨r_14, e_14, hf⟩ := ob_bind hf
  have hPX_14 : va_P D vwCl ([]) H_2 := P_nil
  refine ro_call1 (va_runS (As := [.long v2.toInt64, .long 0, .long 100]) (rest := []) ⟨hx, hb, hml, hown, htl⟩ (c_X10_in l D ct G fu v2.toInt64 (0 : Int64) (100 : Int64) e_14) (cw_X10_X10_in htl ⟨Nat.le_of_ble_eq_true rfl, Nat.le_of_ble_eq_true rfl⟩) ⟨Bx_blind, Bx_pre hPX_14 hK hN (hX.stay hS hGE)⟩ rfl rfl hl.1 rfl (lv_room (Nat.le_of_ble_eq_true rfl)) dX10_risk_14 ⟨Nat.zero_le _, Nat.zero_le _⟩) ?_
  refine lv_if_ne (tgt := 23) hx hb dX10_risk_17 (by decide) (fun c_17 => ?_) (fun c_17 => ?_)
  rotate_left 1
  · rw [if_pos c_17] at hf
    refine lv_bipush (v := (-2)) hx hb dX10_risk_20 (by decide) ?_
    rw [← hQQ]
    cases hf
    exact rw_i hx hb hr hlocks hP hS dX10_risk_22
  rw [if_neg c_17] at hf
  refine lv_aload_n hx hb dX10_risk_23 rfl (lv_at hl 0 rfl) ?_
  obtain ⟨r_24, e_24, hf⟩ := ob_bind hf
  have hPX_24 : va_P D vwCl (cs10 ct a r_2.2) H_2 := hP
  refine wr_call0 (va_runV (As := []) (rest := []) ⟨hx, hb, hml, hown, htl⟩ (c_X10_startWeights l D ct G a fu r_2.2 e_24 (hDx r_2.2)) (cw_X10_X10_startWeights htl ⟨Nat.le_of_ble_eq_true rfl, Nat.le_of_ble_eq_true rfl⟩) ⟨Bx_blind, va_recv hK hPX_24 (ci := 10) (q0 := 0) rfl rfl, Bx_pre hPX_24 hK hN (hX.stay hS hGE)⟩ rfl rfl hl.1 rfl (lv_room (Nat.le_of_ble_eq_true rfl)) dX10_risk_24 ⟨Nat.zero_le _, Nat.zero_le _⟩) hS (wA_cg rfl) (fun H_24 locs_24 hB_24 _ hk_24 hS => ?_)
  have hP : va_P D vwCl (cs10 ct a r_24) H_24 := hB_24
  refine lv_iconst (v := 0) hx hb dX10_risk_27 (by decide) ?_
  refine lv_istore_n (lv' := [(3, .int 0), (0, .ref (a 0)), (1, .int v1), (2, .int v2)]) hx hb dX10_risk_28 rfl hl (by decide) rfl (fun ls hl => ?_)
  exact hL29 fu r_24 v1 v2 0 _ _ _ hP hS (lv_sub hl [1, 2, 3, 0] rfl) hf 
theorem c_X10_risk (l : Launch) (D : va_G) (ct : Nat → ClassId) (G : GT) (a : Nat → Nat) (fu : Nat) (o : Ob) (v1 : Int32) (v2 : Int32) {r : Int32 × Ob} (hf : p_X10_risk fu o v1 v2 = some r)  (hD0 : va_D (GE G) (cs10 ct a o)) : Met l yX10_risk (.code yX10_risk cX10_risk 4 (some .int) :: wsL_law) rm_X10_risk (va_Pc [.ref (a 0), .int v1, .int v2] (Bx D ct G (cs10 ct a o))) (Qwr (some (.int r.1)) (fun H => va_P D vwCl (cs10 ct a r.2) H) (wA (cs10 ct a o))) 0 0 (wA (cs10 ct a o)) := by
  refine Met.ofW (cc := cX10_risk) (maxL := 4) (ret := (some .int)) (by decide) rfl ?_
  intro p e s m args below meth c s₁ B hml hv
  obtain ⟨rfl, hP, hK, hN, hX⟩ := hv
  have hts := atoms_spec (ws := .code yX10_risk cX10_risk 4 (some .int) :: wsL_law) B.pre
  rw [lg_entry_eq]
  exact b_X10_risk a fu o v1 v2 B.exec B.bytes B.returns hml (findClass_of_methodNamed B.named) (fun w h => hts w (List.mem_cons_of_mem _ h)) B.notSynchronized hK hN hX hP hf hD0  (lv_entry [.ref (a 0), .int v1, .int v2] (n := 4) (Nat.le_of_ble_eq_true rfl))
def p_X10_keepAct (fu : Nat) (o : Ob) (v1 : Int32) : Option (Int32 × Ob) :=
  if inb (6 : Int32) 98 = true then if ((o.1 1) (6 : Int32).toNatClampNeg) = (30 : Int32) then some (((-5) : Int32), o) else if inb (6 : Int32) 98 = true then if inb (68 + ((o.1 1) (6 : Int32).toNatClampNeg)) 98 = true then if inb (6 : Int32) 98 = true then if inb (6 : Int32) 98 = true then some ((0 : Int32), (oA (oA o 1 (upd (o.1 1) ((68 + ((o.1 1) (6 : Int32).toNatClampNeg)).toNatClampNeg) v1)) 1 (upd ((oA o 1 (upd (o.1 1) ((68 + ((o.1 1) (6 : Int32).toNatClampNeg)).toNatClampNeg) v1)).1 1) ((6 : Int32).toNatClampNeg) ((((oA o 1 (upd (o.1 1) ((68 + ((o.1 1) (6 : Int32).toNatClampNeg)).toNatClampNeg) v1)).1 1) (6 : Int32).toNatClampNeg) + 1)))) else none else none else none else none else none
abbrev rm_X10_keepAct : Room := { frames := 0, cells := 0, slots := 0, locals := 0 }
set_option maxHeartbeats 4000000 in
set_option maxRecDepth 100000 in
theorem b_X10_keepAct {p : Program} {l : Launch} {e : Env} {s : State} {m : MethodId} {args : Array Value} {below : List Frame} {meth : Method} {c : Code} {ls : Array Slot} {D : va_G} {ct : Nat → ClassId} {G : GT} (a : Nat → Nat) (fu : Nat) (o : Ob) (v1 : Int32) {r : Int32 × Ob} (hx : p.tables.exec = Jvm.exec) (hb : c.code = cX10_keepAct) (hr : meth.sig.returnType = (some .int)) (hml : c.maxLocals = 2) (hown : s.vm.findClass RX10 = some m.cls) (htl : ∀ w ∈ wsL_law, w.before args s = true) (hlocks : meth.locks = false) (hK : va_K D vwCl (tyl ct) s) (hN : ∀ w ∈ NW, va_Nw w s) (hX : SX G s s.heap) (hP0 : va_P D vwCl (cs10 ct a o) s.heap) (hf : p_X10_keepAct fu o v1 = some r) (hD0 : va_D (GE G) (cs10 ct a o))  (hl : lv_has ls 2 [(0, .ref (a 0)), (1, .int v1)]) : W p l e rm_X10_keepAct s m args below meth c s.heap [] 0 0 (MQ below (Qwr (some (.int r.1)) (fun H => va_P D vwCl (cs10 ct a r.2) H) (wA (cs10 ct a o))) args s 0 0 (wA (cs10 ct a o))) (F0 m 0 ls []) := by
  generalize hQQ : MQ below (Qwr (some (.int r.1)) (fun H => va_P D vwCl (cs10 ct a r.2) H) (wA (cs10 ct a o))) args s 0 0 (wA (cs10 ct a o)) = QQ
  have hDx : ∀ (oy : Ob), va_D (GE G) (cs10 ct a oy) := fun oy => D_cr hD0 rfl
  have hDW : ∀ (oy : Ob), va_D (wA (cs10 ct a o)) (cs10 ct a oy) := fun oy => D_cr (D_self hD0) rfl
  have hGE : ∀ q, wA (cs10 ct a o) q → GE G q := wA_GE hD0
  have hP := hP0
  have hS : va_S (wA (cs10 ct a o)) s.heap s.heap [] := va_S.rf
  rw [p_X10_keepAct] at hf
  refine lv_aload_n hx hb dX10_keepAct_0 rfl (lv_at hl 0 rfl) ?_
  refine va_get (D := D) (ci := 10) (v := .ref (a 1)) (C := RX10) (T := TX10) (N := 42) hx hb htl inlX10 hown hK hP 0 rfl rfl 1 (by decide) (htl _ wq_7_0) (fun _ h9 => h9) rfl dX10_keepAct_1 ?_
  refine lv_bipush (v := 6) hx hb dX10_keepAct_4 (by decide) ?_
  obtain ⟨hi_6, hf⟩ := ob_in hf
  refine va_iald (D := D) (tys := tyl ct) hx hb hK hP 1 0 rfl rfl hi_6 dX10_keepAct_6 ?_
  refine lv_bipush (v := 30) hx hb dX10_keepAct_7 (by decide) ?_
  refine lv_icmp_ne (tgt := 15) hx hb dX10_keepAct_9 (by decide) (fun c_9 => ?_) (fun c_9 => ?_)
  rotate_left 1
  · rw [if_pos c_9] at hf
    refine lv_bipush (v := (-5)) hx hb dX10_keepAct_12 (by decide) ?_
    rw [← hQQ]
    cases hf
    exact rw_i hx hb hr hlocks hP hS dX10_keepAct_14
  rw [if_neg c_9] at hf
  refine lv_aload_n hx hb dX10_keepAct_15 rfl (lv_at hl 0 rfl) ?_
  refine va_get (D := D) (ci := 10) (v := .ref (a 1)) (C := RX10) (T := TX10) (N := 42) hx hb htl inlX10 hown hK hP 0 rfl rfl 1 (by decide) (htl _ wq_7_0) (fun _ h9 => h9) rfl dX10_keepAct_16 ?_
  refine lv_bipush (v := 68) hx hb dX10_keepAct_19 (by decide) ?_
  refine lv_aload_n hx hb dX10_keepAct_21 rfl (lv_at hl 0 rfl) ?_
  refine va_get (D := D) (ci := 10) (v := .ref (a 1)) (C := RX10) (T := TX10) (N := 42) hx hb htl inlX10 hown hK hP 0 rfl rfl 1 (by decide) (htl _ wq_7_0) (fun _ h9 => h9) rfl dX10_keepAct_22 ?_
  refine lv_bipush (v := 6) hx hb dX10_keepAct_25 (by decide) ?_
  obtain ⟨hi_27, hf⟩ := ob_in hf
  refine va_iald (D := D) (tys := tyl ct) hx hb hK hP 1 0 rfl rfl hi_27 dX10_keepAct_27 ?_
  refine lv_iadd hx hb dX10_keepAct_28 ?_
  refine lv_iload_n hx hb dX10_keepAct_29 rfl (lv_at hl 1 rfl) ?_
  obtain ⟨hi_30, hf⟩ := ob_in hf
  refine va_iast (D := D) (tys := tyl ct) hx hb hK hP (hDW o) hS 1 0 rfl rfl hi_30 dX10_keepAct_30 (fun H_30 locs_30 hP _ hS => ?_)
  have hP : va_P D vwCl (cs10 ct a (oA o 1 (upd (o.1 1) ((68 + ((o.1 1) (6 : Int32).toNatClampNeg)).toNatClampNeg) v1))) H_30 := sa10_1 hP
  refine lv_aload_n hx hb dX10_keepAct_31 rfl (lv_at hl 0 rfl) ?_
  refine va_get (D := D) (ci := 10) (v := .ref (a 1)) (C := RX10) (T := TX10) (N := 42) hx hb htl inlX10 hown hK hP 0 rfl rfl 1 (by decide) (htl _ wq_7_0) (fun _ h9 => h9) rfl dX10_keepAct_32 ?_
  refine lv_bipush (v := 6) hx hb dX10_keepAct_35 (by decide) ?_
  refine lv_dup2_11 hx hb dX10_keepAct_37 rfl rfl ?_
  obtain ⟨hi_38, hf⟩ := ob_in hf
  refine va_iald (D := D) (tys := tyl ct) hx hb hK hP 1 0 rfl rfl hi_38 dX10_keepAct_38 ?_
  refine lv_iconst (v := 1) hx hb dX10_keepAct_39 (by decide) ?_
  refine lv_iadd hx hb dX10_keepAct_40 ?_
  obtain ⟨hi_41, hf⟩ := ob_in hf
  refine va_iast (D := D) (tys := tyl ct) hx hb hK hP (hDW (oA o 1 (upd (o.1 1) ((68 + ((o.1 1) (6 : Int32).toNatClampNeg)).toNatClampNeg) v1))) hS 1 0 rfl rfl hi_41 dX10_keepAct_41 (fun H_41 locs_41 hP _ hS => ?_)
  have hP : va_P D vwCl (cs10 ct a (oA (oA o 1 (upd (o.1 1) ((68 + ((o.1 1) (6 : Int32).toNatClampNeg)).toNatClampNeg) v1)) 1 (upd ((oA o 1 (upd (o.1 1) ((68 + ((o.1 1) (6 : Int32).toNatClampNeg)).toNatClampNeg) v1)).1 1) ((6 : Int32).toNatClampNeg) ((((oA o 1 (upd (o.1 1) ((68 + ((o.1 1) (6 : Int32).toNatClampNeg)).toNatClampNeg) v1)).1 1) (6 : Int32).toNatClampNeg) + 1)))) H_41 := sa10_1 hP
  refine lv_iconst (v := 0) hx hb dX10_keepAct_42 (by decide) ?_
  rw [← hQQ]
  cases hf
  exact rw_i hx hb hr hlocks hP hS dX10_keepAct_43
theorem c_X10_keepAct (l : Launch) (D : va_G) (ct : Nat → ClassId) (G : GT) (a : Nat → Nat) (fu : Nat) (o : Ob) (v1 : Int32) {r : Int32 × Ob} (hf : p_X10_keepAct fu o v1 = some r)  (hD0 : va_D (GE G) (cs10 ct a o)) : Met l yX10_keepAct (.code yX10_keepAct cX10_keepAct 2 (some .int) :: wsL_law) rm_X10_keepAct (va_Pc [.ref (a 0), .int v1] (Bx D ct G (cs10 ct a o))) (Qwr (some (.int r.1)) (fun H => va_P D vwCl (cs10 ct a r.2) H) (wA (cs10 ct a o))) 0 0 (wA (cs10 ct a o)) := by
  refine Met.ofW (cc := cX10_keepAct) (maxL := 2) (ret := (some .int)) (by decide) rfl ?_
  intro p e s m args below meth c s₁ B hml hv
  obtain ⟨rfl, hP, hK, hN, hX⟩ := hv
  have hts := atoms_spec (ws := .code yX10_keepAct cX10_keepAct 2 (some .int) :: wsL_law) B.pre
  rw [lg_entry_eq]
  exact b_X10_keepAct a fu o v1 B.exec B.bytes B.returns hml (findClass_of_methodNamed B.named) (fun w h => hts w (List.mem_cons_of_mem _ h)) B.notSynchronized hK hN hX hP hf hD0  (lv_entry [.ref (a 0), .int v1] (n := 2) (Nat.le_of_ble_eq_true rfl))
theorem hd_X10_keepAct : yX10_keepAct.cls ≠ "java/lang/invoke/MethodHandle" ∧ yX10_keepAct.cls ≠ "java/lang/invoke/VarHandle" ∧ (parseMethodDescriptor yX10_keepAct.desc).map (fun d => d.parameters.length) = some 1 := by decide +kernel
theorem cw_X10_X10_keepAct {R : Room} {s : State} {args : Array Value} (ht : ∀ w ∈ wsL_law, w.before args s = true) (hR : rm_X10_keepAct.frames + 1 ≤ R.frames ∧ 8 + (2 + 11) + rm_X10_keepAct.locals ≤ R.locals) : CallW R s args RX10 RX10 378 yX10_keepAct cX10_keepAct 2 (some .int) ((.code yX10_keepAct cX10_keepAct 2 (some .int)) :: wsL_law) rm_X10_keepAct 0 0 1 := cwV 1 ht (GV wq_55_13 wq_55_14 wq_55_15 wq_1_5 wq_55_16) rfl rfl rfl ⟨rfl, hd_X10_keepAct⟩ hR
def p_X10_close (fu : Nat) (o : Ob) (v1 : Int32) (v2 : Int32) : Option (Int32 × Ob) :=
  (p_X10_isJoin fu o v1).bind fun r_2 => if r_2 = 0 then some (((-2) : Int32), o) else (p_X10_in fu v2.toInt64 (0 : Int64) (1 : Int64)).bind fun r_12 => if r_12 = 0 then some (((-2) : Int32), o) else (p_X10_asItIs fu o).bind fun r_22 => (p_X10_bit fu (r_22.1 20 0) v1).bind fun r_30 => (p_X10_keepAct fu r_22 ((2 * v1) + v2)).bind fun r_40 => if (0 : Int32) ≤ r_40.1 then some (r_30, r_40.2) else some (((-5) : Int32), r_40.2)
abbrev rm_X10_close : Room := { frames := 3, cells := 0, slots := 0, locals := 66 }
set_option maxHeartbeats 4000000 in
set_option maxRecDepth 100000 in
theorem b_X10_close {p : Program} {l : Launch} {e : Env} {s : State} {m : MethodId} {args : Array Value} {below : List Frame} {meth : Method} {c : Code} {ls : Array Slot} {D : va_G} {ct : Nat → ClassId} {G : GT} (a : Nat → Nat) (fu : Nat) (o : Ob) (v1 : Int32) (v2 : Int32) {r : Int32 × Ob} (hx : p.tables.exec = Jvm.exec) (hb : c.code = cX10_close) (hr : meth.sig.returnType = (some .int)) (hml : c.maxLocals = 4) (hown : s.vm.findClass RX10 = some m.cls) (htl : ∀ w ∈ wsL_law, w.before args s = true) (hlocks : meth.locks = false) (hK : va_K D vwCl (tyl ct) s) (hN : ∀ w ∈ NW, va_Nw w s) (hX : SX G s s.heap) (hP0 : va_P D vwCl (cs10 ct a o) s.heap) (hf : p_X10_close fu o v1 v2 = some r) (hD0 : va_D (GE G) (cs10 ct a o))  (hl : lv_has ls 4 [(0, .ref (a 0)), (1, .int v1), (2, .int v2)]) : W p l e rm_X10_close s m args below meth c s.heap [] 0 0 (MQ below (Qwr (some (.int r.1)) (fun H => va_P D vwCl (cs10 ct a r.2) H) (wA (cs10 ct a o))) args s 0 0 (wA (cs10 ct a o))) (F0 m 0 ls []) := by
  generalize hQQ : MQ below (Qwr (some (.int r.1)) (fun H => va_P D vwCl (cs10 ct a r.2) H) (wA (cs10 ct a o))) args s 0 0 (wA (cs10 ct a o)) = QQ
  have hDx : ∀ (oy : Ob), va_D (GE G) (cs10 ct a oy) := fun oy => D_cr hD0 rfl
  have hDW : ∀ (oy : Ob), va_D (wA (cs10 ct a o)) (cs10 ct a oy) := fun oy => D_cr (D_self hD0) rfl
  have hGE : ∀ q, wA (cs10 ct a o) q → GE G q := wA_GE hD0
  have hP := hP0
  have hS : va_S (wA (cs10 ct a o)) s.heap s.heap [] := va_S.rf
  rw [p_X10_close] at hf
  refine lv_aload_n hx hb dX10_close_0 rfl (lv_at hl 0 rfl) ?_
  refine lv_iload_n hx hb dX10_close_1 rfl (lv_at hl 1 rfl) ?_
  obtain ⟨r_2, e_2, hf⟩ := ob_bind hf
  have hPX_2 : va_P D vwCl (cs10 ct a o) s.heap := hP
  refine ro_call1 (va_runV (As := [.int v1]) (rest := []) ⟨hx, hb, hml, hown, htl⟩ (c_X10_isJoin l D ct G a fu o v1 e_2) (cw_X10_X10_isJoin htl ⟨Nat.le_of_ble_eq_true rfl, Nat.le_of_ble_eq_true rfl⟩) ⟨Bx_blind, va_recv hK hPX_2 (ci := 10) (q0 := 0) rfl rfl, Bx_pre hPX_2 hK hN (hX.stay hS hGE)⟩ rfl rfl hl.1 rfl (lv_room (Nat.le_of_ble_eq_true rfl)) dX10_close_2 ⟨Nat.zero_le _, Nat.zero_le _⟩) ?_
  refine lv_if_eq (tgt := 18) hx hb dX10_close_5 (by decide) (fun c_5 => ?_) (fun c_5 => ?_)
  · rw [if_pos c_5] at hf
    refine lv_bipush (v := (-2)) hx hb dX10_close_18 (by decide) ?_
    rw [← hQQ]
    cases hf
    exact rw_i hx hb hr hlocks hP hS dX10_close_20
  rw [if_neg c_5] at hf
  refine lv_iload_n hx hb dX10_close_8 rfl (lv_at hl 2 rfl) ?_
  refine lv_i2l hx hb dX10_close_9 rfl ?_
  refine lv_lconst (v := 0) hx hb dX10_close_10 (by decide) ?_
  refine lv_lconst (v := 1) hx hb dX10_close_11 (by decide) ?_
  obtain ⟨r_12, e_12, hf⟩ := ob_bind hf
  have hPX_12 : va_P D vwCl ([]) s.heap := P_nil
  refine ro_call1 (va_runS (As := [.long v2.toInt64, .long 0, .long 1]) (rest := []) ⟨hx, hb, hml, hown, htl⟩ (c_X10_in l D ct G fu v2.toInt64 (0 : Int64) (1 : Int64) e_12) (cw_X10_X10_in htl ⟨Nat.le_of_ble_eq_true rfl, Nat.le_of_ble_eq_true rfl⟩) ⟨Bx_blind, Bx_pre hPX_12 hK hN (hX.stay hS hGE)⟩ rfl rfl hl.1 rfl (lv_room (Nat.le_of_ble_eq_true rfl)) dX10_close_12 ⟨Nat.zero_le _, Nat.zero_le _⟩) ?_
  refine lv_if_ne (tgt := 21) hx hb dX10_close_15 (by decide) (fun c_15 => ?_) (fun c_15 => ?_)
  rotate_left 1
  · rw [if_pos c_15] at hf
    refine lv_bipush (v := (-2)) hx hb dX10_close_18 (by decide) ?_
    rw [← hQQ]
    cases hf
    exact rw_i hx hb hr hlocks hP hS dX10_close_20
  rw [if_neg c_15] at hf
  refine lv_aload_n hx hb dX10_close_21 rfl (lv_at hl 0 rfl) ?_
  obtain ⟨r_22, e_22, hf⟩ := ob_bind hf
  have hPX_22 : va_P D vwCl (cs10 ct a o) s.heap := hP
  refine wr_call0 (va_runV (As := []) (rest := []) ⟨hx, hb, hml, hown, htl⟩ (c_X10_asItIs l D ct G a fu o e_22 (hDx o)) (cw_X10_X10_asItIs htl ⟨Nat.le_of_ble_eq_true rfl, Nat.le_of_ble_eq_true rfl⟩) ⟨Bx_blind, va_recv hK hPX_22 (ci := 10) (q0 := 0) rfl rfl, Bx_pre hPX_22 hK hN (hX.stay hS hGE)⟩ rfl rfl hl.1 rfl (lv_room (Nat.le_of_ble_eq_true rfl)) dX10_close_22 ⟨Nat.zero_le _, Nat.zero_le _⟩) hS (wA_cg rfl) (fun H_22 locs_22 hB_22 _ hk_22 hS => ?_)
  have hP : va_P D vwCl (cs10 ct a r_22) H_22 := hB_22
  refine lv_aload_n hx hb dX10_close_25 rfl (lv_at hl 0 rfl) ?_
  refine va_get (D := D) (ci := 10) (v := .int (r_22.1 20 0)) (C := RX10) (T := TX10) (N := 42) hx hb htl inlX10 hown hK hP 0 rfl rfl 20 (by decide) (htl _ wq_23_1) (fun _ h9 => h9) rfl dX10_close_26 ?_
  refine lv_iload_n hx hb dX10_close_29 rfl (lv_at hl 1 rfl) ?_
  obtain ⟨r_30, e_30, hf⟩ := ob_bind hf
  have hPX_30 : va_P D vwCl ([]) H_22 := P_nil
  refine ro_call1 (va_runS (As := [.int (r_22.1 20 0), .int v1]) (rest := []) ⟨hx, hb, hml, hown, htl⟩ (c_X10_bit l D ct G fu (r_22.1 20 0) v1 e_30) (cw_X10_X10_bit htl ⟨Nat.le_of_ble_eq_true rfl, Nat.le_of_ble_eq_true rfl⟩) ⟨Bx_blind, Bx_pre hPX_30 hK hN (hX.stay hS hGE)⟩ rfl rfl hl.1 rfl (lv_room (Nat.le_of_ble_eq_true rfl)) dX10_close_30 ⟨Nat.zero_le _, Nat.zero_le _⟩) ?_
  refine lv_istore_n (lv' := [(3, .int r_30), (0, .ref (a 0)), (1, .int v1), (2, .int v2)]) hx hb dX10_close_33 rfl hl (by decide) rfl (fun ls hl => ?_)
  refine lv_aload_n hx hb dX10_close_34 rfl (lv_at hl 1 rfl) ?_
  refine lv_iconst (v := 2) hx hb dX10_close_35 (by decide) ?_
  refine lv_iload_n hx hb dX10_close_36 rfl (lv_at hl 2 rfl) ?_
  refine lv_imul hx hb dX10_close_37 ?_
  refine lv_iload_n hx hb dX10_close_38 rfl (lv_at hl 3 rfl) ?_
  refine lv_iadd hx hb dX10_close_39 ?_
  obtain ⟨r_40, e_40, hf⟩ := ob_bind hf
  have hPX_40 : va_P D vwCl (cs10 ct a r_22) H_22 := hP
  refine wr_call1 (va_runV (As := [.int ((2 * v1) + v2)]) (rest := []) ⟨hx, hb, hml, hown, htl⟩ (c_X10_keepAct l D ct G a fu r_22 ((2 * v1) + v2) e_40 (hDx r_22)) (cw_X10_X10_keepAct htl ⟨Nat.le_of_ble_eq_true rfl, Nat.le_of_ble_eq_true rfl⟩) ⟨Bx_blind, va_recv hK hPX_40 (ci := 10) (q0 := 0) rfl rfl, Bx_pre hPX_40 hK hN (hX.stay hS hGE)⟩ rfl rfl hl.1 rfl (lv_room (Nat.le_of_ble_eq_true rfl)) dX10_close_40 ⟨Nat.zero_le _, Nat.zero_le _⟩) hS (wA_cg rfl) (fun H_40 locs_40 hB_40 _ hk_40 hS => ?_)
  have hP : va_P D vwCl (cs10 ct a r_40.2) H_40 := hB_40
  refine lv_if_ge (tgt := 51) hx hb dX10_close_43 (by decide) (fun c_43 => ?_) (fun c_43 => ?_)
  · rw [if_pos c_43] at hf
    refine lv_iload_n hx hb dX10_close_51 rfl (lv_at hl 0 rfl) ?_
    rw [← hQQ]
    cases hf
    exact rw_i hx hb hr hlocks hP hS dX10_close_52
  rw [if_neg c_43] at hf
  refine lv_bipush (v := (-5)) hx hb dX10_close_46 (by decide) ?_
  refine lv_goto (tgt := 52) hx hb dX10_close_48 (by decide) ?_
  rw [← hQQ]
  cases hf
  exact rw_i hx hb hr hlocks hP hS dX10_close_52
theorem c_X10_close (l : Launch) (D : va_G) (ct : Nat → ClassId) (G : GT) (a : Nat → Nat) (fu : Nat) (o : Ob) (v1 : Int32) (v2 : Int32) {r : Int32 × Ob} (hf : p_X10_close fu o v1 v2 = some r)  (hD0 : va_D (GE G) (cs10 ct a o)) : Met l yX10_close (.code yX10_close cX10_close 4 (some .int) :: wsL_law) rm_X10_close (va_Pc [.ref (a 0), .int v1, .int v2] (Bx D ct G (cs10 ct a o))) (Qwr (some (.int r.1)) (fun H => va_P D vwCl (cs10 ct a r.2) H) (wA (cs10 ct a o))) 0 0 (wA (cs10 ct a o)) := by
  refine Met.ofW (cc := cX10_close) (maxL := 4) (ret := (some .int)) (by decide) rfl ?_
  intro p e s m args below meth c s₁ B hml hv
  obtain ⟨rfl, hP, hK, hN, hX⟩ := hv
  have hts := atoms_spec (ws := .code yX10_close cX10_close 4 (some .int) :: wsL_law) B.pre
  rw [lg_entry_eq]
  exact b_X10_close a fu o v1 v2 B.exec B.bytes B.returns hml (findClass_of_methodNamed B.named) (fun w h => hts w (List.mem_cons_of_mem _ h)) B.notSynchronized hK hN hX hP hf hD0  (lv_entry [.ref (a 0), .int v1, .int v2] (n := 4) (Nat.le_of_ble_eq_true rfl))
def p_X10_pours (fu : Nat) (o : Ob) (v1 : Int32) (v2 : Int32) : Option (Int32 × Ob) :=
  (p_X10_isRivers fu o).bind fun r_1 => if r_1 = 0 then some (((-2) : Int32), o) else (p_X10_isStep fu v1.toInt64).bind fun r_9 => if r_9 = 0 then some (((-2) : Int32), o) else (p_X10_in fu v2.toInt64 (1 : Int64) (30 : Int64)).bind fun r_21 => if r_21 = 0 then some (((-2) : Int32), o) else (p_X10_keepAct fu o ((100 * (v1 + 1)) + v2)).bind fun r_39 => if (0 : Int32) ≤ r_39.1 then (p_X10_asItIs fu r_39.2).bind fun r_49 => if inb v1 61 = true then some (((r_49.1 16) v1.toNatClampNeg), r_49) else none else some (((-5) : Int32), r_39.2)
abbrev rm_X10_pours : Room := { frames := 3, cells := 0, slots := 0, locals := 66 }
set_option maxHeartbeats 4000000 in
set_option maxRecDepth 100000 in
theorem b_X10_pours {p : Program} {l : Launch} {e : Env} {s : State} {m : MethodId} {args : Array Value} {below : List Frame} {meth : Method} {c : Code} {ls : Array Slot} {D : va_G} {ct : Nat → ClassId} {G : GT} (a : Nat → Nat) (fu : Nat) (o : Ob) (v1 : Int32) (v2 : Int32) {r : Int32 × Ob} (hx : p.tables.exec = Jvm.exec) (hb : c.code = cX10_pours) (hr : meth.sig.returnType = (some .int)) (hml : c.maxLocals = 3) (hown : s.vm.findClass RX10 = some m.cls) (htl : ∀ w ∈ wsL_law, w.before args s = true) (hlocks : meth.locks = false) (hK : va_K D vwCl (tyl ct) s) (hN : ∀ w ∈ NW, va_Nw w s) (hX : SX G s s.heap) (hP0 : va_P D vwCl (cs10 ct a o) s.heap) (hf : p_X10_pours fu o v1 v2 = some r) (hD0 : va_D (GE G) (cs10 ct a o))  (hl : lv_has ls 3 [(0, .ref (a 0)), (1, .int v1), (2, .int v2)]) : W p l e rm_X10_pours s m args below meth c s.heap [] 0 0 (MQ below (Qwr (some (.int r.1)) (fun H => va_P D vwCl (cs10 ct a r.2) H) (wA (cs10 ct a o))) args s 0 0 (wA (cs10 ct a o))) (F0 m 0 ls []) := by
  generalize hQQ : MQ below (Qwr (some (.int r.1)) (fun H => va_P D vwCl (cs10 ct a r.2) H) (wA (cs10 ct a o))) args s 0 0 (wA (cs10 ct a o)) = QQ
  have hDx : ∀ (oy : Ob), va_D (GE G) (cs10 ct a oy) := fun oy => D_cr hD0 rfl
  have hDW : ∀ (oy : Ob), va_D (wA (cs10 ct a o)) (cs10 ct a oy) := fun oy => D_cr (D_self hD0) rfl
  have hGE : ∀ q, wA (cs10 ct a o) q → GE G q := wA_GE hD0
  have hP := hP0
  have hS : va_S (wA (cs10 ct a o)) s.heap s.heap [] := va_S.rf
  rw [p_X10_pours] at hf
  refine lv_aload_n hx hb dX10_pours_0 rfl (lv_at hl 0 rfl) ?_
  obtain ⟨r_1, e_1, hf⟩ := ob_bind hf
  have hPX_1 : va_P D vwCl (cs10 ct a o) s.heap := hP
  refine ro_call1 (va_runV (As := []) (rest := []) ⟨hx, hb, hml, hown, htl⟩ (c_X10_isRivers l D ct G a fu o e_1) (cw_X10_X10_isRivers htl ⟨Nat.le_of_ble_eq_true rfl, Nat.le_of_ble_eq_true rfl⟩) ⟨Bx_blind, va_recv hK hPX_1 (ci := 10) (q0 := 0) rfl rfl, Bx_pre hPX_1 hK hN (hX.stay hS hGE)⟩ rfl rfl hl.1 rfl (lv_room (Nat.le_of_ble_eq_true rfl)) dX10_pours_1 ⟨Nat.zero_le _, Nat.zero_le _⟩) ?_
  refine lv_if_eq (tgt := 27) hx hb dX10_pours_4 (by decide) (fun c_4 => ?_) (fun c_4 => ?_)
  · rw [if_pos c_4] at hf
    refine lv_bipush (v := (-2)) hx hb dX10_pours_27 (by decide) ?_
    rw [← hQQ]
    cases hf
    exact rw_i hx hb hr hlocks hP hS dX10_pours_29
  rw [if_neg c_4] at hf
  refine lv_iload_n hx hb dX10_pours_7 rfl (lv_at hl 1 rfl) ?_
  refine lv_i2l hx hb dX10_pours_8 rfl ?_
  obtain ⟨r_9, e_9, hf⟩ := ob_bind hf
  have hPX_9 : va_P D vwCl ([]) s.heap := P_nil
  refine ro_call1 (va_runS (As := [.long v1.toInt64]) (rest := []) ⟨hx, hb, hml, hown, htl⟩ (c_X10_isStep l D ct G fu v1.toInt64 e_9) (cw_X10_X10_isStep htl ⟨Nat.le_of_ble_eq_true rfl, Nat.le_of_ble_eq_true rfl⟩) ⟨Bx_blind, Bx_pre hPX_9 hK hN (hX.stay hS hGE)⟩ rfl rfl hl.1 rfl (lv_room (Nat.le_of_ble_eq_true rfl)) dX10_pours_9 ⟨Nat.zero_le _, Nat.zero_le _⟩) ?_
  refine lv_if_eq (tgt := 27) hx hb dX10_pours_12 (by decide) (fun c_12 => ?_) (fun c_12 => ?_)
  · rw [if_pos c_12] at hf
    refine lv_bipush (v := (-2)) hx hb dX10_pours_27 (by decide) ?_
    rw [← hQQ]
    cases hf
    exact rw_i hx hb hr hlocks hP hS dX10_pours_29
  rw [if_neg c_12] at hf
  refine lv_iload_n hx hb dX10_pours_15 rfl (lv_at hl 2 rfl) ?_
  refine lv_i2l hx hb dX10_pours_16 rfl ?_
  refine lv_lconst (v := 1) hx hb dX10_pours_17 (by decide) ?_
  refine lv_ldc2 (v := 30) hx hb hown (htl _ wq_56_1) dX10_pours_18 ?_
  obtain ⟨r_21, e_21, hf⟩ := ob_bind hf
  have hPX_21 : va_P D vwCl ([]) s.heap := P_nil
  refine ro_call1 (va_runS (As := [.long v2.toInt64, .long 1, .long 30]) (rest := []) ⟨hx, hb, hml, hown, htl⟩ (c_X10_in l D ct G fu v2.toInt64 (1 : Int64) (30 : Int64) e_21) (cw_X10_X10_in htl ⟨Nat.le_of_ble_eq_true rfl, Nat.le_of_ble_eq_true rfl⟩) ⟨Bx_blind, Bx_pre hPX_21 hK hN (hX.stay hS hGE)⟩ rfl rfl hl.1 rfl (lv_room (Nat.le_of_ble_eq_true rfl)) dX10_pours_21 ⟨Nat.zero_le _, Nat.zero_le _⟩) ?_
  refine lv_if_ne (tgt := 30) hx hb dX10_pours_24 (by decide) (fun c_24 => ?_) (fun c_24 => ?_)
  rotate_left 1
  · rw [if_pos c_24] at hf
    refine lv_bipush (v := (-2)) hx hb dX10_pours_27 (by decide) ?_
    rw [← hQQ]
    cases hf
    exact rw_i hx hb hr hlocks hP hS dX10_pours_29
  rw [if_neg c_24] at hf
  refine lv_aload_n hx hb dX10_pours_30 rfl (lv_at hl 0 rfl) ?_
  refine lv_bipush (v := 100) hx hb dX10_pours_31 (by decide) ?_
  refine lv_iload_n hx hb dX10_pours_33 rfl (lv_at hl 1 rfl) ?_
  refine lv_iconst (v := 1) hx hb dX10_pours_34 (by decide) ?_
  refine lv_iadd hx hb dX10_pours_35 ?_
  refine lv_imul hx hb dX10_pours_36 ?_
  refine lv_iload_n hx hb dX10_pours_37 rfl (lv_at hl 2 rfl) ?_
  refine lv_iadd hx hb dX10_pours_38 ?_
  obtain ⟨r_39, e_39, hf⟩ := ob_bind hf
  have hPX_39 : va_P D vwCl (cs10 ct a o) s.heap := hP
  refine wr_call1 (va_runV (As := [.int ((100 * (v1 + 1)) + v2)]) (rest := []) ⟨hx, hb, hml, hown, htl⟩ (c_X10_keepAct l D ct G a fu o ((100 * (v1 + 1)) + v2) e_39 (hDx o)) (cw_X10_X10_keepAct htl ⟨Nat.le_of_ble_eq_true rfl, Nat.le_of_ble_eq_true rfl⟩) ⟨Bx_blind, va_recv hK hPX_39 (ci := 10) (q0 := 0) rfl rfl, Bx_pre hPX_39 hK hN (hX.stay hS hGE)⟩ rfl rfl hl.1 rfl (lv_room (Nat.le_of_ble_eq_true rfl)) dX10_pours_39 ⟨Nat.zero_le _, Nat.zero_le _⟩) hS (wA_cg rfl) (fun H_39 locs_39 hB_39 _ hk_39 hS => ?_)
  have hP : va_P D vwCl (cs10 ct a r_39.2) H_39 := hB_39
  refine lv_if_ge (tgt := 48) hx hb dX10_pours_42 (by decide) (fun c_42 => ?_) (fun c_42 => ?_)
  rotate_left 1
  · rw [if_neg c_42] at hf
    refine lv_bipush (v := (-5)) hx hb dX10_pours_45 (by decide) ?_
    rw [← hQQ]
    cases hf
    exact rw_i hx hb hr hlocks hP hS dX10_pours_47
  rw [if_pos c_42] at hf
  refine lv_aload_n hx hb dX10_pours_48 rfl (lv_at hl 0 rfl) ?_
  obtain ⟨r_49, e_49, hf⟩ := ob_bind hf
  have hPX_49 : va_P D vwCl (cs10 ct a r_39.2) H_39 := hP
  refine wr_call0 (va_runV (As := []) (rest := []) ⟨hx, hb, hml, hown, htl⟩ (c_X10_asItIs l D ct G a fu r_39.2 e_49 (hDx r_39.2)) (cw_X10_X10_asItIs htl ⟨Nat.le_of_ble_eq_true rfl, Nat.le_of_ble_eq_true rfl⟩) ⟨Bx_blind, va_recv hK hPX_49 (ci := 10) (q0 := 0) rfl rfl, Bx_pre hPX_49 hK hN (hX.stay hS hGE)⟩ rfl rfl hl.1 rfl (lv_room (Nat.le_of_ble_eq_true rfl)) dX10_pours_49 ⟨Nat.zero_le _, Nat.zero_le _⟩) hS (wA_cg rfl) (fun H_49 locs_49 hB_49 _ hk_49 hS => ?_)
  have hP : va_P D vwCl (cs10 ct a r_49) H_49 := hB_49
  refine lv_aload_n hx hb dX10_pours_52 rfl (lv_at hl 0 rfl) ?_
  refine va_get (D := D) (ci := 10) (v := .ref (a 8)) (C := RX10) (T := TX10) (N := 42) hx hb htl inlX10 hown hK hP 0 rfl rfl 16 (by decide) (htl _ wq_7_10) (fun _ h9 => h9) rfl dX10_pours_53 ?_
  refine lv_iload_n hx hb dX10_pours_56 rfl (lv_at hl 1 rfl) ?_
  obtain ⟨hi_57, hf⟩ := ob_in hf
  refine va_iald (D := D) (tys := tyl ct) hx hb hK hP 8 0 rfl rfl hi_57 dX10_pours_57 ?_
  rw [← hQQ]
  cases hf
  exact rw_i hx hb hr hlocks hP hS dX10_pours_58
theorem c_X10_pours (l : Launch) (D : va_G) (ct : Nat → ClassId) (G : GT) (a : Nat → Nat) (fu : Nat) (o : Ob) (v1 : Int32) (v2 : Int32) {r : Int32 × Ob} (hf : p_X10_pours fu o v1 v2 = some r)  (hD0 : va_D (GE G) (cs10 ct a o)) : Met l yX10_pours (.code yX10_pours cX10_pours 3 (some .int) :: wsL_law) rm_X10_pours (va_Pc [.ref (a 0), .int v1, .int v2] (Bx D ct G (cs10 ct a o))) (Qwr (some (.int r.1)) (fun H => va_P D vwCl (cs10 ct a r.2) H) (wA (cs10 ct a o))) 0 0 (wA (cs10 ct a o)) := by
  refine Met.ofW (cc := cX10_pours) (maxL := 3) (ret := (some .int)) (by decide) rfl ?_
  intro p e s m args below meth c s₁ B hml hv
  obtain ⟨rfl, hP, hK, hN, hX⟩ := hv
  have hts := atoms_spec (ws := .code yX10_pours cX10_pours 3 (some .int) :: wsL_law) B.pre
  rw [lg_entry_eq]
  exact b_X10_pours a fu o v1 v2 B.exec B.bytes B.returns hml (findClass_of_methodNamed B.named) (fun w h => hts w (List.mem_cons_of_mem _ h)) B.notSynchronized hK hN hX hP hf hD0  (lv_entry [.ref (a 0), .int v1, .int v2] (n := 3) (Nat.le_of_ble_eq_true rfl))
def p_X10_undo (fu : Nat) (o : Ob) : Option (Int32 × Ob) :=
  (p_X10_isRivers fu o).bind fun r_1 => if r_1 = 0 then some (((-2) : Int32), o) else if inb (6 : Int32) 98 = true then if ((o.1 1) (6 : Int32).toNatClampNeg) = 0 then some (((-5) : Int32), o) else if inb (6 : Int32) 98 = true then if inb (6 : Int32) 98 = true then if inb (6 : Int32) 98 = true then some ((((oA o 1 (upd (o.1 1) ((6 : Int32).toNatClampNeg) (((o.1 1) (6 : Int32).toNatClampNeg) - 1))).1 1) (6 : Int32).toNatClampNeg), (oA o 1 (upd (o.1 1) ((6 : Int32).toNatClampNeg) (((o.1 1) (6 : Int32).toNatClampNeg) - 1)))) else none else none else none else none
abbrev rm_X10_undo : Room := { frames := 1, cells := 0, slots := 0, locals := 20 }
set_option maxHeartbeats 4000000 in
set_option maxRecDepth 100000 in
theorem b_X10_undo {p : Program} {l : Launch} {e : Env} {s : State} {m : MethodId} {args : Array Value} {below : List Frame} {meth : Method} {c : Code} {ls : Array Slot} {D : va_G} {ct : Nat → ClassId} {G : GT} (a : Nat → Nat) (fu : Nat) (o : Ob) {r : Int32 × Ob} (hx : p.tables.exec = Jvm.exec) (hb : c.code = cX10_undo) (hr : meth.sig.returnType = (some .int)) (hml : c.maxLocals = 1) (hown : s.vm.findClass RX10 = some m.cls) (htl : ∀ w ∈ wsL_law, w.before args s = true) (hlocks : meth.locks = false) (hK : va_K D vwCl (tyl ct) s) (hN : ∀ w ∈ NW, va_Nw w s) (hX : SX G s s.heap) (hP0 : va_P D vwCl (cs10 ct a o) s.heap) (hf : p_X10_undo fu o = some r) (hD0 : va_D (GE G) (cs10 ct a o))  (hl : lv_has ls 1 [(0, .ref (a 0))]) : W p l e rm_X10_undo s m args below meth c s.heap [] 0 0 (MQ below (Qwr (some (.int r.1)) (fun H => va_P D vwCl (cs10 ct a r.2) H) (wA (cs10 ct a o))) args s 0 0 (wA (cs10 ct a o))) (F0 m 0 ls []) := by
  generalize hQQ : MQ below (Qwr (some (.int r.1)) (fun H => va_P D vwCl (cs10 ct a r.2) H) (wA (cs10 ct a o))) args s 0 0 (wA (cs10 ct a o)) = QQ
  have hDx : ∀ (oy : Ob), va_D (GE G) (cs10 ct a oy) := fun oy => D_cr hD0 rfl
  have hDW : ∀ (oy : Ob), va_D (wA (cs10 ct a o)) (cs10 ct a oy) := fun oy => D_cr (D_self hD0) rfl
  have hGE : ∀ q, wA (cs10 ct a o) q → GE G q := wA_GE hD0
  have hP := hP0
  have hS : va_S (wA (cs10 ct a o)) s.heap s.heap [] := va_S.rf
  rw [p_X10_undo] at hf
  refine lv_aload_n hx hb dX10_undo_0 rfl (lv_at hl 0 rfl) ?_
  obtain ⟨r_1, e_1, hf⟩ := ob_bind hf
  have hPX_1 : va_P D vwCl (cs10 ct a o) s.heap := hP
  refine ro_call1 (va_runV (As := []) (rest := []) ⟨hx, hb, hml, hown, htl⟩ (c_X10_isRivers l D ct G a fu o e_1) (cw_X10_X10_isRivers htl ⟨Nat.le_of_ble_eq_true rfl, Nat.le_of_ble_eq_true rfl⟩) ⟨Bx_blind, va_recv hK hPX_1 (ci := 10) (q0 := 0) rfl rfl, Bx_pre hPX_1 hK hN (hX.stay hS hGE)⟩ rfl rfl hl.1 rfl (lv_room (Nat.le_of_ble_eq_true rfl)) dX10_undo_1 ⟨Nat.zero_le _, Nat.zero_le _⟩) ?_
  refine lv_if_ne (tgt := 10) hx hb dX10_undo_4 (by decide) (fun c_4 => ?_) (fun c_4 => ?_)
  rotate_left 1
  · rw [if_pos c_4] at hf
    refine lv_bipush (v := (-2)) hx hb dX10_undo_7 (by decide) ?_
    rw [← hQQ]
    cases hf
    exact rw_i hx hb hr hlocks hP hS dX10_undo_9
  rw [if_neg c_4] at hf
  refine lv_aload_n hx hb dX10_undo_10 rfl (lv_at hl 0 rfl) ?_
  refine va_get (D := D) (ci := 10) (v := .ref (a 1)) (C := RX10) (T := TX10) (N := 42) hx hb htl inlX10 hown hK hP 0 rfl rfl 1 (by decide) (htl _ wq_7_0) (fun _ h9 => h9) rfl dX10_undo_11 ?_
  refine lv_bipush (v := 6) hx hb dX10_undo_14 (by decide) ?_
  obtain ⟨hi_16, hf⟩ := ob_in hf
  refine va_iald (D := D) (tys := tyl ct) hx hb hK hP 1 0 rfl rfl hi_16 dX10_undo_16 ?_
  refine lv_if_ne (tgt := 23) hx hb dX10_undo_17 (by decide) (fun c_17 => ?_) (fun c_17 => ?_)
  rotate_left 1
  · rw [if_pos c_17] at hf
    refine lv_bipush (v := (-5)) hx hb dX10_undo_20 (by decide) ?_
    rw [← hQQ]
    cases hf
    exact rw_i hx hb hr hlocks hP hS dX10_undo_22
  rw [if_neg c_17] at hf
  refine lv_aload_n hx hb dX10_undo_23 rfl (lv_at hl 0 rfl) ?_
  refine va_get (D := D) (ci := 10) (v := .ref (a 1)) (C := RX10) (T := TX10) (N := 42) hx hb htl inlX10 hown hK hP 0 rfl rfl 1 (by decide) (htl _ wq_7_0) (fun _ h9 => h9) rfl dX10_undo_24 ?_
  refine lv_bipush (v := 6) hx hb dX10_undo_27 (by decide) ?_
  refine lv_dup2_11 hx hb dX10_undo_29 rfl rfl ?_
  obtain ⟨hi_30, hf⟩ := ob_in hf
  refine va_iald (D := D) (tys := tyl ct) hx hb hK hP 1 0 rfl rfl hi_30 dX10_undo_30 ?_
  refine lv_iconst (v := 1) hx hb dX10_undo_31 (by decide) ?_
  refine lv_isub hx hb dX10_undo_32 ?_
  obtain ⟨hi_33, hf⟩ := ob_in hf
  refine va_iast (D := D) (tys := tyl ct) hx hb hK hP (hDW o) hS 1 0 rfl rfl hi_33 dX10_undo_33 (fun H_33 locs_33 hP _ hS => ?_)
  have hP : va_P D vwCl (cs10 ct a (oA o 1 (upd (o.1 1) ((6 : Int32).toNatClampNeg) (((o.1 1) (6 : Int32).toNatClampNeg) - 1)))) H_33 := sa10_1 hP
  refine lv_aload_n hx hb dX10_undo_34 rfl (lv_at hl 0 rfl) ?_
  refine va_get (D := D) (ci := 10) (v := .ref (a 1)) (C := RX10) (T := TX10) (N := 42) hx hb htl inlX10 hown hK hP 0 rfl rfl 1 (by decide) (htl _ wq_7_0) (fun _ h9 => h9) rfl dX10_undo_35 ?_
  refine lv_bipush (v := 6) hx hb dX10_undo_38 (by decide) ?_
  obtain ⟨hi_40, hf⟩ := ob_in hf
  refine va_iald (D := D) (tys := tyl ct) hx hb hK hP 1 0 rfl rfl hi_40 dX10_undo_40 ?_
  rw [← hQQ]
  cases hf
  exact rw_i hx hb hr hlocks hP hS dX10_undo_41
theorem c_X10_undo (l : Launch) (D : va_G) (ct : Nat → ClassId) (G : GT) (a : Nat → Nat) (fu : Nat) (o : Ob) {r : Int32 × Ob} (hf : p_X10_undo fu o = some r)  (hD0 : va_D (GE G) (cs10 ct a o)) : Met l yX10_undo (.code yX10_undo cX10_undo 1 (some .int) :: wsL_law) rm_X10_undo (va_Pc [.ref (a 0)] (Bx D ct G (cs10 ct a o))) (Qwr (some (.int r.1)) (fun H => va_P D vwCl (cs10 ct a r.2) H) (wA (cs10 ct a o))) 0 0 (wA (cs10 ct a o)) := by
  refine Met.ofW (cc := cX10_undo) (maxL := 1) (ret := (some .int)) (by decide) rfl ?_
  intro p e s m args below meth c s₁ B hml hv
  obtain ⟨rfl, hP, hK, hN, hX⟩ := hv
  have hts := atoms_spec (ws := .code yX10_undo cX10_undo 1 (some .int) :: wsL_law) B.pre
  rw [lg_entry_eq]
  exact b_X10_undo a fu o B.exec B.bytes B.returns hml (findClass_of_methodNamed B.named) (fun w h => hts w (List.mem_cons_of_mem _ h)) B.notSynchronized hK hN hX hP hf hD0  (lv_entry [.ref (a 0)] (n := 1) (Nat.le_of_ble_eq_true rfl))
def p_X10_anew (fu : Nat) (o : Ob) : Option (Int32 × Ob) :=
  (p_X10_isRivers fu o).bind fun r_1 => if r_1 = 0 then some (((-2) : Int32), o) else if inb (6 : Int32) 98 = true then if inb (6 : Int32) 98 = true then some (((o.1 1) (6 : Int32).toNatClampNeg), (oA o 1 (upd (o.1 1) ((6 : Int32).toNatClampNeg) (0 : Int32)))) else none else none
abbrev rm_X10_anew : Room := { frames := 1, cells := 0, slots := 0, locals := 20 }
set_option maxHeartbeats 4000000 in
set_option maxRecDepth 100000 in
theorem b_X10_anew {p : Program} {l : Launch} {e : Env} {s : State} {m : MethodId} {args : Array Value} {below : List Frame} {meth : Method} {c : Code} {ls : Array Slot} {D : va_G} {ct : Nat → ClassId} {G : GT} (a : Nat → Nat) (fu : Nat) (o : Ob) {r : Int32 × Ob} (hx : p.tables.exec = Jvm.exec) (hb : c.code = cX10_anew) (hr : meth.sig.returnType = (some .int)) (hml : c.maxLocals = 2) (hown : s.vm.findClass RX10 = some m.cls) (htl : ∀ w ∈ wsL_law, w.before args s = true) (hlocks : meth.locks = false) (hK : va_K D vwCl (tyl ct) s) (hN : ∀ w ∈ NW, va_Nw w s) (hX : SX G s s.heap) (hP0 : va_P D vwCl (cs10 ct a o) s.heap) (hf : p_X10_anew fu o = some r) (hD0 : va_D (GE G) (cs10 ct a o))  (hl : lv_has ls 2 [(0, .ref (a 0))]) : W p l e rm_X10_anew s m args below meth c s.heap [] 0 0 (MQ below (Qwr (some (.int r.1)) (fun H => va_P D vwCl (cs10 ct a r.2) H) (wA (cs10 ct a o))) args s 0 0 (wA (cs10 ct a o))) (F0 m 0 ls []) := by
  generalize hQQ : MQ below (Qwr (some (.int r.1)) (fun H => va_P D vwCl (cs10 ct a r.2) H) (wA (cs10 ct a o))) args s 0 0 (wA (cs10 ct a o)) = QQ
  have hDx : ∀ (oy : Ob), va_D (GE G) (cs10 ct a oy) := fun oy => D_cr hD0 rfl
  have hDW : ∀ (oy : Ob), va_D (wA (cs10 ct a o)) (cs10 ct a oy) := fun oy => D_cr (D_self hD0) rfl
  have hGE : ∀ q, wA (cs10 ct a o) q → GE G q := wA_GE hD0
  have hP := hP0
  have hS : va_S (wA (cs10 ct a o)) s.heap s.heap [] := va_S.rf
  rw [p_X10_anew] at hf
  refine lv_aload_n hx hb dX10_anew_0 rfl (lv_at hl 0 rfl) ?_
  obtain ⟨r_1, e_1, hf⟩ := ob_bind hf
  have hPX_1 : va_P D vwCl (cs10 ct a o) s.heap := hP
  refine ro_call1 (va_runV (As := []) (rest := []) ⟨hx, hb, hml, hown, htl⟩ (c_X10_isRivers l D ct G a fu o e_1) (cw_X10_X10_isRivers htl ⟨Nat.le_of_ble_eq_true rfl, Nat.le_of_ble_eq_true rfl⟩) ⟨Bx_blind, va_recv hK hPX_1 (ci := 10) (q0 := 0) rfl rfl, Bx_pre hPX_1 hK hN (hX.stay hS hGE)⟩ rfl rfl hl.1 rfl (lv_room (Nat.le_of_ble_eq_true rfl)) dX10_anew_1 ⟨Nat.zero_le _, Nat.zero_le _⟩) ?_
  refine lv_if_ne (tgt := 10) hx hb dX10_anew_4 (by decide) (fun c_4 => ?_) (fun c_4 => ?_)
  rotate_left 1
  · rw [if_pos c_4] at hf
    refine lv_bipush (v := (-2)) hx hb dX10_anew_7 (by decide) ?_
    rw [← hQQ]
    cases hf
    exact rw_i hx hb hr hlocks hP hS dX10_anew_9
  rw [if_neg c_4] at hf
  refine lv_aload_n hx hb dX10_anew_10 rfl (lv_at hl 0 rfl) ?_
  refine va_get (D := D) (ci := 10) (v := .ref (a 1)) (C := RX10) (T := TX10) (N := 42) hx hb htl inlX10 hown hK hP 0 rfl rfl 1 (by decide) (htl _ wq_7_0) (fun _ h9 => h9) rfl dX10_anew_11 ?_
  refine lv_bipush (v := 6) hx hb dX10_anew_14 (by decide) ?_
  obtain ⟨hi_16, hf⟩ := ob_in hf
  refine va_iald (D := D) (tys := tyl ct) hx hb hK hP 1 0 rfl rfl hi_16 dX10_anew_16 ?_
  refine lv_istore_n (lv' := [(1, .int ((o.1 1) (6 : Int32).toNatClampNeg)), (0, .ref (a 0))]) hx hb dX10_anew_17 rfl hl (by decide) rfl (fun ls hl => ?_)
  refine lv_aload_n hx hb dX10_anew_18 rfl (lv_at hl 1 rfl) ?_
  refine va_get (D := D) (ci := 10) (v := .ref (a 1)) (C := RX10) (T := TX10) (N := 42) hx hb htl inlX10 hown hK hP 0 rfl rfl 1 (by decide) (htl _ wq_7_0) (fun _ h9 => h9) rfl dX10_anew_19 ?_
  refine lv_bipush (v := 6) hx hb dX10_anew_22 (by decide) ?_
  refine lv_iconst (v := 0) hx hb dX10_anew_24 (by decide) ?_
  obtain ⟨hi_25, hf⟩ := ob_in hf
  refine va_iast (D := D) (tys := tyl ct) hx hb hK hP (hDW o) hS 1 0 rfl rfl hi_25 dX10_anew_25 (fun H_25 locs_25 hP _ hS => ?_)
  have hP : va_P D vwCl (cs10 ct a (oA o 1 (upd (o.1 1) ((6 : Int32).toNatClampNeg) (0 : Int32)))) H_25 := sa10_1 hP
  refine lv_iload_n hx hb dX10_anew_26 rfl (lv_at hl 0 rfl) ?_
  rw [← hQQ]
  cases hf
  exact rw_i hx hb hr hlocks hP hS dX10_anew_27
theorem c_X10_anew (l : Launch) (D : va_G) (ct : Nat → ClassId) (G : GT) (a : Nat → Nat) (fu : Nat) (o : Ob) {r : Int32 × Ob} (hf : p_X10_anew fu o = some r)  (hD0 : va_D (GE G) (cs10 ct a o)) : Met l yX10_anew (.code yX10_anew cX10_anew 2 (some .int) :: wsL_law) rm_X10_anew (va_Pc [.ref (a 0)] (Bx D ct G (cs10 ct a o))) (Qwr (some (.int r.1)) (fun H => va_P D vwCl (cs10 ct a r.2) H) (wA (cs10 ct a o))) 0 0 (wA (cs10 ct a o)) := by
  refine Met.ofW (cc := cX10_anew) (maxL := 2) (ret := (some .int)) (by decide) rfl ?_
  intro p e s m args below meth c s₁ B hml hv
  obtain ⟨rfl, hP, hK, hN, hX⟩ := hv
  have hts := atoms_spec (ws := .code yX10_anew cX10_anew 2 (some .int) :: wsL_law) B.pre
  rw [lg_entry_eq]
  exact b_X10_anew a fu o B.exec B.bytes B.returns hml (findClass_of_methodNamed B.named) (fun w h => hts w (List.mem_cons_of_mem _ h)) B.notSynchronized hK hN hX hP hf hD0  (lv_entry [.ref (a 0)] (n := 2) (Nat.le_of_ble_eq_true rfl))
def p_X10_goDrawn_L14 (fu : Nat)  : Nat → Ob → Int64 → Int32 → Option (Ob)
  | 0, _, _, _ => none
  | n + 1, oz, v3, v5 =>
    if (60 : Int32) < v5 then (p_X10_layLevels fu oz).bind fun r_91 => some r_91 else if (2147483648 : Int64) = 0 then none else if (65536 : Int64) = 0 then none else if (10 : Int64) = 0 then none else if inb (1 : Int32) 98 = true then if (lg_cmp (((((1103515245 * v3) + 12345) - ((1103515245 * v3) + 12345) / 2147483648 * 2147483648) / 65536) - ((((1103515245 * v3) + 12345) - ((1103515245 * v3) + 12345) / 2147483648 * 2147483648) / 65536) / 10 * 10) (((oz.1 1) (1 : Int32).toNatClampNeg).toInt64)) < 0 then if inb v5 61 = true then if inb (2 : Int32) 98 = true then if inb v5 61 = true then p_X10_goDrawn_L14 fu  n (oI (oA oz 15 (upd (oz.1 15) v5.toNatClampNeg (((oz.1 15) v5.toNatClampNeg) + ((oz.1 1) (2 : Int32).toNatClampNeg)))) 37 (((oA oz 15 (upd (oz.1 15) v5.toNatClampNeg (((oz.1 15) v5.toNatClampNeg) + ((oz.1 1) (2 : Int32).toNatClampNeg)))).1 37 0) + 1)) (((1103515245 * v3) + 12345) - ((1103515245 * v3) + 12345) / 2147483648 * 2147483648) (v5 + 1) else none else none else none else p_X10_goDrawn_L14 fu  n oz (((1103515245 * v3) + 12345) - ((1103515245 * v3) + 12345) / 2147483648 * 2147483648) (v5 + 1) else none
def p_X10_goDrawn (fu : Nat) (o : Ob) (v1 : Int64) : Option (Ob) :=
  (p_X10_asItIs fu o).bind fun r_1 => p_X10_goDrawn_L14 fu fu (oI r_1 37 (0 : Int32)) v1 1
abbrev rm_X10_goDrawn : Room := { frames := 3, cells := 0, slots := 0, locals := 66 }
set_option maxHeartbeats 4000000 in
set_option maxRecDepth 100000 in
theorem b_X10_goDrawn {p : Program} {l : Launch} {e : Env} {s : State} {m : MethodId} {args : Array Value} {below : List Frame} {meth : Method} {c : Code} {ls : Array Slot} {D : va_G} {ct : Nat → ClassId} {G : GT} (a : Nat → Nat) (fu : Nat) (o : Ob) (v1 : Int64) {r : Ob} (hx : p.tables.exec = Jvm.exec) (hb : c.code = cX10_goDrawn) (hr : meth.sig.returnType = none) (hml : c.maxLocals = 6) (hown : s.vm.findClass RX10 = some m.cls) (htl : ∀ w ∈ wsL_law, w.before args s = true) (hlocks : meth.locks = false) (hK : va_K D vwCl (tyl ct) s) (hN : ∀ w ∈ NW, va_Nw w s) (hX : SX G s s.heap) (hP0 : va_P D vwCl (cs10 ct a o) s.heap) (hf : p_X10_goDrawn fu o v1 = some r) (hD0 : va_D (GE G) (cs10 ct a o))  (hl : lv_has ls 6 [(0, .ref (a 0)), (1, .long v1)]) : W p l e rm_X10_goDrawn s m args below meth c s.heap [] 0 0 (MQ below (Qwr none (fun H => va_P D vwCl (cs10 ct a r) H) (wA (cs10 ct a o))) args s 0 0 (wA (cs10 ct a o))) (F0 m 0 ls []) := by
  generalize hQQ : MQ below (Qwr none (fun H => va_P D vwCl (cs10 ct a r) H) (wA (cs10 ct a o))) args s 0 0 (wA (cs10 ct a o)) = QQ
  have hDx : ∀ (oy : Ob), va_D (GE G) (cs10 ct a oy) := fun oy => D_cr hD0 rfl
  have hDW : ∀ (oy : Ob), va_D (wA (cs10 ct a o)) (cs10 ct a oy) := fun oy => D_cr (D_self hD0) rfl
  have hGE : ∀ q, wA (cs10 ct a o) q → GE G q := wA_GE hD0
  have hP := hP0
  have hS : va_S (wA (cs10 ct a o)) s.heap s.heap [] := va_S.rf
  have hL14 : ∀ (n : Nat) (oz : Ob) (v3 : Int64) (v5 : Int32), ∀ (H : Heap) (locs : List Loc) (ls : Array Slot), va_P D vwCl (cs10 ct a oz) H → va_S (wA (cs10 ct a o)) s.heap H locs → lv_has ls 6 [(0, .ref (a 0)), (3, .long v3), (5, .int v5)] → p_X10_goDrawn_L14 fu  n oz v3 v5 = some r → W p l e rm_X10_goDrawn s m args below meth c H locs 0 0 QQ (F0 m 14 ls []) := by
    intro  n
    induction n with
    | zero =>
      intro oz v3 v5 H locs ls hP hS hl hf 
      rw [p_X10_goDrawn_L14] at hf
      cases hf
    | succ n ih =>
      intro oz v3 v5 H locs ls hP hS hl hf 
      rw [p_X10_goDrawn_L14] at hf
      refine lv_iload hx hb dX10_goDrawn_14 (lv_at hl 2 rfl) ?_
      refine lv_bipush (v := 60) hx hb dX10_goDrawn_16 (by decide) ?_
      refine lv_icmp_gt (tgt := 90) hx hb dX10_goDrawn_18 (by decide) (fun c_18 => ?_) (fun c_18 => ?_)
      · rw [if_pos c_18] at hf
        refine lv_aload_n hx hb dX10_goDrawn_90 rfl (lv_at hl 0 rfl) ?_
        obtain ⟨r_91, e_91, hf⟩ := ob_bind hf
        have hPX_91 : va_P D vwCl (cs10 ct a oz) H := hP
        refine wr_call0 (va_runV (As := []) (rest := []) ⟨hx, hb, hml, hown, htl⟩ (c_X10_layLevels l D ct G a fu oz e_91 (hDx oz)) (cw_X10_X10_layLevels htl ⟨Nat.le_of_ble_eq_true rfl, Nat.le_of_ble_eq_true rfl⟩) ⟨Bx_blind, va_recv hK hPX_91 (ci := 10) (q0 := 0) rfl rfl, Bx_pre hPX_91 hK hN (hX.stay hS hGE)⟩ rfl rfl hl.1 rfl (lv_room (Nat.le_of_ble_eq_true rfl)) dX10_goDrawn_91 ⟨Nat.zero_le _, Nat.zero_le _⟩) hS (wA_cg rfl) (fun H_91 locs_91 hB_91 _ hk_91 hS => ?_)
        have hP : va_P D vwCl (cs10 ct a r_91) H_91 := hB_91
        rw [← hQQ]
        cases hf
        exact rw_v hx hb hr hlocks hP hS dX10_goDrawn_94
      rw [if_neg c_18] at hf
      refine lv_ldc2 (v := 1103515245) hx hb hown (htl _ wq_58_0) dX10_goDrawn_21 ?_
      refine lv_lload_n hx hb dX10_goDrawn_24 rfl (lv_at hl 1 rfl) ?_
      refine lv_lmul hx hb dX10_goDrawn_25 ?_
      refine lv_ldc2 (v := 12345) hx hb hown (htl _ wq_58_1) dX10_goDrawn_26 ?_
      refine lv_ladd hx hb dX10_goDrawn_29 ?_
      refine lv_ldc2 (v := 2147483648) hx hb hown (htl _ wq_58_2) dX10_goDrawn_30 ?_
      obtain ⟨hne_33, hf⟩ := ob_neL hf
      refine lv_lrem hx hb dX10_goDrawn_33 hne_33 ?_
      refine lv_lstore_n (lv' := [(3, .long (((1103515245 * v3) + 12345) - ((1103515245 * v3) + 12345) / 2147483648 * 2147483648)), (0, .ref (a 0)), (5, .int v5)]) hx hb dX10_goDrawn_34 rfl hl (by decide) rfl (fun ls hl => ?_)
      refine lv_lload_n hx hb dX10_goDrawn_35 rfl (lv_at hl 0 rfl) ?_
      refine lv_ldc2 (v := 65536) hx hb hown (htl _ wq_58_3) dX10_goDrawn_36 ?_
      obtain ⟨hne_39, hf⟩ := ob_neL hf
      refine lv_ldiv hx hb dX10_goDrawn_39 hne_39 ?_
      refine lv_ldc2 (v := 10) hx hb hown (htl _ wq_58_4) dX10_goDrawn_40 ?_
      obtain ⟨hne_43, hf⟩ := ob_neL hf
      refine lv_lrem hx hb dX10_goDrawn_43 hne_43 ?_
      refine lv_aload_n hx hb dX10_goDrawn_44 rfl (lv_at hl 1 rfl) ?_
      refine va_get (D := D) (ci := 10) (v := .ref (a 1)) (C := RX10) (T := TX10) (N := 42) hx hb htl inlX10 hown hK hP 0 rfl rfl 1 (by decide) (htl _ wq_7_0) (fun _ h9 => h9) rfl dX10_goDrawn_45 ?_
      refine lv_iconst (v := 1) hx hb dX10_goDrawn_48 (by decide) ?_
      obtain ⟨hi_49, hf⟩ := ob_in hf
      refine va_iald (D := D) (tys := tyl ct) hx hb hK hP 1 0 rfl rfl hi_49 dX10_goDrawn_49 ?_
      refine lv_i2l hx hb dX10_goDrawn_50 rfl ?_
      refine W.lcmp hx hb dX10_goDrawn_51 ?_
      refine lv_if_lt (tgt := 58) hx hb dX10_goDrawn_52 (by decide) (fun c_52 => ?_) (fun c_52 => ?_)
      rotate_left 1
      · rw [if_neg c_52] at hf
        refine lv_goto (tgt := 84) hx hb dX10_goDrawn_55 (by decide) ?_
        refine lv_iinc (v := (v5 + 1)) (lv' := [(5, .int (v5 + 1)), (3, .long (((1103515245 * v3) + 12345) - ((1103515245 * v3) + 12345) / 2147483648 * 2147483648)), (0, .ref (a 0))]) hx hb dX10_goDrawn_84 hl (k := 2) rfl rfl (by decide) rfl (fun ls hl => ?_)
        refine lv_goto (tgt := 14) hx hb dX10_goDrawn_87 (by decide) ?_
        exact ih oz (((1103515245 * v3) + 12345) - ((1103515245 * v3) + 12345) / 2147483648 * 2147483648) (v5 + 1) _ _ _ hP hS (lv_sub hl [2, 1, 0] rfl) hf 
      rw [if_pos c_52] at hf
      refine lv_aload_n hx hb dX10_goDrawn_58 rfl (lv_at hl 1 rfl) ?_
      refine va_get (D := D) (ci := 10) (v := .ref (a 7)) (C := RX10) (T := TX10) (N := 42) hx hb htl inlX10 hown hK hP 0 rfl rfl 15 (by decide) (htl _ wq_7_9) (fun _ h9 => h9) rfl dX10_goDrawn_59 ?_
      refine lv_iload hx hb dX10_goDrawn_62 (lv_at hl 2 rfl) ?_
      refine lv_dup2_11 hx hb dX10_goDrawn_64 rfl rfl ?_
      obtain ⟨hi_65, hf⟩ := ob_in hf
      refine va_iald (D := D) (tys := tyl ct) hx hb hK hP 7 0 rfl rfl hi_65 dX10_goDrawn_65 ?_
      refine lv_aload_n hx hb dX10_goDrawn_66 rfl (lv_at hl 1 rfl) ?_
      refine va_get (D := D) (ci := 10) (v := .ref (a 1)) (C := RX10) (T := TX10) (N := 42) hx hb htl inlX10 hown hK hP 0 rfl rfl 1 (by decide) (htl _ wq_7_0) (fun _ h9 => h9) rfl dX10_goDrawn_67 ?_
      refine lv_iconst (v := 2) hx hb dX10_goDrawn_70 (by decide) ?_
      obtain ⟨hi_71, hf⟩ := ob_in hf
      refine va_iald (D := D) (tys := tyl ct) hx hb hK hP 1 0 rfl rfl hi_71 dX10_goDrawn_71 ?_
      refine lv_iadd hx hb dX10_goDrawn_72 ?_
      obtain ⟨hi_73, hf⟩ := ob_in hf
      refine va_iast (D := D) (tys := tyl ct) hx hb hK hP (hDW oz) hS 7 0 rfl rfl hi_73 dX10_goDrawn_73 (fun H_73 locs_73 hP _ hS => ?_)
      have hP : va_P D vwCl (cs10 ct a (oA oz 15 (upd (oz.1 15) v5.toNatClampNeg (((oz.1 15) v5.toNatClampNeg) + ((oz.1 1) (2 : Int32).toNatClampNeg))))) H_73 := sa10_15 hP
      refine lv_aload_n hx hb dX10_goDrawn_74 rfl (lv_at hl 1 rfl) ?_
      refine lv_dup hx hb dX10_goDrawn_75 rfl ?_
      refine va_get (D := D) (ci := 10) (v := .int ((oA oz 15 (upd (oz.1 15) v5.toNatClampNeg (((oz.1 15) v5.toNatClampNeg) + ((oz.1 1) (2 : Int32).toNatClampNeg)))).1 37 0)) (C := RX10) (T := TX10) (N := 42) hx hb htl inlX10 hown hK hP 0 rfl rfl 37 (by decide) (htl _ wq_57_15) (fun _ h9 => h9) rfl dX10_goDrawn_76 ?_
      refine lv_iconst (v := 1) hx hb dX10_goDrawn_79 (by decide) ?_
      refine lv_iadd hx hb dX10_goDrawn_80 ?_
      refine va_put (D := D) (ci := 10) (v := .int (((oA oz 15 (upd (oz.1 15) v5.toNatClampNeg (((oz.1 15) v5.toNatClampNeg) + ((oz.1 1) (2 : Int32).toNatClampNeg)))).1 37 0) + 1)) (ty := .int) (C := RX10) (T := TX10) (N := 42) hx hb htl inlX10 tyX10 tyX10_ok nmX10 hown hK hP (hDW (oA oz 15 (upd (oz.1 15) v5.toNatClampNeg (((oz.1 15) v5.toNatClampNeg) + ((oz.1 1) (2 : Int32).toNatClampNeg))))) hS 0 rfl rfl 37 (by decide) (htl _ wq_57_15) (fun _ h9 => h9) rfl (tyX10_ok 37 (by decide)) rfl rfl (Nat.le_of_ble_eq_true rfl) dX10_goDrawn_81 (fun H_81 locs_81 hP _ hS => ?_)
      have hP : va_P D vwCl (cs10 ct a (oI (oA oz 15 (upd (oz.1 15) v5.toNatClampNeg (((oz.1 15) v5.toNatClampNeg) + ((oz.1 1) (2 : Int32).toNatClampNeg)))) 37 (((oA oz 15 (upd (oz.1 15) v5.toNatClampNeg (((oz.1 15) v5.toNatClampNeg) + ((oz.1 1) (2 : Int32).toNatClampNeg)))).1 37 0) + 1))) H_81 := st10_37 hP
      refine lv_iinc (v := (v5 + 1)) (lv' := [(5, .int (v5 + 1)), (3, .long (((1103515245 * v3) + 12345) - ((1103515245 * v3) + 12345) / 2147483648 * 2147483648)), (0, .ref (a 0))]) hx hb dX10_goDrawn_84 hl (k := 2) rfl rfl (by decide) rfl (fun ls hl => ?_)
      refine lv_goto (tgt := 14) hx hb dX10_goDrawn_87 (by decide) ?_
      exact ih (oI (oA oz 15 (upd (oz.1 15) v5.toNatClampNeg (((oz.1 15) v5.toNatClampNeg) + ((oz.1 1) (2 : Int32).toNatClampNeg)))) 37 (((oA oz 15 (upd (oz.1 15) v5.toNatClampNeg (((oz.1 15) v5.toNatClampNeg) + ((oz.1 1) (2 : Int32).toNatClampNeg)))).1 37 0) + 1)) (((1103515245 * v3) + 12345) - ((1103515245 * v3) + 12345) / 2147483648 * 2147483648) (v5 + 1) _ _ _ hP hS (lv_sub hl [2, 1, 0] rfl) hf 
  rw [p_X10_goDrawn] at hf
  refine lv_aload_n hx hb dX10_goDrawn_0 rfl (lv_at hl 0 rfl) ?_
  obtain ⟨r_1, e_1, hf⟩ := ob_bind hf
  have hPX_1 : va_P D vwCl (cs10 ct a o) s.heap := hP
  refine wr_call0 (va_runV (As := []) (rest := []) ⟨hx, hb, hml, hown, htl⟩ (c_X10_asItIs l D ct G a fu o e_1 (hDx o)) (cw_X10_X10_asItIs htl ⟨Nat.le_of_ble_eq_true rfl, Nat.le_of_ble_eq_true rfl⟩) ⟨Bx_blind, va_recv hK hPX_1 (ci := 10) (q0 := 0) rfl rfl, Bx_pre hPX_1 hK hN (hX.stay hS hGE)⟩ rfl rfl hl.1 rfl (lv_room (Nat.le_of_ble_eq_true rfl)) dX10_goDrawn_1 ⟨Nat.zero_le _, Nat.zero_le _⟩) hS (wA_cg rfl) (fun H_1 locs_1 hB_1 _ hk_1 hS => ?_)
  have hP : va_P D vwCl (cs10 ct a r_1) H_1 := hB_1
  refine lv_lload_n hx hb dX10_goDrawn_4 rfl (lv_at hl 1 rfl) ?_
  refine lv_lstore_n (lv' := [(3, .long v1), (0, .ref (a 0)), (1, .long v1)]) hx hb dX10_goDrawn_5 rfl hl (by decide) rfl (fun ls hl => ?_)
  refine lv_aload_n hx hb dX10_goDrawn_6 rfl (lv_at hl 1 rfl) ?_
  refine lv_iconst (v := 0) hx hb dX10_goDrawn_7 (by decide) ?_
  refine va_put (D := D) (ci := 10) (v := .int 0) (ty := .int) (C := RX10) (T := TX10) (N := 42) hx hb htl inlX10 tyX10 tyX10_ok nmX10 hown hK hP (hDW r_1) hS 0 rfl rfl 37 (by decide) (htl _ wq_57_15) (fun _ h9 => h9) rfl (tyX10_ok 37 (by decide)) rfl rfl (Nat.le_of_ble_eq_true rfl) dX10_goDrawn_8 (fun H_8 locs_8 hP _ hS => ?_)
  have hP : va_P D vwCl (cs10 ct a (oI r_1 37 (0 : Int32))) H_8 := st10_37 hP
  refine lv_iconst (v := 1) hx hb dX10_goDrawn_11 (by decide) ?_
  refine lv_istore (lv' := [(5, .int 1), (3, .long v1), (0, .ref (a 0)), (1, .long v1)]) hx hb dX10_goDrawn_12 hl (by decide) rfl (fun ls hl => ?_)
  exact hL14 fu (oI r_1 37 (0 : Int32)) v1 1 _ _ _ hP hS (lv_sub hl [2, 1, 0] rfl) hf 
theorem c_X10_goDrawn (l : Launch) (D : va_G) (ct : Nat → ClassId) (G : GT) (a : Nat → Nat) (fu : Nat) (o : Ob) (v1 : Int64) {r : Ob} (hf : p_X10_goDrawn fu o v1 = some r)  (hD0 : va_D (GE G) (cs10 ct a o)) : Met l yX10_goDrawn (.code yX10_goDrawn cX10_goDrawn 6 none :: wsL_law) rm_X10_goDrawn (va_Pc [.ref (a 0), .long v1] (Bx D ct G (cs10 ct a o))) (Qwr none (fun H => va_P D vwCl (cs10 ct a r) H) (wA (cs10 ct a o))) 0 0 (wA (cs10 ct a o)) := by
  refine Met.ofW (cc := cX10_goDrawn) (maxL := 6) (ret := none) (by decide) rfl ?_
  intro p e s m args below meth c s₁ B hml hv
  obtain ⟨rfl, hP, hK, hN, hX⟩ := hv
  have hts := atoms_spec (ws := .code yX10_goDrawn cX10_goDrawn 6 none :: wsL_law) B.pre
  rw [lg_entry_eq]
  exact b_X10_goDrawn a fu o v1 B.exec B.bytes B.returns hml (findClass_of_methodNamed B.named) (fun w h => hts w (List.mem_cons_of_mem _ h)) B.notSynchronized hK hN hX hP hf hD0  (lv_entry [.ref (a 0), .long v1] (n := 6) (Nat.le_of_ble_eq_true rfl))
def p_X10_isSeed (fu : Nat) (v0 : Int32) : Option (Int32) :=
  (p_X10_in fu v0.toInt64 (0 : Int64) (2000000000 : Int64)).bind fun r_6 => if r_6 = 0 ∨ r_6 = 1 then some r_6 else none
abbrev rm_X10_isSeed : Room := { frames := 1, cells := 0, slots := 0, locals := 25 }
set_option maxHeartbeats 4000000 in
set_option maxRecDepth 100000 in
theorem b_X10_isSeed {p : Program} {l : Launch} {e : Env} {s : State} {m : MethodId} {args : Array Value} {below : List Frame} {meth : Method} {c : Code} {ls : Array Slot} {D : va_G} {ct : Nat → ClassId} {G : GT}  (fu : Nat) (v0 : Int32) {r : Int32} (hx : p.tables.exec = Jvm.exec) (hb : c.code = cX10_isSeed) (hr : meth.sig.returnType = (some .boolean)) (hml : c.maxLocals = 1) (hown : s.vm.findClass RX10 = some m.cls) (htl : ∀ w ∈ wsL_law, w.before args s = true) (hlocks : meth.locks = false) (hK : va_K D vwCl (tyl ct) s) (hN : ∀ w ∈ NW, va_Nw w s) (hX : SX G s s.heap) (hP0 : va_P D vwCl ([]) s.heap) (hf : p_X10_isSeed fu v0 = some r)  (hl : lv_has ls 1 [(0, .int v0)]) : W p l e rm_X10_isSeed s m args below meth c s.heap [] 0 0 (MQ below (Qro (some (.int r))) args s 0 0 (fun _ => False)) (F0 m 0 ls []) := by
  generalize hQQ : MQ below (Qro (some (.int r))) args s 0 0 (fun _ => False) = QQ
  have hP := hP0
  rw [p_X10_isSeed] at hf
  refine lv_iload_n hx hb dX10_isSeed_0 rfl (lv_at hl 0 rfl) ?_
  refine lv_i2l hx hb dX10_isSeed_1 rfl ?_
  refine lv_lconst (v := 0) hx hb dX10_isSeed_2 (by decide) ?_
  refine lv_ldc2 (v := 2000000000) hx hb hown (htl _ wq_57_19) dX10_isSeed_3 ?_
  obtain ⟨r_6, e_6, hf⟩ := ob_bind hf
  have hPX_6 : va_P D vwCl ([]) s.heap := P_nil
  refine ro_call1 (va_runS (As := [.long v0.toInt64, .long 0, .long 2000000000]) (rest := []) ⟨hx, hb, hml, hown, htl⟩ (c_X10_in l D ct G fu v0.toInt64 (0 : Int64) (2000000000 : Int64) e_6) (cw_X10_X10_in htl ⟨Nat.le_of_ble_eq_true rfl, Nat.le_of_ble_eq_true rfl⟩) ⟨Bx_blind, Bx_pre hPX_6 hK hN hX⟩ rfl rfl hl.1 rfl (lv_room (Nat.le_of_ble_eq_true rfl)) dX10_isSeed_6 ⟨Nat.zero_le _, Nat.zero_le _⟩) ?_
  obtain ⟨hz_9, hf⟩ := ob_z hf
  rw [← hQQ]
  exact rf_z hx hb hr hlocks hz_9.1 hf dX10_isSeed_9
theorem c_X10_isSeed (l : Launch) (D : va_G) (ct : Nat → ClassId) (G : GT)  (fu : Nat) (v0 : Int32) {r : Int32} (hf : p_X10_isSeed fu v0 = some r)  : Met l yX10_isSeed (.code yX10_isSeed cX10_isSeed 1 (some .boolean) :: wsL_law) rm_X10_isSeed (va_Pc [.int v0] (Bx D ct G ([]))) (Qro (some (.int r))) 0 0 (fun _ => False) := by
  refine Met.ofW (cc := cX10_isSeed) (maxL := 1) (ret := (some .boolean)) (by decide) rfl ?_
  intro p e s m args below meth c s₁ B hml hv
  obtain ⟨rfl, hP, hK, hN, hX⟩ := hv
  have hts := atoms_spec (ws := .code yX10_isSeed cX10_isSeed 1 (some .boolean) :: wsL_law) B.pre
  rw [lg_entry_eq]
  exact b_X10_isSeed  fu v0 B.exec B.bytes B.returns hml (findClass_of_methodNamed B.named) (fun w h => hts w (List.mem_cons_of_mem _ h)) B.notSynchronized hK hN hX hP hf   (lv_entry [.int v0] (n := 1) (Nat.le_of_ble_eq_true rfl))
theorem hd_X10_isSeed : yX10_isSeed.cls ≠ "java/lang/invoke/MethodHandle" ∧ yX10_isSeed.cls ≠ "java/lang/invoke/VarHandle" ∧ (parseMethodDescriptor yX10_isSeed.desc).map (fun d => d.parameters.length) = some 1 := by decide +kernel
theorem cw_X10_X10_isSeed {R : Room} {s : State} {args : Array Value} (ht : ∀ w ∈ wsL_law, w.before args s = true) (hR : rm_X10_isSeed.frames + 1 ≤ R.frames ∧ 8 + (1 + 11) + rm_X10_isSeed.locals ≤ R.locals) : CallB R s args RX10 398 yX10_isSeed cX10_isSeed 1 (some .boolean) ((.code yX10_isSeed cX10_isSeed 1 (some .boolean)) :: wsL_law) rm_X10_isSeed 0 0 1 ∧ (Cond.static yX10_isSeed).before args s = true := va_cwS 1 ht (GS wq_57_16 wq_57_17 wq_1_5 wq_57_18) rfl rfl rfl hd_X10_isSeed hR
theorem hd_X10_goDrawn : yX10_goDrawn.cls ≠ "java/lang/invoke/MethodHandle" ∧ yX10_goDrawn.cls ≠ "java/lang/invoke/VarHandle" ∧ (parseMethodDescriptor yX10_goDrawn.desc).map (fun d => d.parameters.length) = some 1 := by decide +kernel
theorem cw_X10_X10_goDrawn {R : Room} {s : State} {args : Array Value} (ht : ∀ w ∈ wsL_law, w.before args s = true) (hR : rm_X10_goDrawn.frames + 1 ≤ R.frames ∧ 8 + (6 + 11) + rm_X10_goDrawn.locals ≤ R.locals) : CallW R s args RX10 RX10 401 yX10_goDrawn cX10_goDrawn 6 none ((.code yX10_goDrawn cX10_goDrawn 6 none) :: wsL_law) rm_X10_goDrawn 0 0 1 := cwV 1 ht (GV wq_57_20 wq_57_21 wq_57_22 wq_1_5 wq_57_23) rfl rfl rfl ⟨rfl, hd_X10_goDrawn⟩ hR
def p_X10_drawn (fu : Nat) (o : Ob) (v1 : Int32) (v2 : Int32) : Option (Int32 × Ob) :=
  (p_X10_isRivers fu o).bind fun r_1 => if r_1 = 0 then some (((-2) : Int32), o) else (p_X10_isSeed fu v1).bind fun r_8 => if r_8 = 0 then some (((-2) : Int32), o) else (p_X10_in fu v2.toInt64 (0 : Int64) (1 : Int64)).bind fun r_18 => if r_18 = 0 then some (((-2) : Int32), o) else (p_X10_goDrawn fu o v1.toInt64).bind fun r_30 => if v2 = 0 then if inb (60 : Int32) 61 = true then some (((r_30.1 16) (60 : Int32).toNatClampNeg), r_30) else none else some ((r_30.1 37 0), r_30)
abbrev rm_X10_drawn : Room := { frames := 4, cells := 0, slots := 0, locals := 91 }
set_option maxHeartbeats 4000000 in
set_option maxRecDepth 100000 in
theorem b_X10_drawn {p : Program} {l : Launch} {e : Env} {s : State} {m : MethodId} {args : Array Value} {below : List Frame} {meth : Method} {c : Code} {ls : Array Slot} {D : va_G} {ct : Nat → ClassId} {G : GT} (a : Nat → Nat) (fu : Nat) (o : Ob) (v1 : Int32) (v2 : Int32) {r : Int32 × Ob} (hx : p.tables.exec = Jvm.exec) (hb : c.code = cX10_drawn) (hr : meth.sig.returnType = (some .int)) (hml : c.maxLocals = 3) (hown : s.vm.findClass RX10 = some m.cls) (htl : ∀ w ∈ wsL_law, w.before args s = true) (hlocks : meth.locks = false) (hK : va_K D vwCl (tyl ct) s) (hN : ∀ w ∈ NW, va_Nw w s) (hX : SX G s s.heap) (hP0 : va_P D vwCl (cs10 ct a o) s.heap) (hf : p_X10_drawn fu o v1 v2 = some r) (hD0 : va_D (GE G) (cs10 ct a o))  (hl : lv_has ls 3 [(0, .ref (a 0)), (1, .int v1), (2, .int v2)]) : W p l e rm_X10_drawn s m args below meth c s.heap [] 0 0 (MQ below (Qwr (some (.int r.1)) (fun H => va_P D vwCl (cs10 ct a r.2) H) (wA (cs10 ct a o))) args s 0 0 (wA (cs10 ct a o))) (F0 m 0 ls []) := by
  generalize hQQ : MQ below (Qwr (some (.int r.1)) (fun H => va_P D vwCl (cs10 ct a r.2) H) (wA (cs10 ct a o))) args s 0 0 (wA (cs10 ct a o)) = QQ
  have hDx : ∀ (oy : Ob), va_D (GE G) (cs10 ct a oy) := fun oy => D_cr hD0 rfl
  have hDW : ∀ (oy : Ob), va_D (wA (cs10 ct a o)) (cs10 ct a oy) := fun oy => D_cr (D_self hD0) rfl
  have hGE : ∀ q, wA (cs10 ct a o) q → GE G q := wA_GE hD0
  have hP := hP0
  have hS : va_S (wA (cs10 ct a o)) s.heap s.heap [] := va_S.rf
  rw [p_X10_drawn] at hf
  refine lv_aload_n hx hb dX10_drawn_0 rfl (lv_at hl 0 rfl) ?_
  obtain ⟨r_1, e_1, hf⟩ := ob_bind hf
  have hPX_1 : va_P D vwCl (cs10 ct a o) s.heap := hP
  refine ro_call1 (va_runV (As := []) (rest := []) ⟨hx, hb, hml, hown, htl⟩ (c_X10_isRivers l D ct G a fu o e_1) (cw_X10_X10_isRivers htl ⟨Nat.le_of_ble_eq_true rfl, Nat.le_of_ble_eq_true rfl⟩) ⟨Bx_blind, va_recv hK hPX_1 (ci := 10) (q0 := 0) rfl rfl, Bx_pre hPX_1 hK hN (hX.stay hS hGE)⟩ rfl rfl hl.1 rfl (lv_room (Nat.le_of_ble_eq_true rfl)) dX10_drawn_1 ⟨Nat.zero_le _, Nat.zero_le _⟩) ?_
  refine lv_if_eq (tgt := 24) hx hb dX10_drawn_4 (by decide) (fun c_4 => ?_) (fun c_4 => ?_)
  · rw [if_pos c_4] at hf
    refine lv_bipush (v := (-2)) hx hb dX10_drawn_24 (by decide) ?_
    rw [← hQQ]
    cases hf
    exact rw_i hx hb hr hlocks hP hS dX10_drawn_26
  rw [if_neg c_4] at hf
  refine lv_iload_n hx hb dX10_drawn_7 rfl (lv_at hl 1 rfl) ?_
  obtain ⟨r_8, e_8, hf⟩ := ob_bind hf
  have hPX_8 : va_P D vwCl ([]) s.heap := P_nil
  refine ro_call1 (va_runS (As := [.int v1]) (rest := []) ⟨hx, hb, hml, hown, htl⟩ (c_X10_isSeed l D ct G fu v1 e_8) (cw_X10_X10_isSeed htl ⟨Nat.le_of_ble_eq_true rfl, Nat.le_of_ble_eq_true rfl⟩) ⟨Bx_blind, Bx_pre hPX_8 hK hN (hX.stay hS hGE)⟩ rfl rfl hl.1 rfl (lv_room (Nat.le_of_ble_eq_true rfl)) dX10_drawn_8 ⟨Nat.zero_le _, Nat.zero_le _⟩) ?_
  refine lv_if_eq (tgt := 24) hx hb dX10_drawn_11 (by decide) (fun c_11 => ?_) (fun c_11 => ?_)
  · rw [if_pos c_11] at hf
    refine lv_bipush (v := (-2)) hx hb dX10_drawn_24 (by decide) ?_
    rw [← hQQ]
    cases hf
    exact rw_i hx hb hr hlocks hP hS dX10_drawn_26
  rw [if_neg c_11] at hf
  refine lv_iload_n hx hb dX10_drawn_14 rfl (lv_at hl 2 rfl) ?_
  refine lv_i2l hx hb dX10_drawn_15 rfl ?_
  refine lv_lconst (v := 0) hx hb dX10_drawn_16 (by decide) ?_
  refine lv_lconst (v := 1) hx hb dX10_drawn_17 (by decide) ?_
  obtain ⟨r_18, e_18, hf⟩ := ob_bind hf
  have hPX_18 : va_P D vwCl ([]) s.heap := P_nil
  refine ro_call1 (va_runS (As := [.long v2.toInt64, .long 0, .long 1]) (rest := []) ⟨hx, hb, hml, hown, htl⟩ (c_X10_in l D ct G fu v2.toInt64 (0 : Int64) (1 : Int64) e_18) (cw_X10_X10_in htl ⟨Nat.le_of_ble_eq_true rfl, Nat.le_of_ble_eq_true rfl⟩) ⟨Bx_blind, Bx_pre hPX_18 hK hN (hX.stay hS hGE)⟩ rfl rfl hl.1 rfl (lv_room (Nat.le_of_ble_eq_true rfl)) dX10_drawn_18 ⟨Nat.zero_le _, Nat.zero_le _⟩) ?_
  refine lv_if_ne (tgt := 27) hx hb dX10_drawn_21 (by decide) (fun c_21 => ?_) (fun c_21 => ?_)
  rotate_left 1
  · rw [if_pos c_21] at hf
    refine lv_bipush (v := (-2)) hx hb dX10_drawn_24 (by decide) ?_
    rw [← hQQ]
    cases hf
    exact rw_i hx hb hr hlocks hP hS dX10_drawn_26
  rw [if_neg c_21] at hf
  refine lv_aload_n hx hb dX10_drawn_27 rfl (lv_at hl 0 rfl) ?_
  refine lv_iload_n hx hb dX10_drawn_28 rfl (lv_at hl 1 rfl) ?_
  refine lv_i2l hx hb dX10_drawn_29 rfl ?_
  obtain ⟨r_30, e_30, hf⟩ := ob_bind hf
  have hPX_30 : va_P D vwCl (cs10 ct a o) s.heap := hP
  refine wr_call0 (va_runV (As := [.long v1.toInt64]) (rest := []) ⟨hx, hb, hml, hown, htl⟩ (c_X10_goDrawn l D ct G a fu o v1.toInt64 e_30 (hDx o)) (cw_X10_X10_goDrawn htl ⟨Nat.le_of_ble_eq_true rfl, Nat.le_of_ble_eq_true rfl⟩) ⟨Bx_blind, va_recv hK hPX_30 (ci := 10) (q0 := 0) rfl rfl, Bx_pre hPX_30 hK hN (hX.stay hS hGE)⟩ rfl rfl hl.1 rfl (lv_room (Nat.le_of_ble_eq_true rfl)) dX10_drawn_30 ⟨Nat.zero_le _, Nat.zero_le _⟩) hS (wA_cg rfl) (fun H_30 locs_30 hB_30 _ hk_30 hS => ?_)
  have hP : va_P D vwCl (cs10 ct a r_30) H_30 := hB_30
  refine lv_iload_n hx hb dX10_drawn_33 rfl (lv_at hl 2 rfl) ?_
  refine lv_if_ne (tgt := 47) hx hb dX10_drawn_34 (by decide) (fun c_34 => ?_) (fun c_34 => ?_)
  · rw [if_neg c_34] at hf
    refine lv_aload_n hx hb dX10_drawn_47 rfl (lv_at hl 0 rfl) ?_
    refine va_get (D := D) (ci := 10) (v := .int (r_30.1 37 0)) (C := RX10) (T := TX10) (N := 42) hx hb htl inlX10 hown hK hP 0 rfl rfl 37 (by decide) (htl _ wq_57_15) (fun _ h9 => h9) rfl dX10_drawn_48 ?_
    rw [← hQQ]
    cases hf
    exact rw_i hx hb hr hlocks hP hS dX10_drawn_51
  rw [if_pos c_34] at hf
  refine lv_aload_n hx hb dX10_drawn_37 rfl (lv_at hl 0 rfl) ?_
  refine va_get (D := D) (ci := 10) (v := .ref (a 8)) (C := RX10) (T := TX10) (N := 42) hx hb htl inlX10 hown hK hP 0 rfl rfl 16 (by decide) (htl _ wq_7_10) (fun _ h9 => h9) rfl dX10_drawn_38 ?_
  refine lv_bipush (v := 60) hx hb dX10_drawn_41 (by decide) ?_
  obtain ⟨hi_43, hf⟩ := ob_in hf
  refine va_iald (D := D) (tys := tyl ct) hx hb hK hP 8 0 rfl rfl hi_43 dX10_drawn_43 ?_
  refine lv_goto (tgt := 51) hx hb dX10_drawn_44 (by decide) ?_
  rw [← hQQ]
  cases hf
  exact rw_i hx hb hr hlocks hP hS dX10_drawn_51
theorem c_X10_drawn (l : Launch) (D : va_G) (ct : Nat → ClassId) (G : GT) (a : Nat → Nat) (fu : Nat) (o : Ob) (v1 : Int32) (v2 : Int32) {r : Int32 × Ob} (hf : p_X10_drawn fu o v1 v2 = some r)  (hD0 : va_D (GE G) (cs10 ct a o)) : Met l yX10_drawn (.code yX10_drawn cX10_drawn 3 (some .int) :: wsL_law) rm_X10_drawn (va_Pc [.ref (a 0), .int v1, .int v2] (Bx D ct G (cs10 ct a o))) (Qwr (some (.int r.1)) (fun H => va_P D vwCl (cs10 ct a r.2) H) (wA (cs10 ct a o))) 0 0 (wA (cs10 ct a o)) := by
  refine Met.ofW (cc := cX10_drawn) (maxL := 3) (ret := (some .int)) (by decide) rfl ?_
  intro p e s m args below meth c s₁ B hml hv
  obtain ⟨rfl, hP, hK, hN, hX⟩ := hv
  have hts := atoms_spec (ws := .code yX10_drawn cX10_drawn 3 (some .int) :: wsL_law) B.pre
  rw [lg_entry_eq]
  exact b_X10_drawn a fu o v1 v2 B.exec B.bytes B.returns hml (findClass_of_methodNamed B.named) (fun w h => hts w (List.mem_cons_of_mem _ h)) B.notSynchronized hK hN hX hP hf hD0  (lv_entry [.ref (a 0), .int v1, .int v2] (n := 3) (Nat.le_of_ble_eq_true rfl))
def p_X10_luck_L37 (fu : Nat)  : Nat → Ob → Int32 → Int32 → Int32 → Int32 → Int32 → Option (Int32 × Ob)
  | 0, _, _, _, _, _, _ => none
  | n + 1, oz, v1, v2, v3, v4, v5 =>
    if v2 ≤ v5 then some (v4, oz) else (p_X10_goDrawn fu oz (v1.toInt64 + v5.toInt64)).bind fun r_50 => (p_X10_seaOf fu r_50 v3 (0 : Int32)).bind fun r_58 => if (1000000000 : Int32) ≤ r_58.1 then p_X10_luck_L37 fu  n r_58.2 v1 v2 v3 (v4 + 0) (v5 + 1) else p_X10_luck_L37 fu  n r_58.2 v1 v2 v3 (v4 + 1) (v5 + 1)
def p_X10_luck (fu : Nat) (o : Ob) (v1 : Int32) (v2 : Int32) (v3 : Int32) : Option (Int32 × Ob) :=
  (p_X10_isSeed fu v1).bind fun r_1 => if r_1 = 0 then some (((-2) : Int32), o) else (p_X10_in fu v2.toInt64 (1 : Int64) (20 : Int64)).bind fun r_13 => if r_13 = 0 then some (((-2) : Int32), o) else (p_X10_isReach fu o v3.toInt64).bind fun r_22 => if r_22 = 0 then some (((-2) : Int32), o) else p_X10_luck_L37 fu fu o v1 v2 v3 0 0
abbrev rm_X10_luck : Room := { frames := 4, cells := 0, slots := 0, locals := 95 }
set_option maxHeartbeats 4000000 in
set_option maxRecDepth 100000 in
theorem b_X10_luck {p : Program} {l : Launch} {e : Env} {s : State} {m : MethodId} {args : Array Value} {below : List Frame} {meth : Method} {c : Code} {ls : Array Slot} {D : va_G} {ct : Nat → ClassId} {G : GT} (a : Nat → Nat) (fu : Nat) (o : Ob) (v1 : Int32) (v2 : Int32) (v3 : Int32) {r : Int32 × Ob} (hx : p.tables.exec = Jvm.exec) (hb : c.code = cX10_luck) (hr : meth.sig.returnType = (some .int)) (hml : c.maxLocals = 6) (hown : s.vm.findClass RX10 = some m.cls) (htl : ∀ w ∈ wsL_law, w.before args s = true) (hlocks : meth.locks = false) (hK : va_K D vwCl (tyl ct) s) (hN : ∀ w ∈ NW, va_Nw w s) (hX : SX G s s.heap) (hP0 : va_P D vwCl (cs10 ct a o) s.heap) (hf : p_X10_luck fu o v1 v2 v3 = some r) (hD0 : va_D (GE G) (cs10 ct a o))  (hl : lv_has ls 6 [(0, .ref (a 0)), (1, .int v1), (2, .int v2), (3, .int v3)]) : W p l e rm_X10_luck s m args below meth c s.heap [] 0 0 (MQ below (Qwr (some (.int r.1)) (fun H => va_P D vwCl (cs10 ct a r.2) H) (wA (cs10 ct a o))) args s 0 0 (wA (cs10 ct a o))) (F0 m 0 ls []) := by
  generalize hQQ : MQ below (Qwr (some (.int r.1)) (fun H => va_P D vwCl (cs10 ct a r.2) H) (wA (cs10 ct a o))) args s 0 0 (wA (cs10 ct a o)) = QQ
  have hDx : ∀ (oy : Ob), va_D (GE G) (cs10 ct a oy) := fun oy => D_cr hD0 rfl
  have hDW : ∀ (oy : Ob), va_D (wA (cs10 ct a o)) (cs10 ct a oy) := fun oy => D_cr (D_self hD0) rfl
  have hGE : ∀ q, wA (cs10 ct a o) q → GE G q := wA_GE hD0
  have hP := hP0
  have hS : va_S (wA (cs10 ct a o)) s.heap s.heap [] := va_S.rf
  have hL37 : ∀ (n : Nat) (oz : Ob) (v1 : Int32) (v2 : Int32) (v3 : Int32) (v4 : Int32) (v5 : Int32), ∀ (H : Heap) (locs : List Loc) (ls : Array Slot), va_P D vwCl (cs10 ct a oz) H → va_S (wA (cs10 ct a o)) s.heap H locs → lv_has ls 6 [(0, .ref (a 0)), (1, .int v1), (2, .int v2), (3, .int v3), (4, .int v4), (5, .int v5)] → p_X10_luck_L37 fu  n oz v1 v2 v3 v4 v5 = some r → W p l e rm_X10_luck s m args below meth c H locs 0 0 QQ (F0 m 37 ls []) := by
    intro  n
    induction n with
    | zero =>
      intro oz v1 v2 v3 v4 v5 H locs ls hP hS hl hf 
      rw [p_X10_luck_L37] at hf
      cases hf
    | succ n ih =>
      intro oz v1 v2 v3 v4 v5 H locs ls hP hS hl hf 
      rw [p_X10_luck_L37] at hf
      refine lv_iload hx hb dX10_luck_37 (lv_at hl 5 rfl) ?_
      refine lv_iload_n hx hb dX10_luck_39 rfl (lv_at hl 2 rfl) ?_
      refine lv_icmp_ge (tgt := 81) hx hb dX10_luck_40 (by decide) (fun c_40 => ?_) (fun c_40 => ?_)
      · rw [if_pos c_40] at hf
        refine lv_iload hx hb dX10_luck_81 (lv_at hl 4 rfl) ?_
        rw [← hQQ]
        cases hf
        exact rw_i hx hb hr hlocks hP hS dX10_luck_83
      rw [if_neg c_40] at hf
      refine lv_aload_n hx hb dX10_luck_43 rfl (lv_at hl 0 rfl) ?_
      refine lv_iload_n hx hb dX10_luck_44 rfl (lv_at hl 1 rfl) ?_
      refine lv_i2l hx hb dX10_luck_45 rfl ?_
      refine lv_iload hx hb dX10_luck_46 (lv_at hl 5 rfl) ?_
      refine lv_i2l hx hb dX10_luck_48 rfl ?_
      refine lv_ladd hx hb dX10_luck_49 ?_
      obtain ⟨r_50, e_50, hf⟩ := ob_bind hf
      have hPX_50 : va_P D vwCl (cs10 ct a oz) H := hP
      refine wr_call0 (va_runV (As := [.long (v1.toInt64 + v5.toInt64)]) (rest := []) ⟨hx, hb, hml, hown, htl⟩ (c_X10_goDrawn l D ct G a fu oz (v1.toInt64 + v5.toInt64) e_50 (hDx oz)) (cw_X10_X10_goDrawn htl ⟨Nat.le_of_ble_eq_true rfl, Nat.le_of_ble_eq_true rfl⟩) ⟨Bx_blind, va_recv hK hPX_50 (ci := 10) (q0 := 0) rfl rfl, Bx_pre hPX_50 hK hN (hX.stay hS hGE)⟩ rfl rfl hl.1 rfl (lv_room (Nat.le_of_ble_eq_true rfl)) dX10_luck_50 ⟨Nat.zero_le _, Nat.zero_le _⟩) hS (wA_cg rfl) (fun H_50 locs_50 hB_50 _ hk_50 hS => ?_)
      have hP : va_P D vwCl (cs10 ct a r_50) H_50 := hB_50
      refine lv_iload hx hb dX10_luck_53 (lv_at hl 4 rfl) ?_
      refine lv_aload_n hx hb dX10_luck_55 rfl (lv_at hl 0 rfl) ?_
      refine lv_iload_n hx hb dX10_luck_56 rfl (lv_at hl 3 rfl) ?_
      refine lv_iconst (v := 0) hx hb dX10_luck_57 (by decide) ?_
      obtain ⟨r_58, e_58, hf⟩ := ob_bind hf
      have hPX_58 : va_P D vwCl (cs10 ct a r_50) H_50 := hP
      refine wr_call1 (va_runV (As := [.int v3, .int 0]) (rest := [.int v4]) ⟨hx, hb, hml, hown, htl⟩ (c_X10_seaOf l D ct G a fu r_50 v3 (0 : Int32) e_58 (hDx r_50)) (cw_X10_X10_seaOf htl ⟨Nat.le_of_ble_eq_true rfl, Nat.le_of_ble_eq_true rfl⟩) ⟨Bx_blind, va_recv hK hPX_58 (ci := 10) (q0 := 0) rfl rfl, Bx_pre hPX_58 hK hN (hX.stay hS hGE)⟩ rfl rfl hl.1 rfl (lv_room (Nat.le_of_ble_eq_true rfl)) dX10_luck_58 ⟨Nat.zero_le _, Nat.zero_le _⟩) hS (wA_cg rfl) (fun H_58 locs_58 hB_58 _ hk_58 hS => ?_)
      have hP : va_P D vwCl (cs10 ct a r_58.2) H_58 := hB_58
      refine lv_ldcw (v := 1000000000) hx hb hown (htl _ wq_41_22) dX10_luck_61 ?_
      refine lv_icmp_ge (tgt := 71) hx hb dX10_luck_64 (by decide) (fun c_64 => ?_) (fun c_64 => ?_)
      · rw [if_pos c_64] at hf
        refine lv_iconst (v := 0) hx hb dX10_luck_71 (by decide) ?_
        refine lv_iadd hx hb dX10_luck_72 ?_
        refine lv_istore (lv' := [(4, .int (v4 + 0)), (0, .ref (a 0)), (1, .int v1), (2, .int v2), (3, .int v3), (5, .int v5)]) hx hb dX10_luck_73 hl (by decide) rfl (fun ls hl => ?_)
        refine lv_iinc (v := (v5 + 1)) (lv' := [(5, .int (v5 + 1)), (4, .int (v4 + 0)), (0, .ref (a 0)), (1, .int v1), (2, .int v2), (3, .int v3)]) hx hb dX10_luck_75 hl (k := 5) rfl rfl (by decide) rfl (fun ls hl => ?_)
        refine lv_goto (tgt := 37) hx hb dX10_luck_78 (by decide) ?_
        exact ih r_58.2 v1 v2 v3 (v4 + 0) (v5 + 1) _ _ _ hP hS (lv_sub hl [2, 3, 4, 5, 1, 0] rfl) hf 
      rw [if_neg c_64] at hf
      refine lv_iconst (v := 1) hx hb dX10_luck_67 (by decide) ?_
      refine lv_goto (tgt := 72) hx hb dX10_luck_68 (by decide) ?_
      refine lv_iadd hx hb dX10_luck_72 ?_
      refine lv_istore (lv' := [(4, .int (v4 + 1)), (0, .ref (a 0)), (1, .int v1), (2, .int v2), (3, .int v3), (5, .int v5)]) hx hb dX10_luck_73 hl (by decide) rfl (fun ls hl => ?_)
      refine lv_iinc (v := (v5 + 1)) (lv' := [(5, .int (v5 + 1)), (4, .int (v4 + 1)), (0, .ref (a 0)), (1, .int v1), (2, .int v2), (3, .int v3)]) hx hb dX10_luck_75 hl (k := 5) rfl rfl (by decide) rfl (fun ls hl => ?_)
      refine lv_goto (tgt := 37) hx hb dX10_luck_78 (by decide) ?_
      exact ih r_58.2 v1 v2 v3 (v4 + 1) (v5 + 1) _ _ _ hP hS (lv_sub hl [2, 3, 4, 5, 1, 0] rfl) hf 
  rw [p_X10_luck] at hf
  refine lv_iload_n hx hb dX10_luck_0 rfl (lv_at hl 1 rfl) ?_
  obtain ⟨r_1, e_1, hf⟩ := ob_bind hf
  have hPX_1 : va_P D vwCl ([]) s.heap := P_nil
  refine ro_call1 (va_runS (As := [.int v1]) (rest := []) ⟨hx, hb, hml, hown, htl⟩ (c_X10_isSeed l D ct G fu v1 e_1) (cw_X10_X10_isSeed htl ⟨Nat.le_of_ble_eq_true rfl, Nat.le_of_ble_eq_true rfl⟩) ⟨Bx_blind, Bx_pre hPX_1 hK hN (hX.stay hS hGE)⟩ rfl rfl hl.1 rfl (lv_room (Nat.le_of_ble_eq_true rfl)) dX10_luck_1 ⟨Nat.zero_le _, Nat.zero_le _⟩) ?_
  refine lv_if_eq (tgt := 28) hx hb dX10_luck_4 (by decide) (fun c_4 => ?_) (fun c_4 => ?_)
  · rw [if_pos c_4] at hf
    refine lv_bipush (v := (-2)) hx hb dX10_luck_28 (by decide) ?_
    rw [← hQQ]
    cases hf
    exact rw_i hx hb hr hlocks hP hS dX10_luck_30
  rw [if_neg c_4] at hf
  refine lv_iload_n hx hb dX10_luck_7 rfl (lv_at hl 2 rfl) ?_
  refine lv_i2l hx hb dX10_luck_8 rfl ?_
  refine lv_lconst (v := 1) hx hb dX10_luck_9 (by decide) ?_
  refine lv_ldc2 (v := 20) hx hb hown (htl _ wq_58_13) dX10_luck_10 ?_
  obtain ⟨r_13, e_13, hf⟩ := ob_bind hf
  have hPX_13 : va_P D vwCl ([]) s.heap := P_nil
  refine ro_call1 (va_runS (As := [.long v2.toInt64, .long 1, .long 20]) (rest := []) ⟨hx, hb, hml, hown, htl⟩ (c_X10_in l D ct G fu v2.toInt64 (1 : Int64) (20 : Int64) e_13) (cw_X10_X10_in htl ⟨Nat.le_of_ble_eq_true rfl, Nat.le_of_ble_eq_true rfl⟩) ⟨Bx_blind, Bx_pre hPX_13 hK hN (hX.stay hS hGE)⟩ rfl rfl hl.1 rfl (lv_room (Nat.le_of_ble_eq_true rfl)) dX10_luck_13 ⟨Nat.zero_le _, Nat.zero_le _⟩) ?_
  refine lv_if_eq (tgt := 28) hx hb dX10_luck_16 (by decide) (fun c_16 => ?_) (fun c_16 => ?_)
  · rw [if_pos c_16] at hf
    refine lv_bipush (v := (-2)) hx hb dX10_luck_28 (by decide) ?_
    rw [← hQQ]
    cases hf
    exact rw_i hx hb hr hlocks hP hS dX10_luck_30
  rw [if_neg c_16] at hf
  refine lv_aload_n hx hb dX10_luck_19 rfl (lv_at hl 0 rfl) ?_
  refine lv_iload_n hx hb dX10_luck_20 rfl (lv_at hl 3 rfl) ?_
  refine lv_i2l hx hb dX10_luck_21 rfl ?_
  obtain ⟨r_22, e_22, hf⟩ := ob_bind hf
  have hPX_22 : va_P D vwCl (cs10 ct a o) s.heap := hP
  refine ro_call1 (va_runV (As := [.long v3.toInt64]) (rest := []) ⟨hx, hb, hml, hown, htl⟩ (c_X10_isReach l D ct G a fu o v3.toInt64 e_22) (cw_X10_X10_isReach htl ⟨Nat.le_of_ble_eq_true rfl, Nat.le_of_ble_eq_true rfl⟩) ⟨Bx_blind, va_recv hK hPX_22 (ci := 10) (q0 := 0) rfl rfl, Bx_pre hPX_22 hK hN (hX.stay hS hGE)⟩ rfl rfl hl.1 rfl (lv_room (Nat.le_of_ble_eq_true rfl)) dX10_luck_22 ⟨Nat.zero_le _, Nat.zero_le _⟩) ?_
  refine lv_if_ne (tgt := 31) hx hb dX10_luck_25 (by decide) (fun c_25 => ?_) (fun c_25 => ?_)
  rotate_left 1
  · rw [if_pos c_25] at hf
    refine lv_bipush (v := (-2)) hx hb dX10_luck_28 (by decide) ?_
    rw [← hQQ]
    cases hf
    exact rw_i hx hb hr hlocks hP hS dX10_luck_30
  rw [if_neg c_25] at hf
  refine lv_iconst (v := 0) hx hb dX10_luck_31 (by decide) ?_
  refine lv_istore (lv' := [(4, .int 0), (0, .ref (a 0)), (1, .int v1), (2, .int v2), (3, .int v3)]) hx hb dX10_luck_32 hl (by decide) rfl (fun ls hl => ?_)
  refine lv_iconst (v := 0) hx hb dX10_luck_34 (by decide) ?_
  refine lv_istore (lv' := [(5, .int 0), (4, .int 0), (0, .ref (a 0)), (1, .int v1), (2, .int v2), (3, .int v3)]) hx hb dX10_luck_35 hl (by decide) rfl (fun ls hl => ?_)
  exact hL37 fu o v1 v2 v3 0 0 _ _ _ hP hS (lv_sub hl [2, 3, 4, 5, 1, 0] rfl) hf 
theorem c_X10_luck (l : Launch) (D : va_G) (ct : Nat → ClassId) (G : GT) (a : Nat → Nat) (fu : Nat) (o : Ob) (v1 : Int32) (v2 : Int32) (v3 : Int32) {r : Int32 × Ob} (hf : p_X10_luck fu o v1 v2 v3 = some r)  (hD0 : va_D (GE G) (cs10 ct a o)) : Met l yX10_luck (.code yX10_luck cX10_luck 6 (some .int) :: wsL_law) rm_X10_luck (va_Pc [.ref (a 0), .int v1, .int v2, .int v3] (Bx D ct G (cs10 ct a o))) (Qwr (some (.int r.1)) (fun H => va_P D vwCl (cs10 ct a r.2) H) (wA (cs10 ct a o))) 0 0 (wA (cs10 ct a o)) := by
  refine Met.ofW (cc := cX10_luck) (maxL := 6) (ret := (some .int)) (by decide) rfl ?_
  intro p e s m args below meth c s₁ B hml hv
  obtain ⟨rfl, hP, hK, hN, hX⟩ := hv
  have hts := atoms_spec (ws := .code yX10_luck cX10_luck 6 (some .int) :: wsL_law) B.pre
  rw [lg_entry_eq]
  exact b_X10_luck a fu o v1 v2 v3 B.exec B.bytes B.returns hml (findClass_of_methodNamed B.named) (fun w h => hts w (List.mem_cons_of_mem _ h)) B.notSynchronized hK hN hX hP hf hD0  (lv_entry [.ref (a 0), .int v1, .int v2, .int v3] (n := 6) (Nat.le_of_ble_eq_true rfl))
def p_X10_deepen (fu : Nat) (o : Ob) (v1 : Int32) (v2 : Int32) : Option (Int32 × Ob) :=
  (p_X10_isReach fu o v1.toInt64).bind fun r_3 => if r_3 = 0 then some (((-2) : Int32), o) else (p_X10_in fu v2.toInt64 (0 : Int64) (20 : Int64)).bind fun r_15 => if r_15 = 0 then some (((-2) : Int32), o) else if inb (6 : Int32) 98 = true then if ((o.1 1) (6 : Int32).toNatClampNeg) ≤ 0 then (p_X10_of fu o v1 (2 : Int32)).bind fun r_40 => if inb ((8 + (3 * v1)) + 2) 98 = true then some (r_40, (oA o 1 (upd (o.1 1) (((8 + (3 * v1)) + 2).toNatClampNeg) v2))) else none else some (((-5) : Int32), o) else none
abbrev rm_X10_deepen : Room := { frames := 2, cells := 0, slots := 0, locals := 47 }
set_option maxHeartbeats 4000000 in
set_option maxRecDepth 100000 in
theorem b_X10_deepen {p : Program} {l : Launch} {e : Env} {s : State} {m : MethodId} {args : Array Value} {below : List Frame} {meth : Method} {c : Code} {ls : Array Slot} {D : va_G} {ct : Nat → ClassId} {G : GT} (a : Nat → Nat) (fu : Nat) (o : Ob) (v1 : Int32) (v2 : Int32) {r : Int32 × Ob} (hx : p.tables.exec = Jvm.exec) (hb : c.code = cX10_deepen) (hr : meth.sig.returnType = (some .int)) (hml : c.maxLocals = 4) (hown : s.vm.findClass RX10 = some m.cls) (htl : ∀ w ∈ wsL_law, w.before args s = true) (hlocks : meth.locks = false) (hK : va_K D vwCl (tyl ct) s) (hN : ∀ w ∈ NW, va_Nw w s) (hX : SX G s s.heap) (hP0 : va_P D vwCl (cs10 ct a o) s.heap) (hf : p_X10_deepen fu o v1 v2 = some r) (hD0 : va_D (GE G) (cs10 ct a o))  (hl : lv_has ls 4 [(0, .ref (a 0)), (1, .int v1), (2, .int v2)]) : W p l e rm_X10_deepen s m args below meth c s.heap [] 0 0 (MQ below (Qwr (some (.int r.1)) (fun H => va_P D vwCl (cs10 ct a r.2) H) (wA (cs10 ct a o))) args s 0 0 (wA (cs10 ct a o))) (F0 m 0 ls []) := by
  generalize hQQ : MQ below (Qwr (some (.int r.1)) (fun H => va_P D vwCl (cs10 ct a r.2) H) (wA (cs10 ct a o))) args s 0 0 (wA (cs10 ct a o)) = QQ
  have hDx : ∀ (oy : Ob), va_D (GE G) (cs10 ct a oy) := fun oy => D_cr hD0 rfl
  have hDW : ∀ (oy : Ob), va_D (wA (cs10 ct a o)) (cs10 ct a oy) := fun oy => D_cr (D_self hD0) rfl
  have hGE : ∀ q, wA (cs10 ct a o) q → GE G q := wA_GE hD0
  have hP := hP0
  have hS : va_S (wA (cs10 ct a o)) s.heap s.heap [] := va_S.rf
  rw [p_X10_deepen] at hf
  refine lv_aload_n hx hb dX10_deepen_0 rfl (lv_at hl 0 rfl) ?_
  refine lv_iload_n hx hb dX10_deepen_1 rfl (lv_at hl 1 rfl) ?_
  refine lv_i2l hx hb dX10_deepen_2 rfl ?_
  obtain ⟨r_3, e_3, hf⟩ := ob_bind hf
  have hPX_3 : va_P D vwCl (cs10 ct a o) s.heap := hP
  refine ro_call1 (va_runV (As := [.long v1.toInt64]) (rest := []) ⟨hx, hb, hml, hown, htl⟩ (c_X10_isReach l D ct G a fu o v1.toInt64 e_3) (cw_X10_X10_isReach htl ⟨Nat.le_of_ble_eq_true rfl, Nat.le_of_ble_eq_true rfl⟩) ⟨Bx_blind, va_recv hK hPX_3 (ci := 10) (q0 := 0) rfl rfl, Bx_pre hPX_3 hK hN (hX.stay hS hGE)⟩ rfl rfl hl.1 rfl (lv_room (Nat.le_of_ble_eq_true rfl)) dX10_deepen_3 ⟨Nat.zero_le _, Nat.zero_le _⟩) ?_
  refine lv_if_eq (tgt := 21) hx hb dX10_deepen_6 (by decide) (fun c_6 => ?_) (fun c_6 => ?_)
  · rw [if_pos c_6] at hf
    refine lv_bipush (v := (-2)) hx hb dX10_deepen_21 (by decide) ?_
    rw [← hQQ]
    cases hf
    exact rw_i hx hb hr hlocks hP hS dX10_deepen_23
  rw [if_neg c_6] at hf
  refine lv_iload_n hx hb dX10_deepen_9 rfl (lv_at hl 2 rfl) ?_
  refine lv_i2l hx hb dX10_deepen_10 rfl ?_
  refine lv_lconst (v := 0) hx hb dX10_deepen_11 (by decide) ?_
  refine lv_ldc2 (v := 20) hx hb hown (htl _ wq_58_13) dX10_deepen_12 ?_
  obtain ⟨r_15, e_15, hf⟩ := ob_bind hf
  have hPX_15 : va_P D vwCl ([]) s.heap := P_nil
  refine ro_call1 (va_runS (As := [.long v2.toInt64, .long 0, .long 20]) (rest := []) ⟨hx, hb, hml, hown, htl⟩ (c_X10_in l D ct G fu v2.toInt64 (0 : Int64) (20 : Int64) e_15) (cw_X10_X10_in htl ⟨Nat.le_of_ble_eq_true rfl, Nat.le_of_ble_eq_true rfl⟩) ⟨Bx_blind, Bx_pre hPX_15 hK hN (hX.stay hS hGE)⟩ rfl rfl hl.1 rfl (lv_room (Nat.le_of_ble_eq_true rfl)) dX10_deepen_15 ⟨Nat.zero_le _, Nat.zero_le _⟩) ?_
  refine lv_if_ne (tgt := 24) hx hb dX10_deepen_18 (by decide) (fun c_18 => ?_) (fun c_18 => ?_)
  rotate_left 1
  · rw [if_pos c_18] at hf
    refine lv_bipush (v := (-2)) hx hb dX10_deepen_21 (by decide) ?_
    rw [← hQQ]
    cases hf
    exact rw_i hx hb hr hlocks hP hS dX10_deepen_23
  rw [if_neg c_18] at hf
  refine lv_aload_n hx hb dX10_deepen_24 rfl (lv_at hl 0 rfl) ?_
  refine va_get (D := D) (ci := 10) (v := .ref (a 1)) (C := RX10) (T := TX10) (N := 42) hx hb htl inlX10 hown hK hP 0 rfl rfl 1 (by decide) (htl _ wq_7_0) (fun _ h9 => h9) rfl dX10_deepen_25 ?_
  refine lv_bipush (v := 6) hx hb dX10_deepen_28 (by decide) ?_
  obtain ⟨hi_30, hf⟩ := ob_in hf
  refine va_iald (D := D) (tys := tyl ct) hx hb hK hP 1 0 rfl rfl hi_30 dX10_deepen_30 ?_
  refine lv_if_le (tgt := 37) hx hb dX10_deepen_31 (by decide) (fun c_31 => ?_) (fun c_31 => ?_)
  rotate_left 1
  · rw [if_neg c_31] at hf
    refine lv_bipush (v := (-5)) hx hb dX10_deepen_34 (by decide) ?_
    rw [← hQQ]
    cases hf
    exact rw_i hx hb hr hlocks hP hS dX10_deepen_36
  rw [if_pos c_31] at hf
  refine lv_aload_n hx hb dX10_deepen_37 rfl (lv_at hl 0 rfl) ?_
  refine lv_iload_n hx hb dX10_deepen_38 rfl (lv_at hl 1 rfl) ?_
  refine lv_iconst (v := 2) hx hb dX10_deepen_39 (by decide) ?_
  obtain ⟨r_40, e_40, hf⟩ := ob_bind hf
  have hPX_40 : va_P D vwCl (cs10 ct a o) s.heap := hP
  refine ro_call1 (va_runV (As := [.int v1, .int 2]) (rest := []) ⟨hx, hb, hml, hown, htl⟩ (c_X10_of l D ct G a fu o v1 (2 : Int32) e_40) (cw_X10_X10_of htl ⟨Nat.le_of_ble_eq_true rfl, Nat.le_of_ble_eq_true rfl⟩) ⟨Bx_blind, va_recv hK hPX_40 (ci := 10) (q0 := 0) rfl rfl, Bx_pre hPX_40 hK hN (hX.stay hS hGE)⟩ rfl rfl hl.1 rfl (lv_room (Nat.le_of_ble_eq_true rfl)) dX10_deepen_40 ⟨Nat.zero_le _, Nat.zero_le _⟩) ?_
  refine lv_istore_n (lv' := [(3, .int r_40), (0, .ref (a 0)), (1, .int v1), (2, .int v2)]) hx hb dX10_deepen_43 rfl hl (by decide) rfl (fun ls hl => ?_)
  refine lv_aload_n hx hb dX10_deepen_44 rfl (lv_at hl 1 rfl) ?_
  refine va_get (D := D) (ci := 10) (v := .ref (a 1)) (C := RX10) (T := TX10) (N := 42) hx hb htl inlX10 hown hK hP 0 rfl rfl 1 (by decide) (htl _ wq_7_0) (fun _ h9 => h9) rfl dX10_deepen_45 ?_
  refine lv_bipush (v := 8) hx hb dX10_deepen_48 (by decide) ?_
  refine lv_iconst (v := 3) hx hb dX10_deepen_50 (by decide) ?_
  refine lv_iload_n hx hb dX10_deepen_51 rfl (lv_at hl 2 rfl) ?_
  refine lv_imul hx hb dX10_deepen_52 ?_
  refine lv_iadd hx hb dX10_deepen_53 ?_
  refine lv_iconst (v := 2) hx hb dX10_deepen_54 (by decide) ?_
  refine lv_iadd hx hb dX10_deepen_55 ?_
  refine lv_iload_n hx hb dX10_deepen_56 rfl (lv_at hl 3 rfl) ?_
  obtain ⟨hi_57, hf⟩ := ob_in hf
  refine va_iast (D := D) (tys := tyl ct) hx hb hK hP (hDW o) hS 1 0 rfl rfl hi_57 dX10_deepen_57 (fun H_57 locs_57 hP _ hS => ?_)
  have hP : va_P D vwCl (cs10 ct a (oA o 1 (upd (o.1 1) (((8 + (3 * v1)) + 2).toNatClampNeg) v2))) H_57 := sa10_1 hP
  refine lv_iload_n hx hb dX10_deepen_58 rfl (lv_at hl 0 rfl) ?_
  rw [← hQQ]
  cases hf
  exact rw_i hx hb hr hlocks hP hS dX10_deepen_59
theorem c_X10_deepen (l : Launch) (D : va_G) (ct : Nat → ClassId) (G : GT) (a : Nat → Nat) (fu : Nat) (o : Ob) (v1 : Int32) (v2 : Int32) {r : Int32 × Ob} (hf : p_X10_deepen fu o v1 v2 = some r)  (hD0 : va_D (GE G) (cs10 ct a o)) : Met l yX10_deepen (.code yX10_deepen cX10_deepen 4 (some .int) :: wsL_law) rm_X10_deepen (va_Pc [.ref (a 0), .int v1, .int v2] (Bx D ct G (cs10 ct a o))) (Qwr (some (.int r.1)) (fun H => va_P D vwCl (cs10 ct a r.2) H) (wA (cs10 ct a o))) 0 0 (wA (cs10 ct a o)) := by
  refine Met.ofW (cc := cX10_deepen) (maxL := 4) (ret := (some .int)) (by decide) rfl ?_
  intro p e s m args below meth c s₁ B hml hv
  obtain ⟨rfl, hP, hK, hN, hX⟩ := hv
  have hts := atoms_spec (ws := .code yX10_deepen cX10_deepen 4 (some .int) :: wsL_law) B.pre
  rw [lg_entry_eq]
  exact b_X10_deepen a fu o v1 v2 B.exec B.bytes B.returns hml (findClass_of_methodNamed B.named) (fun w h => hts w (List.mem_cons_of_mem _ h)) B.notSynchronized hK hN hX hP hf hD0  (lv_entry [.ref (a 0), .int v1, .int v2] (n := 4) (Nat.le_of_ble_eq_true rfl))
def p_X10_count_L53 (fu : Nat) (o : Ob)  : Nat → Int32 → Int32 → Option (Int32)
  | 0, _, _ => none
  | n + 1, v2, v3 =>
    if (4 : Int32) ≤ v3 then some v2 else if inb v3 4 = true then if ((o.1 38) v3.toNatClampNeg) = ((-1) : Int32) then p_X10_count_L53 fu o  n (v2 + 0) (v3 + 1) else p_X10_count_L53 fu o  n (v2 + 1) (v3 + 1) else none
def p_X10_count (fu : Nat) (o : Ob) (v1 : Int32) : Option (Int32) :=
  if v1 = 0 then if inb (0 : Int32) 98 = true then some ((o.1 1) (0 : Int32).toNatClampNeg) else none else (p_X10_in fu v1.toInt64 (1 : Int64) (7 : Int64)).bind fun r_17 => if r_17 = 0 then if v1 = (8 : Int32) then some (o.1 5 0) else if v1 = (9 : Int32) then p_X10_count_L53 fu o fu 0 0 else some ((-1) : Int32) else if inb v1 98 = true then some ((o.1 1) v1.toNatClampNeg) else none
abbrev rm_X10_count : Room := { frames := 1, cells := 0, slots := 0, locals := 25 }
set_option maxHeartbeats 4000000 in
set_option maxRecDepth 100000 in
theorem b_X10_count {p : Program} {l : Launch} {e : Env} {s : State} {m : MethodId} {args : Array Value} {below : List Frame} {meth : Method} {c : Code} {ls : Array Slot} {D : va_G} {ct : Nat → ClassId} {G : GT} (a : Nat → Nat) (fu : Nat) (o : Ob) (v1 : Int32) {r : Int32} (hx : p.tables.exec = Jvm.exec) (hb : c.code = cX10_count) (hr : meth.sig.returnType = (some .int)) (hml : c.maxLocals = 4) (hown : s.vm.findClass RX10 = some m.cls) (htl : ∀ w ∈ wsL_law, w.before args s = true) (hlocks : meth.locks = false) (hK : va_K D vwCl (tyl ct) s) (hN : ∀ w ∈ NW, va_Nw w s) (hX : SX G s s.heap) (hP0 : va_P D vwCl (cs10 ct a o) s.heap) (hf : p_X10_count fu o v1 = some r)  (hl : lv_has ls 4 [(0, .ref (a 0)), (1, .int v1)]) : W p l e rm_X10_count s m args below meth c s.heap [] 0 0 (MQ below (Qro (some (.int r))) args s 0 0 (fun _ => False)) (F0 m 0 ls []) := by
  generalize hQQ : MQ below (Qro (some (.int r))) args s 0 0 (fun _ => False) = QQ
  have hP := hP0
  have hL53 : ∀ (n : Nat) (v2 : Int32) (v3 : Int32), ∀ (ls : Array Slot), lv_has ls 4 [(0, .ref (a 0)), (2, .int v2), (3, .int v3)] → p_X10_count_L53 fu o  n v2 v3 = some r → W p l e rm_X10_count s m args below meth c s.heap [] 0 0 QQ (F0 m 53 ls []) := by
    intro  n
    induction n with
    | zero =>
      intro v2 v3 ls hl hf 
      rw [p_X10_count_L53] at hf
      cases hf
    | succ n ih =>
      intro v2 v3 ls hl hf 
      rw [p_X10_count_L53] at hf
      refine lv_iload_n hx hb dX10_count_53 rfl (lv_at hl 2 rfl) ?_
      refine lv_iconst (v := 4) hx hb dX10_count_54 (by decide) ?_
      refine lv_icmp_ge (tgt := 82) hx hb dX10_count_55 (by decide) (fun c_55 => ?_) (fun c_55 => ?_)
      · rw [if_pos c_55] at hf
        refine lv_iload_n hx hb dX10_count_82 rfl (lv_at hl 1 rfl) ?_
        rw [← hQQ]
        exact rf_i hx hb hr hlocks hf dX10_count_83
      rw [if_neg c_55] at hf
      refine lv_iload_n hx hb dX10_count_58 rfl (lv_at hl 1 rfl) ?_
      refine lv_aload_n hx hb dX10_count_59 rfl (lv_at hl 0 rfl) ?_
      refine va_get (D := D) (ci := 10) (v := .ref (a 20)) (C := RX10) (T := TX10) (N := 42) hx hb htl inlX10 hown hK hP 0 rfl rfl 38 (by decide) (htl _ wq_7_23) (fun _ h9 => h9) rfl dX10_count_60 ?_
      refine lv_iload_n hx hb dX10_count_63 rfl (lv_at hl 2 rfl) ?_
      obtain ⟨hi_64, hf⟩ := ob_in hf
      refine va_iald (D := D) (tys := tyl ct) hx hb hK hP 20 0 rfl rfl hi_64 dX10_count_64 ?_
      refine lv_iconst (v := (-1)) hx hb dX10_count_65 (by decide) ?_
      refine lv_icmp_ne (tgt := 73) hx hb dX10_count_66 (by decide) (fun c_66 => ?_) (fun c_66 => ?_)
      · rw [if_neg c_66] at hf
        refine lv_iconst (v := 1) hx hb dX10_count_73 (by decide) ?_
        refine lv_iadd hx hb dX10_count_74 ?_
        refine lv_istore_n (lv' := [(2, .int (v2 + 1)), (0, .ref (a 0)), (3, .int v3)]) hx hb dX10_count_75 rfl hl (by decide) rfl (fun ls hl => ?_)
        refine lv_iinc (v := (v3 + 1)) (lv' := [(3, .int (v3 + 1)), (2, .int (v2 + 1)), (0, .ref (a 0))]) hx hb dX10_count_76 hl (k := 2) rfl rfl (by decide) rfl (fun ls hl => ?_)
        refine lv_goto (tgt := 53) hx hb dX10_count_79 (by decide) ?_
        exact ih (v2 + 1) (v3 + 1) _ (lv_sub hl [2, 1, 0] rfl) hf 
      rw [if_pos c_66] at hf
      refine lv_iconst (v := 0) hx hb dX10_count_69 (by decide) ?_
      refine lv_goto (tgt := 74) hx hb dX10_count_70 (by decide) ?_
      refine lv_iadd hx hb dX10_count_74 ?_
      refine lv_istore_n (lv' := [(2, .int (v2 + 0)), (0, .ref (a 0)), (3, .int v3)]) hx hb dX10_count_75 rfl hl (by decide) rfl (fun ls hl => ?_)
      refine lv_iinc (v := (v3 + 1)) (lv' := [(3, .int (v3 + 1)), (2, .int (v2 + 0)), (0, .ref (a 0))]) hx hb dX10_count_76 hl (k := 2) rfl rfl (by decide) rfl (fun ls hl => ?_)
      refine lv_goto (tgt := 53) hx hb dX10_count_79 (by decide) ?_
      exact ih (v2 + 0) (v3 + 1) _ (lv_sub hl [2, 1, 0] rfl) hf 
  rw [p_X10_count] at hf
  refine lv_iload_n hx hb dX10_count_0 rfl (lv_at hl 1 rfl) ?_
  refine lv_if_ne (tgt := 11) hx hb dX10_count_1 (by decide) (fun c_1 => ?_) (fun c_1 => ?_)
  rotate_left 1
  · rw [if_pos c_1] at hf
    refine lv_aload_n hx hb dX10_count_4 rfl (lv_at hl 0 rfl) ?_
    refine va_get (D := D) (ci := 10) (v := .ref (a 1)) (C := RX10) (T := TX10) (N := 42) hx hb htl inlX10 hown hK hP 0 rfl rfl 1 (by decide) (htl _ wq_7_0) (fun _ h9 => h9) rfl dX10_count_5 ?_
    refine lv_iconst (v := 0) hx hb dX10_count_8 (by decide) ?_
    obtain ⟨hi_9, hf⟩ := ob_in hf
    refine va_iald (D := D) (tys := tyl ct) hx hb hK hP 1 0 rfl rfl hi_9 dX10_count_9 ?_
    rw [← hQQ]
    exact rf_i hx hb hr hlocks hf dX10_count_10
  rw [if_neg c_1] at hf
  refine lv_iload_n hx hb dX10_count_11 rfl (lv_at hl 1 rfl) ?_
  refine lv_i2l hx hb dX10_count_12 rfl ?_
  refine lv_lconst (v := 1) hx hb dX10_count_13 (by decide) ?_
  refine lv_ldc2 (v := 7) hx hb hown (htl _ wq_59_10) dX10_count_14 ?_
  obtain ⟨r_17, e_17, hf⟩ := ob_bind hf
  have hPX_17 : va_P D vwCl ([]) s.heap := P_nil
  refine ro_call1 (va_runS (As := [.long v1.toInt64, .long 1, .long 7]) (rest := []) ⟨hx, hb, hml, hown, htl⟩ (c_X10_in l D ct G fu v1.toInt64 (1 : Int64) (7 : Int64) e_17) (cw_X10_X10_in htl ⟨Nat.le_of_ble_eq_true rfl, Nat.le_of_ble_eq_true rfl⟩) ⟨Bx_blind, Bx_pre hPX_17 hK hN hX⟩ rfl rfl hl.1 rfl (lv_room (Nat.le_of_ble_eq_true rfl)) dX10_count_17 ⟨Nat.zero_le _, Nat.zero_le _⟩) ?_
  refine lv_if_eq (tgt := 30) hx hb dX10_count_20 (by decide) (fun c_20 => ?_) (fun c_20 => ?_)
  rotate_left 1
  · rw [if_neg c_20] at hf
    refine lv_aload_n hx hb dX10_count_23 rfl (lv_at hl 0 rfl) ?_
    refine va_get (D := D) (ci := 10) (v := .ref (a 1)) (C := RX10) (T := TX10) (N := 42) hx hb htl inlX10 hown hK hP 0 rfl rfl 1 (by decide) (htl _ wq_7_0) (fun _ h9 => h9) rfl dX10_count_24 ?_
    refine lv_iload_n hx hb dX10_count_27 rfl (lv_at hl 1 rfl) ?_
    obtain ⟨hi_28, hf⟩ := ob_in hf
    refine va_iald (D := D) (tys := tyl ct) hx hb hK hP 1 0 rfl rfl hi_28 dX10_count_28 ?_
    rw [← hQQ]
    exact rf_i hx hb hr hlocks hf dX10_count_29
  rw [if_pos c_20] at hf
  refine lv_iload_n hx hb dX10_count_30 rfl (lv_at hl 1 rfl) ?_
  refine lv_bipush (v := 8) hx hb dX10_count_31 (by decide) ?_
  refine lv_icmp_ne (tgt := 41) hx hb dX10_count_33 (by decide) (fun c_33 => ?_) (fun c_33 => ?_)
  rotate_left 1
  · rw [if_pos c_33] at hf
    refine lv_aload_n hx hb dX10_count_36 rfl (lv_at hl 0 rfl) ?_
    refine va_get (D := D) (ci := 10) (v := .int (o.1 5 0)) (C := RX10) (T := TX10) (N := 42) hx hb htl inlX10 hown hK hP 0 rfl rfl 5 (by decide) (htl _ wq_8_16) (fun _ h9 => h9) rfl dX10_count_37 ?_
    rw [← hQQ]
    exact rf_i hx hb hr hlocks hf dX10_count_40
  rw [if_neg c_33] at hf
  refine lv_iload_n hx hb dX10_count_41 rfl (lv_at hl 1 rfl) ?_
  refine lv_bipush (v := 9) hx hb dX10_count_42 (by decide) ?_
  refine lv_icmp_eq (tgt := 49) hx hb dX10_count_44 (by decide) (fun c_44 => ?_) (fun c_44 => ?_)
  rotate_left 1
  · rw [if_neg c_44] at hf
    refine lv_iconst (v := (-1)) hx hb dX10_count_47 (by decide) ?_
    rw [← hQQ]
    exact rf_i hx hb hr hlocks hf dX10_count_48
  rw [if_pos c_44] at hf
  refine lv_iconst (v := 0) hx hb dX10_count_49 (by decide) ?_
  refine lv_istore_n (lv' := [(2, .int 0), (0, .ref (a 0)), (1, .int v1)]) hx hb dX10_count_50 rfl hl (by decide) rfl (fun ls hl => ?_)
  refine lv_iconst (v := 0) hx hb dX10_count_51 (by decide) ?_
  refine lv_istore_n (lv' := [(3, .int 0), (2, .int 0), (0, .ref (a 0)), (1, .int v1)]) hx hb dX10_count_52 rfl hl (by decide) rfl (fun ls hl => ?_)
  exact hL53 fu 0 0 _ (lv_sub hl [2, 1, 0] rfl) hf 
theorem c_X10_count (l : Launch) (D : va_G) (ct : Nat → ClassId) (G : GT) (a : Nat → Nat) (fu : Nat) (o : Ob) (v1 : Int32) {r : Int32} (hf : p_X10_count fu o v1 = some r)  : Met l yX10_count (.code yX10_count cX10_count 4 (some .int) :: wsL_law) rm_X10_count (va_Pc [.ref (a 0), .int v1] (Bx D ct G (cs10 ct a o))) (Qro (some (.int r))) 0 0 (fun _ => False) := by
  refine Met.ofW (cc := cX10_count) (maxL := 4) (ret := (some .int)) (by decide) rfl ?_
  intro p e s m args below meth c s₁ B hml hv
  obtain ⟨rfl, hP, hK, hN, hX⟩ := hv
  have hts := atoms_spec (ws := .code yX10_count cX10_count 4 (some .int) :: wsL_law) B.pre
  rw [lg_entry_eq]
  exact b_X10_count a fu o v1 B.exec B.bytes B.returns hml (findClass_of_methodNamed B.named) (fun w h => hts w (List.mem_cons_of_mem _ h)) B.notSynchronized hK hN hX hP hf   (lv_entry [.ref (a 0), .int v1] (n := 4) (Nat.le_of_ble_eq_true rfl))
def p_X10_cut (fu : Nat) (v0 : Int64) (v2 : Int32) : Option (Int64) :=
  some ((v0 <<< ((64 - ((8 : Int32) <<< (v2 &&& 31))).toInt64 &&& 63)) >>> ((64 - ((8 : Int32) <<< (v2 &&& 31))).toInt64 &&& 63))
abbrev rm_X10_cut : Room := { frames := 0, cells := 0, slots := 0, locals := 0 }
set_option maxHeartbeats 4000000 in
set_option maxRecDepth 100000 in
theorem b_X10_cut {p : Program} {l : Launch} {e : Env} {s : State} {m : MethodId} {args : Array Value} {below : List Frame} {meth : Method} {c : Code} {ls : Array Slot} {D : va_G} {ct : Nat → ClassId} {G : GT}  (fu : Nat) (v0 : Int64) (v2 : Int32) {r : Int64} (hx : p.tables.exec = Jvm.exec) (hb : c.code = cX10_cut) (hr : meth.sig.returnType = (some .long)) (hml : c.maxLocals = 4) (hown : s.vm.findClass RX10 = some m.cls) (htl : ∀ w ∈ wsL_law, w.before args s = true) (hlocks : meth.locks = false) (hK : va_K D vwCl (tyl ct) s) (hN : ∀ w ∈ NW, va_Nw w s) (hX : SX G s s.heap) (hP0 : va_P D vwCl ([]) s.heap) (hf : p_X10_cut fu v0 v2 = some r)  (hl : lv_has ls 4 [(0, .long v0), (2, .int v2)]) : W p l e rm_X10_cut s m args below meth c s.heap [] 0 0 (MQ below (Qro (some (.long r))) args s 0 0 (fun _ => False)) (F0 m 0 ls []) := by
  generalize hQQ : MQ below (Qro (some (.long r))) args s 0 0 (fun _ => False) = QQ
  have hP := hP0
  rw [p_X10_cut] at hf
  refine lv_bipush (v := 64) hx hb dX10_cut_0 (by decide) ?_
  refine lv_bipush (v := 8) hx hb dX10_cut_2 (by decide) ?_
  refine lv_iload_n hx hb dX10_cut_4 rfl (lv_at hl 1 rfl) ?_
  refine lv_ishl hx hb dX10_cut_5 ?_
  refine lv_isub hx hb dX10_cut_6 ?_
  refine lv_istore_n (lv' := [(3, .int (64 - ((8 : Int32) <<< (v2 &&& 31)))), (0, .long v0), (2, .int v2)]) hx hb dX10_cut_7 rfl hl (by decide) rfl (fun ls hl => ?_)
  refine lv_lload_n hx hb dX10_cut_8 rfl (lv_at hl 1 rfl) ?_
  refine lv_iload_n hx hb dX10_cut_9 rfl (lv_at hl 0 rfl) ?_
  refine lv_lshl hx hb dX10_cut_10 rfl ?_
  refine lv_iload_n hx hb dX10_cut_11 rfl (lv_at hl 0 rfl) ?_
  refine lv_lshr hx hb dX10_cut_12 rfl ?_
  rw [← hQQ]
  exact rf_l hx hb hr hlocks hf dX10_cut_13
theorem c_X10_cut (l : Launch) (D : va_G) (ct : Nat → ClassId) (G : GT)  (fu : Nat) (v0 : Int64) (v2 : Int32) {r : Int64} (hf : p_X10_cut fu v0 v2 = some r)  : Met l yX10_cut (.code yX10_cut cX10_cut 4 (some .long) :: wsL_law) rm_X10_cut (va_Pc [.long v0, .int v2] (Bx D ct G ([]))) (Qro (some (.long r))) 0 0 (fun _ => False) := by
  refine Met.ofW (cc := cX10_cut) (maxL := 4) (ret := (some .long)) (by decide) rfl ?_
  intro p e s m args below meth c s₁ B hml hv
  obtain ⟨rfl, hP, hK, hN, hX⟩ := hv
  have hts := atoms_spec (ws := .code yX10_cut cX10_cut 4 (some .long) :: wsL_law) B.pre
  rw [lg_entry_eq]
  exact b_X10_cut  fu v0 v2 B.exec B.bytes B.returns hml (findClass_of_methodNamed B.named) (fun w h => hts w (List.mem_cons_of_mem _ h)) B.notSynchronized hK hN hX hP hf   (lv_entry [.long v0, .int v2] (n := 4) (Nat.le_of_ble_eq_true rfl))
def p_X10_row_L52 (fu : Nat)  : Nat → Ob → Int32 → Int32 → Option (Int32 × Ob)
  | 0, _, _, _ => none
  | n + 1, oz, v1, v4 =>
    if (60 : Int32) ≤ v4 then some ((0 : Int32), oz) else if inb ((60 * v1) + v4) 240 = true then p_X10_row_L52 fu  n (oLA oz 40 (vp_updL (oz.2 40) (((60 * v1) + v4).toNatClampNeg) (0 : Int64))) v1 (v4 + 1) else none
def p_X10_row (fu : Nat) (o : Ob) (v1 : Int32) (v2 : Int32) (v3 : Int32) : Option (Int32 × Ob) :=
  (p_X10_isSlot fu v1).bind fun r_1 => if r_1 = 0 then some (((-2) : Int32), o) else (p_X10_in fu v2.toInt64 (0 : Int64) (3 : Int64)).bind fun r_13 => if r_13 = 0 then some (((-2) : Int32), o) else if v3 ≤ (60 : Int32) then if (0 : Int32) ≤ v3 then if inb v1 4 = true then if inb v1 4 = true then p_X10_row_L52 fu fu (oA (oA o 38 (upd (o.1 38) v1.toNatClampNeg v3)) 39 (upd ((oA o 38 (upd (o.1 38) v1.toNatClampNeg v3)).1 39) v1.toNatClampNeg v2)) v1 0 else none else none else some (((-3) : Int32), o) else some (((-2) : Int32), o)
abbrev rm_X10_row : Room := { frames := 2, cells := 0, slots := 0, locals := 45 }
set_option maxHeartbeats 4000000 in
set_option maxRecDepth 100000 in
theorem b_X10_row {p : Program} {l : Launch} {e : Env} {s : State} {m : MethodId} {args : Array Value} {below : List Frame} {meth : Method} {c : Code} {ls : Array Slot} {D : va_G} {ct : Nat → ClassId} {G : GT} (a : Nat → Nat) (fu : Nat) (o : Ob) (v1 : Int32) (v2 : Int32) (v3 : Int32) {r : Int32 × Ob} (hx : p.tables.exec = Jvm.exec) (hb : c.code = cX10_row) (hr : meth.sig.returnType = (some .int)) (hml : c.maxLocals = 5) (hown : s.vm.findClass RX10 = some m.cls) (htl : ∀ w ∈ wsL_law, w.before args s = true) (hlocks : meth.locks = false) (hK : va_K D vwCl (tyl ct) s) (hN : ∀ w ∈ NW, va_Nw w s) (hX : SX G s s.heap) (hP0 : va_P D vwCl (cs10 ct a o) s.heap) (hf : p_X10_row fu o v1 v2 v3 = some r) (hD0 : va_D (GE G) (cs10 ct a o))  (hl : lv_has ls 5 [(0, .ref (a 0)), (1, .int v1), (2, .int v2), (3, .int v3)]) : W p l e rm_X10_row s m args below meth c s.heap [] 0 0 (MQ below (Qwr (some (.int r.1)) (fun H => va_P D vwCl (cs10 ct a r.2) H) (wA (cs10 ct a o))) args s 0 0 (wA (cs10 ct a o))) (F0 m 0 ls []) := by
  generalize hQQ : MQ below (Qwr (some (.int r.1)) (fun H => va_P D vwCl (cs10 ct a r.2) H) (wA (cs10 ct a o))) args s 0 0 (wA (cs10 ct a o)) = QQ
  have hDx : ∀ (oy : Ob), va_D (GE G) (cs10 ct a oy) := fun oy => D_cr hD0 rfl
  have hDW : ∀ (oy : Ob), va_D (wA (cs10 ct a o)) (cs10 ct a oy) := fun oy => D_cr (D_self hD0) rfl
  have hGE : ∀ q, wA (cs10 ct a o) q → GE G q := wA_GE hD0
  have hP := hP0
  have hS : va_S (wA (cs10 ct a o)) s.heap s.heap [] := va_S.rf
  have hL52 : ∀ (n : Nat) (oz : Ob) (v1 : Int32) (v4 : Int32), ∀ (H : Heap) (locs : List Loc) (ls : Array Slot), va_P D vwCl (cs10 ct a oz) H → va_S (wA (cs10 ct a o)) s.heap H locs → lv_has ls 5 [(0, .ref (a 0)), (1, .int v1), (4, .int v4)] → p_X10_row_L52 fu  n oz v1 v4 = some r → W p l e rm_X10_row s m args below meth c H locs 0 0 QQ (F0 m 52 ls []) := by
    intro  n
    induction n with
    | zero =>
      intro oz v1 v4 H locs ls hP hS hl hf 
      rw [p_X10_row_L52] at hf
      cases hf
    | succ n ih =>
      intro oz v1 v4 H locs ls hP hS hl hf 
      rw [p_X10_row_L52] at hf
      refine lv_iload hx hb dX10_row_52 (lv_at hl 2 rfl) ?_
      refine lv_bipush (v := 60) hx hb dX10_row_54 (by decide) ?_
      refine lv_icmp_ge (tgt := 78) hx hb dX10_row_56 (by decide) (fun c_56 => ?_) (fun c_56 => ?_)
      · rw [if_pos c_56] at hf
        refine lv_iconst (v := 0) hx hb dX10_row_78 (by decide) ?_
        rw [← hQQ]
        cases hf
        exact rw_i hx hb hr hlocks hP hS dX10_row_79
      rw [if_neg c_56] at hf
      refine lv_aload_n hx hb dX10_row_59 rfl (lv_at hl 0 rfl) ?_
      refine va_get (D := D) (ci := 10) (v := .ref (a 22)) (C := RX10) (T := TX10) (N := 42) hx hb htl inlX10 hown hK hP 0 rfl rfl 40 (by decide) (htl _ wq_8_1) (fun _ h9 => h9) rfl dX10_row_60 ?_
      refine lv_bipush (v := 60) hx hb dX10_row_63 (by decide) ?_
      refine lv_iload_n hx hb dX10_row_65 rfl (lv_at hl 1 rfl) ?_
      refine lv_imul hx hb dX10_row_66 ?_
      refine lv_iload hx hb dX10_row_67 (lv_at hl 2 rfl) ?_
      refine lv_iadd hx hb dX10_row_69 ?_
      refine lv_lconst (v := 0) hx hb dX10_row_70 (by decide) ?_
      obtain ⟨hi_71, hf⟩ := ob_in hf
      refine va_last (D := D) (tys := tyl ct) hx hb hK hP (hDW oz) hS 22 1 rfl rfl hi_71 dX10_row_71 (fun H_71 locs_71 hP _ hS => ?_)
      have hP : va_P D vwCl (cs10 ct a (oLA oz 40 (vp_updL (oz.2 40) (((60 * v1) + v4).toNatClampNeg) (0 : Int64)))) H_71 := sa10_40 hP
      refine lv_iinc (v := (v4 + 1)) (lv' := [(4, .int (v4 + 1)), (0, .ref (a 0)), (1, .int v1)]) hx hb dX10_row_72 hl (k := 2) rfl rfl (by decide) rfl (fun ls hl => ?_)
      refine lv_goto (tgt := 52) hx hb dX10_row_75 (by decide) ?_
      exact ih (oLA oz 40 (vp_updL (oz.2 40) (((60 * v1) + v4).toNatClampNeg) (0 : Int64))) v1 (v4 + 1) _ _ _ hP hS (lv_sub hl [1, 2, 0] rfl) hf 
  rw [p_X10_row] at hf
  refine lv_iload_n hx hb dX10_row_0 rfl (lv_at hl 1 rfl) ?_
  obtain ⟨r_1, e_1, hf⟩ := ob_bind hf
  have hPX_1 : va_P D vwCl ([]) s.heap := P_nil
  refine ro_call1 (va_runS (As := [.int v1]) (rest := []) ⟨hx, hb, hml, hown, htl⟩ (c_X10_isSlot l D ct G fu v1 e_1) (cw_X10_X10_isSlot htl ⟨Nat.le_of_ble_eq_true rfl, Nat.le_of_ble_eq_true rfl⟩) ⟨Bx_blind, Bx_pre hPX_1 hK hN (hX.stay hS hGE)⟩ rfl rfl hl.1 rfl (lv_room (Nat.le_of_ble_eq_true rfl)) dX10_row_1 ⟨Nat.zero_le _, Nat.zero_le _⟩) ?_
  refine lv_if_eq (tgt := 25) hx hb dX10_row_4 (by decide) (fun c_4 => ?_) (fun c_4 => ?_)
  · rw [if_pos c_4] at hf
    refine lv_bipush (v := (-2)) hx hb dX10_row_25 (by decide) ?_
    rw [← hQQ]
    cases hf
    exact rw_i hx hb hr hlocks hP hS dX10_row_27
  rw [if_neg c_4] at hf
  refine lv_iload_n hx hb dX10_row_7 rfl (lv_at hl 2 rfl) ?_
  refine lv_i2l hx hb dX10_row_8 rfl ?_
  refine lv_lconst (v := 0) hx hb dX10_row_9 (by decide) ?_
  refine lv_ldc2 (v := 3) hx hb hown (htl _ wq_21_6) dX10_row_10 ?_
  obtain ⟨r_13, e_13, hf⟩ := ob_bind hf
  have hPX_13 : va_P D vwCl ([]) s.heap := P_nil
  refine ro_call1 (va_runS (As := [.long v2.toInt64, .long 0, .long 3]) (rest := []) ⟨hx, hb, hml, hown, htl⟩ (c_X10_in l D ct G fu v2.toInt64 (0 : Int64) (3 : Int64) e_13) (cw_X10_X10_in htl ⟨Nat.le_of_ble_eq_true rfl, Nat.le_of_ble_eq_true rfl⟩) ⟨Bx_blind, Bx_pre hPX_13 hK hN (hX.stay hS hGE)⟩ rfl rfl hl.1 rfl (lv_room (Nat.le_of_ble_eq_true rfl)) dX10_row_13 ⟨Nat.zero_le _, Nat.zero_le _⟩) ?_
  refine lv_if_eq (tgt := 25) hx hb dX10_row_16 (by decide) (fun c_16 => ?_) (fun c_16 => ?_)
  · rw [if_pos c_16] at hf
    refine lv_bipush (v := (-2)) hx hb dX10_row_25 (by decide) ?_
    rw [← hQQ]
    cases hf
    exact rw_i hx hb hr hlocks hP hS dX10_row_27
  rw [if_neg c_16] at hf
  refine lv_iload_n hx hb dX10_row_19 rfl (lv_at hl 3 rfl) ?_
  refine lv_bipush (v := 60) hx hb dX10_row_20 (by decide) ?_
  refine lv_icmp_le (tgt := 28) hx hb dX10_row_22 (by decide) (fun c_22 => ?_) (fun c_22 => ?_)
  rotate_left 1
  · rw [if_neg c_22] at hf
    refine lv_bipush (v := (-2)) hx hb dX10_row_25 (by decide) ?_
    rw [← hQQ]
    cases hf
    exact rw_i hx hb hr hlocks hP hS dX10_row_27
  rw [if_pos c_22] at hf
  refine lv_iload_n hx hb dX10_row_28 rfl (lv_at hl 3 rfl) ?_
  refine lv_if_ge (tgt := 35) hx hb dX10_row_29 (by decide) (fun c_29 => ?_) (fun c_29 => ?_)
  rotate_left 1
  · rw [if_neg c_29] at hf
    refine lv_bipush (v := (-3)) hx hb dX10_row_32 (by decide) ?_
    rw [← hQQ]
    cases hf
    exact rw_i hx hb hr hlocks hP hS dX10_row_34
  rw [if_pos c_29] at hf
  refine lv_aload_n hx hb dX10_row_35 rfl (lv_at hl 0 rfl) ?_
  refine va_get (D := D) (ci := 10) (v := .ref (a 20)) (C := RX10) (T := TX10) (N := 42) hx hb htl inlX10 hown hK hP 0 rfl rfl 38 (by decide) (htl _ wq_7_23) (fun _ h9 => h9) rfl dX10_row_36 ?_
  refine lv_iload_n hx hb dX10_row_39 rfl (lv_at hl 1 rfl) ?_
  refine lv_iload_n hx hb dX10_row_40 rfl (lv_at hl 3 rfl) ?_
  obtain ⟨hi_41, hf⟩ := ob_in hf
  refine va_iast (D := D) (tys := tyl ct) hx hb hK hP (hDW o) hS 20 0 rfl rfl hi_41 dX10_row_41 (fun H_41 locs_41 hP _ hS => ?_)
  have hP : va_P D vwCl (cs10 ct a (oA o 38 (upd (o.1 38) v1.toNatClampNeg v3))) H_41 := sa10_38 hP
  refine lv_aload_n hx hb dX10_row_42 rfl (lv_at hl 0 rfl) ?_
  refine va_get (D := D) (ci := 10) (v := .ref (a 21)) (C := RX10) (T := TX10) (N := 42) hx hb htl inlX10 hown hK hP 0 rfl rfl 39 (by decide) (htl _ wq_8_0) (fun _ h9 => h9) rfl dX10_row_43 ?_
  refine lv_iload_n hx hb dX10_row_46 rfl (lv_at hl 1 rfl) ?_
  refine lv_iload_n hx hb dX10_row_47 rfl (lv_at hl 2 rfl) ?_
  obtain ⟨hi_48, hf⟩ := ob_in hf
  refine va_iast (D := D) (tys := tyl ct) hx hb hK hP (hDW (oA o 38 (upd (o.1 38) v1.toNatClampNeg v3))) hS 21 0 rfl rfl hi_48 dX10_row_48 (fun H_48 locs_48 hP _ hS => ?_)
  have hP : va_P D vwCl (cs10 ct a (oA (oA o 38 (upd (o.1 38) v1.toNatClampNeg v3)) 39 (upd ((oA o 38 (upd (o.1 38) v1.toNatClampNeg v3)).1 39) v1.toNatClampNeg v2))) H_48 := sa10_39 hP
  refine lv_iconst (v := 0) hx hb dX10_row_49 (by decide) ?_
  refine lv_istore (lv' := [(4, .int 0), (0, .ref (a 0)), (1, .int v1), (2, .int v2), (3, .int v3)]) hx hb dX10_row_50 hl (by decide) rfl (fun ls hl => ?_)
  exact hL52 fu (oA (oA o 38 (upd (o.1 38) v1.toNatClampNeg v3)) 39 (upd ((oA o 38 (upd (o.1 38) v1.toNatClampNeg v3)).1 39) v1.toNatClampNeg v2)) v1 0 _ _ _ hP hS (lv_sub hl [1, 2, 0] rfl) hf 
theorem c_X10_row (l : Launch) (D : va_G) (ct : Nat → ClassId) (G : GT) (a : Nat → Nat) (fu : Nat) (o : Ob) (v1 : Int32) (v2 : Int32) (v3 : Int32) {r : Int32 × Ob} (hf : p_X10_row fu o v1 v2 v3 = some r)  (hD0 : va_D (GE G) (cs10 ct a o)) : Met l yX10_row (.code yX10_row cX10_row 5 (some .int) :: wsL_law) rm_X10_row (va_Pc [.ref (a 0), .int v1, .int v2, .int v3] (Bx D ct G (cs10 ct a o))) (Qwr (some (.int r.1)) (fun H => va_P D vwCl (cs10 ct a r.2) H) (wA (cs10 ct a o))) 0 0 (wA (cs10 ct a o)) := by
  refine Met.ofW (cc := cX10_row) (maxL := 5) (ret := (some .int)) (by decide) rfl ?_
  intro p e s m args below meth c s₁ B hml hv
  obtain ⟨rfl, hP, hK, hN, hX⟩ := hv
  have hts := atoms_spec (ws := .code yX10_row cX10_row 5 (some .int) :: wsL_law) B.pre
  rw [lg_entry_eq]
  exact b_X10_row a fu o v1 v2 v3 B.exec B.bytes B.returns hml (findClass_of_methodNamed B.named) (fun w h => hts w (List.mem_cons_of_mem _ h)) B.notSynchronized hK hN hX hP hf hD0  (lv_entry [.ref (a 0), .int v1, .int v2, .int v3] (n := 5) (Nat.le_of_ble_eq_true rfl))
theorem hd_X10_cut : yX10_cut.cls ≠ "java/lang/invoke/MethodHandle" ∧ yX10_cut.cls ≠ "java/lang/invoke/VarHandle" ∧ (parseMethodDescriptor yX10_cut.desc).map (fun d => d.parameters.length) = some 2 := by decide +kernel
theorem cw_X10_X10_cut {R : Room} {s : State} {args : Array Value} (ht : ∀ w ∈ wsL_law, w.before args s = true) (hR : rm_X10_cut.frames + 1 ≤ R.frames ∧ 8 + (4 + 11) + rm_X10_cut.locals ≤ R.locals) : CallB R s args RX10 409 yX10_cut cX10_cut 4 (some .long) ((.code yX10_cut cX10_cut 4 (some .long)) :: wsL_law) rm_X10_cut 0 0 2 ∧ (Cond.static yX10_cut).before args s = true := va_cwS 2 ht (GS wq_61_8 wq_61_9 wq_1_5 wq_61_10) rfl rfl rfl hd_X10_cut hR
def p_X10_write (fu : Nat) (o : Ob) (v1 : Int32) (v2 : Int32) (v3 : Int64) : Option (Int32 × Ob) :=
  (p_X10_isSlot fu v1).bind fun r_1 => if r_1 = 0 then some (((-2) : Int32), o) else if inb v1 4 = true then if ((o.1 38) v1.toNatClampNeg) = ((-1) : Int32) then some (((-6) : Int32), o) else if inb v1 4 = true then (p_X10_in fu v2.toInt64 (0 : Int64) ((((o.1 38) v1.toNatClampNeg) - 1).toInt64)).bind fun r_35 => if r_35 = 0 then some (((-7) : Int32), o) else if inb v1 4 = true then (p_X10_cut fu v3 ((o.1 39) v1.toNatClampNeg)).bind fun r_61 => if inb ((60 * v1) + v2) 240 = true then some ((0 : Int32), (oLA o 40 (vp_updL (o.2 40) (((60 * v1) + v2).toNatClampNeg) r_61))) else none else none else none else none
abbrev rm_X10_write : Room := { frames := 2, cells := 0, slots := 0, locals := 45 }
set_option maxHeartbeats 4000000 in
set_option maxRecDepth 100000 in
theorem b_X10_write {p : Program} {l : Launch} {e : Env} {s : State} {m : MethodId} {args : Array Value} {below : List Frame} {meth : Method} {c : Code} {ls : Array Slot} {D : va_G} {ct : Nat → ClassId} {G : GT} (a : Nat → Nat) (fu : Nat) (o : Ob) (v1 : Int32) (v2 : Int32) (v3 : Int64) {r : Int32 × Ob} (hx : p.tables.exec = Jvm.exec) (hb : c.code = cX10_write) (hr : meth.sig.returnType = (some .int)) (hml : c.maxLocals = 5) (hown : s.vm.findClass RX10 = some m.cls) (htl : ∀ w ∈ wsL_law, w.before args s = true) (hlocks : meth.locks = false) (hK : va_K D vwCl (tyl ct) s) (hN : ∀ w ∈ NW, va_Nw w s) (hX : SX G s s.heap) (hP0 : va_P D vwCl (cs10 ct a o) s.heap) (hf : p_X10_write fu o v1 v2 v3 = some r) (hD0 : va_D (GE G) (cs10 ct a o))  (hl : lv_has ls 5 [(0, .ref (a 0)), (1, .int v1), (2, .int v2), (3, .long v3)]) : W p l e rm_X10_write s m args below meth c s.heap [] 0 0 (MQ below (Qwr (some (.int r.1)) (fun H => va_P D vwCl (cs10 ct a r.2) H) (wA (cs10 ct a o))) args s 0 0 (wA (cs10 ct a o))) (F0 m 0 ls []) := by
  generalize hQQ : MQ below (Qwr (some (.int r.1)) (fun H => va_P D vwCl (cs10 ct a r.2) H) (wA (cs10 ct a o))) args s 0 0 (wA (cs10 ct a o)) = QQ
  have hDx : ∀ (oy : Ob), va_D (GE G) (cs10 ct a oy) := fun oy => D_cr hD0 rfl
  have hDW : ∀ (oy : Ob), va_D (wA (cs10 ct a o)) (cs10 ct a oy) := fun oy => D_cr (D_self hD0) rfl
  have hGE : ∀ q, wA (cs10 ct a o) q → GE G q := wA_GE hD0
  have hP := hP0
  have hS : va_S (wA (cs10 ct a o)) s.heap s.heap [] := va_S.rf
  rw [p_X10_write] at hf
  refine lv_iload_n hx hb dX10_write_0 rfl (lv_at hl 1 rfl) ?_
  obtain ⟨r_1, e_1, hf⟩ := ob_bind hf
  have hPX_1 : va_P D vwCl ([]) s.heap := P_nil
  refine ro_call1 (va_runS (As := [.int v1]) (rest := []) ⟨hx, hb, hml, hown, htl⟩ (c_X10_isSlot l D ct G fu v1 e_1) (cw_X10_X10_isSlot htl ⟨Nat.le_of_ble_eq_true rfl, Nat.le_of_ble_eq_true rfl⟩) ⟨Bx_blind, Bx_pre hPX_1 hK hN (hX.stay hS hGE)⟩ rfl rfl hl.1 rfl (lv_room (Nat.le_of_ble_eq_true rfl)) dX10_write_1 ⟨Nat.zero_le _, Nat.zero_le _⟩) ?_
  refine lv_if_ne (tgt := 10) hx hb dX10_write_4 (by decide) (fun c_4 => ?_) (fun c_4 => ?_)
  rotate_left 1
  · rw [if_pos c_4] at hf
    refine lv_bipush (v := (-2)) hx hb dX10_write_7 (by decide) ?_
    rw [← hQQ]
    cases hf
    exact rw_i hx hb hr hlocks hP hS dX10_write_9
  rw [if_neg c_4] at hf
  refine lv_aload_n hx hb dX10_write_10 rfl (lv_at hl 0 rfl) ?_
  refine va_get (D := D) (ci := 10) (v := .ref (a 20)) (C := RX10) (T := TX10) (N := 42) hx hb htl inlX10 hown hK hP 0 rfl rfl 38 (by decide) (htl _ wq_7_23) (fun _ h9 => h9) rfl dX10_write_11 ?_
  refine lv_iload_n hx hb dX10_write_14 rfl (lv_at hl 1 rfl) ?_
  obtain ⟨hi_15, hf⟩ := ob_in hf
  refine va_iald (D := D) (tys := tyl ct) hx hb hK hP 20 0 rfl rfl hi_15 dX10_write_15 ?_
  refine lv_iconst (v := (-1)) hx hb dX10_write_16 (by decide) ?_
  refine lv_icmp_ne (tgt := 23) hx hb dX10_write_17 (by decide) (fun c_17 => ?_) (fun c_17 => ?_)
  rotate_left 1
  · rw [if_pos c_17] at hf
    refine lv_bipush (v := (-6)) hx hb dX10_write_20 (by decide) ?_
    rw [← hQQ]
    cases hf
    exact rw_i hx hb hr hlocks hP hS dX10_write_22
  rw [if_neg c_17] at hf
  refine lv_iload_n hx hb dX10_write_23 rfl (lv_at hl 2 rfl) ?_
  refine lv_i2l hx hb dX10_write_24 rfl ?_
  refine lv_lconst (v := 0) hx hb dX10_write_25 (by decide) ?_
  refine lv_aload_n hx hb dX10_write_26 rfl (lv_at hl 0 rfl) ?_
  refine va_get (D := D) (ci := 10) (v := .ref (a 20)) (C := RX10) (T := TX10) (N := 42) hx hb htl inlX10 hown hK hP 0 rfl rfl 38 (by decide) (htl _ wq_7_23) (fun _ h9 => h9) rfl dX10_write_27 ?_
  refine lv_iload_n hx hb dX10_write_30 rfl (lv_at hl 1 rfl) ?_
  obtain ⟨hi_31, hf⟩ := ob_in hf
  refine va_iald (D := D) (tys := tyl ct) hx hb hK hP 20 0 rfl rfl hi_31 dX10_write_31 ?_
  refine lv_iconst (v := 1) hx hb dX10_write_32 (by decide) ?_
  refine lv_isub hx hb dX10_write_33 ?_
  refine lv_i2l hx hb dX10_write_34 rfl ?_
  obtain ⟨r_35, e_35, hf⟩ := ob_bind hf
  have hPX_35 : va_P D vwCl ([]) s.heap := P_nil
  refine ro_call1 (va_runS (As := [.long v2.toInt64, .long 0, .long ((((o.1 38) v1.toNatClampNeg) - 1).toInt64)]) (rest := []) ⟨hx, hb, hml, hown, htl⟩ (c_X10_in l D ct G fu v2.toInt64 (0 : Int64) ((((o.1 38) v1.toNatClampNeg) - 1).toInt64) e_35) (cw_X10_X10_in htl ⟨Nat.le_of_ble_eq_true rfl, Nat.le_of_ble_eq_true rfl⟩) ⟨Bx_blind, Bx_pre hPX_35 hK hN (hX.stay hS hGE)⟩ rfl rfl hl.1 rfl (lv_room (Nat.le_of_ble_eq_true rfl)) dX10_write_35 ⟨Nat.zero_le _, Nat.zero_le _⟩) ?_
  refine lv_if_ne (tgt := 44) hx hb dX10_write_38 (by decide) (fun c_38 => ?_) (fun c_38 => ?_)
  rotate_left 1
  · rw [if_pos c_38] at hf
    refine lv_bipush (v := (-7)) hx hb dX10_write_41 (by decide) ?_
    rw [← hQQ]
    cases hf
    exact rw_i hx hb hr hlocks hP hS dX10_write_43
  rw [if_neg c_38] at hf
  refine lv_aload_n hx hb dX10_write_44 rfl (lv_at hl 0 rfl) ?_
  refine va_get (D := D) (ci := 10) (v := .ref (a 22)) (C := RX10) (T := TX10) (N := 42) hx hb htl inlX10 hown hK hP 0 rfl rfl 40 (by decide) (htl _ wq_8_1) (fun _ h9 => h9) rfl dX10_write_45 ?_
  refine lv_bipush (v := 60) hx hb dX10_write_48 (by decide) ?_
  refine lv_iload_n hx hb dX10_write_50 rfl (lv_at hl 1 rfl) ?_
  refine lv_imul hx hb dX10_write_51 ?_
  refine lv_iload_n hx hb dX10_write_52 rfl (lv_at hl 2 rfl) ?_
  refine lv_iadd hx hb dX10_write_53 ?_
  refine lv_lload_n hx hb dX10_write_54 rfl (lv_at hl 3 rfl) ?_
  refine lv_aload_n hx hb dX10_write_55 rfl (lv_at hl 0 rfl) ?_
  refine va_get (D := D) (ci := 10) (v := .ref (a 21)) (C := RX10) (T := TX10) (N := 42) hx hb htl inlX10 hown hK hP 0 rfl rfl 39 (by decide) (htl _ wq_8_0) (fun _ h9 => h9) rfl dX10_write_56 ?_
  refine lv_iload_n hx hb dX10_write_59 rfl (lv_at hl 1 rfl) ?_
  obtain ⟨hi_60, hf⟩ := ob_in hf
  refine va_iald (D := D) (tys := tyl ct) hx hb hK hP 21 0 rfl rfl hi_60 dX10_write_60 ?_
  obtain ⟨r_61, e_61, hf⟩ := ob_bind hf
  have hPX_61 : va_P D vwCl ([]) s.heap := P_nil
  refine ro_call1 (va_runS (As := [.long v3, .int ((o.1 39) v1.toNatClampNeg)]) (rest := [.int ((60 * v1) + v2), .ref (a 22)]) ⟨hx, hb, hml, hown, htl⟩ (c_X10_cut l D ct G fu v3 ((o.1 39) v1.toNatClampNeg) e_61) (cw_X10_X10_cut htl ⟨Nat.le_of_ble_eq_true rfl, Nat.le_of_ble_eq_true rfl⟩) ⟨Bx_blind, Bx_pre hPX_61 hK hN (hX.stay hS hGE)⟩ rfl rfl hl.1 rfl (lv_room (Nat.le_of_ble_eq_true rfl)) dX10_write_61 ⟨Nat.zero_le _, Nat.zero_le _⟩) ?_
  obtain ⟨hi_64, hf⟩ := ob_in hf
  refine va_last (D := D) (tys := tyl ct) hx hb hK hP (hDW o) hS 22 1 rfl rfl hi_64 dX10_write_64 (fun H_64 locs_64 hP _ hS => ?_)
  have hP : va_P D vwCl (cs10 ct a (oLA o 40 (vp_updL (o.2 40) (((60 * v1) + v2).toNatClampNeg) r_61))) H_64 := sa10_40 hP
  refine lv_iconst (v := 0) hx hb dX10_write_65 (by decide) ?_
  rw [← hQQ]
  cases hf
  exact rw_i hx hb hr hlocks hP hS dX10_write_66
theorem c_X10_write (l : Launch) (D : va_G) (ct : Nat → ClassId) (G : GT) (a : Nat → Nat) (fu : Nat) (o : Ob) (v1 : Int32) (v2 : Int32) (v3 : Int64) {r : Int32 × Ob} (hf : p_X10_write fu o v1 v2 v3 = some r)  (hD0 : va_D (GE G) (cs10 ct a o)) : Met l yX10_write (.code yX10_write cX10_write 5 (some .int) :: wsL_law) rm_X10_write (va_Pc [.ref (a 0), .int v1, .int v2, .long v3] (Bx D ct G (cs10 ct a o))) (Qwr (some (.int r.1)) (fun H => va_P D vwCl (cs10 ct a r.2) H) (wA (cs10 ct a o))) 0 0 (wA (cs10 ct a o)) := by
  refine Met.ofW (cc := cX10_write) (maxL := 5) (ret := (some .int)) (by decide) rfl ?_
  intro p e s m args below meth c s₁ B hml hv
  obtain ⟨rfl, hP, hK, hN, hX⟩ := hv
  have hts := atoms_spec (ws := .code yX10_write cX10_write 5 (some .int) :: wsL_law) B.pre
  rw [lg_entry_eq]
  exact b_X10_write a fu o v1 v2 v3 B.exec B.bytes B.returns hml (findClass_of_methodNamed B.named) (fun w h => hts w (List.mem_cons_of_mem _ h)) B.notSynchronized hK hN hX hP hf hD0  (lv_entry [.ref (a 0), .int v1, .int v2, .long v3] (n := 5) (Nat.le_of_ble_eq_true rfl))
def p_X10_paste_L113 (fu : Nat) (c147 : Ob → Int32 → Int32 → Int32 → Option (Int32 × Ob)) : Nat → Ob → Int32 → Int32 → Int32 → Int32 → Int32 → Int32 → Option (Int32 × Ob)
  | 0, _, _, _, _, _, _, _ => none
  | n + 1, oz, v1, v2, v3, v4, v5, v6 =>
    if v5 ≤ v6 then c147 oz v3 v4 v5 else if inb (((60 * v1) + v2) + v6) 240 = true then if inb v6 60 = true then p_X10_paste_L113 fu c147 n (oLA oz 41 (vp_updL (oz.2 41) v6.toNatClampNeg ((oz.2 40) (((60 * v1) + v2) + v6).toNatClampNeg))) v1 v2 v3 v4 v5 (v6 + 1) else none else none
def p_X10_paste_L150 (fu : Nat)  : Nat → Ob → Int32 → Int32 → Int32 → Int32 → Option (Int32 × Ob)
  | 0, _, _, _, _, _ => none
  | n + 1, oz, v3, v4, v5, v6 =>
    if v5 ≤ v6 then some ((0 : Int32), oz) else if inb v6 60 = true then if inb (((60 * v3) + v4) + v6) 240 = true then p_X10_paste_L150 fu  n (oLA oz 40 (vp_updL (oz.2 40) ((((60 * v3) + v4) + v6).toNatClampNeg) ((oz.2 41) v6.toNatClampNeg))) v3 v4 v5 (v6 + 1) else none else none
def p_X10_paste (fu : Nat) (o : Ob) (v1 : Int32) (v2 : Int32) (v3 : Int32) (v4 : Int32) (v5 : Int32) : Option (Int32 × Ob) :=
  (p_X10_isSlot fu v1).bind fun r_1 => if r_1 = 0 then some (((-2) : Int32), o) else (p_X10_isSlot fu v3).bind fun r_8 => if r_8 = 0 then some (((-2) : Int32), o) else if inb v1 4 = true then if ((o.1 38) v1.toNatClampNeg) = ((-1) : Int32) then some (((-6) : Int32), o) else if inb v3 4 = true then if ((o.1 38) v3.toNatClampNeg) = ((-1) : Int32) then some (((-6) : Int32), o) else if inb v1 4 = true then if inb v3 4 = true then if ((o.1 39) v1.toNatClampNeg) = ((o.1 39) v3.toNatClampNeg) then if v2 < 0 then some (((-7) : Int32), o) else if v4 < 0 then some (((-7) : Int32), o) else if v5 < 0 then some (((-7) : Int32), o) else if inb v1 4 = true then if (0 : Int32) < (lg_cmp (v2.toInt64 + v5.toInt64) (((o.1 38) v1.toNatClampNeg).toInt64)) then some (((-7) : Int32), o) else if inb v3 4 = true then if (lg_cmp (v4.toInt64 + v5.toInt64) (((o.1 38) v3.toNatClampNeg).toInt64)) ≤ 0 then p_X10_paste_L113 fu (fun oz v3 v4 v5 => p_X10_paste_L150 fu fu oz v3 v4 v5 0) fu o v1 v2 v3 v4 v5 0 else some (((-7) : Int32), o) else none else none else some (((-8) : Int32), o) else none else none else none else none
abbrev rm_X10_paste : Room := { frames := 2, cells := 0, slots := 0, locals := 45 }
set_option maxHeartbeats 4000000 in
set_option maxRecDepth 100000 in
theorem b_X10_paste {p : Program} {l : Launch} {e : Env} {s : State} {m : MethodId} {args : Array Value} {below : List Frame} {meth : Method} {c : Code} {ls : Array Slot} {D : va_G} {ct : Nat → ClassId} {G : GT} (a : Nat → Nat) (fu : Nat) (o : Ob) (v1 : Int32) (v2 : Int32) (v3 : Int32) (v4 : Int32) (v5 : Int32) {r : Int32 × Ob} (hx : p.tables.exec = Jvm.exec) (hb : c.code = cX10_paste) (hr : meth.sig.returnType = (some .int)) (hml : c.maxLocals = 7) (hown : s.vm.findClass RX10 = some m.cls) (htl : ∀ w ∈ wsL_law, w.before args s = true) (hlocks : meth.locks = false) (hK : va_K D vwCl (tyl ct) s) (hN : ∀ w ∈ NW, va_Nw w s) (hX : SX G s s.heap) (hP0 : va_P D vwCl (cs10 ct a o) s.heap) (hf : p_X10_paste fu o v1 v2 v3 v4 v5 = some r) (hD0 : va_D (GE G) (cs10 ct a o))  (hl : lv_has ls 7 [(0, .ref (a 0)), (1, .int v1), (2, .int v2), (3, .int v3), (4, .int v4), (5, .int v5)]) : W p l e rm_X10_paste s m args below meth c s.heap [] 0 0 (MQ below (Qwr (some (.int r.1)) (fun H => va_P D vwCl (cs10 ct a r.2) H) (wA (cs10 ct a o))) args s 0 0 (wA (cs10 ct a o))) (F0 m 0 ls []) := by
  generalize hQQ : MQ below (Qwr (some (.int r.1)) (fun H => va_P D vwCl (cs10 ct a r.2) H) (wA (cs10 ct a o))) args s 0 0 (wA (cs10 ct a o)) = QQ
  have hDx : ∀ (oy : Ob), va_D (GE G) (cs10 ct a oy) := fun oy => D_cr hD0 rfl
  have hDW : ∀ (oy : Ob), va_D (wA (cs10 ct a o)) (cs10 ct a oy) := fun oy => D_cr (D_self hD0) rfl
  have hGE : ∀ q, wA (cs10 ct a o) q → GE G q := wA_GE hD0
  have hP := hP0
  have hS : va_S (wA (cs10 ct a o)) s.heap s.heap [] := va_S.rf
  have hL113 : ∀ (c147 : Ob → Int32 → Int32 → Int32 → Option (Int32 × Ob)) (n : Nat) (oz : Ob) (v1 : Int32) (v2 : Int32) (v3 : Int32) (v4 : Int32) (v5 : Int32) (v6 : Int32), ∀ (H : Heap) (locs : List Loc) (ls : Array Slot), va_P D vwCl (cs10 ct a oz) H → va_S (wA (cs10 ct a o)) s.heap H locs → lv_has ls 7 [(0, .ref (a 0)), (1, .int v1), (2, .int v2), (3, .int v3), (4, .int v4), (5, .int v5), (6, .int v6)] → p_X10_paste_L113 fu c147 n oz v1 v2 v3 v4 v5 v6 = some r → (∀ (oz : Ob) (v3 : Int32) (v4 : Int32) (v5 : Int32), ∀ (H : Heap) (locs : List Loc) (ls : Array Slot), va_P D vwCl (cs10 ct a oz) H → va_S (wA (cs10 ct a o)) s.heap H locs → lv_has ls 7 [(0, .ref (a 0)), (3, .int v3), (4, .int v4), (5, .int v5)] → c147 oz v3 v4 v5 = some r → W p l e rm_X10_paste s m args below meth c H locs 0 0 QQ (F0 m 147 ls [])) → W p l e rm_X10_paste s m args below meth c H locs 0 0 QQ (F0 m 113 ls []) := by
    intro c147 n
    induction n with
    | zero =>
      intro oz v1 v2 v3 v4 v5 v6 H locs ls hP hS hl hf k147
      rw [p_X10_paste_L113] at hf
      cases hf
    | succ n ih =>
      intro oz v1 v2 v3 v4 v5 v6 H locs ls hP hS hl hf k147
      rw [p_X10_paste_L113] at hf
      refine lv_iload hx hb dX10_paste_113 (lv_at hl 6 rfl) ?_
      refine lv_iload hx hb dX10_paste_115 (lv_at hl 5 rfl) ?_
      refine lv_icmp_ge (tgt := 147) hx hb dX10_paste_117 (by decide) (fun c_117 => ?_) (fun c_117 => ?_)
      · rw [if_pos c_117] at hf
        exact k147 oz v3 v4 v5 _ _ _ hP hS (lv_sub hl [0, 3, 4, 5] rfl) hf
      rw [if_neg c_117] at hf
      refine lv_aload_n hx hb dX10_paste_120 rfl (lv_at hl 0 rfl) ?_
      refine va_get (D := D) (ci := 10) (v := .ref (a 23)) (C := RX10) (T := TX10) (N := 42) hx hb htl inlX10 hown hK hP 0 rfl rfl 41 (by decide) (htl _ wq_8_2) (fun _ h9 => h9) rfl dX10_paste_121 ?_
      refine lv_iload hx hb dX10_paste_124 (lv_at hl 6 rfl) ?_
      refine lv_aload_n hx hb dX10_paste_126 rfl (lv_at hl 0 rfl) ?_
      refine va_get (D := D) (ci := 10) (v := .ref (a 22)) (C := RX10) (T := TX10) (N := 42) hx hb htl inlX10 hown hK hP 0 rfl rfl 40 (by decide) (htl _ wq_8_1) (fun _ h9 => h9) rfl dX10_paste_127 ?_
      refine lv_bipush (v := 60) hx hb dX10_paste_130 (by decide) ?_
      refine lv_iload_n hx hb dX10_paste_132 rfl (lv_at hl 1 rfl) ?_
      refine lv_imul hx hb dX10_paste_133 ?_
      refine lv_iload_n hx hb dX10_paste_134 rfl (lv_at hl 2 rfl) ?_
      refine lv_iadd hx hb dX10_paste_135 ?_
      refine lv_iload hx hb dX10_paste_136 (lv_at hl 6 rfl) ?_
      refine lv_iadd hx hb dX10_paste_138 ?_
      obtain ⟨hi_139, hf⟩ := ob_in hf
      refine va_lald (D := D) (tys := tyl ct) hx hb hK hP 22 1 rfl rfl hi_139 dX10_paste_139 ?_
      obtain ⟨hi_140, hf⟩ := ob_in hf
      refine va_last (D := D) (tys := tyl ct) hx hb hK hP (hDW oz) hS 23 1 rfl rfl hi_140 dX10_paste_140 (fun H_140 locs_140 hP _ hS => ?_)
      have hP : va_P D vwCl (cs10 ct a (oLA oz 41 (vp_updL (oz.2 41) v6.toNatClampNeg ((oz.2 40) (((60 * v1) + v2) + v6).toNatClampNeg)))) H_140 := sa10_41 hP
      refine lv_iinc (v := (v6 + 1)) (lv' := [(6, .int (v6 + 1)), (0, .ref (a 0)), (1, .int v1), (2, .int v2), (3, .int v3), (4, .int v4), (5, .int v5)]) hx hb dX10_paste_141 hl (k := 6) rfl rfl (by decide) rfl (fun ls hl => ?_)
      refine lv_goto (tgt := 113) hx hb dX10_paste_144 (by decide) ?_
      exact ih (oLA oz 41 (vp_updL (oz.2 41) v6.toNatClampNeg ((oz.2 40) (((60 * v1) + v2) + v6).toNatClampNeg))) v1 v2 v3 v4 v5 (v6 + 1) _ _ _ hP hS (lv_sub hl [1, 2, 3, 4, 5, 6, 0] rfl) hf k147
  have hL150 : ∀ (n : Nat) (oz : Ob) (v3 : Int32) (v4 : Int32) (v5 : Int32) (v6 : Int32), ∀ (H : Heap) (locs : List Loc) (ls : Array Slot), va_P D vwCl (cs10 ct a oz) H → va_S (wA (cs10 ct a o)) s.heap H locs → lv_has ls 7 [(0, .ref (a 0)), (3, .int v3), (4, .int v4), (5, .int v5), (6, .int v6)] → p_X10_paste_L150 fu  n oz v3 v4 v5 v6 = some r → W p l e rm_X10_paste s m args below meth c H locs 0 0 QQ (F0 m 150 ls []) := by
    intro  n
    induction n with
    | zero =>
      intro oz v3 v4 v5 v6 H locs ls hP hS hl hf 
      rw [p_X10_paste_L150] at hf
      cases hf
    | succ n ih =>
      intro oz v3 v4 v5 v6 H locs ls hP hS hl hf 
      rw [p_X10_paste_L150] at hf
      refine lv_iload hx hb dX10_paste_150 (lv_at hl 4 rfl) ?_
      refine lv_iload hx hb dX10_paste_152 (lv_at hl 3 rfl) ?_
      refine lv_icmp_ge (tgt := 185) hx hb dX10_paste_154 (by decide) (fun c_154 => ?_) (fun c_154 => ?_)
      · rw [if_pos c_154] at hf
        refine lv_iconst (v := 0) hx hb dX10_paste_185 (by decide) ?_
        rw [← hQQ]
        cases hf
        exact rw_i hx hb hr hlocks hP hS dX10_paste_186
      rw [if_neg c_154] at hf
      refine lv_aload_n hx hb dX10_paste_157 rfl (lv_at hl 0 rfl) ?_
      refine va_get (D := D) (ci := 10) (v := .ref (a 22)) (C := RX10) (T := TX10) (N := 42) hx hb htl inlX10 hown hK hP 0 rfl rfl 40 (by decide) (htl _ wq_8_1) (fun _ h9 => h9) rfl dX10_paste_158 ?_
      refine lv_bipush (v := 60) hx hb dX10_paste_161 (by decide) ?_
      refine lv_iload_n hx hb dX10_paste_163 rfl (lv_at hl 1 rfl) ?_
      refine lv_imul hx hb dX10_paste_164 ?_
      refine lv_iload hx hb dX10_paste_165 (lv_at hl 2 rfl) ?_
      refine lv_iadd hx hb dX10_paste_167 ?_
      refine lv_iload hx hb dX10_paste_168 (lv_at hl 4 rfl) ?_
      refine lv_iadd hx hb dX10_paste_170 ?_
      refine lv_aload_n hx hb dX10_paste_171 rfl (lv_at hl 0 rfl) ?_
      refine va_get (D := D) (ci := 10) (v := .ref (a 23)) (C := RX10) (T := TX10) (N := 42) hx hb htl inlX10 hown hK hP 0 rfl rfl 41 (by decide) (htl _ wq_8_2) (fun _ h9 => h9) rfl dX10_paste_172 ?_
      refine lv_iload hx hb dX10_paste_175 (lv_at hl 4 rfl) ?_
      obtain ⟨hi_177, hf⟩ := ob_in hf
      refine va_lald (D := D) (tys := tyl ct) hx hb hK hP 23 1 rfl rfl hi_177 dX10_paste_177 ?_
      obtain ⟨hi_178, hf⟩ := ob_in hf
      refine va_last (D := D) (tys := tyl ct) hx hb hK hP (hDW oz) hS 22 1 rfl rfl hi_178 dX10_paste_178 (fun H_178 locs_178 hP _ hS => ?_)
      have hP : va_P D vwCl (cs10 ct a (oLA oz 40 (vp_updL (oz.2 40) ((((60 * v3) + v4) + v6).toNatClampNeg) ((oz.2 41) v6.toNatClampNeg)))) H_178 := sa10_40 hP
      refine lv_iinc (v := (v6 + 1)) (lv' := [(6, .int (v6 + 1)), (0, .ref (a 0)), (3, .int v3), (4, .int v4), (5, .int v5)]) hx hb dX10_paste_179 hl (k := 4) rfl rfl (by decide) rfl (fun ls hl => ?_)
      refine lv_goto (tgt := 150) hx hb dX10_paste_182 (by decide) ?_
      exact ih (oLA oz 40 (vp_updL (oz.2 40) ((((60 * v3) + v4) + v6).toNatClampNeg) ((oz.2 41) v6.toNatClampNeg))) v3 v4 v5 (v6 + 1) _ _ _ hP hS (lv_sub hl [1, 2, 3, 4, 0] rfl) hf 
  rw [p_X10_paste] at hf
  refine lv_iload_n hx hb dX10_paste_0 rfl (lv_at hl 1 rfl) ?_
  obtain ⟨r_1, e_1, hf⟩ := ob_bind hf
  have hPX_1 : va_P D vwCl ([]) s.heap := P_nil
  refine ro_call1 (va_runS (As := [.int v1]) (rest := []) ⟨hx, hb, hml, hown, htl⟩ (c_X10_isSlot l D ct G fu v1 e_1) (cw_X10_X10_isSlot htl ⟨Nat.le_of_ble_eq_true rfl, Nat.le_of_ble_eq_true rfl⟩) ⟨Bx_blind, Bx_pre hPX_1 hK hN (hX.stay hS hGE)⟩ rfl rfl hl.1 rfl (lv_room (Nat.le_of_ble_eq_true rfl)) dX10_paste_1 ⟨Nat.zero_le _, Nat.zero_le _⟩) ?_
  refine lv_if_eq (tgt := 14) hx hb dX10_paste_4 (by decide) (fun c_4 => ?_) (fun c_4 => ?_)
  · rw [if_pos c_4] at hf
    refine lv_bipush (v := (-2)) hx hb dX10_paste_14 (by decide) ?_
    rw [← hQQ]
    cases hf
    exact rw_i hx hb hr hlocks hP hS dX10_paste_16
  rw [if_neg c_4] at hf
  refine lv_iload_n hx hb dX10_paste_7 rfl (lv_at hl 3 rfl) ?_
  obtain ⟨r_8, e_8, hf⟩ := ob_bind hf
  have hPX_8 : va_P D vwCl ([]) s.heap := P_nil
  refine ro_call1 (va_runS (As := [.int v3]) (rest := []) ⟨hx, hb, hml, hown, htl⟩ (c_X10_isSlot l D ct G fu v3 e_8) (cw_X10_X10_isSlot htl ⟨Nat.le_of_ble_eq_true rfl, Nat.le_of_ble_eq_true rfl⟩) ⟨Bx_blind, Bx_pre hPX_8 hK hN (hX.stay hS hGE)⟩ rfl rfl hl.1 rfl (lv_room (Nat.le_of_ble_eq_true rfl)) dX10_paste_8 ⟨Nat.zero_le _, Nat.zero_le _⟩) ?_
  refine lv_if_ne (tgt := 17) hx hb dX10_paste_11 (by decide) (fun c_11 => ?_) (fun c_11 => ?_)
  rotate_left 1
  · rw [if_pos c_11] at hf
    refine lv_bipush (v := (-2)) hx hb dX10_paste_14 (by decide) ?_
    rw [← hQQ]
    cases hf
    exact rw_i hx hb hr hlocks hP hS dX10_paste_16
  rw [if_neg c_11] at hf
  refine lv_aload_n hx hb dX10_paste_17 rfl (lv_at hl 0 rfl) ?_
  refine va_get (D := D) (ci := 10) (v := .ref (a 20)) (C := RX10) (T := TX10) (N := 42) hx hb htl inlX10 hown hK hP 0 rfl rfl 38 (by decide) (htl _ wq_7_23) (fun _ h9 => h9) rfl dX10_paste_18 ?_
  refine lv_iload_n hx hb dX10_paste_21 rfl (lv_at hl 1 rfl) ?_
  obtain ⟨hi_22, hf⟩ := ob_in hf
  refine va_iald (D := D) (tys := tyl ct) hx hb hK hP 20 0 rfl rfl hi_22 dX10_paste_22 ?_
  refine lv_iconst (v := (-1)) hx hb dX10_paste_23 (by decide) ?_
  refine lv_icmp_eq (tgt := 37) hx hb dX10_paste_24 (by decide) (fun c_24 => ?_) (fun c_24 => ?_)
  · rw [if_pos c_24] at hf
    refine lv_bipush (v := (-6)) hx hb dX10_paste_37 (by decide) ?_
    rw [← hQQ]
    cases hf
    exact rw_i hx hb hr hlocks hP hS dX10_paste_39
  rw [if_neg c_24] at hf
  refine lv_aload_n hx hb dX10_paste_27 rfl (lv_at hl 0 rfl) ?_
  refine va_get (D := D) (ci := 10) (v := .ref (a 20)) (C := RX10) (T := TX10) (N := 42) hx hb htl inlX10 hown hK hP 0 rfl rfl 38 (by decide) (htl _ wq_7_23) (fun _ h9 => h9) rfl dX10_paste_28 ?_
  refine lv_iload_n hx hb dX10_paste_31 rfl (lv_at hl 3 rfl) ?_
  obtain ⟨hi_32, hf⟩ := ob_in hf
  refine va_iald (D := D) (tys := tyl ct) hx hb hK hP 20 0 rfl rfl hi_32 dX10_paste_32 ?_
  refine lv_iconst (v := (-1)) hx hb dX10_paste_33 (by decide) ?_
  refine lv_icmp_ne (tgt := 40) hx hb dX10_paste_34 (by decide) (fun c_34 => ?_) (fun c_34 => ?_)
  rotate_left 1
  · rw [if_pos c_34] at hf
    refine lv_bipush (v := (-6)) hx hb dX10_paste_37 (by decide) ?_
    rw [← hQQ]
    cases hf
    exact rw_i hx hb hr hlocks hP hS dX10_paste_39
  rw [if_neg c_34] at hf
  refine lv_aload_n hx hb dX10_paste_40 rfl (lv_at hl 0 rfl) ?_
  refine va_get (D := D) (ci := 10) (v := .ref (a 21)) (C := RX10) (T := TX10) (N := 42) hx hb htl inlX10 hown hK hP 0 rfl rfl 39 (by decide) (htl _ wq_8_0) (fun _ h9 => h9) rfl dX10_paste_41 ?_
  refine lv_iload_n hx hb dX10_paste_44 rfl (lv_at hl 1 rfl) ?_
  obtain ⟨hi_45, hf⟩ := ob_in hf
  refine va_iald (D := D) (tys := tyl ct) hx hb hK hP 21 0 rfl rfl hi_45 dX10_paste_45 ?_
  refine lv_aload_n hx hb dX10_paste_46 rfl (lv_at hl 0 rfl) ?_
  refine va_get (D := D) (ci := 10) (v := .ref (a 21)) (C := RX10) (T := TX10) (N := 42) hx hb htl inlX10 hown hK hP 0 rfl rfl 39 (by decide) (htl _ wq_8_0) (fun _ h9 => h9) rfl dX10_paste_47 ?_
  refine lv_iload_n hx hb dX10_paste_50 rfl (lv_at hl 3 rfl) ?_
  obtain ⟨hi_51, hf⟩ := ob_in hf
  refine va_iald (D := D) (tys := tyl ct) hx hb hK hP 21 0 rfl rfl hi_51 dX10_paste_51 ?_
  refine lv_icmp_eq (tgt := 58) hx hb dX10_paste_52 (by decide) (fun c_52 => ?_) (fun c_52 => ?_)
  rotate_left 1
  · rw [if_neg c_52] at hf
    refine lv_bipush (v := (-8)) hx hb dX10_paste_55 (by decide) ?_
    rw [← hQQ]
    cases hf
    exact rw_i hx hb hr hlocks hP hS dX10_paste_57
  rw [if_pos c_52] at hf
  refine lv_iload_n hx hb dX10_paste_58 rfl (lv_at hl 2 rfl) ?_
  refine lv_if_lt (tgt := 107) hx hb dX10_paste_59 (by decide) (fun c_59 => ?_) (fun c_59 => ?_)
  · rw [if_pos c_59] at hf
    refine lv_bipush (v := (-7)) hx hb dX10_paste_107 (by decide) ?_
    rw [← hQQ]
    cases hf
    exact rw_i hx hb hr hlocks hP hS dX10_paste_109
  rw [if_neg c_59] at hf
  refine lv_iload hx hb dX10_paste_62 (lv_at hl 4 rfl) ?_
  refine lv_if_lt (tgt := 107) hx hb dX10_paste_64 (by decide) (fun c_64 => ?_) (fun c_64 => ?_)
  · rw [if_pos c_64] at hf
    refine lv_bipush (v := (-7)) hx hb dX10_paste_107 (by decide) ?_
    rw [← hQQ]
    cases hf
    exact rw_i hx hb hr hlocks hP hS dX10_paste_109
  rw [if_neg c_64] at hf
  refine lv_iload hx hb dX10_paste_67 (lv_at hl 5 rfl) ?_
  refine lv_if_lt (tgt := 107) hx hb dX10_paste_69 (by decide) (fun c_69 => ?_) (fun c_69 => ?_)
  · rw [if_pos c_69] at hf
    refine lv_bipush (v := (-7)) hx hb dX10_paste_107 (by decide) ?_
    rw [← hQQ]
    cases hf
    exact rw_i hx hb hr hlocks hP hS dX10_paste_109
  rw [if_neg c_69] at hf
  refine lv_iload_n hx hb dX10_paste_72 rfl (lv_at hl 2 rfl) ?_
  refine lv_i2l hx hb dX10_paste_73 rfl ?_
  refine lv_iload hx hb dX10_paste_74 (lv_at hl 5 rfl) ?_
  refine lv_i2l hx hb dX10_paste_76 rfl ?_
  refine lv_ladd hx hb dX10_paste_77 ?_
  refine lv_aload_n hx hb dX10_paste_78 rfl (lv_at hl 0 rfl) ?_
  refine va_get (D := D) (ci := 10) (v := .ref (a 20)) (C := RX10) (T := TX10) (N := 42) hx hb htl inlX10 hown hK hP 0 rfl rfl 38 (by decide) (htl _ wq_7_23) (fun _ h9 => h9) rfl dX10_paste_79 ?_
  refine lv_iload_n hx hb dX10_paste_82 rfl (lv_at hl 1 rfl) ?_
  obtain ⟨hi_83, hf⟩ := ob_in hf
  refine va_iald (D := D) (tys := tyl ct) hx hb hK hP 20 0 rfl rfl hi_83 dX10_paste_83 ?_
  refine lv_i2l hx hb dX10_paste_84 rfl ?_
  refine W.lcmp hx hb dX10_paste_85 ?_
  refine lv_if_gt (tgt := 107) hx hb dX10_paste_86 (by decide) (fun c_86 => ?_) (fun c_86 => ?_)
  · rw [if_pos c_86] at hf
    refine lv_bipush (v := (-7)) hx hb dX10_paste_107 (by decide) ?_
    rw [← hQQ]
    cases hf
    exact rw_i hx hb hr hlocks hP hS dX10_paste_109
  rw [if_neg c_86] at hf
  refine lv_iload hx hb dX10_paste_89 (lv_at hl 4 rfl) ?_
  refine lv_i2l hx hb dX10_paste_91 rfl ?_
  refine lv_iload hx hb dX10_paste_92 (lv_at hl 5 rfl) ?_
  refine lv_i2l hx hb dX10_paste_94 rfl ?_
  refine lv_ladd hx hb dX10_paste_95 ?_
  refine lv_aload_n hx hb dX10_paste_96 rfl (lv_at hl 0 rfl) ?_
  refine va_get (D := D) (ci := 10) (v := .ref (a 20)) (C := RX10) (T := TX10) (N := 42) hx hb htl inlX10 hown hK hP 0 rfl rfl 38 (by decide) (htl _ wq_7_23) (fun _ h9 => h9) rfl dX10_paste_97 ?_
  refine lv_iload_n hx hb dX10_paste_100 rfl (lv_at hl 3 rfl) ?_
  obtain ⟨hi_101, hf⟩ := ob_in hf
  refine va_iald (D := D) (tys := tyl ct) hx hb hK hP 20 0 rfl rfl hi_101 dX10_paste_101 ?_
  refine lv_i2l hx hb dX10_paste_102 rfl ?_
  refine W.lcmp hx hb dX10_paste_103 ?_
  refine lv_if_le (tgt := 110) hx hb dX10_paste_104 (by decide) (fun c_104 => ?_) (fun c_104 => ?_)
  rotate_left 1
  · rw [if_neg c_104] at hf
    refine lv_bipush (v := (-7)) hx hb dX10_paste_107 (by decide) ?_
    rw [← hQQ]
    cases hf
    exact rw_i hx hb hr hlocks hP hS dX10_paste_109
  rw [if_pos c_104] at hf
  refine lv_iconst (v := 0) hx hb dX10_paste_110 (by decide) ?_
  refine lv_istore (lv' := [(6, .int 0), (0, .ref (a 0)), (1, .int v1), (2, .int v2), (3, .int v3), (4, .int v4), (5, .int v5)]) hx hb dX10_paste_111 hl (by decide) rfl (fun ls hl => ?_)
  refine hL113 _ fu o v1 v2 v3 v4 v5 0 _ _ _ hP hS (lv_sub hl [1, 2, 3, 4, 5, 6, 0] rfl) hf (fun oz v3 v4 v5 H locs ls hP hS hl hf => ?_)
  refine lv_iconst (v := 0) hx hb dX10_paste_147 (by decide) ?_
  refine lv_istore (lv' := [(6, .int 0), (0, .ref (a 0)), (3, .int v3), (4, .int v4), (5, .int v5)]) hx hb dX10_paste_148 hl (by decide) rfl (fun ls hl => ?_)
  exact hL150 fu oz v3 v4 v5 0 _ _ _ hP hS (lv_sub hl [1, 2, 3, 4, 0] rfl) hf 
theorem c_X10_paste (l : Launch) (D : va_G) (ct : Nat → ClassId) (G : GT) (a : Nat → Nat) (fu : Nat) (o : Ob) (v1 : Int32) (v2 : Int32) (v3 : Int32) (v4 : Int32) (v5 : Int32) {r : Int32 × Ob} (hf : p_X10_paste fu o v1 v2 v3 v4 v5 = some r)  (hD0 : va_D (GE G) (cs10 ct a o)) : Met l yX10_paste (.code yX10_paste cX10_paste 7 (some .int) :: wsL_law) rm_X10_paste (va_Pc [.ref (a 0), .int v1, .int v2, .int v3, .int v4, .int v5] (Bx D ct G (cs10 ct a o))) (Qwr (some (.int r.1)) (fun H => va_P D vwCl (cs10 ct a r.2) H) (wA (cs10 ct a o))) 0 0 (wA (cs10 ct a o)) := by
  refine Met.ofW (cc := cX10_paste) (maxL := 7) (ret := (some .int)) (by decide) rfl ?_
  intro p e s m args below meth c s₁ B hml hv
  obtain ⟨rfl, hP, hK, hN, hX⟩ := hv
  have hts := atoms_spec (ws := .code yX10_paste cX10_paste 7 (some .int) :: wsL_law) B.pre
  rw [lg_entry_eq]
  exact b_X10_paste a fu o v1 v2 v3 v4 v5 B.exec B.bytes B.returns hml (findClass_of_methodNamed B.named) (fun w h => hts w (List.mem_cons_of_mem _ h)) B.notSynchronized hK hN hX hP hf hD0  (lv_entry [.ref (a 0), .int v1, .int v2, .int v3, .int v4, .int v5] (n := 7) (Nat.le_of_ble_eq_true rfl))
