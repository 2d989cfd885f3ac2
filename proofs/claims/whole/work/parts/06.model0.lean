def p_X10_in (fu : Nat) (v0 : Int64) (v2 : Int64) (v4 : Int64) : Option (Int32) :=
  if (lg_cmp v0 v2) < 0 then some (0 : Int32) else if (0 : Int32) < (lg_cmp v0 v4) then some (0 : Int32) else some (1 : Int32)
abbrev rm_X10_in : Room := { frames := 0, cells := 0, slots := 0, locals := 0 }
set_option maxHeartbeats 4000000 in
set_option maxRecDepth 100000 in
theorem b_X10_in {p : Program} {l : Launch} {e : Env} {s : State} {m : MethodId} {args : Array Value} {below : List Frame} {meth : Method} {c : Code} {ls : Array Slot} {D : va_G} {ct : Nat → ClassId} {G : GT}  (fu : Nat) (v0 : Int64) (v2 : Int64) (v4 : Int64) {r : Int32} (hx : p.tables.exec = Jvm.exec) (hb : c.code = cX10_in) (hr : meth.sig.returnType = (some .boolean)) (hml : c.maxLocals = 6) (hown : s.vm.findClass RX10 = some m.cls) (htl : ∀ w ∈ wsL_law, w.before args s = true) (hlocks : meth.locks = false) (hK : va_K D vwCl (tyl ct) s) (hN : ∀ w ∈ NW, va_Nw w s) (hX : SX G s s.heap) (hP0 : va_P D vwCl ([]) s.heap) (hf : p_X10_in fu v0 v2 v4 = some r)  (hl : lv_has ls 6 [(0, .long v0), (2, .long v2), (4, .long v4)]) : W p l e rm_X10_in s m args below meth c s.heap [] 0 0 (MQ below (Qro (some (.int r))) args s 0 0 (fun _ => False)) (F0 m 0 ls []) := by
  generalize hQQ : MQ below (Qro (some (.int r))) args s 0 0 (fun _ => False) = QQ
  have hP := hP0
  rw [p_X10_in] at hf
  refine lv_lload_n hx hb dX10_in_0 rfl (lv_at hl 0 rfl) ?_
  refine lv_lload_n hx hb dX10_in_1 rfl (lv_at hl 1 rfl) ?_
  refine W.lcmp hx hb dX10_in_2 ?_
  refine lv_if_lt (tgt := 17) hx hb dX10_in_3 (by decide) (fun c_3 => ?_) (fun c_3 => ?_)
  · rw [if_pos c_3] at hf
    refine lv_iconst (v := 0) hx hb dX10_in_17 (by decide) ?_
    rw [← hQQ]
    exact rf_z hx hb hr hlocks rfl hf dX10_in_18
  rw [if_neg c_3] at hf
  refine lv_lload_n hx hb dX10_in_6 rfl (lv_at hl 0 rfl) ?_
  refine lv_lload hx hb dX10_in_7 (lv_at hl 2 rfl) ?_
  refine W.lcmp hx hb dX10_in_9 ?_
  refine lv_if_gt (tgt := 17) hx hb dX10_in_10 (by decide) (fun c_10 => ?_) (fun c_10 => ?_)
  · rw [if_pos c_10] at hf
    refine lv_iconst (v := 0) hx hb dX10_in_17 (by decide) ?_
    rw [← hQQ]
    exact rf_z hx hb hr hlocks rfl hf dX10_in_18
  rw [if_neg c_10] at hf
  refine lv_iconst (v := 1) hx hb dX10_in_13 (by decide) ?_
  refine lv_goto (tgt := 18) hx hb dX10_in_14 (by decide) ?_
  rw [← hQQ]
  exact rf_z hx hb hr hlocks rfl hf dX10_in_18
theorem c_X10_in (l : Launch) (D : va_G) (ct : Nat → ClassId) (G : GT)  (fu : Nat) (v0 : Int64) (v2 : Int64) (v4 : Int64) {r : Int32} (hf : p_X10_in fu v0 v2 v4 = some r)  : Met l yX10_in (.code yX10_in cX10_in 6 (some .boolean) :: wsL_law) rm_X10_in (va_Pc [.long v0, .long v2, .long v4] (Bx D ct G ([]))) (Qro (some (.int r))) 0 0 (fun _ => False) := by
  refine Met.ofW (cc := cX10_in) (maxL := 6) (ret := (some .boolean)) (by decide) rfl ?_
  intro p e s m args below meth c s₁ B hml hv
  obtain ⟨rfl, hP, hK, hN, hX⟩ := hv
  have hts := atoms_spec (ws := .code yX10_in cX10_in 6 (some .boolean) :: wsL_law) B.pre
  rw [lg_entry_eq]
  exact b_X10_in  fu v0 v2 v4 B.exec B.bytes B.returns hml (findClass_of_methodNamed B.named) (fun w h => hts w (List.mem_cons_of_mem _ h)) B.notSynchronized hK hN hX hP hf   (lv_entry [.long v0, .long v2, .long v4] (n := 6) (Nat.le_of_ble_eq_true rfl))
def p_X10_bits_L4 (fu : Nat)  : Nat → Int32 → Int32 → Int32 → Option (Int32)
  | 0, _, _, _ => none
  | n + 1, v0, v1, v2 =>
    if (10 : Int32) ≤ v2 then some v1 else p_X10_bits_L4 fu  n v0 (v1 + ((v0 >>> (v2 &&& 31)) &&& 1)) (v2 + 1)
def p_X10_bits (fu : Nat) (v0 : Int32) : Option (Int32) :=
  p_X10_bits_L4 fu fu v0 0 0
abbrev rm_X10_bits : Room := { frames := 0, cells := 0, slots := 0, locals := 0 }
set_option maxHeartbeats 4000000 in
set_option maxRecDepth 100000 in
theorem b_X10_bits {p : Program} {l : Launch} {e : Env} {s : State} {m : MethodId} {args : Array Value} {below : List Frame} {meth : Method} {c : Code} {ls : Array Slot} {D : va_G} {ct : Nat → ClassId} {G : GT}  (fu : Nat) (v0 : Int32) {r : Int32} (hx : p.tables.exec = Jvm.exec) (hb : c.code = cX10_bits) (hr : meth.sig.returnType = (some .int)) (hml : c.maxLocals = 3) (hown : s.vm.findClass RX10 = some m.cls) (htl : ∀ w ∈ wsL_law, w.before args s = true) (hlocks : meth.locks = false) (hK : va_K D vwCl (tyl ct) s) (hN : ∀ w ∈ NW, va_Nw w s) (hX : SX G s s.heap) (hP0 : va_P D vwCl ([]) s.heap) (hf : p_X10_bits fu v0 = some r)  (hl : lv_has ls 3 [(0, .int v0)]) : W p l e rm_X10_bits s m args below meth c s.heap [] 0 0 (MQ below (Qro (some (.int r))) args s 0 0 (fun _ => False)) (F0 m 0 ls []) := by
  generalize hQQ : MQ below (Qro (some (.int r))) args s 0 0 (fun _ => False) = QQ
  have hP := hP0
  have hL4 : ∀ (n : Nat) (v0 : Int32) (v1 : Int32) (v2 : Int32), ∀ (ls : Array Slot), lv_has ls 3 [(0, .int v0), (1, .int v1), (2, .int v2)] → p_X10_bits_L4 fu  n v0 v1 v2 = some r → W p l e rm_X10_bits s m args below meth c s.heap [] 0 0 QQ (F0 m 4 ls []) := by
    intro  n
    induction n with
    | zero =>
      intro v0 v1 v2 ls hl hf 
      rw [p_X10_bits_L4] at hf
      cases hf
    | succ n ih =>
      intro v0 v1 v2 ls hl hf 
      rw [p_X10_bits_L4] at hf
      refine lv_iload_n hx hb dX10_bits_4 rfl (lv_at hl 2 rfl) ?_
      refine lv_bipush (v := 10) hx hb dX10_bits_5 (by decide) ?_
      refine lv_icmp_ge (tgt := 24) hx hb dX10_bits_7 (by decide) (fun c_7 => ?_) (fun c_7 => ?_)
      · rw [if_pos c_7] at hf
        refine lv_iload_n hx hb dX10_bits_24 rfl (lv_at hl 1 rfl) ?_
        rw [← hQQ]
        exact rf_i hx hb hr hlocks hf dX10_bits_25
      rw [if_neg c_7] at hf
      refine lv_iload_n hx hb dX10_bits_10 rfl (lv_at hl 1 rfl) ?_
      refine lv_iload_n hx hb dX10_bits_11 rfl (lv_at hl 0 rfl) ?_
      refine lv_iload_n hx hb dX10_bits_12 rfl (lv_at hl 2 rfl) ?_
      refine lv_ishr hx hb dX10_bits_13 ?_
      refine lv_iconst (v := 1) hx hb dX10_bits_14 (by decide) ?_
      refine lv_iand hx hb dX10_bits_15 ?_
      refine lv_iadd hx hb dX10_bits_16 ?_
      refine lv_istore_n (lv' := [(1, .int (v1 + ((v0 >>> (v2 &&& 31)) &&& 1))), (0, .int v0), (2, .int v2)]) hx hb dX10_bits_17 rfl hl (by decide) rfl (fun ls hl => ?_)
      refine lv_iinc (v := (v2 + 1)) (lv' := [(2, .int (v2 + 1)), (1, .int (v1 + ((v0 >>> (v2 &&& 31)) &&& 1))), (0, .int v0)]) hx hb dX10_bits_18 hl (k := 2) rfl rfl (by decide) rfl (fun ls hl => ?_)
      refine lv_goto (tgt := 4) hx hb dX10_bits_21 (by decide) ?_
      exact ih v0 (v1 + ((v0 >>> (v2 &&& 31)) &&& 1)) (v2 + 1) _ (lv_sub hl [2, 1, 0] rfl) hf 
  rw [p_X10_bits] at hf
  refine lv_iconst (v := 0) hx hb dX10_bits_0 (by decide) ?_
  refine lv_istore_n (lv' := [(1, .int 0), (0, .int v0)]) hx hb dX10_bits_1 rfl hl (by decide) rfl (fun ls hl => ?_)
  refine lv_iconst (v := 0) hx hb dX10_bits_2 (by decide) ?_
  refine lv_istore_n (lv' := [(2, .int 0), (1, .int 0), (0, .int v0)]) hx hb dX10_bits_3 rfl hl (by decide) rfl (fun ls hl => ?_)
  exact hL4 fu v0 0 0 _ (lv_sub hl [2, 1, 0] rfl) hf 
theorem c_X10_bits (l : Launch) (D : va_G) (ct : Nat → ClassId) (G : GT)  (fu : Nat) (v0 : Int32) {r : Int32} (hf : p_X10_bits fu v0 = some r)  : Met l yX10_bits (.code yX10_bits cX10_bits 3 (some .int) :: wsL_law) rm_X10_bits (va_Pc [.int v0] (Bx D ct G ([]))) (Qro (some (.int r))) 0 0 (fun _ => False) := by
  refine Met.ofW (cc := cX10_bits) (maxL := 3) (ret := (some .int)) (by decide) rfl ?_
  intro p e s m args below meth c s₁ B hml hv
  obtain ⟨rfl, hP, hK, hN, hX⟩ := hv
  have hts := atoms_spec (ws := .code yX10_bits cX10_bits 3 (some .int) :: wsL_law) B.pre
  rw [lg_entry_eq]
  exact b_X10_bits  fu v0 B.exec B.bytes B.returns hml (findClass_of_methodNamed B.named) (fun w h => hts w (List.mem_cons_of_mem _ h)) B.notSynchronized hK hN hX hP hf   (lv_entry [.int v0] (n := 3) (Nat.le_of_ble_eq_true rfl))
def p_X10_bit (fu : Nat) (v0 : Int32) (v1 : Int32) : Option (Int32) :=
  some ((v0 >>> (v1 &&& 31)) &&& 1)
abbrev rm_X10_bit : Room := { frames := 0, cells := 0, slots := 0, locals := 0 }
set_option maxHeartbeats 4000000 in
set_option maxRecDepth 100000 in
theorem b_X10_bit {p : Program} {l : Launch} {e : Env} {s : State} {m : MethodId} {args : Array Value} {below : List Frame} {meth : Method} {c : Code} {ls : Array Slot} {D : va_G} {ct : Nat → ClassId} {G : GT}  (fu : Nat) (v0 : Int32) (v1 : Int32) {r : Int32} (hx : p.tables.exec = Jvm.exec) (hb : c.code = cX10_bit) (hr : meth.sig.returnType = (some .int)) (hml : c.maxLocals = 2) (hown : s.vm.findClass RX10 = some m.cls) (htl : ∀ w ∈ wsL_law, w.before args s = true) (hlocks : meth.locks = false) (hK : va_K D vwCl (tyl ct) s) (hN : ∀ w ∈ NW, va_Nw w s) (hX : SX G s s.heap) (hP0 : va_P D vwCl ([]) s.heap) (hf : p_X10_bit fu v0 v1 = some r)  (hl : lv_has ls 2 [(0, .int v0), (1, .int v1)]) : W p l e rm_X10_bit s m args below meth c s.heap [] 0 0 (MQ below (Qro (some (.int r))) args s 0 0 (fun _ => False)) (F0 m 0 ls []) := by
  generalize hQQ : MQ below (Qro (some (.int r))) args s 0 0 (fun _ => False) = QQ
  have hP := hP0
  rw [p_X10_bit] at hf
  refine lv_iload_n hx hb dX10_bit_0 rfl (lv_at hl 0 rfl) ?_
  refine lv_iload_n hx hb dX10_bit_1 rfl (lv_at hl 1 rfl) ?_
  refine lv_ishr hx hb dX10_bit_2 ?_
  refine lv_iconst (v := 1) hx hb dX10_bit_3 (by decide) ?_
  refine lv_iand hx hb dX10_bit_4 ?_
  rw [← hQQ]
  exact rf_i hx hb hr hlocks hf dX10_bit_5
theorem c_X10_bit (l : Launch) (D : va_G) (ct : Nat → ClassId) (G : GT)  (fu : Nat) (v0 : Int32) (v1 : Int32) {r : Int32} (hf : p_X10_bit fu v0 v1 = some r)  : Met l yX10_bit (.code yX10_bit cX10_bit 2 (some .int) :: wsL_law) rm_X10_bit (va_Pc [.int v0, .int v1] (Bx D ct G ([]))) (Qro (some (.int r))) 0 0 (fun _ => False) := by
  refine Met.ofW (cc := cX10_bit) (maxL := 2) (ret := (some .int)) (by decide) rfl ?_
  intro p e s m args below meth c s₁ B hml hv
  obtain ⟨rfl, hP, hK, hN, hX⟩ := hv
  have hts := atoms_spec (ws := .code yX10_bit cX10_bit 2 (some .int) :: wsL_law) B.pre
  rw [lg_entry_eq]
  exact b_X10_bit  fu v0 v1 B.exec B.bytes B.returns hml (findClass_of_methodNamed B.named) (fun w h => hts w (List.mem_cons_of_mem _ h)) B.notSynchronized hK hN hX hP hf   (lv_entry [.int v0, .int v1] (n := 2) (Nat.le_of_ble_eq_true rfl))
theorem hd_X10_in : yX10_in.cls ≠ "java/lang/invoke/MethodHandle" ∧ yX10_in.cls ≠ "java/lang/invoke/VarHandle" ∧ (parseMethodDescriptor yX10_in.desc).map (fun d => d.parameters.length) = some 3 := by decide +kernel
theorem cw_X10_X10_in {R : Room} {s : State} {args : Array Value} (ht : ∀ w ∈ wsL_law, w.before args s = true) (hR : rm_X10_in.frames + 1 ≤ R.frames ∧ 8 + (6 + 11) + rm_X10_in.locals ≤ R.locals) : CallB R s args RX10 92 yX10_in cX10_in 6 (some .boolean) ((.code yX10_in cX10_in 6 (some .boolean)) :: wsL_law) rm_X10_in 0 0 3 ∧ (Cond.static yX10_in).before args s = true := va_cwS 3 ht (GS wq_9_1 wq_9_2 wq_1_5 wq_9_3) rfl rfl rfl hd_X10_in hR
def p_X10_image_L17 (fu : Nat)  : Nat → Ob → Int32 → Int32 → Option (Int32 × Ob)
  | 0, _, _, _ => none
  | n + 1, oz, v1, v2 =>
    if (98 : Int32) ≤ v2 then if inb v1 3 = true then some ((0 : Int32), (oA oz 3 (upd (oz.1 3) v1.toNatClampNeg (vp_nar .boolean (1 : Int32))))) else none else if inb v2 98 = true then if inb ((98 * v1) + v2) 294 = true then p_X10_image_L17 fu  n (oA oz 2 (upd (oz.1 2) (((98 * v1) + v2).toNatClampNeg) ((oz.1 1) v2.toNatClampNeg))) v1 (v2 + 1) else none else none
def p_X10_image (fu : Nat) (o : Ob) (v1 : Int32) : Option (Int32 × Ob) :=
  (p_X10_in fu v1.toInt64 (0 : Int64) (2 : Int64)).bind fun r_6 => if r_6 = 0 then some (((-2) : Int32), o) else p_X10_image_L17 fu fu o v1 0
abbrev rm_X10_image : Room := { frames := 1, cells := 0, slots := 0, locals := 25 }
set_option maxHeartbeats 4000000 in
set_option maxRecDepth 100000 in
theorem b_X10_image {p : Program} {l : Launch} {e : Env} {s : State} {m : MethodId} {args : Array Value} {below : List Frame} {meth : Method} {c : Code} {ls : Array Slot} {D : va_G} {ct : Nat → ClassId} {G : GT} (a : Nat → Nat) (fu : Nat) (o : Ob) (v1 : Int32) {r : Int32 × Ob} (hx : p.tables.exec = Jvm.exec) (hb : c.code = cX10_image) (hr : meth.sig.returnType = (some .int)) (hml : c.maxLocals = 3) (hown : s.vm.findClass RX10 = some m.cls) (htl : ∀ w ∈ wsL_law, w.before args s = true) (hlocks : meth.locks = false) (hK : va_K D vwCl (tyl ct) s) (hN : ∀ w ∈ NW, va_Nw w s) (hX : SX G s s.heap) (hP0 : va_P D vwCl (cs10 ct a o) s.heap) (hf : p_X10_image fu o v1 = some r) (hD0 : va_D (GE G) (cs10 ct a o))  (hl : lv_has ls 3 [(0, .ref (a 0)), (1, .int v1)]) : W p l e rm_X10_image s m args below meth c s.heap [] 0 0 (MQ below (Qwr (some (.int r.1)) (fun H => va_P D vwCl (cs10 ct a r.2) H) (wA (cs10 ct a o))) args s 0 0 (wA (cs10 ct a o))) (F0 m 0 ls []) := by
  generalize hQQ : MQ below (Qwr (some (.int r.1)) (fun H => va_P D vwCl (cs10 ct a r.2) H) (wA (cs10 ct a o))) args s 0 0 (wA (cs10 ct a o)) = QQ
  have hDx : ∀ (oy : Ob), va_D (GE G) (cs10 ct a oy) := fun oy => D_cr hD0 rfl
  have hDW : ∀ (oy : Ob), va_D (wA (cs10 ct a o)) (cs10 ct a oy) := fun oy => D_cr (D_self hD0) rfl
  have hGE : ∀ q, wA (cs10 ct a o) q → GE G q := wA_GE hD0
  have hP := hP0
  have hS : va_S (wA (cs10 ct a o)) s.heap s.heap [] := va_S.rf
  have hL17 : ∀ (n : Nat) (oz : Ob) (v1 : Int32) (v2 : Int32), ∀ (H : Heap) (locs : List Loc) (ls : Array Slot), va_P D vwCl (cs10 ct a oz) H → va_S (wA (cs10 ct a o)) s.heap H locs → lv_has ls 3 [(0, .ref (a 0)), (1, .int v1), (2, .int v2)] → p_X10_image_L17 fu  n oz v1 v2 = some r → W p l e rm_X10_image s m args below meth c H locs 0 0 QQ (F0 m 17 ls []) := by
    intro  n
    induction n with
    | zero =>
      intro oz v1 v2 H locs ls hP hS hl hf 
      rw [p_X10_image_L17] at hf
      cases hf
    | succ n ih =>
      intro oz v1 v2 H locs ls hP hS hl hf 
      rw [p_X10_image_L17] at hf
      refine lv_iload_n hx hb dX10_image_17 rfl (lv_at hl 2 rfl) ?_
      refine lv_bipush (v := 98) hx hb dX10_image_18 (by decide) ?_
      refine lv_icmp_ge (tgt := 46) hx hb dX10_image_20 (by decide) (fun c_20 => ?_) (fun c_20 => ?_)
      · rw [if_pos c_20] at hf
        refine lv_aload_n hx hb dX10_image_46 rfl (lv_at hl 0 rfl) ?_
        refine va_get (D := D) (ci := 10) (v := .ref (a 3)) (C := RX10) (T := TX10) (N := 42) hx hb htl inlX10 hown hK hP 0 rfl rfl 3 (by decide) (htl _ wq_7_3) (fun _ h9 => h9) rfl dX10_image_47 ?_
        refine lv_iload_n hx hb dX10_image_50 rfl (lv_at hl 1 rfl) ?_
        refine lv_iconst (v := 1) hx hb dX10_image_51 (by decide) ?_
        obtain ⟨hi_52, hf⟩ := ob_in hf
        refine va_zast (D := D) (tys := tyl ct) hx hb hK hP (hDW oz) hS 3 3 rfl rfl hi_52 dX10_image_52 (fun H_52 locs_52 hP _ hS => ?_)
        have hP : va_P D vwCl (cs10 ct a (oA oz 3 (upd (oz.1 3) v1.toNatClampNeg (vp_nar .boolean (1 : Int32))))) H_52 := sa10_3 hP
        refine lv_iconst (v := 0) hx hb dX10_image_53 (by decide) ?_
        rw [← hQQ]
        cases hf
        exact rw_i hx hb hr hlocks hP hS dX10_image_54
      rw [if_neg c_20] at hf
      refine lv_aload_n hx hb dX10_image_23 rfl (lv_at hl 0 rfl) ?_
      refine va_get (D := D) (ci := 10) (v := .ref (a 2)) (C := RX10) (T := TX10) (N := 42) hx hb htl inlX10 hown hK hP 0 rfl rfl 2 (by decide) (htl _ wq_7_1) (fun _ h9 => h9) rfl dX10_image_24 ?_
      refine lv_bipush (v := 98) hx hb dX10_image_27 (by decide) ?_
      refine lv_iload_n hx hb dX10_image_29 rfl (lv_at hl 1 rfl) ?_
      refine lv_imul hx hb dX10_image_30 ?_
      refine lv_iload_n hx hb dX10_image_31 rfl (lv_at hl 2 rfl) ?_
      refine lv_iadd hx hb dX10_image_32 ?_
      refine lv_aload_n hx hb dX10_image_33 rfl (lv_at hl 0 rfl) ?_
      refine va_get (D := D) (ci := 10) (v := .ref (a 1)) (C := RX10) (T := TX10) (N := 42) hx hb htl inlX10 hown hK hP 0 rfl rfl 1 (by decide) (htl _ wq_7_0) (fun _ h9 => h9) rfl dX10_image_34 ?_
      refine lv_iload_n hx hb dX10_image_37 rfl (lv_at hl 2 rfl) ?_
      obtain ⟨hi_38, hf⟩ := ob_in hf
      refine va_iald (D := D) (tys := tyl ct) hx hb hK hP 1 0 rfl rfl hi_38 dX10_image_38 ?_
      obtain ⟨hi_39, hf⟩ := ob_in hf
      refine va_iast (D := D) (tys := tyl ct) hx hb hK hP (hDW oz) hS 2 0 rfl rfl hi_39 dX10_image_39 (fun H_39 locs_39 hP _ hS => ?_)
      have hP : va_P D vwCl (cs10 ct a (oA oz 2 (upd (oz.1 2) (((98 * v1) + v2).toNatClampNeg) ((oz.1 1) v2.toNatClampNeg)))) H_39 := sa10_2 hP
      refine lv_iinc (v := (v2 + 1)) (lv' := [(2, .int (v2 + 1)), (0, .ref (a 0)), (1, .int v1)]) hx hb dX10_image_40 hl (k := 2) rfl rfl (by decide) rfl (fun ls hl => ?_)
      refine lv_goto (tgt := 17) hx hb dX10_image_43 (by decide) ?_
      exact ih (oA oz 2 (upd (oz.1 2) (((98 * v1) + v2).toNatClampNeg) ((oz.1 1) v2.toNatClampNeg))) v1 (v2 + 1) _ _ _ hP hS (lv_sub hl [1, 2, 0] rfl) hf 
  rw [p_X10_image] at hf
  refine lv_iload_n hx hb dX10_image_0 rfl (lv_at hl 1 rfl) ?_
  refine lv_i2l hx hb dX10_image_1 rfl ?_
  refine lv_lconst (v := 0) hx hb dX10_image_2 (by decide) ?_
  refine lv_ldc2 (v := 2) hx hb hown (htl _ wq_20_9) dX10_image_3 ?_
  obtain ⟨r_6, e_6, hf⟩ := ob_bind hf
  have hPX_6 : va_P D vwCl ([]) s.heap := P_nil
  refine ro_call1 (va_runS (As := [.long v1.toInt64, .long 0, .long 2]) (rest := []) ⟨hx, hb, hml, hown, htl⟩ (c_X10_in l D ct G fu v1.toInt64 (0 : Int64) (2 : Int64) e_6) (cw_X10_X10_in htl ⟨Nat.le_of_ble_eq_true rfl, Nat.le_of_ble_eq_true rfl⟩) ⟨Bx_blind, Bx_pre hPX_6 hK hN (hX.stay hS hGE)⟩ rfl rfl hl.1 rfl (lv_room (Nat.le_of_ble_eq_true rfl)) dX10_image_6 ⟨Nat.zero_le _, Nat.zero_le _⟩) ?_
  refine lv_if_ne (tgt := 15) hx hb dX10_image_9 (by decide) (fun c_9 => ?_) (fun c_9 => ?_)
  · rw [if_neg c_9] at hf
    refine lv_iconst (v := 0) hx hb dX10_image_15 (by decide) ?_
    refine lv_istore_n (lv' := [(2, .int 0), (0, .ref (a 0)), (1, .int v1)]) hx hb dX10_image_16 rfl hl (by decide) rfl (fun ls hl => ?_)
    exact hL17 fu o v1 0 _ _ _ hP hS (lv_sub hl [1, 2, 0] rfl) hf 
  rw [if_pos c_9] at hf
  refine lv_bipush (v := (-2)) hx hb dX10_image_12 (by decide) ?_
  rw [← hQQ]
  cases hf
  exact rw_i hx hb hr hlocks hP hS dX10_image_14
theorem c_X10_image (l : Launch) (D : va_G) (ct : Nat → ClassId) (G : GT) (a : Nat → Nat) (fu : Nat) (o : Ob) (v1 : Int32) {r : Int32 × Ob} (hf : p_X10_image fu o v1 = some r)  (hD0 : va_D (GE G) (cs10 ct a o)) : Met l yX10_image (.code yX10_image cX10_image 3 (some .int) :: wsL_law) rm_X10_image (va_Pc [.ref (a 0), .int v1] (Bx D ct G (cs10 ct a o))) (Qwr (some (.int r.1)) (fun H => va_P D vwCl (cs10 ct a r.2) H) (wA (cs10 ct a o))) 0 0 (wA (cs10 ct a o)) := by
  refine Met.ofW (cc := cX10_image) (maxL := 3) (ret := (some .int)) (by decide) rfl ?_
  intro p e s m args below meth c s₁ B hml hv
  obtain ⟨rfl, hP, hK, hN, hX⟩ := hv
  have hts := atoms_spec (ws := .code yX10_image cX10_image 3 (some .int) :: wsL_law) B.pre
  rw [lg_entry_eq]
  exact b_X10_image a fu o v1 B.exec B.bytes B.returns hml (findClass_of_methodNamed B.named) (fun w h => hts w (List.mem_cons_of_mem _ h)) B.notSynchronized hK hN hX hP hf hD0  (lv_entry [.ref (a 0), .int v1] (n := 3) (Nat.le_of_ble_eq_true rfl))
def p_X10_back_L29 (fu : Nat)  : Nat → Ob → Int32 → Int32 → Option (Int32 × Ob)
  | 0, _, _, _ => none
  | n + 1, oz, v1, v2 =>
    if (98 : Int32) ≤ v2 then some ((0 : Int32), oz) else if inb ((98 * v1) + v2) 294 = true then if inb v2 98 = true then p_X10_back_L29 fu  n (oA oz 1 (upd (oz.1 1) v2.toNatClampNeg ((oz.1 2) ((98 * v1) + v2).toNatClampNeg))) v1 (v2 + 1) else none else none
def p_X10_back (fu : Nat) (o : Ob) (v1 : Int32) : Option (Int32 × Ob) :=
  (p_X10_in fu v1.toInt64 (0 : Int64) (2 : Int64)).bind fun r_6 => if r_6 = 0 then some (((-2) : Int32), o) else if inb v1 3 = true then if ((o.1 3) v1.toNatClampNeg) = 0 then some (((-6) : Int32), o) else p_X10_back_L29 fu fu o v1 0 else none
abbrev rm_X10_back : Room := { frames := 1, cells := 0, slots := 0, locals := 25 }
set_option maxHeartbeats 4000000 in
set_option maxRecDepth 100000 in
theorem b_X10_back {p : Program} {l : Launch} {e : Env} {s : State} {m : MethodId} {args : Array Value} {below : List Frame} {meth : Method} {c : Code} {ls : Array Slot} {D : va_G} {ct : Nat → ClassId} {G : GT} (a : Nat → Nat) (fu : Nat) (o : Ob) (v1 : Int32) {r : Int32 × Ob} (hx : p.tables.exec = Jvm.exec) (hb : c.code = cX10_back) (hr : meth.sig.returnType = (some .int)) (hml : c.maxLocals = 3) (hown : s.vm.findClass RX10 = some m.cls) (htl : ∀ w ∈ wsL_law, w.before args s = true) (hlocks : meth.locks = false) (hK : va_K D vwCl (tyl ct) s) (hN : ∀ w ∈ NW, va_Nw w s) (hX : SX G s s.heap) (hP0 : va_P D vwCl (cs10 ct a o) s.heap) (hf : p_X10_back fu o v1 = some r) (hD0 : va_D (GE G) (cs10 ct a o))  (hl : lv_has ls 3 [(0, .ref (a 0)), (1, .int v1)]) : W p l e rm_X10_back s m args below meth c s.heap [] 0 0 (MQ below (Qwr (some (.int r.1)) (fun H => va_P D vwCl (cs10 ct a r.2) H) (wA (cs10 ct a o))) args s 0 0 (wA (cs10 ct a o))) (F0 m 0 ls []) := by
  generalize hQQ : MQ below (Qwr (some (.int r.1)) (fun H => va_P D vwCl (cs10 ct a r.2) H) (wA (cs10 ct a o))) args s 0 0 (wA (cs10 ct a o)) = QQ
  have hDx : ∀ (oy : Ob), va_D (GE G) (cs10 ct a oy) := fun oy => D_cr hD0 rfl
  have hDW : ∀ (oy : Ob), va_D (wA (cs10 ct a o)) (cs10 ct a oy) := fun oy => D_cr (D_self hD0) rfl
  have hGE : ∀ q, wA (cs10 ct a o) q → GE G q := wA_GE hD0
  have hP := hP0
  have hS : va_S (wA (cs10 ct a o)) s.heap s.heap [] := va_S.rf
  have hL29 : ∀ (n : Nat) (oz : Ob) (v1 : Int32) (v2 : Int32), ∀ (H : Heap) (locs : List Loc) (ls : Array Slot), va_P D vwCl (cs10 ct a oz) H → va_S (wA (cs10 ct a o)) s.heap H locs → lv_has ls 3 [(0, .ref (a 0)), (1, .int v1), (2, .int v2)] → p_X10_back_L29 fu  n oz v1 v2 = some r → W p l e rm_X10_back s m args below meth c H locs 0 0 QQ (F0 m 29 ls []) := by
    intro  n
    induction n with
    | zero =>
      intro oz v1 v2 H locs ls hP hS hl hf 
      rw [p_X10_back_L29] at hf
      cases hf
    | succ n ih =>
      intro oz v1 v2 H locs ls hP hS hl hf 
      rw [p_X10_back_L29] at hf
      refine lv_iload_n hx hb dX10_back_29 rfl (lv_at hl 2 rfl) ?_
      refine lv_bipush (v := 98) hx hb dX10_back_30 (by decide) ?_
      refine lv_icmp_ge (tgt := 58) hx hb dX10_back_32 (by decide) (fun c_32 => ?_) (fun c_32 => ?_)
      · rw [if_pos c_32] at hf
        refine lv_iconst (v := 0) hx hb dX10_back_58 (by decide) ?_
        rw [← hQQ]
        cases hf
        exact rw_i hx hb hr hlocks hP hS dX10_back_59
      rw [if_neg c_32] at hf
      refine lv_aload_n hx hb dX10_back_35 rfl (lv_at hl 0 rfl) ?_
      refine va_get (D := D) (ci := 10) (v := .ref (a 1)) (C := RX10) (T := TX10) (N := 42) hx hb htl inlX10 hown hK hP 0 rfl rfl 1 (by decide) (htl _ wq_7_0) (fun _ h9 => h9) rfl dX10_back_36 ?_
      refine lv_iload_n hx hb dX10_back_39 rfl (lv_at hl 2 rfl) ?_
      refine lv_aload_n hx hb dX10_back_40 rfl (lv_at hl 0 rfl) ?_
      refine va_get (D := D) (ci := 10) (v := .ref (a 2)) (C := RX10) (T := TX10) (N := 42) hx hb htl inlX10 hown hK hP 0 rfl rfl 2 (by decide) (htl _ wq_7_1) (fun _ h9 => h9) rfl dX10_back_41 ?_
      refine lv_bipush (v := 98) hx hb dX10_back_44 (by decide) ?_
      refine lv_iload_n hx hb dX10_back_46 rfl (lv_at hl 1 rfl) ?_
      refine lv_imul hx hb dX10_back_47 ?_
      refine lv_iload_n hx hb dX10_back_48 rfl (lv_at hl 2 rfl) ?_
      refine lv_iadd hx hb dX10_back_49 ?_
      obtain ⟨hi_50, hf⟩ := ob_in hf
      refine va_iald (D := D) (tys := tyl ct) hx hb hK hP 2 0 rfl rfl hi_50 dX10_back_50 ?_
      obtain ⟨hi_51, hf⟩ := ob_in hf
      refine va_iast (D := D) (tys := tyl ct) hx hb hK hP (hDW oz) hS 1 0 rfl rfl hi_51 dX10_back_51 (fun H_51 locs_51 hP _ hS => ?_)
      have hP : va_P D vwCl (cs10 ct a (oA oz 1 (upd (oz.1 1) v2.toNatClampNeg ((oz.1 2) ((98 * v1) + v2).toNatClampNeg)))) H_51 := sa10_1 hP
      refine lv_iinc (v := (v2 + 1)) (lv' := [(2, .int (v2 + 1)), (0, .ref (a 0)), (1, .int v1)]) hx hb dX10_back_52 hl (k := 2) rfl rfl (by decide) rfl (fun ls hl => ?_)
      refine lv_goto (tgt := 29) hx hb dX10_back_55 (by decide) ?_
      exact ih (oA oz 1 (upd (oz.1 1) v2.toNatClampNeg ((oz.1 2) ((98 * v1) + v2).toNatClampNeg))) v1 (v2 + 1) _ _ _ hP hS (lv_sub hl [1, 2, 0] rfl) hf 
  rw [p_X10_back] at hf
  refine lv_iload_n hx hb dX10_back_0 rfl (lv_at hl 1 rfl) ?_
  refine lv_i2l hx hb dX10_back_1 rfl ?_
  refine lv_lconst (v := 0) hx hb dX10_back_2 (by decide) ?_
  refine lv_ldc2 (v := 2) hx hb hown (htl _ wq_20_9) dX10_back_3 ?_
  obtain ⟨r_6, e_6, hf⟩ := ob_bind hf
  have hPX_6 : va_P D vwCl ([]) s.heap := P_nil
  refine ro_call1 (va_runS (As := [.long v1.toInt64, .long 0, .long 2]) (rest := []) ⟨hx, hb, hml, hown, htl⟩ (c_X10_in l D ct G fu v1.toInt64 (0 : Int64) (2 : Int64) e_6) (cw_X10_X10_in htl ⟨Nat.le_of_ble_eq_true rfl, Nat.le_of_ble_eq_true rfl⟩) ⟨Bx_blind, Bx_pre hPX_6 hK hN (hX.stay hS hGE)⟩ rfl rfl hl.1 rfl (lv_room (Nat.le_of_ble_eq_true rfl)) dX10_back_6 ⟨Nat.zero_le _, Nat.zero_le _⟩) ?_
  refine lv_if_ne (tgt := 15) hx hb dX10_back_9 (by decide) (fun c_9 => ?_) (fun c_9 => ?_)
  rotate_left 1
  · rw [if_pos c_9] at hf
    refine lv_bipush (v := (-2)) hx hb dX10_back_12 (by decide) ?_
    rw [← hQQ]
    cases hf
    exact rw_i hx hb hr hlocks hP hS dX10_back_14
  rw [if_neg c_9] at hf
  refine lv_aload_n hx hb dX10_back_15 rfl (lv_at hl 0 rfl) ?_
  refine va_get (D := D) (ci := 10) (v := .ref (a 3)) (C := RX10) (T := TX10) (N := 42) hx hb htl inlX10 hown hK hP 0 rfl rfl 3 (by decide) (htl _ wq_7_3) (fun _ h9 => h9) rfl dX10_back_16 ?_
  refine lv_iload_n hx hb dX10_back_19 rfl (lv_at hl 1 rfl) ?_
  obtain ⟨hi_20, hf⟩ := ob_in hf
  refine va_zald (D := D) (tys := tyl ct) hx hb hK hP 3 3 rfl rfl hi_20 dX10_back_20 ?_
  refine lv_if_ne (tgt := 27) hx hb dX10_back_21 (by decide) (fun c_21 => ?_) (fun c_21 => ?_)
  · rw [if_neg c_21] at hf
    refine lv_iconst (v := 0) hx hb dX10_back_27 (by decide) ?_
    refine lv_istore_n (lv' := [(2, .int 0), (0, .ref (a 0)), (1, .int v1)]) hx hb dX10_back_28 rfl hl (by decide) rfl (fun ls hl => ?_)
    exact hL29 fu o v1 0 _ _ _ hP hS (lv_sub hl [1, 2, 0] rfl) hf 
  rw [if_pos c_21] at hf
  refine lv_bipush (v := (-6)) hx hb dX10_back_24 (by decide) ?_
  rw [← hQQ]
  cases hf
  exact rw_i hx hb hr hlocks hP hS dX10_back_26
theorem c_X10_back (l : Launch) (D : va_G) (ct : Nat → ClassId) (G : GT) (a : Nat → Nat) (fu : Nat) (o : Ob) (v1 : Int32) {r : Int32 × Ob} (hf : p_X10_back fu o v1 = some r)  (hD0 : va_D (GE G) (cs10 ct a o)) : Met l yX10_back (.code yX10_back cX10_back 3 (some .int) :: wsL_law) rm_X10_back (va_Pc [.ref (a 0), .int v1] (Bx D ct G (cs10 ct a o))) (Qwr (some (.int r.1)) (fun H => va_P D vwCl (cs10 ct a r.2) H) (wA (cs10 ct a o))) 0 0 (wA (cs10 ct a o)) := by
  refine Met.ofW (cc := cX10_back) (maxL := 3) (ret := (some .int)) (by decide) rfl ?_
  intro p e s m args below meth c s₁ B hml hv
  obtain ⟨rfl, hP, hK, hN, hX⟩ := hv
  have hts := atoms_spec (ws := .code yX10_back cX10_back 3 (some .int) :: wsL_law) B.pre
  rw [lg_entry_eq]
  exact b_X10_back a fu o v1 B.exec B.bytes B.returns hml (findClass_of_methodNamed B.named) (fun w h => hts w (List.mem_cons_of_mem _ h)) B.notSynchronized hK hN hX hP hf hD0  (lv_entry [.ref (a 0), .int v1] (n := 3) (Nat.le_of_ble_eq_true rfl))
def p_X10_isRivers (fu : Nat) (o : Ob) : Option (Int32) :=
  if inb (7 : Int32) 98 = true then if ((o.1 1) (7 : Int32).toNatClampNeg) ≤ 0 then some (0 : Int32) else some (1 : Int32) else none
abbrev rm_X10_isRivers : Room := { frames := 0, cells := 0, slots := 0, locals := 0 }
set_option maxHeartbeats 4000000 in
set_option maxRecDepth 100000 in
theorem b_X10_isRivers {p : Program} {l : Launch} {e : Env} {s : State} {m : MethodId} {args : Array Value} {below : List Frame} {meth : Method} {c : Code} {ls : Array Slot} {D : va_G} {ct : Nat → ClassId} {G : GT} (a : Nat → Nat) (fu : Nat) (o : Ob) {r : Int32} (hx : p.tables.exec = Jvm.exec) (hb : c.code = cX10_isRivers) (hr : meth.sig.returnType = (some .boolean)) (hml : c.maxLocals = 1) (hown : s.vm.findClass RX10 = some m.cls) (htl : ∀ w ∈ wsL_law, w.before args s = true) (hlocks : meth.locks = false) (hK : va_K D vwCl (tyl ct) s) (hN : ∀ w ∈ NW, va_Nw w s) (hX : SX G s s.heap) (hP0 : va_P D vwCl (cs10 ct a o) s.heap) (hf : p_X10_isRivers fu o = some r)  (hl : lv_has ls 1 [(0, .ref (a 0))]) : W p l e rm_X10_isRivers s m args below meth c s.heap [] 0 0 (MQ below (Qro (some (.int r))) args s 0 0 (fun _ => False)) (F0 m 0 ls []) := by
  generalize hQQ : MQ below (Qro (some (.int r))) args s 0 0 (fun _ => False) = QQ
  have hP := hP0
  rw [p_X10_isRivers] at hf
  refine lv_aload_n hx hb dX10_isRivers_0 rfl (lv_at hl 0 rfl) ?_
  refine va_get (D := D) (ci := 10) (v := .ref (a 1)) (C := RX10) (T := TX10) (N := 42) hx hb htl inlX10 hown hK hP 0 rfl rfl 1 (by decide) (htl _ wq_7_0) (fun _ h9 => h9) rfl dX10_isRivers_1 ?_
  refine lv_bipush (v := 7) hx hb dX10_isRivers_4 (by decide) ?_
  obtain ⟨hi_6, hf⟩ := ob_in hf
  refine va_iald (D := D) (tys := tyl ct) hx hb hK hP 1 0 rfl rfl hi_6 dX10_isRivers_6 ?_
  refine lv_if_le (tgt := 14) hx hb dX10_isRivers_7 (by decide) (fun c_7 => ?_) (fun c_7 => ?_)
  · rw [if_pos c_7] at hf
    refine lv_iconst (v := 0) hx hb dX10_isRivers_14 (by decide) ?_
    rw [← hQQ]
    exact rf_z hx hb hr hlocks rfl hf dX10_isRivers_15
  rw [if_neg c_7] at hf
  refine lv_iconst (v := 1) hx hb dX10_isRivers_10 (by decide) ?_
  refine lv_goto (tgt := 15) hx hb dX10_isRivers_11 (by decide) ?_
  rw [← hQQ]
  exact rf_z hx hb hr hlocks rfl hf dX10_isRivers_15
theorem c_X10_isRivers (l : Launch) (D : va_G) (ct : Nat → ClassId) (G : GT) (a : Nat → Nat) (fu : Nat) (o : Ob) {r : Int32} (hf : p_X10_isRivers fu o = some r)  : Met l yX10_isRivers (.code yX10_isRivers cX10_isRivers 1 (some .boolean) :: wsL_law) rm_X10_isRivers (va_Pc [.ref (a 0)] (Bx D ct G (cs10 ct a o))) (Qro (some (.int r))) 0 0 (fun _ => False) := by
  refine Met.ofW (cc := cX10_isRivers) (maxL := 1) (ret := (some .boolean)) (by decide) rfl ?_
  intro p e s m args below meth c s₁ B hml hv
  obtain ⟨rfl, hP, hK, hN, hX⟩ := hv
  have hts := atoms_spec (ws := .code yX10_isRivers cX10_isRivers 1 (some .boolean) :: wsL_law) B.pre
  rw [lg_entry_eq]
  exact b_X10_isRivers a fu o B.exec B.bytes B.returns hml (findClass_of_methodNamed B.named) (fun w h => hts w (List.mem_cons_of_mem _ h)) B.notSynchronized hK hN hX hP hf   (lv_entry [.ref (a 0)] (n := 1) (Nat.le_of_ble_eq_true rfl))
def p_X10_isReach (fu : Nat) (o : Ob) (v1 : Int64) : Option (Int32) :=
  if inb (3 : Int32) 98 = true then (p_X10_in fu v1 (0 : Int64) ((((o.1 1) (3 : Int32).toNatClampNeg) - 1).toInt64)).bind fun r_11 => if r_11 = 0 ∨ r_11 = 1 then some r_11 else none else none
abbrev rm_X10_isReach : Room := { frames := 1, cells := 0, slots := 0, locals := 25 }
set_option maxHeartbeats 4000000 in
set_option maxRecDepth 100000 in
theorem b_X10_isReach {p : Program} {l : Launch} {e : Env} {s : State} {m : MethodId} {args : Array Value} {below : List Frame} {meth : Method} {c : Code} {ls : Array Slot} {D : va_G} {ct : Nat → ClassId} {G : GT} (a : Nat → Nat) (fu : Nat) (o : Ob) (v1 : Int64) {r : Int32} (hx : p.tables.exec = Jvm.exec) (hb : c.code = cX10_isReach) (hr : meth.sig.returnType = (some .boolean)) (hml : c.maxLocals = 3) (hown : s.vm.findClass RX10 = some m.cls) (htl : ∀ w ∈ wsL_law, w.before args s = true) (hlocks : meth.locks = false) (hK : va_K D vwCl (tyl ct) s) (hN : ∀ w ∈ NW, va_Nw w s) (hX : SX G s s.heap) (hP0 : va_P D vwCl (cs10 ct a o) s.heap) (hf : p_X10_isReach fu o v1 = some r)  (hl : lv_has ls 3 [(0, .ref (a 0)), (1, .long v1)]) : W p l e rm_X10_isReach s m args below meth c s.heap [] 0 0 (MQ below (Qro (some (.int r))) args s 0 0 (fun _ => False)) (F0 m 0 ls []) := by
  generalize hQQ : MQ below (Qro (some (.int r))) args s 0 0 (fun _ => False) = QQ
  have hP := hP0
  rw [p_X10_isReach] at hf
  refine lv_lload_n hx hb dX10_isReach_0 rfl (lv_at hl 1 rfl) ?_
  refine lv_lconst (v := 0) hx hb dX10_isReach_1 (by decide) ?_
  refine lv_aload_n hx hb dX10_isReach_2 rfl (lv_at hl 0 rfl) ?_
  refine va_get (D := D) (ci := 10) (v := .ref (a 1)) (C := RX10) (T := TX10) (N := 42) hx hb htl inlX10 hown hK hP 0 rfl rfl 1 (by decide) (htl _ wq_7_0) (fun _ h9 => h9) rfl dX10_isReach_3 ?_
  refine lv_iconst (v := 3) hx hb dX10_isReach_6 (by decide) ?_
  obtain ⟨hi_7, hf⟩ := ob_in hf
  refine va_iald (D := D) (tys := tyl ct) hx hb hK hP 1 0 rfl rfl hi_7 dX10_isReach_7 ?_
  refine lv_iconst (v := 1) hx hb dX10_isReach_8 (by decide) ?_
  refine lv_isub hx hb dX10_isReach_9 ?_
  refine lv_i2l hx hb dX10_isReach_10 rfl ?_
  obtain ⟨r_11, e_11, hf⟩ := ob_bind hf
  have hPX_11 : va_P D vwCl ([]) s.heap := P_nil
  refine ro_call1 (va_runS (As := [.long v1, .long 0, .long ((((o.1 1) (3 : Int32).toNatClampNeg) - 1).toInt64)]) (rest := []) ⟨hx, hb, hml, hown, htl⟩ (c_X10_in l D ct G fu v1 (0 : Int64) ((((o.1 1) (3 : Int32).toNatClampNeg) - 1).toInt64) e_11) (cw_X10_X10_in htl ⟨Nat.le_of_ble_eq_true rfl, Nat.le_of_ble_eq_true rfl⟩) ⟨Bx_blind, Bx_pre hPX_11 hK hN hX⟩ rfl rfl hl.1 rfl (lv_room (Nat.le_of_ble_eq_true rfl)) dX10_isReach_11 ⟨Nat.zero_le _, Nat.zero_le _⟩) ?_
  obtain ⟨hz_14, hf⟩ := ob_z hf
  rw [← hQQ]
  exact rf_z hx hb hr hlocks hz_14.1 hf dX10_isReach_14
theorem c_X10_isReach (l : Launch) (D : va_G) (ct : Nat → ClassId) (G : GT) (a : Nat → Nat) (fu : Nat) (o : Ob) (v1 : Int64) {r : Int32} (hf : p_X10_isReach fu o v1 = some r)  : Met l yX10_isReach (.code yX10_isReach cX10_isReach 3 (some .boolean) :: wsL_law) rm_X10_isReach (va_Pc [.ref (a 0), .long v1] (Bx D ct G (cs10 ct a o))) (Qro (some (.int r))) 0 0 (fun _ => False) := by
  refine Met.ofW (cc := cX10_isReach) (maxL := 3) (ret := (some .boolean)) (by decide) rfl ?_
  intro p e s m args below meth c s₁ B hml hv
  obtain ⟨rfl, hP, hK, hN, hX⟩ := hv
  have hts := atoms_spec (ws := .code yX10_isReach cX10_isReach 3 (some .boolean) :: wsL_law) B.pre
  rw [lg_entry_eq]
  exact b_X10_isReach a fu o v1 B.exec B.bytes B.returns hml (findClass_of_methodNamed B.named) (fun w h => hts w (List.mem_cons_of_mem _ h)) B.notSynchronized hK hN hX hP hf   (lv_entry [.ref (a 0), .long v1] (n := 3) (Nat.le_of_ble_eq_true rfl))
def p_X10_isJoin (fu : Nat) (o : Ob) (v1 : Int32) : Option (Int32) :=
  if inb (4 : Int32) 98 = true then (p_X10_in fu v1.toInt64 (0 : Int64) ((((o.1 1) (4 : Int32).toNatClampNeg) - 1).toInt64)).bind fun r_12 => if r_12 = 0 ∨ r_12 = 1 then some r_12 else none else none
abbrev rm_X10_isJoin : Room := { frames := 1, cells := 0, slots := 0, locals := 25 }
set_option maxHeartbeats 4000000 in
set_option maxRecDepth 100000 in
theorem b_X10_isJoin {p : Program} {l : Launch} {e : Env} {s : State} {m : MethodId} {args : Array Value} {below : List Frame} {meth : Method} {c : Code} {ls : Array Slot} {D : va_G} {ct : Nat → ClassId} {G : GT} (a : Nat → Nat) (fu : Nat) (o : Ob) (v1 : Int32) {r : Int32} (hx : p.tables.exec = Jvm.exec) (hb : c.code = cX10_isJoin) (hr : meth.sig.returnType = (some .boolean)) (hml : c.maxLocals = 2) (hown : s.vm.findClass RX10 = some m.cls) (htl : ∀ w ∈ wsL_law, w.before args s = true) (hlocks : meth.locks = false) (hK : va_K D vwCl (tyl ct) s) (hN : ∀ w ∈ NW, va_Nw w s) (hX : SX G s s.heap) (hP0 : va_P D vwCl (cs10 ct a o) s.heap) (hf : p_X10_isJoin fu o v1 = some r)  (hl : lv_has ls 2 [(0, .ref (a 0)), (1, .int v1)]) : W p l e rm_X10_isJoin s m args below meth c s.heap [] 0 0 (MQ below (Qro (some (.int r))) args s 0 0 (fun _ => False)) (F0 m 0 ls []) := by
  generalize hQQ : MQ below (Qro (some (.int r))) args s 0 0 (fun _ => False) = QQ
  have hP := hP0
  rw [p_X10_isJoin] at hf
  refine lv_iload_n hx hb dX10_isJoin_0 rfl (lv_at hl 1 rfl) ?_
  refine lv_i2l hx hb dX10_isJoin_1 rfl ?_
  refine lv_lconst (v := 0) hx hb dX10_isJoin_2 (by decide) ?_
  refine lv_aload_n hx hb dX10_isJoin_3 rfl (lv_at hl 0 rfl) ?_
  refine va_get (D := D) (ci := 10) (v := .ref (a 1)) (C := RX10) (T := TX10) (N := 42) hx hb htl inlX10 hown hK hP 0 rfl rfl 1 (by decide) (htl _ wq_7_0) (fun _ h9 => h9) rfl dX10_isJoin_4 ?_
  refine lv_iconst (v := 4) hx hb dX10_isJoin_7 (by decide) ?_
  obtain ⟨hi_8, hf⟩ := ob_in hf
  refine va_iald (D := D) (tys := tyl ct) hx hb hK hP 1 0 rfl rfl hi_8 dX10_isJoin_8 ?_
  refine lv_iconst (v := 1) hx hb dX10_isJoin_9 (by decide) ?_
  refine lv_isub hx hb dX10_isJoin_10 ?_
  refine lv_i2l hx hb dX10_isJoin_11 rfl ?_
  obtain ⟨r_12, e_12, hf⟩ := ob_bind hf
  have hPX_12 : va_P D vwCl ([]) s.heap := P_nil
  refine ro_call1 (va_runS (As := [.long v1.toInt64, .long 0, .long ((((o.1 1) (4 : Int32).toNatClampNeg) - 1).toInt64)]) (rest := []) ⟨hx, hb, hml, hown, htl⟩ (c_X10_in l D ct G fu v1.toInt64 (0 : Int64) ((((o.1 1) (4 : Int32).toNatClampNeg) - 1).toInt64) e_12) (cw_X10_X10_in htl ⟨Nat.le_of_ble_eq_true rfl, Nat.le_of_ble_eq_true rfl⟩) ⟨Bx_blind, Bx_pre hPX_12 hK hN hX⟩ rfl rfl hl.1 rfl (lv_room (Nat.le_of_ble_eq_true rfl)) dX10_isJoin_12 ⟨Nat.zero_le _, Nat.zero_le _⟩) ?_
  obtain ⟨hz_15, hf⟩ := ob_z hf
  rw [← hQQ]
  exact rf_z hx hb hr hlocks hz_15.1 hf dX10_isJoin_15
theorem c_X10_isJoin (l : Launch) (D : va_G) (ct : Nat → ClassId) (G : GT) (a : Nat → Nat) (fu : Nat) (o : Ob) (v1 : Int32) {r : Int32} (hf : p_X10_isJoin fu o v1 = some r)  : Met l yX10_isJoin (.code yX10_isJoin cX10_isJoin 2 (some .boolean) :: wsL_law) rm_X10_isJoin (va_Pc [.ref (a 0), .int v1] (Bx D ct G (cs10 ct a o))) (Qro (some (.int r))) 0 0 (fun _ => False) := by
  refine Met.ofW (cc := cX10_isJoin) (maxL := 2) (ret := (some .boolean)) (by decide) rfl ?_
  intro p e s m args below meth c s₁ B hml hv
  obtain ⟨rfl, hP, hK, hN, hX⟩ := hv
  have hts := atoms_spec (ws := .code yX10_isJoin cX10_isJoin 2 (some .boolean) :: wsL_law) B.pre
  rw [lg_entry_eq]
  exact b_X10_isJoin a fu o v1 B.exec B.bytes B.returns hml (findClass_of_methodNamed B.named) (fun w h => hts w (List.mem_cons_of_mem _ h)) B.notSynchronized hK hN hX hP hf   (lv_entry [.ref (a 0), .int v1] (n := 2) (Nat.le_of_ble_eq_true rfl))
def p_X10_isStep (fu : Nat) (v0 : Int64) : Option (Int32) :=
  (p_X10_in fu v0 (0 : Int64) (60 : Int64)).bind fun r_5 => if r_5 = 0 ∨ r_5 = 1 then some r_5 else none
abbrev rm_X10_isStep : Room := { frames := 1, cells := 0, slots := 0, locals := 25 }
set_option maxHeartbeats 4000000 in
set_option maxRecDepth 100000 in
theorem b_X10_isStep {p : Program} {l : Launch} {e : Env} {s : State} {m : MethodId} {args : Array Value} {below : List Frame} {meth : Method} {c : Code} {ls : Array Slot} {D : va_G} {ct : Nat → ClassId} {G : GT}  (fu : Nat) (v0 : Int64) {r : Int32} (hx : p.tables.exec = Jvm.exec) (hb : c.code = cX10_isStep) (hr : meth.sig.returnType = (some .boolean)) (hml : c.maxLocals = 2) (hown : s.vm.findClass RX10 = some m.cls) (htl : ∀ w ∈ wsL_law, w.before args s = true) (hlocks : meth.locks = false) (hK : va_K D vwCl (tyl ct) s) (hN : ∀ w ∈ NW, va_Nw w s) (hX : SX G s s.heap) (hP0 : va_P D vwCl ([]) s.heap) (hf : p_X10_isStep fu v0 = some r)  (hl : lv_has ls 2 [(0, .long v0)]) : W p l e rm_X10_isStep s m args below meth c s.heap [] 0 0 (MQ below (Qro (some (.int r))) args s 0 0 (fun _ => False)) (F0 m 0 ls []) := by
  generalize hQQ : MQ below (Qro (some (.int r))) args s 0 0 (fun _ => False) = QQ
  have hP := hP0
  rw [p_X10_isStep] at hf
  refine lv_lload_n hx hb dX10_isStep_0 rfl (lv_at hl 0 rfl) ?_
  refine lv_lconst (v := 0) hx hb dX10_isStep_1 (by decide) ?_
  refine lv_ldc2 (v := 60) hx hb hown (htl _ wq_23_15) dX10_isStep_2 ?_
  obtain ⟨r_5, e_5, hf⟩ := ob_bind hf
  have hPX_5 : va_P D vwCl ([]) s.heap := P_nil
  refine ro_call1 (va_runS (As := [.long v0, .long 0, .long 60]) (rest := []) ⟨hx, hb, hml, hown, htl⟩ (c_X10_in l D ct G fu v0 (0 : Int64) (60 : Int64) e_5) (cw_X10_X10_in htl ⟨Nat.le_of_ble_eq_true rfl, Nat.le_of_ble_eq_true rfl⟩) ⟨Bx_blind, Bx_pre hPX_5 hK hN hX⟩ rfl rfl hl.1 rfl (lv_room (Nat.le_of_ble_eq_true rfl)) dX10_isStep_5 ⟨Nat.zero_le _, Nat.zero_le _⟩) ?_
  obtain ⟨hz_8, hf⟩ := ob_z hf
  rw [← hQQ]
  exact rf_z hx hb hr hlocks hz_8.1 hf dX10_isStep_8
theorem c_X10_isStep (l : Launch) (D : va_G) (ct : Nat → ClassId) (G : GT)  (fu : Nat) (v0 : Int64) {r : Int32} (hf : p_X10_isStep fu v0 = some r)  : Met l yX10_isStep (.code yX10_isStep cX10_isStep 2 (some .boolean) :: wsL_law) rm_X10_isStep (va_Pc [.long v0] (Bx D ct G ([]))) (Qro (some (.int r))) 0 0 (fun _ => False) := by
  refine Met.ofW (cc := cX10_isStep) (maxL := 2) (ret := (some .boolean)) (by decide) rfl ?_
  intro p e s m args below meth c s₁ B hml hv
  obtain ⟨rfl, hP, hK, hN, hX⟩ := hv
  have hts := atoms_spec (ws := .code yX10_isStep cX10_isStep 2 (some .boolean) :: wsL_law) B.pre
  rw [lg_entry_eq]
  exact b_X10_isStep  fu v0 B.exec B.bytes B.returns hml (findClass_of_methodNamed B.named) (fun w h => hts w (List.mem_cons_of_mem _ h)) B.notSynchronized hK hN hX hP hf   (lv_entry [.long v0] (n := 2) (Nat.le_of_ble_eq_true rfl))
def p_X10_of (fu : Nat) (o : Ob) (v1 : Int32) (v2 : Int32) : Option (Int32) :=
  if inb ((8 + (3 * v1)) + v2) 98 = true then some ((o.1 1) ((8 + (3 * v1)) + v2).toNatClampNeg) else none
abbrev rm_X10_of : Room := { frames := 0, cells := 0, slots := 0, locals := 0 }
set_option maxHeartbeats 4000000 in
set_option maxRecDepth 100000 in
theorem b_X10_of {p : Program} {l : Launch} {e : Env} {s : State} {m : MethodId} {args : Array Value} {below : List Frame} {meth : Method} {c : Code} {ls : Array Slot} {D : va_G} {ct : Nat → ClassId} {G : GT} (a : Nat → Nat) (fu : Nat) (o : Ob) (v1 : Int32) (v2 : Int32) {r : Int32} (hx : p.tables.exec = Jvm.exec) (hb : c.code = cX10_of) (hr : meth.sig.returnType = (some .int)) (hml : c.maxLocals = 3) (hown : s.vm.findClass RX10 = some m.cls) (htl : ∀ w ∈ wsL_law, w.before args s = true) (hlocks : meth.locks = false) (hK : va_K D vwCl (tyl ct) s) (hN : ∀ w ∈ NW, va_Nw w s) (hX : SX G s s.heap) (hP0 : va_P D vwCl (cs10 ct a o) s.heap) (hf : p_X10_of fu o v1 v2 = some r)  (hl : lv_has ls 3 [(0, .ref (a 0)), (1, .int v1), (2, .int v2)]) : W p l e rm_X10_of s m args below meth c s.heap [] 0 0 (MQ below (Qro (some (.int r))) args s 0 0 (fun _ => False)) (F0 m 0 ls []) := by
  generalize hQQ : MQ below (Qro (some (.int r))) args s 0 0 (fun _ => False) = QQ
  have hP := hP0
  rw [p_X10_of] at hf
  refine lv_aload_n hx hb dX10_of_0 rfl (lv_at hl 0 rfl) ?_
  refine va_get (D := D) (ci := 10) (v := .ref (a 1)) (C := RX10) (T := TX10) (N := 42) hx hb htl inlX10 hown hK hP 0 rfl rfl 1 (by decide) (htl _ wq_7_0) (fun _ h9 => h9) rfl dX10_of_1 ?_
  refine lv_bipush (v := 8) hx hb dX10_of_4 (by decide) ?_
  refine lv_iconst (v := 3) hx hb dX10_of_6 (by decide) ?_
  refine lv_iload_n hx hb dX10_of_7 rfl (lv_at hl 1 rfl) ?_
  refine lv_imul hx hb dX10_of_8 ?_
  refine lv_iadd hx hb dX10_of_9 ?_
  refine lv_iload_n hx hb dX10_of_10 rfl (lv_at hl 2 rfl) ?_
  refine lv_iadd hx hb dX10_of_11 ?_
  obtain ⟨hi_12, hf⟩ := ob_in hf
  refine va_iald (D := D) (tys := tyl ct) hx hb hK hP 1 0 rfl rfl hi_12 dX10_of_12 ?_
  rw [← hQQ]
  exact rf_i hx hb hr hlocks hf dX10_of_13
theorem c_X10_of (l : Launch) (D : va_G) (ct : Nat → ClassId) (G : GT) (a : Nat → Nat) (fu : Nat) (o : Ob) (v1 : Int32) (v2 : Int32) {r : Int32} (hf : p_X10_of fu o v1 v2 = some r)  : Met l yX10_of (.code yX10_of cX10_of 3 (some .int) :: wsL_law) rm_X10_of (va_Pc [.ref (a 0), .int v1, .int v2] (Bx D ct G (cs10 ct a o))) (Qro (some (.int r))) 0 0 (fun _ => False) := by
  refine Met.ofW (cc := cX10_of) (maxL := 3) (ret := (some .int)) (by decide) rfl ?_
  intro p e s m args below meth c s₁ B hml hv
  obtain ⟨rfl, hP, hK, hN, hX⟩ := hv
  have hts := atoms_spec (ws := .code yX10_of cX10_of 3 (some .int) :: wsL_law) B.pre
  rw [lg_entry_eq]
  exact b_X10_of a fu o v1 v2 B.exec B.bytes B.returns hml (findClass_of_methodNamed B.named) (fun w h => hts w (List.mem_cons_of_mem _ h)) B.notSynchronized hK hN hX hP hf   (lv_entry [.ref (a 0), .int v1, .int v2] (n := 3) (Nat.le_of_ble_eq_true rfl))
def p_X10_ofJoin (fu : Nat) (o : Ob) (v1 : Int32) (v2 : Int32) : Option (Int32) :=
  if inb ((38 + (4 * v1)) + v2) 98 = true then some ((o.1 1) ((38 + (4 * v1)) + v2).toNatClampNeg) else none
abbrev rm_X10_ofJoin : Room := { frames := 0, cells := 0, slots := 0, locals := 0 }
set_option maxHeartbeats 4000000 in
set_option maxRecDepth 100000 in
theorem b_X10_ofJoin {p : Program} {l : Launch} {e : Env} {s : State} {m : MethodId} {args : Array Value} {below : List Frame} {meth : Method} {c : Code} {ls : Array Slot} {D : va_G} {ct : Nat → ClassId} {G : GT} (a : Nat → Nat) (fu : Nat) (o : Ob) (v1 : Int32) (v2 : Int32) {r : Int32} (hx : p.tables.exec = Jvm.exec) (hb : c.code = cX10_ofJoin) (hr : meth.sig.returnType = (some .int)) (hml : c.maxLocals = 3) (hown : s.vm.findClass RX10 = some m.cls) (htl : ∀ w ∈ wsL_law, w.before args s = true) (hlocks : meth.locks = false) (hK : va_K D vwCl (tyl ct) s) (hN : ∀ w ∈ NW, va_Nw w s) (hX : SX G s s.heap) (hP0 : va_P D vwCl (cs10 ct a o) s.heap) (hf : p_X10_ofJoin fu o v1 v2 = some r)  (hl : lv_has ls 3 [(0, .ref (a 0)), (1, .int v1), (2, .int v2)]) : W p l e rm_X10_ofJoin s m args below meth c s.heap [] 0 0 (MQ below (Qro (some (.int r))) args s 0 0 (fun _ => False)) (F0 m 0 ls []) := by
  generalize hQQ : MQ below (Qro (some (.int r))) args s 0 0 (fun _ => False) = QQ
  have hP := hP0
  rw [p_X10_ofJoin] at hf
  refine lv_aload_n hx hb dX10_ofJoin_0 rfl (lv_at hl 0 rfl) ?_
  refine va_get (D := D) (ci := 10) (v := .ref (a 1)) (C := RX10) (T := TX10) (N := 42) hx hb htl inlX10 hown hK hP 0 rfl rfl 1 (by decide) (htl _ wq_7_0) (fun _ h9 => h9) rfl dX10_ofJoin_1 ?_
  refine lv_bipush (v := 38) hx hb dX10_ofJoin_4 (by decide) ?_
  refine lv_iconst (v := 4) hx hb dX10_ofJoin_6 (by decide) ?_
  refine lv_iload_n hx hb dX10_ofJoin_7 rfl (lv_at hl 1 rfl) ?_
  refine lv_imul hx hb dX10_ofJoin_8 ?_
  refine lv_iadd hx hb dX10_ofJoin_9 ?_
  refine lv_iload_n hx hb dX10_ofJoin_10 rfl (lv_at hl 2 rfl) ?_
  refine lv_iadd hx hb dX10_ofJoin_11 ?_
  obtain ⟨hi_12, hf⟩ := ob_in hf
  refine va_iald (D := D) (tys := tyl ct) hx hb hK hP 1 0 rfl rfl hi_12 dX10_ofJoin_12 ?_
  rw [← hQQ]
  exact rf_i hx hb hr hlocks hf dX10_ofJoin_13
theorem c_X10_ofJoin (l : Launch) (D : va_G) (ct : Nat → ClassId) (G : GT) (a : Nat → Nat) (fu : Nat) (o : Ob) (v1 : Int32) (v2 : Int32) {r : Int32} (hf : p_X10_ofJoin fu o v1 v2 = some r)  : Met l yX10_ofJoin (.code yX10_ofJoin cX10_ofJoin 3 (some .int) :: wsL_law) rm_X10_ofJoin (va_Pc [.ref (a 0), .int v1, .int v2] (Bx D ct G (cs10 ct a o))) (Qro (some (.int r))) 0 0 (fun _ => False) := by
  refine Met.ofW (cc := cX10_ofJoin) (maxL := 3) (ret := (some .int)) (by decide) rfl ?_
  intro p e s m args below meth c s₁ B hml hv
  obtain ⟨rfl, hP, hK, hN, hX⟩ := hv
  have hts := atoms_spec (ws := .code yX10_ofJoin cX10_ofJoin 3 (some .int) :: wsL_law) B.pre
  rw [lg_entry_eq]
  exact b_X10_ofJoin a fu o v1 v2 B.exec B.bytes B.returns hml (findClass_of_methodNamed B.named) (fun w h => hts w (List.mem_cons_of_mem _ h)) B.notSynchronized hK hN hX hP hf   (lv_entry [.ref (a 0), .int v1, .int v2] (n := 3) (Nat.le_of_ble_eq_true rfl))
def p_X10_feed_L55 (fu : Nat) (c101 : Ob → Option (Int32 × Ob)) : Nat → Ob → Int32 → Option (Int32 × Ob)
  | 0, _, _ => none
  | n + 1, oz, v6 =>
    if (20 : Int32) ≤ v6 then c101 oz else if (4 : Int32) = 0 then none else if inb (v6 / 4) 5 = true then if (4 : Int32) = 0 then none else if inb ((oz.1 5 0) + v6) 700 = true then p_X10_feed_L55 fu c101 n (oA oz 4 (upd (oz.1 4) (((oz.1 5 0) + v6).toNatClampNeg) (vp_nar .byte ((((oz.1 6) (v6 / 4).toNatClampNeg) >>> ((24 - (8 * (v6 - v6 / 4 * 4))) &&& 31)).toInt8.toInt32)))) (v6 + 1) else none else none
def p_X10_feed (fu : Nat) (o : Ob) (v1 : Int32) (v2 : Int32) (v3 : Int32) (v4 : Int32) (v5 : Int32) : Option (Int32 × Ob) :=
  if ((o.1 5 0) + 20) ≤ (700 : Int32) then if inb (0 : Int32) 5 = true then if inb (1 : Int32) 5 = true then if inb (2 : Int32) 5 = true then if inb (3 : Int32) 5 = true then if inb (4 : Int32) 5 = true then p_X10_feed_L55 fu (fun oz => some (((oI oz 5 ((oz.1 5 0) + 20)).1 5 0), (oI oz 5 ((oz.1 5 0) + 20)))) fu (oA (oA (oA (oA (oA o 6 (upd (o.1 6) ((0 : Int32).toNatClampNeg) v1)) 6 (upd ((oA o 6 (upd (o.1 6) ((0 : Int32).toNatClampNeg) v1)).1 6) ((1 : Int32).toNatClampNeg) v2)) 6 (upd ((oA (oA o 6 (upd (o.1 6) ((0 : Int32).toNatClampNeg) v1)) 6 (upd ((oA o 6 (upd (o.1 6) ((0 : Int32).toNatClampNeg) v1)).1 6) ((1 : Int32).toNatClampNeg) v2)).1 6) ((2 : Int32).toNatClampNeg) v3)) 6 (upd ((oA (oA (oA o 6 (upd (o.1 6) ((0 : Int32).toNatClampNeg) v1)) 6 (upd ((oA o 6 (upd (o.1 6) ((0 : Int32).toNatClampNeg) v1)).1 6) ((1 : Int32).toNatClampNeg) v2)) 6 (upd ((oA (oA o 6 (upd (o.1 6) ((0 : Int32).toNatClampNeg) v1)) 6 (upd ((oA o 6 (upd (o.1 6) ((0 : Int32).toNatClampNeg) v1)).1 6) ((1 : Int32).toNatClampNeg) v2)).1 6) ((2 : Int32).toNatClampNeg) v3)).1 6) ((3 : Int32).toNatClampNeg) v4)) 6 (upd ((oA (oA (oA (oA o 6 (upd (o.1 6) ((0 : Int32).toNatClampNeg) v1)) 6 (upd ((oA o 6 (upd (o.1 6) ((0 : Int32).toNatClampNeg) v1)).1 6) ((1 : Int32).toNatClampNeg) v2)) 6 (upd ((oA (oA o 6 (upd (o.1 6) ((0 : Int32).toNatClampNeg) v1)) 6 (upd ((oA o 6 (upd (o.1 6) ((0 : Int32).toNatClampNeg) v1)).1 6) ((1 : Int32).toNatClampNeg) v2)).1 6) ((2 : Int32).toNatClampNeg) v3)) 6 (upd ((oA (oA (oA o 6 (upd (o.1 6) ((0 : Int32).toNatClampNeg) v1)) 6 (upd ((oA o 6 (upd (o.1 6) ((0 : Int32).toNatClampNeg) v1)).1 6) ((1 : Int32).toNatClampNeg) v2)) 6 (upd ((oA (oA o 6 (upd (o.1 6) ((0 : Int32).toNatClampNeg) v1)) 6 (upd ((oA o 6 (upd (o.1 6) ((0 : Int32).toNatClampNeg) v1)).1 6) ((1 : Int32).toNatClampNeg) v2)).1 6) ((2 : Int32).toNatClampNeg) v3)).1 6) ((3 : Int32).toNatClampNeg) v4)).1 6) ((4 : Int32).toNatClampNeg) v5)) 0 else none else none else none else none else none else some (((-1) : Int32), o)
abbrev rm_X10_feed : Room := { frames := 0, cells := 0, slots := 0, locals := 0 }
set_option maxHeartbeats 4000000 in
set_option maxRecDepth 100000 in
theorem b_X10_feed {p : Program} {l : Launch} {e : Env} {s : State} {m : MethodId} {args : Array Value} {below : List Frame} {meth : Method} {c : Code} {ls : Array Slot} {D : va_G} {ct : Nat → ClassId} {G : GT} (a : Nat → Nat) (fu : Nat) (o : Ob) (v1 : Int32) (v2 : Int32) (v3 : Int32) (v4 : Int32) (v5 : Int32) {r : Int32 × Ob} (hx : p.tables.exec = Jvm.exec) (hb : c.code = cX10_feed) (hr : meth.sig.returnType = (some .int)) (hml : c.maxLocals = 7) (hown : s.vm.findClass RX10 = some m.cls) (htl : ∀ w ∈ wsL_law, w.before args s = true) (hlocks : meth.locks = false) (hK : va_K D vwCl (tyl ct) s) (hN : ∀ w ∈ NW, va_Nw w s) (hX : SX G s s.heap) (hP0 : va_P D vwCl (cs10 ct a o) s.heap) (hf : p_X10_feed fu o v1 v2 v3 v4 v5 = some r) (hD0 : va_D (GE G) (cs10 ct a o))  (hl : lv_has ls 7 [(0, .ref (a 0)), (1, .int v1), (2, .int v2), (3, .int v3), (4, .int v4), (5, .int v5)]) : W p l e rm_X10_feed s m args below meth c s.heap [] 0 0 (MQ below (Qwr (some (.int r.1)) (fun H => va_P D vwCl (cs10 ct a r.2) H) (wA (cs10 ct a o))) args s 0 0 (wA (cs10 ct a o))) (F0 m 0 ls []) := by
  generalize hQQ : MQ below (Qwr (some (.int r.1)) (fun H => va_P D vwCl (cs10 ct a r.2) H) (wA (cs10 ct a o))) args s 0 0 (wA (cs10 ct a o)) = QQ
  have hDx : ∀ (oy : Ob), va_D (GE G) (cs10 ct a oy) := fun oy => D_cr hD0 rfl
  have hDW : ∀ (oy : Ob), va_D (wA (cs10 ct a o)) (cs10 ct a oy) := fun oy => D_cr (D_self hD0) rfl
  have hGE : ∀ q, wA (cs10 ct a o) q → GE G q := wA_GE hD0
  have hP := hP0
  have hS : va_S (wA (cs10 ct a o)) s.heap s.heap [] := va_S.rf
  have hL55 : ∀ (c101 : Ob → Option (Int32 × Ob)) (n : Nat) (oz : Ob) (v6 : Int32), ∀ (H : Heap) (locs : List Loc) (ls : Array Slot), va_P D vwCl (cs10 ct a oz) H → va_S (wA (cs10 ct a o)) s.heap H locs → lv_has ls 7 [(0, .ref (a 0)), (6, .int v6)] → p_X10_feed_L55 fu c101 n oz v6 = some r → (∀ (oz : Ob), ∀ (H : Heap) (locs : List Loc) (ls : Array Slot), va_P D vwCl (cs10 ct a oz) H → va_S (wA (cs10 ct a o)) s.heap H locs → lv_has ls 7 [(0, .ref (a 0))] → c101 oz = some r → W p l e rm_X10_feed s m args below meth c H locs 0 0 QQ (F0 m 101 ls [])) → W p l e rm_X10_feed s m args below meth c H locs 0 0 QQ (F0 m 55 ls []) := by
    intro c101 n
    induction n with
    | zero =>
      intro oz v6 H locs ls hP hS hl hf k101
      rw [p_X10_feed_L55] at hf
      cases hf
    | succ n ih =>
      intro oz v6 H locs ls hP hS hl hf k101
      rw [p_X10_feed_L55] at hf
      refine lv_iload hx hb dX10_feed_55 (lv_at hl 1 rfl) ?_
      refine lv_bipush (v := 20) hx hb dX10_feed_57 (by decide) ?_
      refine lv_icmp_ge (tgt := 101) hx hb dX10_feed_59 (by decide) (fun c_59 => ?_) (fun c_59 => ?_)
      · rw [if_pos c_59] at hf
        exact k101 oz _ _ _ hP hS (lv_sub hl [0] rfl) hf
      rw [if_neg c_59] at hf
      refine lv_aload_n hx hb dX10_feed_62 rfl (lv_at hl 0 rfl) ?_
      refine va_get (D := D) (ci := 10) (v := .ref (a 4)) (C := RX10) (T := TX10) (N := 42) hx hb htl inlX10 hown hK hP 0 rfl rfl 4 (by decide) (htl _ wq_7_5) (fun _ h9 => h9) rfl dX10_feed_63 ?_
      refine lv_aload_n hx hb dX10_feed_66 rfl (lv_at hl 0 rfl) ?_
      refine va_get (D := D) (ci := 10) (v := .int (oz.1 5 0)) (C := RX10) (T := TX10) (N := 42) hx hb htl inlX10 hown hK hP 0 rfl rfl 5 (by decide) (htl _ wq_8_16) (fun _ h9 => h9) rfl dX10_feed_67 ?_
      refine lv_iload hx hb dX10_feed_70 (lv_at hl 1 rfl) ?_
      refine lv_iadd hx hb dX10_feed_72 ?_
      refine lv_aload_n hx hb dX10_feed_73 rfl (lv_at hl 0 rfl) ?_
      refine va_get (D := D) (ci := 10) (v := .ref (a 5)) (C := RX10) (T := TX10) (N := 42) hx hb htl inlX10 hown hK hP 0 rfl rfl 6 (by decide) (htl _ wq_7_6) (fun _ h9 => h9) rfl dX10_feed_74 ?_
      refine lv_iload hx hb dX10_feed_77 (lv_at hl 1 rfl) ?_
      refine lv_iconst (v := 4) hx hb dX10_feed_79 (by decide) ?_
      obtain ⟨hne_80, hf⟩ := ob_ne hf
      refine lv_idiv hx hb dX10_feed_80 hne_80 ?_
      obtain ⟨hi_81, hf⟩ := ob_in hf
      refine va_iald (D := D) (tys := tyl ct) hx hb hK hP 5 0 rfl rfl hi_81 dX10_feed_81 ?_
      refine lv_bipush (v := 24) hx hb dX10_feed_82 (by decide) ?_
      refine lv_bipush (v := 8) hx hb dX10_feed_84 (by decide) ?_
      refine lv_iload hx hb dX10_feed_86 (lv_at hl 1 rfl) ?_
      refine lv_iconst (v := 4) hx hb dX10_feed_88 (by decide) ?_
      obtain ⟨hne_89, hf⟩ := ob_ne hf
      refine lv_irem hx hb dX10_feed_89 hne_89 ?_
      refine lv_imul hx hb dX10_feed_90 ?_
      refine lv_isub hx hb dX10_feed_91 ?_
      refine lv_ishr hx hb dX10_feed_92 ?_
      refine lv_i2b hx hb dX10_feed_93 rfl ?_
      obtain ⟨hi_94, hf⟩ := ob_in hf
      refine va_bast (D := D) (tys := tyl ct) hx hb hK hP (hDW oz) hS 4 2 rfl rfl hi_94 dX10_feed_94 (fun H_94 locs_94 hP _ hS => ?_)
      have hP : va_P D vwCl (cs10 ct a (oA oz 4 (upd (oz.1 4) (((oz.1 5 0) + v6).toNatClampNeg) (vp_nar .byte ((((oz.1 6) (v6 / 4).toNatClampNeg) >>> ((24 - (8 * (v6 - v6 / 4 * 4))) &&& 31)).toInt8.toInt32))))) H_94 := sa10_4 hP
      refine lv_iinc (v := (v6 + 1)) (lv' := [(6, .int (v6 + 1)), (0, .ref (a 0))]) hx hb dX10_feed_95 hl (k := 1) rfl rfl (by decide) rfl (fun ls hl => ?_)
      refine lv_goto (tgt := 55) hx hb dX10_feed_98 (by decide) ?_
      exact ih (oA oz 4 (upd (oz.1 4) (((oz.1 5 0) + v6).toNatClampNeg) (vp_nar .byte ((((oz.1 6) (v6 / 4).toNatClampNeg) >>> ((24 - (8 * (v6 - v6 / 4 * 4))) &&& 31)).toInt8.toInt32)))) (v6 + 1) _ _ _ hP hS (lv_sub hl [1, 0] rfl) hf k101
  rw [p_X10_feed] at hf
  refine lv_aload_n hx hb dX10_feed_0 rfl (lv_at hl 0 rfl) ?_
  refine va_get (D := D) (ci := 10) (v := .int (o.1 5 0)) (C := RX10) (T := TX10) (N := 42) hx hb htl inlX10 hown hK hP 0 rfl rfl 5 (by decide) (htl _ wq_8_16) (fun _ h9 => h9) rfl dX10_feed_1 ?_
  refine lv_bipush (v := 20) hx hb dX10_feed_4 (by decide) ?_
  refine lv_iadd hx hb dX10_feed_6 ?_
  refine lv_sipush (v := 700) hx hb dX10_feed_7 (by decide) ?_
  refine lv_icmp_le (tgt := 15) hx hb dX10_feed_10 (by decide) (fun c_10 => ?_) (fun c_10 => ?_)
  rotate_left 1
  · rw [if_neg c_10] at hf
    refine lv_iconst (v := (-1)) hx hb dX10_feed_13 (by decide) ?_
    rw [← hQQ]
    cases hf
    exact rw_i hx hb hr hlocks hP hS dX10_feed_14
  rw [if_pos c_10] at hf
  refine lv_aload_n hx hb dX10_feed_15 rfl (lv_at hl 0 rfl) ?_
  refine va_get (D := D) (ci := 10) (v := .ref (a 5)) (C := RX10) (T := TX10) (N := 42) hx hb htl inlX10 hown hK hP 0 rfl rfl 6 (by decide) (htl _ wq_7_6) (fun _ h9 => h9) rfl dX10_feed_16 ?_
  refine lv_iconst (v := 0) hx hb dX10_feed_19 (by decide) ?_
  refine lv_iload_n hx hb dX10_feed_20 rfl (lv_at hl 1 rfl) ?_
  obtain ⟨hi_21, hf⟩ := ob_in hf
  refine va_iast (D := D) (tys := tyl ct) hx hb hK hP (hDW o) hS 5 0 rfl rfl hi_21 dX10_feed_21 (fun H_21 locs_21 hP _ hS => ?_)
  have hP : va_P D vwCl (cs10 ct a (oA o 6 (upd (o.1 6) ((0 : Int32).toNatClampNeg) v1))) H_21 := sa10_6 hP
  refine lv_aload_n hx hb dX10_feed_22 rfl (lv_at hl 0 rfl) ?_
  refine va_get (D := D) (ci := 10) (v := .ref (a 5)) (C := RX10) (T := TX10) (N := 42) hx hb htl inlX10 hown hK hP 0 rfl rfl 6 (by decide) (htl _ wq_7_6) (fun _ h9 => h9) rfl dX10_feed_23 ?_
  refine lv_iconst (v := 1) hx hb dX10_feed_26 (by decide) ?_
  refine lv_iload_n hx hb dX10_feed_27 rfl (lv_at hl 2 rfl) ?_
  obtain ⟨hi_28, hf⟩ := ob_in hf
  refine va_iast (D := D) (tys := tyl ct) hx hb hK hP (hDW (oA o 6 (upd (o.1 6) ((0 : Int32).toNatClampNeg) v1))) hS 5 0 rfl rfl hi_28 dX10_feed_28 (fun H_28 locs_28 hP _ hS => ?_)
  have hP : va_P D vwCl (cs10 ct a (oA (oA o 6 (upd (o.1 6) ((0 : Int32).toNatClampNeg) v1)) 6 (upd ((oA o 6 (upd (o.1 6) ((0 : Int32).toNatClampNeg) v1)).1 6) ((1 : Int32).toNatClampNeg) v2))) H_28 := sa10_6 hP
  refine lv_aload_n hx hb dX10_feed_29 rfl (lv_at hl 0 rfl) ?_
  refine va_get (D := D) (ci := 10) (v := .ref (a 5)) (C := RX10) (T := TX10) (N := 42) hx hb htl inlX10 hown hK hP 0 rfl rfl 6 (by decide) (htl _ wq_7_6) (fun _ h9 => h9) rfl dX10_feed_30 ?_
  refine lv_iconst (v := 2) hx hb dX10_feed_33 (by decide) ?_
  refine lv_iload_n hx hb dX10_feed_34 rfl (lv_at hl 3 rfl) ?_
  obtain ⟨hi_35, hf⟩ := ob_in hf
  refine va_iast (D := D) (tys := tyl ct) hx hb hK hP (hDW (oA (oA o 6 (upd (o.1 6) ((0 : Int32).toNatClampNeg) v1)) 6 (upd ((oA o 6 (upd (o.1 6) ((0 : Int32).toNatClampNeg) v1)).1 6) ((1 : Int32).toNatClampNeg) v2))) hS 5 0 rfl rfl hi_35 dX10_feed_35 (fun H_35 locs_35 hP _ hS => ?_)
  have hP : va_P D vwCl (cs10 ct a (oA (oA (oA o 6 (upd (o.1 6) ((0 : Int32).toNatClampNeg) v1)) 6 (upd ((oA o 6 (upd (o.1 6) ((0 : Int32).toNatClampNeg) v1)).1 6) ((1 : Int32).toNatClampNeg) v2)) 6 (upd ((oA (oA o 6 (upd (o.1 6) ((0 : Int32).toNatClampNeg) v1)) 6 (upd ((oA o 6 (upd (o.1 6) ((0 : Int32).toNatClampNeg) v1)).1 6) ((1 : Int32).toNatClampNeg) v2)).1 6) ((2 : Int32).toNatClampNeg) v3))) H_35 := sa10_6 hP
  refine lv_aload_n hx hb dX10_feed_36 rfl (lv_at hl 0 rfl) ?_
  refine va_get (D := D) (ci := 10) (v := .ref (a 5)) (C := RX10) (T := TX10) (N := 42) hx hb htl inlX10 hown hK hP 0 rfl rfl 6 (by decide) (htl _ wq_7_6) (fun _ h9 => h9) rfl dX10_feed_37 ?_
  refine lv_iconst (v := 3) hx hb dX10_feed_40 (by decide) ?_
  refine lv_iload hx hb dX10_feed_41 (lv_at hl 4 rfl) ?_
  obtain ⟨hi_43, hf⟩ := ob_in hf
  refine va_iast (D := D) (tys := tyl ct) hx hb hK hP (hDW (oA (oA (oA o 6 (upd (o.1 6) ((0 : Int32).toNatClampNeg) v1)) 6 (upd ((oA o 6 (upd (o.1 6) ((0 : Int32).toNatClampNeg) v1)).1 6) ((1 : Int32).toNatClampNeg) v2)) 6 (upd ((oA (oA o 6 (upd (o.1 6) ((0 : Int32).toNatClampNeg) v1)) 6 (upd ((oA o 6 (upd (o.1 6) ((0 : Int32).toNatClampNeg) v1)).1 6) ((1 : Int32).toNatClampNeg) v2)).1 6) ((2 : Int32).toNatClampNeg) v3))) hS 5 0 rfl rfl hi_43 dX10_feed_43 (fun H_43 locs_43 hP _ hS => ?_)
  have hP : va_P D vwCl (cs10 ct a (oA (oA (oA (oA o 6 (upd (o.1 6) ((0 : Int32).toNatClampNeg) v1)) 6 (upd ((oA o 6 (upd (o.1 6) ((0 : Int32).toNatClampNeg) v1)).1 6) ((1 : Int32).toNatClampNeg) v2)) 6 (upd ((oA (oA o 6 (upd (o.1 6) ((0 : Int32).toNatClampNeg) v1)) 6 (upd ((oA o 6 (upd (o.1 6) ((0 : Int32).toNatClampNeg) v1)).1 6) ((1 : Int32).toNatClampNeg) v2)).1 6) ((2 : Int32).toNatClampNeg) v3)) 6 (upd ((oA (oA (oA o 6 (upd (o.1 6) ((0 : Int32).toNatClampNeg) v1)) 6 (upd ((oA o 6 (upd (o.1 6) ((0 : Int32).toNatClampNeg) v1)).1 6) ((1 : Int32).toNatClampNeg) v2)) 6 (upd ((oA (oA o 6 (upd (o.1 6) ((0 : Int32).toNatClampNeg) v1)) 6 (upd ((oA o 6 (upd (o.1 6) ((0 : Int32).toNatClampNeg) v1)).1 6) ((1 : Int32).toNatClampNeg) v2)).1 6) ((2 : Int32).toNatClampNeg) v3)).1 6) ((3 : Int32).toNatClampNeg) v4))) H_43 := sa10_6 hP
  refine lv_aload_n hx hb dX10_feed_44 rfl (lv_at hl 0 rfl) ?_
  refine va_get (D := D) (ci := 10) (v := .ref (a 5)) (C := RX10) (T := TX10) (N := 42) hx hb htl inlX10 hown hK hP 0 rfl rfl 6 (by decide) (htl _ wq_7_6) (fun _ h9 => h9) rfl dX10_feed_45 ?_
  refine lv_iconst (v := 4) hx hb dX10_feed_48 (by decide) ?_
  refine lv_iload hx hb dX10_feed_49 (lv_at hl 5 rfl) ?_
  obtain ⟨hi_51, hf⟩ := ob_in hf
  refine va_iast (D := D) (tys := tyl ct) hx hb hK hP (hDW (oA (oA (oA (oA o 6 (upd (o.1 6) ((0 : Int32).toNatClampNeg) v1)) 6 (upd ((oA o 6 (upd (o.1 6) ((0 : Int32).toNatClampNeg) v1)).1 6) ((1 : Int32).toNatClampNeg) v2)) 6 (upd ((oA (oA o 6 (upd (o.1 6) ((0 : Int32).toNatClampNeg) v1)) 6 (upd ((oA o 6 (upd (o.1 6) ((0 : Int32).toNatClampNeg) v1)).1 6) ((1 : Int32).toNatClampNeg) v2)).1 6) ((2 : Int32).toNatClampNeg) v3)) 6 (upd ((oA (oA (oA o 6 (upd (o.1 6) ((0 : Int32).toNatClampNeg) v1)) 6 (upd ((oA o 6 (upd (o.1 6) ((0 : Int32).toNatClampNeg) v1)).1 6) ((1 : Int32).toNatClampNeg) v2)) 6 (upd ((oA (oA o 6 (upd (o.1 6) ((0 : Int32).toNatClampNeg) v1)) 6 (upd ((oA o 6 (upd (o.1 6) ((0 : Int32).toNatClampNeg) v1)).1 6) ((1 : Int32).toNatClampNeg) v2)).1 6) ((2 : Int32).toNatClampNeg) v3)).1 6) ((3 : Int32).toNatClampNeg) v4))) hS 5 0 rfl rfl hi_51 dX10_feed_51 (fun H_51 locs_51 hP _ hS => ?_)
  have hP : va_P D vwCl (cs10 ct a (oA (oA (oA (oA (oA o 6 (upd (o.1 6) ((0 : Int32).toNatClampNeg) v1)) 6 (upd ((oA o 6 (upd (o.1 6) ((0 : Int32).toNatClampNeg) v1)).1 6) ((1 : Int32).toNatClampNeg) v2)) 6 (upd ((oA (oA o 6 (upd (o.1 6) ((0 : Int32).toNatClampNeg) v1)) 6 (upd ((oA o 6 (upd (o.1 6) ((0 : Int32).toNatClampNeg) v1)).1 6) ((1 : Int32).toNatClampNeg) v2)).1 6) ((2 : Int32).toNatClampNeg) v3)) 6 (upd ((oA (oA (oA o 6 (upd (o.1 6) ((0 : Int32).toNatClampNeg) v1)) 6 (upd ((oA o 6 (upd (o.1 6) ((0 : Int32).toNatClampNeg) v1)).1 6) ((1 : Int32).toNatClampNeg) v2)) 6 (upd ((oA (oA o 6 (upd (o.1 6) ((0 : Int32).toNatClampNeg) v1)) 6 (upd ((oA o 6 (upd (o.1 6) ((0 : Int32).toNatClampNeg) v1)).1 6) ((1 : Int32).toNatClampNeg) v2)).1 6) ((2 : Int32).toNatClampNeg) v3)).1 6) ((3 : Int32).toNatClampNeg) v4)) 6 (upd ((oA (oA (oA (oA o 6 (upd (o.1 6) ((0 : Int32).toNatClampNeg) v1)) 6 (upd ((oA o 6 (upd (o.1 6) ((0 : Int32).toNatClampNeg) v1)).1 6) ((1 : Int32).toNatClampNeg) v2)) 6 (upd ((oA (oA o 6 (upd (o.1 6) ((0 : Int32).toNatClampNeg) v1)) 6 (upd ((oA o 6 (upd (o.1 6) ((0 : Int32).toNatClampNeg) v1)).1 6) ((1 : Int32).toNatClampNeg) v2)).1 6) ((2 : Int32).toNatClampNeg) v3)) 6 (upd ((oA (oA (oA o 6 (upd (o.1 6) ((0 : Int32).toNatClampNeg) v1)) 6 (upd ((oA o 6 (upd (o.1 6) ((0 : Int32).toNatClampNeg) v1)).1 6) ((1 : Int32).toNatClampNeg) v2)) 6 (upd ((oA (oA o 6 (upd (o.1 6) ((0 : Int32).toNatClampNeg) v1)) 6 (upd ((oA o 6 (upd (o.1 6) ((0 : Int32).toNatClampNeg) v1)).1 6) ((1 : Int32).toNatClampNeg) v2)).1 6) ((2 : Int32).toNatClampNeg) v3)).1 6) ((3 : Int32).toNatClampNeg) v4)).1 6) ((4 : Int32).toNatClampNeg) v5))) H_51 := sa10_6 hP
  refine lv_iconst (v := 0) hx hb dX10_feed_52 (by decide) ?_
  refine lv_istore (lv' := [(6, .int 0), (0, .ref (a 0)), (1, .int v1), (2, .int v2), (3, .int v3), (4, .int v4), (5, .int v5)]) hx hb dX10_feed_53 hl (by decide) rfl (fun ls hl => ?_)
  refine hL55 _ fu (oA (oA (oA (oA (oA o 6 (upd (o.1 6) ((0 : Int32).toNatClampNeg) v1)) 6 (upd ((oA o 6 (upd (o.1 6) ((0 : Int32).toNatClampNeg) v1)).1 6) ((1 : Int32).toNatClampNeg) v2)) 6 (upd ((oA (oA o 6 (upd (o.1 6) ((0 : Int32).toNatClampNeg) v1)) 6 (upd ((oA o 6 (upd (o.1 6) ((0 : Int32).toNatClampNeg) v1)).1 6) ((1 : Int32).toNatClampNeg) v2)).1 6) ((2 : Int32).toNatClampNeg) v3)) 6 (upd ((oA (oA (oA o 6 (upd (o.1 6) ((0 : Int32).toNatClampNeg) v1)) 6 (upd ((oA o 6 (upd (o.1 6) ((0 : Int32).toNatClampNeg) v1)).1 6) ((1 : Int32).toNatClampNeg) v2)) 6 (upd ((oA (oA o 6 (upd (o.1 6) ((0 : Int32).toNatClampNeg) v1)) 6 (upd ((oA o 6 (upd (o.1 6) ((0 : Int32).toNatClampNeg) v1)).1 6) ((1 : Int32).toNatClampNeg) v2)).1 6) ((2 : Int32).toNatClampNeg) v3)).1 6) ((3 : Int32).toNatClampNeg) v4)) 6 (upd ((oA (oA (oA (oA o 6 (upd (o.1 6) ((0 : Int32).toNatClampNeg) v1)) 6 (upd ((oA o 6 (upd (o.1 6) ((0 : Int32).toNatClampNeg) v1)).1 6) ((1 : Int32).toNatClampNeg) v2)) 6 (upd ((oA (oA o 6 (upd (o.1 6) ((0 : Int32).toNatClampNeg) v1)) 6 (upd ((oA o 6 (upd (o.1 6) ((0 : Int32).toNatClampNeg) v1)).1 6) ((1 : Int32).toNatClampNeg) v2)).1 6) ((2 : Int32).toNatClampNeg) v3)) 6 (upd ((oA (oA (oA o 6 (upd (o.1 6) ((0 : Int32).toNatClampNeg) v1)) 6 (upd ((oA o 6 (upd (o.1 6) ((0 : Int32).toNatClampNeg) v1)).1 6) ((1 : Int32).toNatClampNeg) v2)) 6 (upd ((oA (oA o 6 (upd (o.1 6) ((0 : Int32).toNatClampNeg) v1)) 6 (upd ((oA o 6 (upd (o.1 6) ((0 : Int32).toNatClampNeg) v1)).1 6) ((1 : Int32).toNatClampNeg) v2)).1 6) ((2 : Int32).toNatClampNeg) v3)).1 6) ((3 : Int32).toNatClampNeg) v4)).1 6) ((4 : Int32).toNatClampNeg) v5)) 0 _ _ _ hP hS (lv_sub hl [1, 0] rfl) hf (fun oz H locs ls hP hS hl hf => ?_)
  refine lv_aload_n hx hb dX10_feed_101 rfl (lv_at hl 0 rfl) ?_
  refine lv_dup hx hb dX10_feed_102 rfl ?_
  refine va_get (D := D) (ci := 10) (v := .int (oz.1 5 0)) (C := RX10) (T := TX10) (N := 42) hx hb htl inlX10 hown hK hP 0 rfl rfl 5 (by decide) (htl _ wq_8_16) (fun _ h9 => h9) rfl dX10_feed_103 ?_
  refine lv_bipush (v := 20) hx hb dX10_feed_106 (by decide) ?_
  refine lv_iadd hx hb dX10_feed_108 ?_
  refine va_put (D := D) (ci := 10) (v := .int ((oz.1 5 0) + 20)) (ty := .int) (C := RX10) (T := TX10) (N := 42) hx hb htl inlX10 tyX10 tyX10_ok nmX10 hown hK hP (hDW oz) hS 0 rfl rfl 5 (by decide) (htl _ wq_8_16) (fun _ h9 => h9) rfl (tyX10_ok 5 (by decide)) rfl rfl (Nat.le_of_ble_eq_true rfl) dX10_feed_109 (fun H_109 locs_109 hP _ hS => ?_)
  have hP : va_P D vwCl (cs10 ct a (oI oz 5 ((oz.1 5 0) + 20))) H_109 := st10_5 hP
  refine lv_aload_n hx hb dX10_feed_112 rfl (lv_at hl 0 rfl) ?_
  refine va_get (D := D) (ci := 10) (v := .int ((oI oz 5 ((oz.1 5 0) + 20)).1 5 0)) (C := RX10) (T := TX10) (N := 42) hx hb htl inlX10 hown hK hP 0 rfl rfl 5 (by decide) (htl _ wq_8_16) (fun _ h9 => h9) rfl dX10_feed_113 ?_
  rw [← hQQ]
  cases hf
  exact rw_i hx hb hr hlocks hP hS dX10_feed_116
theorem c_X10_feed (l : Launch) (D : va_G) (ct : Nat → ClassId) (G : GT) (a : Nat → Nat) (fu : Nat) (o : Ob) (v1 : Int32) (v2 : Int32) (v3 : Int32) (v4 : Int32) (v5 : Int32) {r : Int32 × Ob} (hf : p_X10_feed fu o v1 v2 v3 v4 v5 = some r)  (hD0 : va_D (GE G) (cs10 ct a o)) : Met l yX10_feed (.code yX10_feed cX10_feed 7 (some .int) :: wsL_law) rm_X10_feed (va_Pc [.ref (a 0), .int v1, .int v2, .int v3, .int v4, .int v5] (Bx D ct G (cs10 ct a o))) (Qwr (some (.int r.1)) (fun H => va_P D vwCl (cs10 ct a r.2) H) (wA (cs10 ct a o))) 0 0 (wA (cs10 ct a o)) := by
  refine Met.ofW (cc := cX10_feed) (maxL := 7) (ret := (some .int)) (by decide) rfl ?_
  intro p e s m args below meth c s₁ B hml hv
  obtain ⟨rfl, hP, hK, hN, hX⟩ := hv
  have hts := atoms_spec (ws := .code yX10_feed cX10_feed 7 (some .int) :: wsL_law) B.pre
  rw [lg_entry_eq]
  exact b_X10_feed a fu o v1 v2 v3 v4 v5 B.exec B.bytes B.returns hml (findClass_of_methodNamed B.named) (fun w h => hts w (List.mem_cons_of_mem _ h)) B.notSynchronized hK hN hX hP hf hD0  (lv_entry [.ref (a 0), .int v1, .int v2, .int v3, .int v4, .int v5] (n := 7) (Nat.le_of_ble_eq_true rfl))
def p_X10_end (fu : Nat) (o : Ob) (v1 : Int32) : Option (Int32 × Ob) :=
  (p_X10_in fu v1.toInt64 (0 : Int64) ((o.1 5 0).toInt64)).bind fun r_8 => if r_8 = 0 then some (((-1) : Int32), o) else some (v1, (oI o 5 v1))
abbrev rm_X10_end : Room := { frames := 1, cells := 0, slots := 0, locals := 25 }
set_option maxHeartbeats 4000000 in
set_option maxRecDepth 100000 in
theorem b_X10_end {p : Program} {l : Launch} {e : Env} {s : State} {m : MethodId} {args : Array Value} {below : List Frame} {meth : Method} {c : Code} {ls : Array Slot} {D : va_G} {ct : Nat → ClassId} {G : GT} (a : Nat → Nat) (fu : Nat) (o : Ob) (v1 : Int32) {r : Int32 × Ob} (hx : p.tables.exec = Jvm.exec) (hb : c.code = cX10_end) (hr : meth.sig.returnType = (some .int)) (hml : c.maxLocals = 2) (hown : s.vm.findClass RX10 = some m.cls) (htl : ∀ w ∈ wsL_law, w.before args s = true) (hlocks : meth.locks = false) (hK : va_K D vwCl (tyl ct) s) (hN : ∀ w ∈ NW, va_Nw w s) (hX : SX G s s.heap) (hP0 : va_P D vwCl (cs10 ct a o) s.heap) (hf : p_X10_end fu o v1 = some r) (hD0 : va_D (GE G) (cs10 ct a o))  (hl : lv_has ls 2 [(0, .ref (a 0)), (1, .int v1)]) : W p l e rm_X10_end s m args below meth c s.heap [] 0 0 (MQ below (Qwr (some (.int r.1)) (fun H => va_P D vwCl (cs10 ct a r.2) H) (wA (cs10 ct a o))) args s 0 0 (wA (cs10 ct a o))) (F0 m 0 ls []) := by
  generalize hQQ : MQ below (Qwr (some (.int r.1)) (fun H => va_P D vwCl (cs10 ct a r.2) H) (wA (cs10 ct a o))) args s 0 0 (wA (cs10 ct a o)) = QQ
  have hDx : ∀ (oy : Ob), va_D (GE G) (cs10 ct a oy) := fun oy => D_cr hD0 rfl
  have hDW : ∀ (oy : Ob), va_D (wA (cs10 ct a o)) (cs10 ct a oy) := fun oy => D_cr (D_self hD0) rfl
  have hGE : ∀ q, wA (cs10 ct a o) q → GE G q := wA_GE hD0
  have hP := hP0
  have hS : va_S (wA (cs10 ct a o)) s.heap s.heap [] := va_S.rf
  rw [p_X10_end] at hf
  refine lv_iload_n hx hb dX10_end_0 rfl (lv_at hl 1 rfl) ?_
  refine lv_i2l hx hb dX10_end_1 rfl ?_
  refine lv_lconst (v := 0) hx hb dX10_end_2 (by decide) ?_
  refine lv_aload_n hx hb dX10_end_3 rfl (lv_at hl 0 rfl) ?_
  refine va_get (D := D) (ci := 10) (v := .int (o.1 5 0)) (C := RX10) (T := TX10) (N := 42) hx hb htl inlX10 hown hK hP 0 rfl rfl 5 (by decide) (htl _ wq_8_16) (fun _ h9 => h9) rfl dX10_end_4 ?_
  refine lv_i2l hx hb dX10_end_7 rfl ?_
  obtain ⟨r_8, e_8, hf⟩ := ob_bind hf
  have hPX_8 : va_P D vwCl ([]) s.heap := P_nil
  refine ro_call1 (va_runS (As := [.long v1.toInt64, .long 0, .long ((o.1 5 0).toInt64)]) (rest := []) ⟨hx, hb, hml, hown, htl⟩ (c_X10_in l D ct G fu v1.toInt64 (0 : Int64) ((o.1 5 0).toInt64) e_8) (cw_X10_X10_in htl ⟨Nat.le_of_ble_eq_true rfl, Nat.le_of_ble_eq_true rfl⟩) ⟨Bx_blind, Bx_pre hPX_8 hK hN (hX.stay hS hGE)⟩ rfl rfl hl.1 rfl (lv_room (Nat.le_of_ble_eq_true rfl)) dX10_end_8 ⟨Nat.zero_le _, Nat.zero_le _⟩) ?_
  refine lv_if_ne (tgt := 16) hx hb dX10_end_11 (by decide) (fun c_11 => ?_) (fun c_11 => ?_)
  rotate_left 1
  · rw [if_pos c_11] at hf
    refine lv_iconst (v := (-1)) hx hb dX10_end_14 (by decide) ?_
    rw [← hQQ]
    cases hf
    exact rw_i hx hb hr hlocks hP hS dX10_end_15
  rw [if_neg c_11] at hf
  refine lv_aload_n hx hb dX10_end_16 rfl (lv_at hl 0 rfl) ?_
  refine lv_iload_n hx hb dX10_end_17 rfl (lv_at hl 1 rfl) ?_
  refine va_put (D := D) (ci := 10) (v := .int v1) (ty := .int) (C := RX10) (T := TX10) (N := 42) hx hb htl inlX10 tyX10 tyX10_ok nmX10 hown hK hP (hDW o) hS 0 rfl rfl 5 (by decide) (htl _ wq_8_16) (fun _ h9 => h9) rfl (tyX10_ok 5 (by decide)) rfl rfl (Nat.le_of_ble_eq_true rfl) dX10_end_18 (fun H_18 locs_18 hP _ hS => ?_)
  have hP : va_P D vwCl (cs10 ct a (oI o 5 v1)) H_18 := st10_5 hP
  refine lv_iload_n hx hb dX10_end_21 rfl (lv_at hl 1 rfl) ?_
  rw [← hQQ]
  cases hf
  exact rw_i hx hb hr hlocks hP hS dX10_end_22
theorem c_X10_end (l : Launch) (D : va_G) (ct : Nat → ClassId) (G : GT) (a : Nat → Nat) (fu : Nat) (o : Ob) (v1 : Int32) {r : Int32 × Ob} (hf : p_X10_end fu o v1 = some r)  (hD0 : va_D (GE G) (cs10 ct a o)) : Met l yX10_end (.code yX10_end cX10_end 2 (some .int) :: wsL_law) rm_X10_end (va_Pc [.ref (a 0), .int v1] (Bx D ct G (cs10 ct a o))) (Qwr (some (.int r.1)) (fun H => va_P D vwCl (cs10 ct a r.2) H) (wA (cs10 ct a o))) 0 0 (wA (cs10 ct a o)) := by
  refine Met.ofW (cc := cX10_end) (maxL := 2) (ret := (some .int)) (by decide) rfl ?_
  intro p e s m args below meth c s₁ B hml hv
  obtain ⟨rfl, hP, hK, hN, hX⟩ := hv
  have hts := atoms_spec (ws := .code yX10_end cX10_end 2 (some .int) :: wsL_law) B.pre
  rw [lg_entry_eq]
  exact b_X10_end a fu o v1 B.exec B.bytes B.returns hml (findClass_of_methodNamed B.named) (fun w h => hts w (List.mem_cons_of_mem _ h)) B.notSynchronized hK hN hX hP hf hD0  (lv_entry [.ref (a 0), .int v1] (n := 2) (Nat.le_of_ble_eq_true rfl))
def p_X10_see (fu : Nat) (o : Ob) (v1 : Int32) : Option (Int32) :=
  if (o.1 7 0) ≤ v1 then some ((-1) : Int32) else if inb v1 700 = true then some (((o.1 4) v1.toNatClampNeg) &&& 255) else none
abbrev rm_X10_see : Room := { frames := 0, cells := 0, slots := 0, locals := 0 }
set_option maxHeartbeats 4000000 in
set_option maxRecDepth 100000 in
theorem b_X10_see {p : Program} {l : Launch} {e : Env} {s : State} {m : MethodId} {args : Array Value} {below : List Frame} {meth : Method} {c : Code} {ls : Array Slot} {D : va_G} {ct : Nat → ClassId} {G : GT} (a : Nat → Nat) (fu : Nat) (o : Ob) (v1 : Int32) {r : Int32} (hx : p.tables.exec = Jvm.exec) (hb : c.code = cX10_see) (hr : meth.sig.returnType = (some .int)) (hml : c.maxLocals = 2) (hown : s.vm.findClass RX10 = some m.cls) (htl : ∀ w ∈ wsL_law, w.before args s = true) (hlocks : meth.locks = false) (hK : va_K D vwCl (tyl ct) s) (hN : ∀ w ∈ NW, va_Nw w s) (hX : SX G s s.heap) (hP0 : va_P D vwCl (cs10 ct a o) s.heap) (hf : p_X10_see fu o v1 = some r)  (hl : lv_has ls 2 [(0, .ref (a 0)), (1, .int v1)]) : W p l e rm_X10_see s m args below meth c s.heap [] 0 0 (MQ below (Qro (some (.int r))) args s 0 0 (fun _ => False)) (F0 m 0 ls []) := by
  generalize hQQ : MQ below (Qro (some (.int r))) args s 0 0 (fun _ => False) = QQ
  have hP := hP0
  rw [p_X10_see] at hf
  refine lv_iload_n hx hb dX10_see_0 rfl (lv_at hl 1 rfl) ?_
  refine lv_aload_n hx hb dX10_see_1 rfl (lv_at hl 0 rfl) ?_
  refine va_get (D := D) (ci := 10) (v := .int (o.1 7 0)) (C := RX10) (T := TX10) (N := 42) hx hb htl inlX10 hown hK hP 0 rfl rfl 7 (by decide) (htl _ wq_16_10) (fun _ h9 => h9) rfl dX10_see_2 ?_
  refine lv_icmp_ge (tgt := 21) hx hb dX10_see_5 (by decide) (fun c_5 => ?_) (fun c_5 => ?_)
  · rw [if_pos c_5] at hf
    refine lv_iconst (v := (-1)) hx hb dX10_see_21 (by decide) ?_
    rw [← hQQ]
    exact rf_i hx hb hr hlocks hf dX10_see_22
  rw [if_neg c_5] at hf
  refine lv_aload_n hx hb dX10_see_8 rfl (lv_at hl 0 rfl) ?_
  refine va_get (D := D) (ci := 10) (v := .ref (a 4)) (C := RX10) (T := TX10) (N := 42) hx hb htl inlX10 hown hK hP 0 rfl rfl 4 (by decide) (htl _ wq_7_5) (fun _ h9 => h9) rfl dX10_see_9 ?_
  refine lv_iload_n hx hb dX10_see_12 rfl (lv_at hl 1 rfl) ?_
  obtain ⟨hi_13, hf⟩ := ob_in hf
  refine va_bald (D := D) (tys := tyl ct) hx hb hK hP 4 2 rfl rfl hi_13 dX10_see_13 ?_
  refine lv_sipush (v := 255) hx hb dX10_see_14 (by decide) ?_
  refine lv_iand hx hb dX10_see_17 ?_
  refine lv_goto (tgt := 22) hx hb dX10_see_18 (by decide) ?_
  rw [← hQQ]
  exact rf_i hx hb hr hlocks hf dX10_see_22
theorem c_X10_see (l : Launch) (D : va_G) (ct : Nat → ClassId) (G : GT) (a : Nat → Nat) (fu : Nat) (o : Ob) (v1 : Int32) {r : Int32} (hf : p_X10_see fu o v1 = some r)  : Met l yX10_see (.code yX10_see cX10_see 2 (some .int) :: wsL_law) rm_X10_see (va_Pc [.ref (a 0), .int v1] (Bx D ct G (cs10 ct a o))) (Qro (some (.int r))) 0 0 (fun _ => False) := by
  refine Met.ofW (cc := cX10_see) (maxL := 2) (ret := (some .int)) (by decide) rfl ?_
  intro p e s m args below meth c s₁ B hml hv
  obtain ⟨rfl, hP, hK, hN, hX⟩ := hv
  have hts := atoms_spec (ws := .code yX10_see cX10_see 2 (some .int) :: wsL_law) B.pre
  rw [lg_entry_eq]
  exact b_X10_see a fu o v1 B.exec B.bytes B.returns hml (findClass_of_methodNamed B.named) (fun w h => hts w (List.mem_cons_of_mem _ h)) B.notSynchronized hK hN hX hP hf   (lv_entry [.ref (a 0), .int v1] (n := 2) (Nat.le_of_ble_eq_true rfl))
theorem hd_X10_see : yX10_see.cls ≠ "java/lang/invoke/MethodHandle" ∧ yX10_see.cls ≠ "java/lang/invoke/VarHandle" ∧ (parseMethodDescriptor yX10_see.desc).map (fun d => d.parameters.length) = some 1 := by decide +kernel
theorem cw_X10_X10_see {R : Room} {s : State} {args : Array Value} (ht : ∀ w ∈ wsL_law, w.before args s = true) (hR : rm_X10_see.frames + 1 ≤ R.frames ∧ 8 + (2 + 11) + rm_X10_see.locals ≤ R.locals) : CallW R s args RX10 RX10 107 yX10_see cX10_see 2 (some .int) ((.code yX10_see cX10_see 2 (some .int)) :: wsL_law) rm_X10_see 0 0 1 := cwV 1 ht (GV wq_17_2 wq_17_3 wq_17_4 wq_1_5 wq_17_5) rfl rfl rfl ⟨rfl, hd_X10_see⟩ hR
def p_X10_advance_J26 (fu : Nat) (c0 : Ob → Option (Ob)) (oz : Ob) : Option (Ob) :=
    c0 (oI oz 8 ((oz.1 8 0) + 1))
def p_X10_advance_L0 (fu : Nat) (c39 : Ob → Option (Ob)) : Nat → Ob → Option (Ob)
  | 0, _ => none
  | n + 1, oz =>
    (p_X10_see fu oz (oz.1 8 0)).bind fun r_5 => if r_5 = (32 : Int32) then p_X10_advance_J26 fu (fun oz => p_X10_advance_L0 fu c39 n oz) oz else (p_X10_see fu oz (oz.1 8 0)).bind fun r_18 => if r_18 = (10 : Int32) then p_X10_advance_J26 fu (fun oz => p_X10_advance_L0 fu c39 n oz) oz else c39 oz
def p_X10_advance_J226 (fu : Nat)  (oz : Ob) (s1 : Int32) : Option (Ob) :=
    some (oI (oI oz 10 s1) 8 (((oI oz 10 s1).1 8 0) + 1))
def p_X10_advance_L144 (fu : Nat)  : Nat → Ob → Option (Ob)
  | 0, _ => none
  | n + 1, oz =>
    (p_X10_see fu oz (oz.1 8 0)).bind fun r_149 => (p_X10_in fu r_149.toInt64 (48 : Int64) (57 : Int64)).bind fun r_159 => if r_159 = 0 then some (oI oz 10 (2 : Int32)) else (p_X10_see fu oz (oz.1 8 0)).bind fun r_180 => p_X10_advance_L144 fu  n (oI (oI oz 11 (if (((10 * (oz.1 11 0)) + r_180) - 48) < (99999 : Int32) then (((10 * (oz.1 11 0)) + r_180) - 48) else (99999 : Int32))) 8 (((oI oz 11 (if (((10 * (oz.1 11 0)) + r_180) - 48) < (99999 : Int32) then (((10 * (oz.1 11 0)) + r_180) - 48) else (99999 : Int32))).1 8 0) + 1))
def p_X10_advance_L83 (fu : Nat)  : Nat → Ob → Option (Ob)
  | 0, _ => none
  | n + 1, oz =>
    (p_X10_see fu oz (oz.1 8 0)).bind fun r_88 => (p_X10_in fu r_88.toInt64 (97 : Int64) (122 : Int64)).bind fun r_98 => if r_98 = 0 then some (oI oz 10 (1 : Int32)) else p_X10_advance_L83 fu  n (oI oz 8 ((oz.1 8 0) + 1))
def p_X10_advance (fu : Nat) (o : Ob) : Option (Ob) :=
  p_X10_advance_L0 fu (fun oz => (p_X10_see fu (oI oz 9 (oz.1 8 0)) ((oI oz 9 (oz.1 8 0)).1 8 0)).bind fun r_52 => if r_52 = ((-1) : Int32) then some (oI (oI oz 9 (oz.1 8 0)) 10 (0 : Int32)) else (p_X10_in fu r_52.toInt64 (97 : Int64) (122 : Int64)).bind fun r_77 => if r_77 = 0 then (p_X10_in fu r_52.toInt64 (48 : Int64) (57 : Int64)).bind fun r_133 => if r_133 = 0 then if r_52 = (59 : Int32) then p_X10_advance_J226 fu (oI oz 9 (oz.1 8 0)) 3 else p_X10_advance_J226 fu (oI oz 9 (oz.1 8 0)) 4 else p_X10_advance_L144 fu fu (oI (oI oz 9 (oz.1 8 0)) 11 (0 : Int32)) else p_X10_advance_L83 fu fu (oI oz 9 (oz.1 8 0))) fu o
abbrev rm_X10_advance : Room := { frames := 1, cells := 0, slots := 0, locals := 25 }
set_option maxHeartbeats 4000000 in
set_option maxRecDepth 100000 in
theorem b_X10_advance {p : Program} {l : Launch} {e : Env} {s : State} {m : MethodId} {args : Array Value} {below : List Frame} {meth : Method} {c : Code} {ls : Array Slot} {D : va_G} {ct : Nat → ClassId} {G : GT} (a : Nat → Nat) (fu : Nat) (o : Ob) {r : Ob} (hx : p.tables.exec = Jvm.exec) (hb : c.code = cX10_advance) (hr : meth.sig.returnType = none) (hml : c.maxLocals = 2) (hown : s.vm.findClass RX10 = some m.cls) (htl : ∀ w ∈ wsL_law, w.before args s = true) (hlocks : meth.locks = false) (hK : va_K D vwCl (tyl ct) s) (hN : ∀ w ∈ NW, va_Nw w s) (hX : SX G s s.heap) (hP0 : va_P D vwCl (cs10 ct a o) s.heap) (hf : p_X10_advance fu o = some r) (hD0 : va_D (GE G) (cs10 ct a o))  (hl : lv_has ls 2 [(0, .ref (a 0))]) : W p l e rm_X10_advance s m args below meth c s.heap [] 0 0 (MQ below (Qwr none (fun H => va_P D vwCl (cs10 ct a r) H) (wA (cs10 ct a o))) args s 0 0 (wA (cs10 ct a o))) (F0 m 0 ls []) := by
  generalize hQQ : MQ below (Qwr none (fun H => va_P D vwCl (cs10 ct a r) H) (wA (cs10 ct a o))) args s 0 0 (wA (cs10 ct a o)) = QQ
  have hDx : ∀ (oy : Ob), va_D (GE G) (cs10 ct a oy) := fun oy => D_cr hD0 rfl
  have hDW : ∀ (oy : Ob), va_D (wA (cs10 ct a o)) (cs10 ct a oy) := fun oy => D_cr (D_self hD0) rfl
  have hGE : ∀ q, wA (cs10 ct a o) q → GE G q := wA_GE hD0
  have hP := hP0
  have hS : va_S (wA (cs10 ct a o)) s.heap s.heap [] := va_S.rf
  have hJ26 : ∀ (c0 : Ob → Option (Ob)) (oz : Ob), ∀ (H : Heap) (locs : List Loc) (ls : Array Slot), va_P D vwCl (cs10 ct a oz) H → va_S (wA (cs10 ct a o)) s.heap H locs → lv_has ls 2 [(0, .ref (a 0))] → p_X10_advance_J26 fu c0 oz = some r → (∀ (oz : Ob), ∀ (H : Heap) (locs : List Loc) (ls : Array Slot), va_P D vwCl (cs10 ct a oz) H → va_S (wA (cs10 ct a o)) s.heap H locs → lv_has ls 2 [(0, .ref (a 0))] → c0 oz = some r → W p l e rm_X10_advance s m args below meth c H locs 0 0 QQ (F0 m 0 ls [])) → W p l e rm_X10_advance s m args below meth c H locs 0 0 QQ (F0 m 26 ls []) := by
    intro c0 oz H locs ls hP hS hl hf k0
    rw [p_X10_advance_J26] at hf
    refine lv_aload_n hx hb dX10_advance_26 rfl (lv_at hl 0 rfl) ?_
    refine lv_dup hx hb dX10_advance_27 rfl ?_
    refine va_get (D := D) (ci := 10) (v := .int (oz.1 8 0)) (C := RX10) (T := TX10) (N := 42) hx hb htl inlX10 hown hK hP 0 rfl rfl 8 (by decide) (htl _ wq_16_11) (fun _ h9 => h9) rfl dX10_advance_28 ?_
    refine lv_iconst (v := 1) hx hb dX10_advance_31 (by decide) ?_
    refine lv_iadd hx hb dX10_advance_32 ?_
    refine va_put (D := D) (ci := 10) (v := .int ((oz.1 8 0) + 1)) (ty := .int) (C := RX10) (T := TX10) (N := 42) hx hb htl inlX10 tyX10 tyX10_ok nmX10 hown hK hP (hDW oz) hS 0 rfl rfl 8 (by decide) (htl _ wq_16_11) (fun _ h9 => h9) rfl (tyX10_ok 8 (by decide)) rfl rfl (Nat.le_of_ble_eq_true rfl) dX10_advance_33 (fun H_33 locs_33 hP _ hS => ?_)
    have hP : va_P D vwCl (cs10 ct a (oI oz 8 ((oz.1 8 0) + 1))) H_33 := st10_8 hP
    refine lv_goto (tgt := 0) hx hb dX10_advance_36 (by decide) ?_
    exact k0 (oI oz 8 ((oz.1 8 0) + 1)) _ _ _ hP hS (lv_sub hl [0] rfl) hf
  have hL0 : ∀ (c39 : Ob → Option (Ob)) (n : Nat) (oz : Ob), ∀ (H : Heap) (locs : List Loc) (ls : Array Slot), va_P D vwCl (cs10 ct a oz) H → va_S (wA (cs10 ct a o)) s.heap H locs → lv_has ls 2 [(0, .ref (a 0))] → p_X10_advance_L0 fu c39 n oz = some r → (∀ (oz : Ob), ∀ (H : Heap) (locs : List Loc) (ls : Array Slot), va_P D vwCl (cs10 ct a oz) H → va_S (wA (cs10 ct a o)) s.heap H locs → lv_has ls 2 [(0, .ref (a 0))] → c39 oz = some r → W p l e rm_X10_advance s m args below meth c H locs 0 0 QQ (F0 m 39 ls [])) → W p l e rm_X10_advance s m args below meth c H locs 0 0 QQ (F0 m 0 ls []) := by
    intro c39 n
    induction n with
    | zero =>
      intro oz H locs ls hP hS hl hf k39
      rw [p_X10_advance_L0] at hf
      cases hf
    | succ n ih =>
      intro oz H locs ls hP hS hl hf k39
      rw [p_X10_advance_L0] at hf
      refine lv_aload_n hx hb dX10_advance_0 rfl (lv_at hl 0 rfl) ?_
      refine lv_aload_n hx hb dX10_advance_1 rfl (lv_at hl 0 rfl) ?_
      refine va_get (D := D) (ci := 10) (v := .int (oz.1 8 0)) (C := RX10) (T := TX10) (N := 42) hx hb htl inlX10 hown hK hP 0 rfl rfl 8 (by decide) (htl _ wq_16_11) (fun _ h9 => h9) rfl dX10_advance_2 ?_
      obtain ⟨r_5, e_5, hf⟩ := ob_bind hf
      have hPX_5 : va_P D vwCl (cs10 ct a oz) H := hP
      refine ro_call1 (va_runV (As := [.int (oz.1 8 0)]) (rest := []) ⟨hx, hb, hml, hown, htl⟩ (c_X10_see l D ct G a fu oz (oz.1 8 0) e_5) (cw_X10_X10_see htl ⟨Nat.le_of_ble_eq_true rfl, Nat.le_of_ble_eq_true rfl⟩) ⟨Bx_blind, va_recv hK hPX_5 (ci := 10) (q0 := 0) rfl rfl, Bx_pre hPX_5 hK hN (hX.stay hS hGE)⟩ rfl rfl hl.1 rfl (lv_room (Nat.le_of_ble_eq_true rfl)) dX10_advance_5 ⟨Nat.zero_le _, Nat.zero_le _⟩) ?_
      refine lv_bipush (v := 32) hx hb dX10_advance_8 (by decide) ?_
      refine lv_icmp_eq (tgt := 26) hx hb dX10_advance_10 (by decide) (fun c_10 => ?_) (fun c_10 => ?_)
      · rw [if_pos c_10] at hf
        exact hJ26 _ oz _ _ _ hP hS (lv_sub hl [0] rfl) hf (fun oz H locs ls hP hS hl hf => ih oz H locs ls hP hS hl hf k39)
      rw [if_neg c_10] at hf
      refine lv_aload_n hx hb dX10_advance_13 rfl (lv_at hl 0 rfl) ?_
      refine lv_aload_n hx hb dX10_advance_14 rfl (lv_at hl 0 rfl) ?_
      refine va_get (D := D) (ci := 10) (v := .int (oz.1 8 0)) (C := RX10) (T := TX10) (N := 42) hx hb htl inlX10 hown hK hP 0 rfl rfl 8 (by decide) (htl _ wq_16_11) (fun _ h9 => h9) rfl dX10_advance_15 ?_
      obtain ⟨r_18, e_18, hf⟩ := ob_bind hf
      have hPX_18 : va_P D vwCl (cs10 ct a oz) H := hP
      refine ro_call1 (va_runV (As := [.int (oz.1 8 0)]) (rest := []) ⟨hx, hb, hml, hown, htl⟩ (c_X10_see l D ct G a fu oz (oz.1 8 0) e_18) (cw_X10_X10_see htl ⟨Nat.le_of_ble_eq_true rfl, Nat.le_of_ble_eq_true rfl⟩) ⟨Bx_blind, va_recv hK hPX_18 (ci := 10) (q0 := 0) rfl rfl, Bx_pre hPX_18 hK hN (hX.stay hS hGE)⟩ rfl rfl hl.1 rfl (lv_room (Nat.le_of_ble_eq_true rfl)) dX10_advance_18 ⟨Nat.zero_le _, Nat.zero_le _⟩) ?_
      refine lv_bipush (v := 10) hx hb dX10_advance_21 (by decide) ?_
      refine lv_icmp_ne (tgt := 39) hx hb dX10_advance_23 (by decide) (fun c_23 => ?_) (fun c_23 => ?_)
      · rw [if_neg c_23] at hf
        exact k39 oz _ _ _ hP hS (lv_sub hl [0] rfl) hf
      rw [if_pos c_23] at hf
      exact hJ26 _ oz _ _ _ hP hS (lv_sub hl [0] rfl) hf (fun oz H locs ls hP hS hl hf => ih oz H locs ls hP hS hl hf k39)
  have hJ226 : ∀ (oz : Ob) (s1 : Int32), ∀ (H : Heap) (locs : List Loc) (ls : Array Slot), va_P D vwCl (cs10 ct a oz) H → va_S (wA (cs10 ct a o)) s.heap H locs → lv_has ls 2 [(0, .ref (a 0))] → p_X10_advance_J226 fu  oz s1 = some r → W p l e rm_X10_advance s m args below meth c H locs 0 0 QQ (F0 m 226 ls [.int s1, .ref (a 0)]) := by
    intro  oz s1 H locs ls hP hS hl hf 
    rw [p_X10_advance_J226] at hf
    refine va_put (D := D) (ci := 10) (v := .int s1) (ty := .int) (C := RX10) (T := TX10) (N := 42) hx hb htl inlX10 tyX10 tyX10_ok nmX10 hown hK hP (hDW oz) hS 0 rfl rfl 10 (by decide) (htl _ wq_16_13) (fun _ h9 => h9) rfl (tyX10_ok 10 (by decide)) rfl rfl (Nat.le_of_ble_eq_true rfl) dX10_advance_226 (fun H_226 locs_226 hP _ hS => ?_)
    have hP : va_P D vwCl (cs10 ct a (oI oz 10 s1)) H_226 := st10_10 hP
    refine lv_aload_n hx hb dX10_advance_229 rfl (lv_at hl 0 rfl) ?_
    refine lv_dup hx hb dX10_advance_230 rfl ?_
    refine va_get (D := D) (ci := 10) (v := .int ((oI oz 10 s1).1 8 0)) (C := RX10) (T := TX10) (N := 42) hx hb htl inlX10 hown hK hP 0 rfl rfl 8 (by decide) (htl _ wq_16_11) (fun _ h9 => h9) rfl dX10_advance_231 ?_
    refine lv_iconst (v := 1) hx hb dX10_advance_234 (by decide) ?_
    refine lv_iadd hx hb dX10_advance_235 ?_
    refine va_put (D := D) (ci := 10) (v := .int (((oI oz 10 s1).1 8 0) + 1)) (ty := .int) (C := RX10) (T := TX10) (N := 42) hx hb htl inlX10 tyX10 tyX10_ok nmX10 hown hK hP (hDW (oI oz 10 s1)) hS 0 rfl rfl 8 (by decide) (htl _ wq_16_11) (fun _ h9 => h9) rfl (tyX10_ok 8 (by decide)) rfl rfl (Nat.le_of_ble_eq_true rfl) dX10_advance_236 (fun H_236 locs_236 hP _ hS => ?_)
    have hP : va_P D vwCl (cs10 ct a (oI (oI oz 10 s1) 8 (((oI oz 10 s1).1 8 0) + 1))) H_236 := st10_8 hP
    rw [← hQQ]
    cases hf
    exact rw_v hx hb hr hlocks hP hS dX10_advance_239
  have hL144 : ∀ (n : Nat) (oz : Ob), ∀ (H : Heap) (locs : List Loc) (ls : Array Slot), va_P D vwCl (cs10 ct a oz) H → va_S (wA (cs10 ct a o)) s.heap H locs → lv_has ls 2 [(0, .ref (a 0))] → p_X10_advance_L144 fu  n oz = some r → W p l e rm_X10_advance s m args below meth c H locs 0 0 QQ (F0 m 144 ls []) := by
    intro  n
    induction n with
    | zero =>
      intro oz H locs ls hP hS hl hf 
      rw [p_X10_advance_L144] at hf
      cases hf
    | succ n ih =>
      intro oz H locs ls hP hS hl hf 
      rw [p_X10_advance_L144] at hf
      refine lv_aload_n hx hb dX10_advance_144 rfl (lv_at hl 0 rfl) ?_
      refine lv_aload_n hx hb dX10_advance_145 rfl (lv_at hl 0 rfl) ?_
      refine va_get (D := D) (ci := 10) (v := .int (oz.1 8 0)) (C := RX10) (T := TX10) (N := 42) hx hb htl inlX10 hown hK hP 0 rfl rfl 8 (by decide) (htl _ wq_16_11) (fun _ h9 => h9) rfl dX10_advance_146 ?_
      obtain ⟨r_149, e_149, hf⟩ := ob_bind hf
      have hPX_149 : va_P D vwCl (cs10 ct a oz) H := hP
      refine ro_call1 (va_runV (As := [.int (oz.1 8 0)]) (rest := []) ⟨hx, hb, hml, hown, htl⟩ (c_X10_see l D ct G a fu oz (oz.1 8 0) e_149) (cw_X10_X10_see htl ⟨Nat.le_of_ble_eq_true rfl, Nat.le_of_ble_eq_true rfl⟩) ⟨Bx_blind, va_recv hK hPX_149 (ci := 10) (q0 := 0) rfl rfl, Bx_pre hPX_149 hK hN (hX.stay hS hGE)⟩ rfl rfl hl.1 rfl (lv_room (Nat.le_of_ble_eq_true rfl)) dX10_advance_149 ⟨Nat.zero_le _, Nat.zero_le _⟩) ?_
      refine lv_i2l hx hb dX10_advance_152 rfl ?_
      refine lv_ldc2 (v := 48) hx hb hown (htl _ wq_16_21) dX10_advance_153 ?_
      refine lv_ldc2 (v := 57) hx hb hown (htl _ wq_16_22) dX10_advance_156 ?_
      obtain ⟨r_159, e_159, hf⟩ := ob_bind hf
      have hPX_159 : va_P D vwCl ([]) H := P_nil
      refine ro_call1 (va_runS (As := [.long r_149.toInt64, .long 48, .long 57]) (rest := []) ⟨hx, hb, hml, hown, htl⟩ (c_X10_in l D ct G fu r_149.toInt64 (48 : Int64) (57 : Int64) e_159) (cw_X10_X10_in htl ⟨Nat.le_of_ble_eq_true rfl, Nat.le_of_ble_eq_true rfl⟩) ⟨Bx_blind, Bx_pre hPX_159 hK hN (hX.stay hS hGE)⟩ rfl rfl hl.1 rfl (lv_room (Nat.le_of_ble_eq_true rfl)) dX10_advance_159 ⟨Nat.zero_le _, Nat.zero_le _⟩) ?_
      refine lv_if_eq (tgt := 206) hx hb dX10_advance_162 (by decide) (fun c_162 => ?_) (fun c_162 => ?_)
      · rw [if_pos c_162] at hf
        refine lv_aload_n hx hb dX10_advance_206 rfl (lv_at hl 0 rfl) ?_
        refine lv_iconst (v := 2) hx hb dX10_advance_207 (by decide) ?_
        refine va_put (D := D) (ci := 10) (v := .int 2) (ty := .int) (C := RX10) (T := TX10) (N := 42) hx hb htl inlX10 tyX10 tyX10_ok nmX10 hown hK hP (hDW oz) hS 0 rfl rfl 10 (by decide) (htl _ wq_16_13) (fun _ h9 => h9) rfl (tyX10_ok 10 (by decide)) rfl rfl (Nat.le_of_ble_eq_true rfl) dX10_advance_208 (fun H_208 locs_208 hP _ hS => ?_)
        have hP : va_P D vwCl (cs10 ct a (oI oz 10 (2 : Int32))) H_208 := st10_10 hP
        refine lv_goto (tgt := 239) hx hb dX10_advance_211 (by decide) ?_
        rw [← hQQ]
        cases hf
        exact rw_v hx hb hr hlocks hP hS dX10_advance_239
      rw [if_neg c_162] at hf
      refine lv_aload_n hx hb dX10_advance_165 rfl (lv_at hl 0 rfl) ?_
      refine lv_ldc (v := 99999) hx hb hown (htl _ wq_17_0) dX10_advance_166 ?_
      refine lv_bipush (v := 10) hx hb dX10_advance_168 (by decide) ?_
      refine lv_aload_n hx hb dX10_advance_170 rfl (lv_at hl 0 rfl) ?_
      refine va_get (D := D) (ci := 10) (v := .int (oz.1 11 0)) (C := RX10) (T := TX10) (N := 42) hx hb htl inlX10 hown hK hP 0 rfl rfl 11 (by decide) (htl _ wq_16_23) (fun _ h9 => h9) rfl dX10_advance_171 ?_
      refine lv_imul hx hb dX10_advance_174 ?_
      refine lv_aload_n hx hb dX10_advance_175 rfl (lv_at hl 0 rfl) ?_
      refine lv_aload_n hx hb dX10_advance_176 rfl (lv_at hl 0 rfl) ?_
      refine va_get (D := D) (ci := 10) (v := .int (oz.1 8 0)) (C := RX10) (T := TX10) (N := 42) hx hb htl inlX10 hown hK hP 0 rfl rfl 8 (by decide) (htl _ wq_16_11) (fun _ h9 => h9) rfl dX10_advance_177 ?_
      obtain ⟨r_180, e_180, hf⟩ := ob_bind hf
      have hPX_180 : va_P D vwCl (cs10 ct a oz) H := hP
      refine ro_call1 (va_runV (As := [.int (oz.1 8 0)]) (rest := [.int (10 * (oz.1 11 0)), .int 99999, .ref (a 0)]) ⟨hx, hb, hml, hown, htl⟩ (c_X10_see l D ct G a fu oz (oz.1 8 0) e_180) (cw_X10_X10_see htl ⟨Nat.le_of_ble_eq_true rfl, Nat.le_of_ble_eq_true rfl⟩) ⟨Bx_blind, va_recv hK hPX_180 (ci := 10) (q0 := 0) rfl rfl, Bx_pre hPX_180 hK hN (hX.stay hS hGE)⟩ rfl rfl hl.1 rfl (lv_room (Nat.le_of_ble_eq_true rfl)) dX10_advance_180 ⟨Nat.zero_le _, Nat.zero_le _⟩) ?_
      refine lv_iadd hx hb dX10_advance_183 ?_
      refine lv_bipush (v := 48) hx hb dX10_advance_184 (by decide) ?_
      refine lv_isub hx hb dX10_advance_186 ?_
      refine va_mmin hx hb (hml.trans hl.1.symm) hown (htl _ wq_17_1) (htl _ wq_12_22) (htl _ wq_12_23) (htl _ wq_13_0) (Nat.le_of_ble_eq_true rfl) (Nat.le_of_ble_eq_true rfl) (Nat.zero_le _) (Nat.zero_le _) dX10_advance_187 ?_
      refine va_put (D := D) (ci := 10) (v := .int (if (((10 * (oz.1 11 0)) + r_180) - 48) < (99999 : Int32) then (((10 * (oz.1 11 0)) + r_180) - 48) else (99999 : Int32))) (ty := .int) (C := RX10) (T := TX10) (N := 42) hx hb htl inlX10 tyX10 tyX10_ok nmX10 hown hK hP (hDW oz) hS 0 rfl rfl 11 (by decide) (htl _ wq_16_23) (fun _ h9 => h9) rfl (tyX10_ok 11 (by decide)) rfl rfl (Nat.le_of_ble_eq_true rfl) dX10_advance_190 (fun H_190 locs_190 hP _ hS => ?_)
      have hP : va_P D vwCl (cs10 ct a (oI oz 11 (if (((10 * (oz.1 11 0)) + r_180) - 48) < (99999 : Int32) then (((10 * (oz.1 11 0)) + r_180) - 48) else (99999 : Int32)))) H_190 := st10_11 hP
      refine lv_aload_n hx hb dX10_advance_193 rfl (lv_at hl 0 rfl) ?_
      refine lv_dup hx hb dX10_advance_194 rfl ?_
      refine va_get (D := D) (ci := 10) (v := .int ((oI oz 11 (if (((10 * (oz.1 11 0)) + r_180) - 48) < (99999 : Int32) then (((10 * (oz.1 11 0)) + r_180) - 48) else (99999 : Int32))).1 8 0)) (C := RX10) (T := TX10) (N := 42) hx hb htl inlX10 hown hK hP 0 rfl rfl 8 (by decide) (htl _ wq_16_11) (fun _ h9 => h9) rfl dX10_advance_195 ?_
      refine lv_iconst (v := 1) hx hb dX10_advance_198 (by decide) ?_
      refine lv_iadd hx hb dX10_advance_199 ?_
      refine va_put (D := D) (ci := 10) (v := .int (((oI oz 11 (if (((10 * (oz.1 11 0)) + r_180) - 48) < (99999 : Int32) then (((10 * (oz.1 11 0)) + r_180) - 48) else (99999 : Int32))).1 8 0) + 1)) (ty := .int) (C := RX10) (T := TX10) (N := 42) hx hb htl inlX10 tyX10 tyX10_ok nmX10 hown hK hP (hDW (oI oz 11 (if (((10 * (oz.1 11 0)) + r_180) - 48) < (99999 : Int32) then (((10 * (oz.1 11 0)) + r_180) - 48) else (99999 : Int32)))) hS 0 rfl rfl 8 (by decide) (htl _ wq_16_11) (fun _ h9 => h9) rfl (tyX10_ok 8 (by decide)) rfl rfl (Nat.le_of_ble_eq_true rfl) dX10_advance_200 (fun H_200 locs_200 hP _ hS => ?_)
      have hP : va_P D vwCl (cs10 ct a (oI (oI oz 11 (if (((10 * (oz.1 11 0)) + r_180) - 48) < (99999 : Int32) then (((10 * (oz.1 11 0)) + r_180) - 48) else (99999 : Int32))) 8 (((oI oz 11 (if (((10 * (oz.1 11 0)) + r_180) - 48) < (99999 : Int32) then (((10 * (oz.1 11 0)) + r_180) - 48) else (99999 : Int32))).1 8 0) + 1))) H_200 := st10_8 hP
      refine lv_goto (tgt := 144) hx hb dX10_advance_203 (by decide) ?_
      exact ih (oI (oI oz 11 (if (((10 * (oz.1 11 0)) + r_180) - 48) < (99999 : Int32) then (((10 * (oz.1 11 0)) + r_180) - 48) else (99999 : Int32))) 8 (((oI oz 11 (if (((10 * (oz.1 11 0)) + r_180) - 48) < (99999 : Int32) then (((10 * (oz.1 11 0)) + r_180) - 48) else (99999 : Int32))).1 8 0) + 1)) _ _ _ hP hS (lv_sub hl [0] rfl) hf 
  have hL83 : ∀ (n : Nat) (oz : Ob), ∀ (H : Heap) (locs : List Loc) (ls : Array Slot), va_P D vwCl (cs10 ct a oz) H → va_S (wA (cs10 ct a o)) s.heap H locs → lv_has ls 2 [(0, .ref (a 0))] → p_X10_advance_L83 fu  n oz = some r → W p l e rm_X10_advance s m args below meth c H locs 0 0 QQ (F0 m 83 ls []) := by
    intro  n
    induction n with
    | zero =>
      intro oz H locs ls hP hS hl hf 
      rw [p_X10_advance_L83] at hf
      cases hf
    | succ n ih =>
      intro oz H locs ls hP hS hl hf 
      rw [p_X10_advance_L83] at hf
      refine lv_aload_n hx hb dX10_advance_83 rfl (lv_at hl 0 rfl) ?_
      refine lv_aload_n hx hb dX10_advance_84 rfl (lv_at hl 0 rfl) ?_
      refine va_get (D := D) (ci := 10) (v := .int (oz.1 8 0)) (C := RX10) (T := TX10) (N := 42) hx hb htl inlX10 hown hK hP 0 rfl rfl 8 (by decide) (htl _ wq_16_11) (fun _ h9 => h9) rfl dX10_advance_85 ?_
      obtain ⟨r_88, e_88, hf⟩ := ob_bind hf
      have hPX_88 : va_P D vwCl (cs10 ct a oz) H := hP
      refine ro_call1 (va_runV (As := [.int (oz.1 8 0)]) (rest := []) ⟨hx, hb, hml, hown, htl⟩ (c_X10_see l D ct G a fu oz (oz.1 8 0) e_88) (cw_X10_X10_see htl ⟨Nat.le_of_ble_eq_true rfl, Nat.le_of_ble_eq_true rfl⟩) ⟨Bx_blind, va_recv hK hPX_88 (ci := 10) (q0 := 0) rfl rfl, Bx_pre hPX_88 hK hN (hX.stay hS hGE)⟩ rfl rfl hl.1 rfl (lv_room (Nat.le_of_ble_eq_true rfl)) dX10_advance_88 ⟨Nat.zero_le _, Nat.zero_le _⟩) ?_
      refine lv_i2l hx hb dX10_advance_91 rfl ?_
      refine lv_ldc2 (v := 97) hx hb hown (htl _ wq_16_19) dX10_advance_92 ?_
      refine lv_ldc2 (v := 122) hx hb hown (htl _ wq_16_20) dX10_advance_95 ?_
      obtain ⟨r_98, e_98, hf⟩ := ob_bind hf
      have hPX_98 : va_P D vwCl ([]) H := P_nil
      refine ro_call1 (va_runS (As := [.long r_88.toInt64, .long 97, .long 122]) (rest := []) ⟨hx, hb, hml, hown, htl⟩ (c_X10_in l D ct G fu r_88.toInt64 (97 : Int64) (122 : Int64) e_98) (cw_X10_X10_in htl ⟨Nat.le_of_ble_eq_true rfl, Nat.le_of_ble_eq_true rfl⟩) ⟨Bx_blind, Bx_pre hPX_98 hK hN (hX.stay hS hGE)⟩ rfl rfl hl.1 rfl (lv_room (Nat.le_of_ble_eq_true rfl)) dX10_advance_98 ⟨Nat.zero_le _, Nat.zero_le _⟩) ?_
      refine lv_if_eq (tgt := 117) hx hb dX10_advance_101 (by decide) (fun c_101 => ?_) (fun c_101 => ?_)
      · rw [if_pos c_101] at hf
        refine lv_aload_n hx hb dX10_advance_117 rfl (lv_at hl 0 rfl) ?_
        refine lv_iconst (v := 1) hx hb dX10_advance_118 (by decide) ?_
        refine va_put (D := D) (ci := 10) (v := .int 1) (ty := .int) (C := RX10) (T := TX10) (N := 42) hx hb htl inlX10 tyX10 tyX10_ok nmX10 hown hK hP (hDW oz) hS 0 rfl rfl 10 (by decide) (htl _ wq_16_13) (fun _ h9 => h9) rfl (tyX10_ok 10 (by decide)) rfl rfl (Nat.le_of_ble_eq_true rfl) dX10_advance_119 (fun H_119 locs_119 hP _ hS => ?_)
        have hP : va_P D vwCl (cs10 ct a (oI oz 10 (1 : Int32))) H_119 := st10_10 hP
        refine lv_goto (tgt := 239) hx hb dX10_advance_122 (by decide) ?_
        rw [← hQQ]
        cases hf
        exact rw_v hx hb hr hlocks hP hS dX10_advance_239
      rw [if_neg c_101] at hf
      refine lv_aload_n hx hb dX10_advance_104 rfl (lv_at hl 0 rfl) ?_
      refine lv_dup hx hb dX10_advance_105 rfl ?_
      refine va_get (D := D) (ci := 10) (v := .int (oz.1 8 0)) (C := RX10) (T := TX10) (N := 42) hx hb htl inlX10 hown hK hP 0 rfl rfl 8 (by decide) (htl _ wq_16_11) (fun _ h9 => h9) rfl dX10_advance_106 ?_
      refine lv_iconst (v := 1) hx hb dX10_advance_109 (by decide) ?_
      refine lv_iadd hx hb dX10_advance_110 ?_
      refine va_put (D := D) (ci := 10) (v := .int ((oz.1 8 0) + 1)) (ty := .int) (C := RX10) (T := TX10) (N := 42) hx hb htl inlX10 tyX10 tyX10_ok nmX10 hown hK hP (hDW oz) hS 0 rfl rfl 8 (by decide) (htl _ wq_16_11) (fun _ h9 => h9) rfl (tyX10_ok 8 (by decide)) rfl rfl (Nat.le_of_ble_eq_true rfl) dX10_advance_111 (fun H_111 locs_111 hP _ hS => ?_)
      have hP : va_P D vwCl (cs10 ct a (oI oz 8 ((oz.1 8 0) + 1))) H_111 := st10_8 hP
      refine lv_goto (tgt := 83) hx hb dX10_advance_114 (by decide) ?_
      exact ih (oI oz 8 ((oz.1 8 0) + 1)) _ _ _ hP hS (lv_sub hl [0] rfl) hf 
  rw [p_X10_advance] at hf
  refine hL0 _ fu o _ _ _ hP hS (lv_sub hl [0] rfl) hf (fun oz H locs ls hP hS hl hf => ?_)
  refine lv_aload_n hx hb dX10_advance_39 rfl (lv_at hl 0 rfl) ?_
  refine lv_aload_n hx hb dX10_advance_40 rfl (lv_at hl 0 rfl) ?_
  refine va_get (D := D) (ci := 10) (v := .int (oz.1 8 0)) (C := RX10) (T := TX10) (N := 42) hx hb htl inlX10 hown hK hP 0 rfl rfl 8 (by decide) (htl _ wq_16_11) (fun _ h9 => h9) rfl dX10_advance_41 ?_
  refine va_put (D := D) (ci := 10) (v := .int (oz.1 8 0)) (ty := .int) (C := RX10) (T := TX10) (N := 42) hx hb htl inlX10 tyX10 tyX10_ok nmX10 hown hK hP (hDW oz) hS 0 rfl rfl 9 (by decide) (htl _ wq_16_18) (fun _ h9 => h9) rfl (tyX10_ok 9 (by decide)) rfl rfl (Nat.le_of_ble_eq_true rfl) dX10_advance_44 (fun H_44 locs_44 hP _ hS => ?_)
  have hP : va_P D vwCl (cs10 ct a (oI oz 9 (oz.1 8 0))) H_44 := st10_9 hP
  refine lv_aload_n hx hb dX10_advance_47 rfl (lv_at hl 0 rfl) ?_
  refine lv_aload_n hx hb dX10_advance_48 rfl (lv_at hl 0 rfl) ?_
  refine va_get (D := D) (ci := 10) (v := .int ((oI oz 9 (oz.1 8 0)).1 8 0)) (C := RX10) (T := TX10) (N := 42) hx hb htl inlX10 hown hK hP 0 rfl rfl 8 (by decide) (htl _ wq_16_11) (fun _ h9 => h9) rfl dX10_advance_49 ?_
  obtain ⟨r_52, e_52, hf⟩ := ob_bind hf
  have hPX_52 : va_P D vwCl (cs10 ct a (oI oz 9 (oz.1 8 0))) H_44 := hP
  refine ro_call1 (va_runV (As := [.int ((oI oz 9 (oz.1 8 0)).1 8 0)]) (rest := []) ⟨hx, hb, hml, hown, htl⟩ (c_X10_see l D ct G a fu (oI oz 9 (oz.1 8 0)) ((oI oz 9 (oz.1 8 0)).1 8 0) e_52) (cw_X10_X10_see htl ⟨Nat.le_of_ble_eq_true rfl, Nat.le_of_ble_eq_true rfl⟩) ⟨Bx_blind, va_recv hK hPX_52 (ci := 10) (q0 := 0) rfl rfl, Bx_pre hPX_52 hK hN (hX.stay hS hGE)⟩ rfl rfl hl.1 rfl (lv_room (Nat.le_of_ble_eq_true rfl)) dX10_advance_52 ⟨Nat.zero_le _, Nat.zero_le _⟩) ?_
  refine lv_istore_n (lv' := [(1, .int r_52), (0, .ref (a 0))]) hx hb dX10_advance_55 rfl hl (by decide) rfl (fun ls hl => ?_)
  refine lv_iload_n hx hb dX10_advance_56 rfl (lv_at hl 0 rfl) ?_
  refine lv_iconst (v := (-1)) hx hb dX10_advance_57 (by decide) ?_
  refine lv_icmp_ne (tgt := 69) hx hb dX10_advance_58 (by decide) (fun c_58 => ?_) (fun c_58 => ?_)
  rotate_left 1
  · rw [if_pos c_58] at hf
    refine lv_aload_n hx hb dX10_advance_61 rfl (lv_at hl 1 rfl) ?_
    refine lv_iconst (v := 0) hx hb dX10_advance_62 (by decide) ?_
    refine va_put (D := D) (ci := 10) (v := .int 0) (ty := .int) (C := RX10) (T := TX10) (N := 42) hx hb htl inlX10 tyX10 tyX10_ok nmX10 hown hK hP (hDW (oI oz 9 (oz.1 8 0))) hS 0 rfl rfl 10 (by decide) (htl _ wq_16_13) (fun _ h9 => h9) rfl (tyX10_ok 10 (by decide)) rfl rfl (Nat.le_of_ble_eq_true rfl) dX10_advance_63 (fun H_63 locs_63 hP _ hS => ?_)
    have hP : va_P D vwCl (cs10 ct a (oI (oI oz 9 (oz.1 8 0)) 10 (0 : Int32))) H_63 := st10_10 hP
    refine lv_goto (tgt := 239) hx hb dX10_advance_66 (by decide) ?_
    rw [← hQQ]
    cases hf
    exact rw_v hx hb hr hlocks hP hS dX10_advance_239
  rw [if_neg c_58] at hf
  refine lv_iload_n hx hb dX10_advance_69 rfl (lv_at hl 0 rfl) ?_
  refine lv_i2l hx hb dX10_advance_70 rfl ?_
  refine lv_ldc2 (v := 97) hx hb hown (htl _ wq_16_19) dX10_advance_71 ?_
  refine lv_ldc2 (v := 122) hx hb hown (htl _ wq_16_20) dX10_advance_74 ?_
  obtain ⟨r_77, e_77, hf⟩ := ob_bind hf
  have hPX_77 : va_P D vwCl ([]) H_44 := P_nil
  refine ro_call1 (va_runS (As := [.long r_52.toInt64, .long 97, .long 122]) (rest := []) ⟨hx, hb, hml, hown, htl⟩ (c_X10_in l D ct G fu r_52.toInt64 (97 : Int64) (122 : Int64) e_77) (cw_X10_X10_in htl ⟨Nat.le_of_ble_eq_true rfl, Nat.le_of_ble_eq_true rfl⟩) ⟨Bx_blind, Bx_pre hPX_77 hK hN (hX.stay hS hGE)⟩ rfl rfl hl.1 rfl (lv_room (Nat.le_of_ble_eq_true rfl)) dX10_advance_77 ⟨Nat.zero_le _, Nat.zero_le _⟩) ?_
  refine lv_if_eq (tgt := 125) hx hb dX10_advance_80 (by decide) (fun c_80 => ?_) (fun c_80 => ?_)
  rotate_left 1
  · rw [if_neg c_80] at hf
    exact hL83 fu (oI oz 9 (oz.1 8 0)) _ _ _ hP hS (lv_sub hl [1] rfl) hf 
  rw [if_pos c_80] at hf
  refine lv_iload_n hx hb dX10_advance_125 rfl (lv_at hl 0 rfl) ?_
  refine lv_i2l hx hb dX10_advance_126 rfl ?_
  refine lv_ldc2 (v := 48) hx hb hown (htl _ wq_16_21) dX10_advance_127 ?_
  refine lv_ldc2 (v := 57) hx hb hown (htl _ wq_16_22) dX10_advance_130 ?_
  obtain ⟨r_133, e_133, hf⟩ := ob_bind hf
  have hPX_133 : va_P D vwCl ([]) H_44 := P_nil
  refine ro_call1 (va_runS (As := [.long r_52.toInt64, .long 48, .long 57]) (rest := []) ⟨hx, hb, hml, hown, htl⟩ (c_X10_in l D ct G fu r_52.toInt64 (48 : Int64) (57 : Int64) e_133) (cw_X10_X10_in htl ⟨Nat.le_of_ble_eq_true rfl, Nat.le_of_ble_eq_true rfl⟩) ⟨Bx_blind, Bx_pre hPX_133 hK hN (hX.stay hS hGE)⟩ rfl rfl hl.1 rfl (lv_room (Nat.le_of_ble_eq_true rfl)) dX10_advance_133 ⟨Nat.zero_le _, Nat.zero_le _⟩) ?_
  refine lv_if_eq (tgt := 214) hx hb dX10_advance_136 (by decide) (fun c_136 => ?_) (fun c_136 => ?_)
  rotate_left 1
  · rw [if_neg c_136] at hf
    refine lv_aload_n hx hb dX10_advance_139 rfl (lv_at hl 1 rfl) ?_
    refine lv_iconst (v := 0) hx hb dX10_advance_140 (by decide) ?_
    refine va_put (D := D) (ci := 10) (v := .int 0) (ty := .int) (C := RX10) (T := TX10) (N := 42) hx hb htl inlX10 tyX10 tyX10_ok nmX10 hown hK hP (hDW (oI oz 9 (oz.1 8 0))) hS 0 rfl rfl 11 (by decide) (htl _ wq_16_23) (fun _ h9 => h9) rfl (tyX10_ok 11 (by decide)) rfl rfl (Nat.le_of_ble_eq_true rfl) dX10_advance_141 (fun H_141 locs_141 hP _ hS => ?_)
    have hP : va_P D vwCl (cs10 ct a (oI (oI oz 9 (oz.1 8 0)) 11 (0 : Int32))) H_141 := st10_11 hP
    exact hL144 fu (oI (oI oz 9 (oz.1 8 0)) 11 (0 : Int32)) _ _ _ hP hS (lv_sub hl [1] rfl) hf 
  rw [if_pos c_136] at hf
  refine lv_aload_n hx hb dX10_advance_214 rfl (lv_at hl 1 rfl) ?_
  refine lv_iload_n hx hb dX10_advance_215 rfl (lv_at hl 0 rfl) ?_
  refine lv_bipush (v := 59) hx hb dX10_advance_216 (by decide) ?_
  refine lv_icmp_ne (tgt := 225) hx hb dX10_advance_218 (by decide) (fun c_218 => ?_) (fun c_218 => ?_)
  · rw [if_neg c_218] at hf
    refine lv_iconst (v := 4) hx hb dX10_advance_225 (by decide) ?_
    exact hJ226 (oI oz 9 (oz.1 8 0)) 4 _ _ _ hP hS (lv_sub hl [1] rfl) hf 
  rw [if_pos c_218] at hf
  refine lv_iconst (v := 3) hx hb dX10_advance_221 (by decide) ?_
  refine lv_goto (tgt := 226) hx hb dX10_advance_222 (by decide) ?_
  exact hJ226 (oI oz 9 (oz.1 8 0)) 3 _ _ _ hP hS (lv_sub hl [1] rfl) hf 
theorem c_X10_advance (l : Launch) (D : va_G) (ct : Nat → ClassId) (G : GT) (a : Nat → Nat) (fu : Nat) (o : Ob) {r : Ob} (hf : p_X10_advance fu o = some r)  (hD0 : va_D (GE G) (cs10 ct a o)) : Met l yX10_advance (.code yX10_advance cX10_advance 2 none :: wsL_law) rm_X10_advance (va_Pc [.ref (a 0)] (Bx D ct G (cs10 ct a o))) (Qwr none (fun H => va_P D vwCl (cs10 ct a r) H) (wA (cs10 ct a o))) 0 0 (wA (cs10 ct a o)) := by
  refine Met.ofW (cc := cX10_advance) (maxL := 2) (ret := none) (by decide) rfl ?_
  intro p e s m args below meth c s₁ B hml hv
  obtain ⟨rfl, hP, hK, hN, hX⟩ := hv
  have hts := atoms_spec (ws := .code yX10_advance cX10_advance 2 none :: wsL_law) B.pre
  rw [lg_entry_eq]
  exact b_X10_advance a fu o B.exec B.bytes B.returns hml (findClass_of_methodNamed B.named) (fun w h => hts w (List.mem_cons_of_mem _ h)) B.notSynchronized hK hN hX hP hf hD0  (lv_entry [.ref (a 0)] (n := 2) (Nat.le_of_ble_eq_true rfl))
def p_X10_good (fu : Nat) (o : Ob) : Option (Int32) :=
  if (o.1 12 0) = 0 then some (1 : Int32) else some (0 : Int32)
abbrev rm_X10_good : Room := { frames := 0, cells := 0, slots := 0, locals := 0 }
set_option maxHeartbeats 4000000 in
set_option maxRecDepth 100000 in
theorem b_X10_good {p : Program} {l : Launch} {e : Env} {s : State} {m : MethodId} {args : Array Value} {below : List Frame} {meth : Method} {c : Code} {ls : Array Slot} {D : va_G} {ct : Nat → ClassId} {G : GT} (a : Nat → Nat) (fu : Nat) (o : Ob) {r : Int32} (hx : p.tables.exec = Jvm.exec) (hb : c.code = cX10_good) (hr : meth.sig.returnType = (some .boolean)) (hml : c.maxLocals = 1) (hown : s.vm.findClass RX10 = some m.cls) (htl : ∀ w ∈ wsL_law, w.before args s = true) (hlocks : meth.locks = false) (hK : va_K D vwCl (tyl ct) s) (hN : ∀ w ∈ NW, va_Nw w s) (hX : SX G s s.heap) (hP0 : va_P D vwCl (cs10 ct a o) s.heap) (hf : p_X10_good fu o = some r)  (hl : lv_has ls 1 [(0, .ref (a 0))]) : W p l e rm_X10_good s m args below meth c s.heap [] 0 0 (MQ below (Qro (some (.int r))) args s 0 0 (fun _ => False)) (F0 m 0 ls []) := by
  generalize hQQ : MQ below (Qro (some (.int r))) args s 0 0 (fun _ => False) = QQ
  have hP := hP0
  rw [p_X10_good] at hf
  refine lv_aload_n hx hb dX10_good_0 rfl (lv_at hl 0 rfl) ?_
  refine va_get (D := D) (ci := 10) (v := .int (o.1 12 0)) (C := RX10) (T := TX10) (N := 42) hx hb htl inlX10 hown hK hP 0 rfl rfl 12 (by decide) (htl _ wq_16_12) (fun _ h9 => h9) rfl dX10_good_1 ?_
  refine lv_if_ne (tgt := 11) hx hb dX10_good_4 (by decide) (fun c_4 => ?_) (fun c_4 => ?_)
  · rw [if_neg c_4] at hf
    refine lv_iconst (v := 0) hx hb dX10_good_11 (by decide) ?_
    rw [← hQQ]
    exact rf_z hx hb hr hlocks rfl hf dX10_good_12
  rw [if_pos c_4] at hf
  refine lv_iconst (v := 1) hx hb dX10_good_7 (by decide) ?_
  refine lv_goto (tgt := 12) hx hb dX10_good_8 (by decide) ?_
  rw [← hQQ]
  exact rf_z hx hb hr hlocks rfl hf dX10_good_12
theorem c_X10_good (l : Launch) (D : va_G) (ct : Nat → ClassId) (G : GT) (a : Nat → Nat) (fu : Nat) (o : Ob) {r : Int32} (hf : p_X10_good fu o = some r)  : Met l yX10_good (.code yX10_good cX10_good 1 (some .boolean) :: wsL_law) rm_X10_good (va_Pc [.ref (a 0)] (Bx D ct G (cs10 ct a o))) (Qro (some (.int r))) 0 0 (fun _ => False) := by
  refine Met.ofW (cc := cX10_good) (maxL := 1) (ret := (some .boolean)) (by decide) rfl ?_
  intro p e s m args below meth c s₁ B hml hv
  obtain ⟨rfl, hP, hK, hN, hX⟩ := hv
  have hts := atoms_spec (ws := .code yX10_good cX10_good 1 (some .boolean) :: wsL_law) B.pre
  rw [lg_entry_eq]
  exact b_X10_good a fu o B.exec B.bytes B.returns hml (findClass_of_methodNamed B.named) (fun w h => hts w (List.mem_cons_of_mem _ h)) B.notSynchronized hK hN hX hP hf   (lv_entry [.ref (a 0)] (n := 1) (Nat.le_of_ble_eq_true rfl))
theorem hd_X10_good : yX10_good.cls ≠ "java/lang/invoke/MethodHandle" ∧ yX10_good.cls ≠ "java/lang/invoke/VarHandle" ∧ (parseMethodDescriptor yX10_good.desc).map (fun d => d.parameters.length) = some 0 := by decide +kernel
theorem cw_X10_X10_good {R : Room} {s : State} {args : Array Value} (ht : ∀ w ∈ wsL_law, w.before args s = true) (hR : rm_X10_good.frames + 1 ≤ R.frames ∧ 8 + (1 + 11) + rm_X10_good.locals ≤ R.locals) : CallW R s args RX10 RX10 138 yX10_good cX10_good 1 (some .boolean) ((.code yX10_good cX10_good 1 (some .boolean)) :: wsL_law) rm_X10_good 0 0 0 := cwV 0 ht (GV wq_17_6 wq_17_7 wq_17_8 wq_1_5 wq_17_9) rfl rfl rfl ⟨rfl, hd_X10_good⟩ hR
def p_X10_errs (fu : Nat) (o : Ob) (v1 : Int32) : Option (Ob) :=
  (p_X10_good fu o).bind fun r_1 => if r_1 = 0 then some o else some (oI (oI o 12 v1) 13 ((oI o 12 v1).1 9 0))
abbrev rm_X10_errs : Room := { frames := 1, cells := 0, slots := 0, locals := 20 }
set_option maxHeartbeats 4000000 in
set_option maxRecDepth 100000 in
theorem b_X10_errs {p : Program} {l : Launch} {e : Env} {s : State} {m : MethodId} {args : Array Value} {below : List Frame} {meth : Method} {c : Code} {ls : Array Slot} {D : va_G} {ct : Nat → ClassId} {G : GT} (a : Nat → Nat) (fu : Nat) (o : Ob) (v1 : Int32) {r : Ob} (hx : p.tables.exec = Jvm.exec) (hb : c.code = cX10_errs) (hr : meth.sig.returnType = none) (hml : c.maxLocals = 2) (hown : s.vm.findClass RX10 = some m.cls) (htl : ∀ w ∈ wsL_law, w.before args s = true) (hlocks : meth.locks = false) (hK : va_K D vwCl (tyl ct) s) (hN : ∀ w ∈ NW, va_Nw w s) (hX : SX G s s.heap) (hP0 : va_P D vwCl (cs10 ct a o) s.heap) (hf : p_X10_errs fu o v1 = some r) (hD0 : va_D (GE G) (cs10 ct a o))  (hl : lv_has ls 2 [(0, .ref (a 0)), (1, .int v1)]) : W p l e rm_X10_errs s m args below meth c s.heap [] 0 0 (MQ below (Qwr none (fun H => va_P D vwCl (cs10 ct a r) H) (wA (cs10 ct a o))) args s 0 0 (wA (cs10 ct a o))) (F0 m 0 ls []) := by
  generalize hQQ : MQ below (Qwr none (fun H => va_P D vwCl (cs10 ct a r) H) (wA (cs10 ct a o))) args s 0 0 (wA (cs10 ct a o)) = QQ
  have hDx : ∀ (oy : Ob), va_D (GE G) (cs10 ct a oy) := fun oy => D_cr hD0 rfl
  have hDW : ∀ (oy : Ob), va_D (wA (cs10 ct a o)) (cs10 ct a oy) := fun oy => D_cr (D_self hD0) rfl
  have hGE : ∀ q, wA (cs10 ct a o) q → GE G q := wA_GE hD0
  have hP := hP0
  have hS : va_S (wA (cs10 ct a o)) s.heap s.heap [] := va_S.rf
  rw [p_X10_errs] at hf
  refine lv_aload_n hx hb dX10_errs_0 rfl (lv_at hl 0 rfl) ?_
  obtain ⟨r_1, e_1, hf⟩ := ob_bind hf
  have hPX_1 : va_P D vwCl (cs10 ct a o) s.heap := hP
  refine ro_call1 (va_runV (As := []) (rest := []) ⟨hx, hb, hml, hown, htl⟩ (c_X10_good l D ct G a fu o e_1) (cw_X10_X10_good htl ⟨Nat.le_of_ble_eq_true rfl, Nat.le_of_ble_eq_true rfl⟩) ⟨Bx_blind, va_recv hK hPX_1 (ci := 10) (q0 := 0) rfl rfl, Bx_pre hPX_1 hK hN (hX.stay hS hGE)⟩ rfl rfl hl.1 rfl (lv_room (Nat.le_of_ble_eq_true rfl)) dX10_errs_1 ⟨Nat.zero_le _, Nat.zero_le _⟩) ?_
  refine lv_if_ne (tgt := 8) hx hb dX10_errs_4 (by decide) (fun c_4 => ?_) (fun c_4 => ?_)
  rotate_left 1
  · rw [if_pos c_4] at hf
    rw [← hQQ]
    cases hf
    exact rw_v hx hb hr hlocks hP hS dX10_errs_7
  rw [if_neg c_4] at hf
  refine lv_aload_n hx hb dX10_errs_8 rfl (lv_at hl 0 rfl) ?_
  refine lv_iload_n hx hb dX10_errs_9 rfl (lv_at hl 1 rfl) ?_
  refine va_put (D := D) (ci := 10) (v := .int v1) (ty := .int) (C := RX10) (T := TX10) (N := 42) hx hb htl inlX10 tyX10 tyX10_ok nmX10 hown hK hP (hDW o) hS 0 rfl rfl 12 (by decide) (htl _ wq_16_12) (fun _ h9 => h9) rfl (tyX10_ok 12 (by decide)) rfl rfl (Nat.le_of_ble_eq_true rfl) dX10_errs_10 (fun H_10 locs_10 hP _ hS => ?_)
  have hP : va_P D vwCl (cs10 ct a (oI o 12 v1)) H_10 := st10_12 hP
  refine lv_aload_n hx hb dX10_errs_13 rfl (lv_at hl 0 rfl) ?_
  refine lv_aload_n hx hb dX10_errs_14 rfl (lv_at hl 0 rfl) ?_
  refine va_get (D := D) (ci := 10) (v := .int ((oI o 12 v1).1 9 0)) (C := RX10) (T := TX10) (N := 42) hx hb htl inlX10 hown hK hP 0 rfl rfl 9 (by decide) (htl _ wq_16_18) (fun _ h9 => h9) rfl dX10_errs_15 ?_
  refine va_put (D := D) (ci := 10) (v := .int ((oI o 12 v1).1 9 0)) (ty := .int) (C := RX10) (T := TX10) (N := 42) hx hb htl inlX10 tyX10 tyX10_ok nmX10 hown hK hP (hDW (oI o 12 v1)) hS 0 rfl rfl 13 (by decide) (htl _ wq_7_7) (fun _ h9 => h9) rfl (tyX10_ok 13 (by decide)) rfl rfl (Nat.le_of_ble_eq_true rfl) dX10_errs_18 (fun H_18 locs_18 hP _ hS => ?_)
  have hP : va_P D vwCl (cs10 ct a (oI (oI o 12 v1) 13 ((oI o 12 v1).1 9 0))) H_18 := st10_13 hP
  rw [← hQQ]
  cases hf
  exact rw_v hx hb hr hlocks hP hS dX10_errs_21
theorem c_X10_errs (l : Launch) (D : va_G) (ct : Nat → ClassId) (G : GT) (a : Nat → Nat) (fu : Nat) (o : Ob) (v1 : Int32) {r : Ob} (hf : p_X10_errs fu o v1 = some r)  (hD0 : va_D (GE G) (cs10 ct a o)) : Met l yX10_errs (.code yX10_errs cX10_errs 2 none :: wsL_law) rm_X10_errs (va_Pc [.ref (a 0), .int v1] (Bx D ct G (cs10 ct a o))) (Qwr none (fun H => va_P D vwCl (cs10 ct a r) H) (wA (cs10 ct a o))) 0 0 (wA (cs10 ct a o)) := by
  refine Met.ofW (cc := cX10_errs) (maxL := 2) (ret := none) (by decide) rfl ?_
  intro p e s m args below meth c s₁ B hml hv
  obtain ⟨rfl, hP, hK, hN, hX⟩ := hv
  have hts := atoms_spec (ws := .code yX10_errs cX10_errs 2 none :: wsL_law) B.pre
  rw [lg_entry_eq]
  exact b_X10_errs a fu o v1 B.exec B.bytes B.returns hml (findClass_of_methodNamed B.named) (fun w h => hts w (List.mem_cons_of_mem _ h)) B.notSynchronized hK hN hX hP hf hD0  (lv_entry [.ref (a 0), .int v1] (n := 2) (Nat.le_of_ble_eq_true rfl))
theorem cw_X10_J0_length_8abf5 {R : Room} {s : State} {args : Array Value} (ht : ∀ w ∈ wsL_law, w.before args s = true) (hR : rm_J0_length_8abf5.frames + 1 ≤ R.frames ∧ 8 + (1 + 11) + rm_J0_length_8abf5.locals ≤ R.locals) : CallW R s args RX10 RJ0 142 yJ0_length_8abf5 cJ0_length_8abf5 1 (some .int) ((.code yJ0_length_8abf5 cJ0_length_8abf5 1 (some .int)) :: wsL_law) rm_J0_length_8abf5 0 0 0 := cwV 0 ht (GV wq_18_6 wq_10_10 wq_10_11 wq_10_12 wq_10_13) rfl rfl rfl ⟨rfl, hd_J0_length_8abf5⟩ hR
theorem cw_X10_J0_charAt_5068e {R : Room} {s : State} {args : Array Value} (ht : ∀ w ∈ wsL_law, w.before args s = true) (hR : rm_J0_charAt_5068e.frames + 1 ≤ R.frames ∧ 8 + (2 + 11) + rm_J0_charAt_5068e.locals ≤ R.locals) : CallW R s args RX10 RJ0 148 yJ0_charAt_5068e cJ0_charAt_5068e 2 (some .char) ((.code yJ0_charAt_5068e cJ0_charAt_5068e 2 (some .char)) :: wsL_law) rm_J0_charAt_5068e 0 0 1 := cwV 1 ht (GV wq_18_7 wq_10_23 wq_11_0 wq_10_12 wq_11_1) rfl rfl rfl ⟨rfl, hd_J0_charAt_5068e⟩ hR
def p_X10_is_L39 (fu : Nat) (o : Ob) (w1 : Nat)  : Nat → Int32 → Int32 → Option (Int32)
  | 0, _, _ => none
  | n + 1, v2, v3 =>
    (p_J0_length w1).bind fun r_41 => if r_41 ≤ v3 then if v2 = 0 ∨ v2 = 1 then some v2 else none else if v2 = 0 then if v2 = 0 ∨ v2 = 1 then some v2 else none else if inb ((o.1 9 0) + v3) 700 = true then (p_J0_charAt w1 v3).bind fun r_64 => if ((o.1 4) ((o.1 9 0) + v3).toNatClampNeg) = r_64 then p_X10_is_L39 fu o w1  n 1 (v3 + 1) else p_X10_is_L39 fu o w1  n 0 (v3 + 1) else none
def p_X10_is (fu : Nat) (o : Ob) (w1 : Nat) : Option (Int32) :=
  (p_X10_good fu o).bind fun r_1 => if r_1 = 0 then p_X10_is_L39 fu o w1 fu 0 0 else if (o.1 10 0) = (1 : Int32) then (p_J0_length w1).bind fun r_25 => if ((o.1 8 0) - (o.1 9 0)) = r_25 then p_X10_is_L39 fu o w1 fu 1 0 else p_X10_is_L39 fu o w1 fu 0 0 else p_X10_is_L39 fu o w1 fu 0 0
abbrev rm_X10_is : Room := { frames := 4, cells := 0, slots := 0, locals := 85 }
set_option maxHeartbeats 4000000 in
set_option maxRecDepth 100000 in
theorem b_X10_is {p : Program} {l : Launch} {e : Env} {s : State} {m : MethodId} {args : Array Value} {below : List Frame} {meth : Method} {c : Code} {ls : Array Slot} {D : va_G} {ct : Nat → ClassId} {G : GT} (a : Nat → Nat) (fu : Nat) (o : Ob) (w1 : Nat) {r : Int32} (hx : p.tables.exec = Jvm.exec) (hb : c.code = cX10_is) (hr : meth.sig.returnType = (some .boolean)) (hml : c.maxLocals = 4) (hown : s.vm.findClass RX10 = some m.cls) (htl : ∀ w ∈ wsL_law, w.before args s = true) (hlocks : meth.locks = false) (hK : va_K D vwCl (tyl ct) s) (hN : ∀ w ∈ NW, va_Nw w s) (hX : SX G s s.heap) (hP0 : va_P D vwCl (cs10 ct a o) s.heap) (hf : p_X10_is fu o w1 = some r) (hw1 : w1 < 13) (hl : lv_has ls 4 [(0, .ref (a 0)), (1, .ref (G.2.1 w1))]) : W p l e rm_X10_is s m args below meth c s.heap [] 0 0 (MQ below (Qro (some (.int r))) args s 0 0 (fun _ => False)) (F0 m 0 ls []) := by
  generalize hQQ : MQ below (Qro (some (.int r))) args s 0 0 (fun _ => False) = QQ
  have hP := hP0
  have hL39 : ∀ (n : Nat) (v2 : Int32) (v3 : Int32), ∀ (ls : Array Slot), lv_has ls 4 [(0, .ref (a 0)), (1, .ref (G.2.1 w1)), (2, .int v2), (3, .int v3)] → p_X10_is_L39 fu o w1  n v2 v3 = some r → W p l e rm_X10_is s m args below meth c s.heap [] 0 0 QQ (F0 m 39 ls []) := by
    intro  n
    induction n with
    | zero =>
      intro v2 v3 ls hl hf 
      rw [p_X10_is_L39] at hf
      cases hf
    | succ n ih =>
      intro v2 v3 ls hl hf 
      rw [p_X10_is_L39] at hf
      refine lv_iload_n hx hb dX10_is_39 rfl (lv_at hl 3 rfl) ?_
      refine lv_aload_n hx hb dX10_is_40 rfl (lv_at hl 1 rfl) ?_
      obtain ⟨r_41, e_41, hf⟩ := ob_bind hf
      have hPX_41 : va_P D vwCl ([]) s.heap := P_nil
      refine ro_call1 (va_runV (As := []) (rest := [.int v3]) ⟨hx, hb, hml, hown, htl⟩ (c_J0_length_8abf5 l D ct G w1 e_41 hw1) (cw_X10_J0_length_8abf5 htl ⟨Nat.le_of_ble_eq_true rfl, Nat.le_of_ble_eq_true rfl⟩) ⟨Bx_blind, vk_recv hX.1 hw1 va_S.rf, Bx_pre hPX_41 hK hN hX⟩ rfl rfl hl.1 rfl (lv_room (Nat.le_of_ble_eq_true rfl)) dX10_is_41 ⟨Nat.zero_le _, Nat.zero_le _⟩) ?_
      refine lv_icmp_ge (tgt := 82) hx hb dX10_is_44 (by decide) (fun c_44 => ?_) (fun c_44 => ?_)
      · rw [if_pos c_44] at hf
        refine lv_iload_n hx hb dX10_is_82 rfl (lv_at hl 2 rfl) ?_
        obtain ⟨hz_83, hf⟩ := ob_z hf
        rw [← hQQ]
        exact rf_z hx hb hr hlocks hz_83.1 hf dX10_is_83
      rw [if_neg c_44] at hf
      refine lv_iload_n hx hb dX10_is_47 rfl (lv_at hl 2 rfl) ?_
      refine lv_if_eq (tgt := 82) hx hb dX10_is_48 (by decide) (fun c_48 => ?_) (fun c_48 => ?_)
      · rw [if_pos c_48] at hf
        refine lv_iload_n hx hb dX10_is_82 rfl (lv_at hl 2 rfl) ?_
        obtain ⟨hz_83, hf⟩ := ob_z hf
        rw [← hQQ]
        exact rf_z hx hb hr hlocks hz_83.1 hf dX10_is_83
      rw [if_neg c_48] at hf
      refine lv_aload_n hx hb dX10_is_51 rfl (lv_at hl 0 rfl) ?_
      refine va_get (D := D) (ci := 10) (v := .ref (a 4)) (C := RX10) (T := TX10) (N := 42) hx hb htl inlX10 hown hK hP 0 rfl rfl 4 (by decide) (htl _ wq_7_5) (fun _ h9 => h9) rfl dX10_is_52 ?_
      refine lv_aload_n hx hb dX10_is_55 rfl (lv_at hl 0 rfl) ?_
      refine va_get (D := D) (ci := 10) (v := .int (o.1 9 0)) (C := RX10) (T := TX10) (N := 42) hx hb htl inlX10 hown hK hP 0 rfl rfl 9 (by decide) (htl _ wq_16_18) (fun _ h9 => h9) rfl dX10_is_56 ?_
      refine lv_iload_n hx hb dX10_is_59 rfl (lv_at hl 3 rfl) ?_
      refine lv_iadd hx hb dX10_is_60 ?_
      obtain ⟨hi_61, hf⟩ := ob_in hf
      refine va_bald (D := D) (tys := tyl ct) hx hb hK hP 4 2 rfl rfl hi_61 dX10_is_61 ?_
      refine lv_aload_n hx hb dX10_is_62 rfl (lv_at hl 1 rfl) ?_
      refine lv_iload_n hx hb dX10_is_63 rfl (lv_at hl 3 rfl) ?_
      obtain ⟨r_64, e_64, hf⟩ := ob_bind hf
      have hPX_64 : va_P D vwCl ([]) s.heap := P_nil
      refine ro_call1 (va_runV (As := [.int v3]) (rest := [.int ((o.1 4) ((o.1 9 0) + v3).toNatClampNeg)]) ⟨hx, hb, hml, hown, htl⟩ (c_J0_charAt_5068e l D ct G w1 v3 e_64 hw1) (cw_X10_J0_charAt_5068e htl ⟨Nat.le_of_ble_eq_true rfl, Nat.le_of_ble_eq_true rfl⟩) ⟨Bx_blind, vk_recv hX.1 hw1 va_S.rf, Bx_pre hPX_64 hK hN hX⟩ rfl rfl hl.1 rfl (lv_room (Nat.le_of_ble_eq_true rfl)) dX10_is_64 ⟨Nat.zero_le _, Nat.zero_le _⟩) ?_
      refine lv_icmp_ne (tgt := 74) hx hb dX10_is_67 (by decide) (fun c_67 => ?_) (fun c_67 => ?_)
      · rw [if_neg c_67] at hf
        refine lv_iconst (v := 0) hx hb dX10_is_74 (by decide) ?_
        refine lv_istore_n (lv' := [(2, .int 0), (0, .ref (a 0)), (1, .ref (G.2.1 w1)), (3, .int v3)]) hx hb dX10_is_75 rfl hl (by decide) rfl (fun ls hl => ?_)
        refine lv_iinc (v := (v3 + 1)) (lv' := [(3, .int (v3 + 1)), (2, .int 0), (0, .ref (a 0)), (1, .ref (G.2.1 w1))]) hx hb dX10_is_76 hl (k := 3) rfl rfl (by decide) rfl (fun ls hl => ?_)
        refine lv_goto (tgt := 39) hx hb dX10_is_79 (by decide) ?_
        exact ih 0 (v3 + 1) _ (lv_sub hl [2, 3, 1, 0] rfl) hf 
      rw [if_pos c_67] at hf
      refine lv_iconst (v := 1) hx hb dX10_is_70 (by decide) ?_
      refine lv_goto (tgt := 75) hx hb dX10_is_71 (by decide) ?_
      refine lv_istore_n (lv' := [(2, .int 1), (0, .ref (a 0)), (1, .ref (G.2.1 w1)), (3, .int v3)]) hx hb dX10_is_75 rfl hl (by decide) rfl (fun ls hl => ?_)
      refine lv_iinc (v := (v3 + 1)) (lv' := [(3, .int (v3 + 1)), (2, .int 1), (0, .ref (a 0)), (1, .ref (G.2.1 w1))]) hx hb dX10_is_76 hl (k := 3) rfl rfl (by decide) rfl (fun ls hl => ?_)
      refine lv_goto (tgt := 39) hx hb dX10_is_79 (by decide) ?_
      exact ih 1 (v3 + 1) _ (lv_sub hl [2, 3, 1, 0] rfl) hf 
  rw [p_X10_is] at hf
  refine lv_aload_n hx hb dX10_is_0 rfl (lv_at hl 0 rfl) ?_
  obtain ⟨r_1, e_1, hf⟩ := ob_bind hf
  have hPX_1 : va_P D vwCl (cs10 ct a o) s.heap := hP
  refine ro_call1 (va_runV (As := []) (rest := []) ⟨hx, hb, hml, hown, htl⟩ (c_X10_good l D ct G a fu o e_1) (cw_X10_X10_good htl ⟨Nat.le_of_ble_eq_true rfl, Nat.le_of_ble_eq_true rfl⟩) ⟨Bx_blind, va_recv hK hPX_1 (ci := 10) (q0 := 0) rfl rfl, Bx_pre hPX_1 hK hN hX⟩ rfl rfl hl.1 rfl (lv_room (Nat.le_of_ble_eq_true rfl)) dX10_is_1 ⟨Nat.zero_le _, Nat.zero_le _⟩) ?_
  refine lv_if_eq (tgt := 35) hx hb dX10_is_4 (by decide) (fun c_4 => ?_) (fun c_4 => ?_)
  · rw [if_pos c_4] at hf
    refine lv_iconst (v := 0) hx hb dX10_is_35 (by decide) ?_
    refine lv_istore_n (lv' := [(2, .int 0), (0, .ref (a 0)), (1, .ref (G.2.1 w1))]) hx hb dX10_is_36 rfl hl (by decide) rfl (fun ls hl => ?_)
    refine lv_iconst (v := 0) hx hb dX10_is_37 (by decide) ?_
    refine lv_istore_n (lv' := [(3, .int 0), (2, .int 0), (0, .ref (a 0)), (1, .ref (G.2.1 w1))]) hx hb dX10_is_38 rfl hl (by decide) rfl (fun ls hl => ?_)
    exact hL39 fu 0 0 _ (lv_sub hl [2, 3, 1, 0] rfl) hf 
  rw [if_neg c_4] at hf
  refine lv_aload_n hx hb dX10_is_7 rfl (lv_at hl 0 rfl) ?_
  refine va_get (D := D) (ci := 10) (v := .int (o.1 10 0)) (C := RX10) (T := TX10) (N := 42) hx hb htl inlX10 hown hK hP 0 rfl rfl 10 (by decide) (htl _ wq_16_13) (fun _ h9 => h9) rfl dX10_is_8 ?_
  refine lv_iconst (v := 1) hx hb dX10_is_11 (by decide) ?_
  refine lv_icmp_ne (tgt := 35) hx hb dX10_is_12 (by decide) (fun c_12 => ?_) (fun c_12 => ?_)
  · rw [if_neg c_12] at hf
    refine lv_iconst (v := 0) hx hb dX10_is_35 (by decide) ?_
    refine lv_istore_n (lv' := [(2, .int 0), (0, .ref (a 0)), (1, .ref (G.2.1 w1))]) hx hb dX10_is_36 rfl hl (by decide) rfl (fun ls hl => ?_)
    refine lv_iconst (v := 0) hx hb dX10_is_37 (by decide) ?_
    refine lv_istore_n (lv' := [(3, .int 0), (2, .int 0), (0, .ref (a 0)), (1, .ref (G.2.1 w1))]) hx hb dX10_is_38 rfl hl (by decide) rfl (fun ls hl => ?_)
    exact hL39 fu 0 0 _ (lv_sub hl [2, 3, 1, 0] rfl) hf 
  rw [if_pos c_12] at hf
  refine lv_aload_n hx hb dX10_is_15 rfl (lv_at hl 0 rfl) ?_
  refine va_get (D := D) (ci := 10) (v := .int (o.1 8 0)) (C := RX10) (T := TX10) (N := 42) hx hb htl inlX10 hown hK hP 0 rfl rfl 8 (by decide) (htl _ wq_16_11) (fun _ h9 => h9) rfl dX10_is_16 ?_
  refine lv_aload_n hx hb dX10_is_19 rfl (lv_at hl 0 rfl) ?_
  refine va_get (D := D) (ci := 10) (v := .int (o.1 9 0)) (C := RX10) (T := TX10) (N := 42) hx hb htl inlX10 hown hK hP 0 rfl rfl 9 (by decide) (htl _ wq_16_18) (fun _ h9 => h9) rfl dX10_is_20 ?_
  refine lv_isub hx hb dX10_is_23 ?_
  refine lv_aload_n hx hb dX10_is_24 rfl (lv_at hl 1 rfl) ?_
  obtain ⟨r_25, e_25, hf⟩ := ob_bind hf
  have hPX_25 : va_P D vwCl ([]) s.heap := P_nil
  refine ro_call1 (va_runV (As := []) (rest := [.int ((o.1 8 0) - (o.1 9 0))]) ⟨hx, hb, hml, hown, htl⟩ (c_J0_length_8abf5 l D ct G w1 e_25 hw1) (cw_X10_J0_length_8abf5 htl ⟨Nat.le_of_ble_eq_true rfl, Nat.le_of_ble_eq_true rfl⟩) ⟨Bx_blind, vk_recv hX.1 hw1 va_S.rf, Bx_pre hPX_25 hK hN hX⟩ rfl rfl hl.1 rfl (lv_room (Nat.le_of_ble_eq_true rfl)) dX10_is_25 ⟨Nat.zero_le _, Nat.zero_le _⟩) ?_
  refine lv_icmp_ne (tgt := 35) hx hb dX10_is_28 (by decide) (fun c_28 => ?_) (fun c_28 => ?_)
  · rw [if_neg c_28] at hf
    refine lv_iconst (v := 0) hx hb dX10_is_35 (by decide) ?_
    refine lv_istore_n (lv' := [(2, .int 0), (0, .ref (a 0)), (1, .ref (G.2.1 w1))]) hx hb dX10_is_36 rfl hl (by decide) rfl (fun ls hl => ?_)
    refine lv_iconst (v := 0) hx hb dX10_is_37 (by decide) ?_
    refine lv_istore_n (lv' := [(3, .int 0), (2, .int 0), (0, .ref (a 0)), (1, .ref (G.2.1 w1))]) hx hb dX10_is_38 rfl hl (by decide) rfl (fun ls hl => ?_)
    exact hL39 fu 0 0 _ (lv_sub hl [2, 3, 1, 0] rfl) hf 
  rw [if_pos c_28] at hf
  refine lv_iconst (v := 1) hx hb dX10_is_31 (by decide) ?_
  refine lv_goto (tgt := 36) hx hb dX10_is_32 (by decide) ?_
  refine lv_istore_n (lv' := [(2, .int 1), (0, .ref (a 0)), (1, .ref (G.2.1 w1))]) hx hb dX10_is_36 rfl hl (by decide) rfl (fun ls hl => ?_)
  refine lv_iconst (v := 0) hx hb dX10_is_37 (by decide) ?_
  refine lv_istore_n (lv' := [(3, .int 0), (2, .int 1), (0, .ref (a 0)), (1, .ref (G.2.1 w1))]) hx hb dX10_is_38 rfl hl (by decide) rfl (fun ls hl => ?_)
  exact hL39 fu 1 0 _ (lv_sub hl [2, 3, 1, 0] rfl) hf 
theorem c_X10_is (l : Launch) (D : va_G) (ct : Nat → ClassId) (G : GT) (a : Nat → Nat) (fu : Nat) (o : Ob) (w1 : Nat) {r : Int32} (hf : p_X10_is fu o w1 = some r) (hw1 : w1 < 13) : Met l yX10_is (.code yX10_is cX10_is 4 (some .boolean) :: wsL_law) rm_X10_is (va_Pc [.ref (a 0), .ref (G.2.1 w1)] (Bx D ct G (cs10 ct a o))) (Qro (some (.int r))) 0 0 (fun _ => False) := by
  refine Met.ofW (cc := cX10_is) (maxL := 4) (ret := (some .boolean)) (by decide) rfl ?_
  intro p e s m args below meth c s₁ B hml hv
  obtain ⟨rfl, hP, hK, hN, hX⟩ := hv
  have hts := atoms_spec (ws := .code yX10_is cX10_is 4 (some .boolean) :: wsL_law) B.pre
  rw [lg_entry_eq]
  exact b_X10_is a fu o w1 B.exec B.bytes B.returns hml (findClass_of_methodNamed B.named) (fun w h => hts w (List.mem_cons_of_mem _ h)) B.notSynchronized hK hN hX hP hf  hw1 (lv_entry [.ref (a 0), .ref (G.2.1 w1)] (n := 4) (Nat.le_of_ble_eq_true rfl))
theorem hd_X10_is : yX10_is.cls ≠ "java/lang/invoke/MethodHandle" ∧ yX10_is.cls ≠ "java/lang/invoke/VarHandle" ∧ (parseMethodDescriptor yX10_is.desc).map (fun d => d.parameters.length) = some 1 := by decide +kernel
theorem cw_X10_X10_is {R : Room} {s : State} {args : Array Value} (ht : ∀ w ∈ wsL_law, w.before args s = true) (hR : rm_X10_is.frames + 1 ≤ R.frames ∧ 8 + (4 + 11) + rm_X10_is.locals ≤ R.locals) : CallW R s args RX10 RX10 152 yX10_is cX10_is 4 (some .boolean) ((.code yX10_is cX10_is 4 (some .boolean)) :: wsL_law) rm_X10_is 0 0 1 := cwV 1 ht (GV wq_18_2 wq_18_3 wq_18_4 wq_1_5 wq_18_5) rfl rfl rfl ⟨rfl, hd_X10_is⟩ hR
theorem hd_X10_advance : yX10_advance.cls ≠ "java/lang/invoke/MethodHandle" ∧ yX10_advance.cls ≠ "java/lang/invoke/VarHandle" ∧ (parseMethodDescriptor yX10_advance.desc).map (fun d => d.parameters.length) = some 0 := by decide +kernel
theorem cw_X10_X10_advance {R : Room} {s : State} {args : Array Value} (ht : ∀ w ∈ wsL_law, w.before args s = true) (hR : rm_X10_advance.frames + 1 ≤ R.frames ∧ 8 + (2 + 11) + rm_X10_advance.locals ≤ R.locals) : CallW R s args RX10 RX10 156 yX10_advance cX10_advance 2 none ((.code yX10_advance cX10_advance 2 none) :: wsL_law) rm_X10_advance 0 0 0 := cwV 0 ht (GV wq_16_14 wq_16_15 wq_16_16 wq_1_5 wq_16_17) rfl rfl rfl ⟨rfl, hd_X10_advance⟩ hR
def p_X10_takes (fu : Nat) (o : Ob) (w1 : Nat) : Option (Int32 × Ob) :=
  (p_X10_is fu o w1).bind fun r_2 => if r_2 = 0 then if r_2 = 0 ∨ r_2 = 1 then some (r_2, o) else none else (p_X10_advance fu o).bind fun r_11 => if r_2 = 0 ∨ r_2 = 1 then some (r_2, r_11) else none
abbrev rm_X10_takes : Room := { frames := 5, cells := 0, slots := 0, locals := 108 }
set_option maxHeartbeats 4000000 in
set_option maxRecDepth 100000 in
theorem b_X10_takes {p : Program} {l : Launch} {e : Env} {s : State} {m : MethodId} {args : Array Value} {below : List Frame} {meth : Method} {c : Code} {ls : Array Slot} {D : va_G} {ct : Nat → ClassId} {G : GT} (a : Nat → Nat) (fu : Nat) (o : Ob) (w1 : Nat) {r : Int32 × Ob} (hx : p.tables.exec = Jvm.exec) (hb : c.code = cX10_takes) (hr : meth.sig.returnType = (some .boolean)) (hml : c.maxLocals = 3) (hown : s.vm.findClass RX10 = some m.cls) (htl : ∀ w ∈ wsL_law, w.before args s = true) (hlocks : meth.locks = false) (hK : va_K D vwCl (tyl ct) s) (hN : ∀ w ∈ NW, va_Nw w s) (hX : SX G s s.heap) (hP0 : va_P D vwCl (cs10 ct a o) s.heap) (hf : p_X10_takes fu o w1 = some r) (hD0 : va_D (GE G) (cs10 ct a o)) (hw1 : w1 < 13) (hl : lv_has ls 3 [(0, .ref (a 0)), (1, .ref (G.2.1 w1))]) : W p l e rm_X10_takes s m args below meth c s.heap [] 0 0 (MQ below (Qwr (some (.int r.1)) (fun H => va_P D vwCl (cs10 ct a r.2) H) (wA (cs10 ct a o))) args s 0 0 (wA (cs10 ct a o))) (F0 m 0 ls []) := by
  generalize hQQ : MQ below (Qwr (some (.int r.1)) (fun H => va_P D vwCl (cs10 ct a r.2) H) (wA (cs10 ct a o))) args s 0 0 (wA (cs10 ct a o)) = QQ
  have hDx : ∀ (oy : Ob), va_D (GE G) (cs10 ct a oy) := fun oy => D_cr hD0 rfl
  have hDW : ∀ (oy : Ob), va_D (wA (cs10 ct a o)) (cs10 ct a oy) := fun oy => D_cr (D_self hD0) rfl
  have hGE : ∀ q, wA (cs10 ct a o) q → GE G q := wA_GE hD0
  have hP := hP0
  have hS : va_S (wA (cs10 ct a o)) s.heap s.heap [] := va_S.rf
  rw [p_X10_takes] at hf
  refine lv_aload_n hx hb dX10_takes_0 rfl (lv_at hl 0 rfl) ?_
  refine lv_aload_n hx hb dX10_takes_1 rfl (lv_at hl 1 rfl) ?_
  obtain ⟨r_2, e_2, hf⟩ := ob_bind hf
  have hPX_2 : va_P D vwCl (cs10 ct a o) s.heap := hP
  refine ro_call1 (va_runV (As := [.ref (G.2.1 w1)]) (rest := []) ⟨hx, hb, hml, hown, htl⟩ (c_X10_is l D ct G a fu o w1 e_2 hw1) (cw_X10_X10_is htl ⟨Nat.le_of_ble_eq_true rfl, Nat.le_of_ble_eq_true rfl⟩) ⟨Bx_blind, va_recv hK hPX_2 (ci := 10) (q0 := 0) rfl rfl, Bx_pre hPX_2 hK hN (hX.stay hS hGE)⟩ rfl rfl hl.1 rfl (lv_room (Nat.le_of_ble_eq_true rfl)) dX10_takes_2 ⟨Nat.zero_le _, Nat.zero_le _⟩) ?_
  refine lv_istore_n (lv' := [(2, .int r_2), (0, .ref (a 0)), (1, .ref (G.2.1 w1))]) hx hb dX10_takes_5 rfl hl (by decide) rfl (fun ls hl => ?_)
  refine lv_iload_n hx hb dX10_takes_6 rfl (lv_at hl 0 rfl) ?_
  refine lv_if_eq (tgt := 14) hx hb dX10_takes_7 (by decide) (fun c_7 => ?_) (fun c_7 => ?_)
  · rw [if_pos c_7] at hf
    refine lv_iload_n hx hb dX10_takes_14 rfl (lv_at hl 0 rfl) ?_
    obtain ⟨hz_15, hf⟩ := ob_z hf
    rw [← hQQ]
    cases hf
    exact rw_z hx hb hr hlocks hz_15.1 hP hS dX10_takes_15
  rw [if_neg c_7] at hf
  refine lv_aload_n hx hb dX10_takes_10 rfl (lv_at hl 1 rfl) ?_
  obtain ⟨r_11, e_11, hf⟩ := ob_bind hf
  have hPX_11 : va_P D vwCl (cs10 ct a o) s.heap := hP
  refine wr_call0 (va_runV (As := []) (rest := []) ⟨hx, hb, hml, hown, htl⟩ (c_X10_advance l D ct G a fu o e_11 (hDx o)) (cw_X10_X10_advance htl ⟨Nat.le_of_ble_eq_true rfl, Nat.le_of_ble_eq_true rfl⟩) ⟨Bx_blind, va_recv hK hPX_11 (ci := 10) (q0 := 0) rfl rfl, Bx_pre hPX_11 hK hN (hX.stay hS hGE)⟩ rfl rfl hl.1 rfl (lv_room (Nat.le_of_ble_eq_true rfl)) dX10_takes_11 ⟨Nat.zero_le _, Nat.zero_le _⟩) hS (wA_cg rfl) (fun H_11 locs_11 hB_11 _ hk_11 hS => ?_)
  have hP : va_P D vwCl (cs10 ct a r_11) H_11 := hB_11
  refine lv_iload_n hx hb dX10_takes_14 rfl (lv_at hl 0 rfl) ?_
  obtain ⟨hz_15, hf⟩ := ob_z hf
  rw [← hQQ]
  cases hf
  exact rw_z hx hb hr hlocks hz_15.1 hP hS dX10_takes_15
theorem c_X10_takes (l : Launch) (D : va_G) (ct : Nat → ClassId) (G : GT) (a : Nat → Nat) (fu : Nat) (o : Ob) (w1 : Nat) {r : Int32 × Ob} (hf : p_X10_takes fu o w1 = some r) (hw1 : w1 < 13) (hD0 : va_D (GE G) (cs10 ct a o)) : Met l yX10_takes (.code yX10_takes cX10_takes 3 (some .boolean) :: wsL_law) rm_X10_takes (va_Pc [.ref (a 0), .ref (G.2.1 w1)] (Bx D ct G (cs10 ct a o))) (Qwr (some (.int r.1)) (fun H => va_P D vwCl (cs10 ct a r.2) H) (wA (cs10 ct a o))) 0 0 (wA (cs10 ct a o)) := by
  refine Met.ofW (cc := cX10_takes) (maxL := 3) (ret := (some .boolean)) (by decide) rfl ?_
  intro p e s m args below meth c s₁ B hml hv
  obtain ⟨rfl, hP, hK, hN, hX⟩ := hv
  have hts := atoms_spec (ws := .code yX10_takes cX10_takes 3 (some .boolean) :: wsL_law) B.pre
  rw [lg_entry_eq]
  exact b_X10_takes a fu o w1 B.exec B.bytes B.returns hml (findClass_of_methodNamed B.named) (fun w h => hts w (List.mem_cons_of_mem _ h)) B.notSynchronized hK hN hX hP hf hD0 hw1 (lv_entry [.ref (a 0), .ref (G.2.1 w1)] (n := 3) (Nat.le_of_ble_eq_true rfl))
theorem hd_X10_takes : yX10_takes.cls ≠ "java/lang/invoke/MethodHandle" ∧ yX10_takes.cls ≠ "java/lang/invoke/VarHandle" ∧ (parseMethodDescriptor yX10_takes.desc).map (fun d => d.parameters.length) = some 1 := by decide +kernel
theorem cw_X10_X10_takes {R : Room} {s : State} {args : Array Value} (ht : ∀ w ∈ wsL_law, w.before args s = true) (hR : rm_X10_takes.frames + 1 ≤ R.frames ∧ 8 + (3 + 11) + rm_X10_takes.locals ≤ R.locals) : CallW R s args RX10 RX10 159 yX10_takes cX10_takes 3 (some .boolean) ((.code yX10_takes cX10_takes 3 (some .boolean)) :: wsL_law) rm_X10_takes 0 0 1 := cwV 1 ht (GV wq_17_22 wq_17_23 wq_18_0 wq_1_5 wq_18_1) rfl rfl rfl ⟨rfl, hd_X10_takes⟩ hR
theorem hd_X10_errs : yX10_errs.cls ≠ "java/lang/invoke/MethodHandle" ∧ yX10_errs.cls ≠ "java/lang/invoke/VarHandle" ∧ (parseMethodDescriptor yX10_errs.desc).map (fun d => d.parameters.length) = some 1 := by decide +kernel
theorem cw_X10_X10_errs {R : Room} {s : State} {args : Array Value} (ht : ∀ w ∈ wsL_law, w.before args s = true) (hR : rm_X10_errs.frames + 1 ≤ R.frames ∧ 8 + (2 + 11) + rm_X10_errs.locals ≤ R.locals) : CallW R s args RX10 RX10 162 yX10_errs cX10_errs 2 none ((.code yX10_errs cX10_errs 2 none) :: wsL_law) rm_X10_errs 0 0 1 := cwV 1 ht (GV wq_18_8 wq_18_9 wq_18_10 wq_1_5 wq_18_11) rfl rfl rfl ⟨rfl, hd_X10_errs⟩ hR
def p_X10_needs (fu : Nat) (o : Ob) (w1 : Nat) : Option (Ob) :=
  (p_X10_takes fu o w1).bind fun r_2 => if r_2.1 = 0 then (p_X10_errs fu r_2.2 (1 : Int32)).bind fun r_10 => some r_10 else some r_2.2
abbrev rm_X10_needs : Room := { frames := 6, cells := 0, slots := 0, locals := 130 }
set_option maxHeartbeats 4000000 in
set_option maxRecDepth 100000 in
theorem b_X10_needs {p : Program} {l : Launch} {e : Env} {s : State} {m : MethodId} {args : Array Value} {below : List Frame} {meth : Method} {c : Code} {ls : Array Slot} {D : va_G} {ct : Nat → ClassId} {G : GT} (a : Nat → Nat) (fu : Nat) (o : Ob) (w1 : Nat) {r : Ob} (hx : p.tables.exec = Jvm.exec) (hb : c.code = cX10_needs) (hr : meth.sig.returnType = none) (hml : c.maxLocals = 2) (hown : s.vm.findClass RX10 = some m.cls) (htl : ∀ w ∈ wsL_law, w.before args s = true) (hlocks : meth.locks = false) (hK : va_K D vwCl (tyl ct) s) (hN : ∀ w ∈ NW, va_Nw w s) (hX : SX G s s.heap) (hP0 : va_P D vwCl (cs10 ct a o) s.heap) (hf : p_X10_needs fu o w1 = some r) (hD0 : va_D (GE G) (cs10 ct a o)) (hw1 : w1 < 13) (hl : lv_has ls 2 [(0, .ref (a 0)), (1, .ref (G.2.1 w1))]) : W p l e rm_X10_needs s m args below meth c s.heap [] 0 0 (MQ below (Qwr none (fun H => va_P D vwCl (cs10 ct a r) H) (wA (cs10 ct a o))) args s 0 0 (wA (cs10 ct a o))) (F0 m 0 ls []) := by
  generalize hQQ : MQ below (Qwr none (fun H => va_P D vwCl (cs10 ct a r) H) (wA (cs10 ct a o))) args s 0 0 (wA (cs10 ct a o)) = QQ
  have hDx : ∀ (oy : Ob), va_D (GE G) (cs10 ct a oy) := fun oy => D_cr hD0 rfl
  have hDW : ∀ (oy : Ob), va_D (wA (cs10 ct a o)) (cs10 ct a oy) := fun oy => D_cr (D_self hD0) rfl
  have hGE : ∀ q, wA (cs10 ct a o) q → GE G q := wA_GE hD0
  have hP := hP0
  have hS : va_S (wA (cs10 ct a o)) s.heap s.heap [] := va_S.rf
  rw [p_X10_needs] at hf
  refine lv_aload_n hx hb dX10_needs_0 rfl (lv_at hl 0 rfl) ?_
  refine lv_aload_n hx hb dX10_needs_1 rfl (lv_at hl 1 rfl) ?_
  obtain ⟨r_2, e_2, hf⟩ := ob_bind hf
  have hPX_2 : va_P D vwCl (cs10 ct a o) s.heap := hP
  refine wr_call1 (va_runV (As := [.ref (G.2.1 w1)]) (rest := []) ⟨hx, hb, hml, hown, htl⟩ (c_X10_takes l D ct G a fu o w1 e_2 hw1 (hDx o)) (cw_X10_X10_takes htl ⟨Nat.le_of_ble_eq_true rfl, Nat.le_of_ble_eq_true rfl⟩) ⟨Bx_blind, va_recv hK hPX_2 (ci := 10) (q0 := 0) rfl rfl, Bx_pre hPX_2 hK hN (hX.stay hS hGE)⟩ rfl rfl hl.1 rfl (lv_room (Nat.le_of_ble_eq_true rfl)) dX10_needs_2 ⟨Nat.zero_le _, Nat.zero_le _⟩) hS (wA_cg rfl) (fun H_2 locs_2 hB_2 _ hk_2 hS => ?_)
  have hP : va_P D vwCl (cs10 ct a r_2.2) H_2 := hB_2
  refine lv_if_ne (tgt := 13) hx hb dX10_needs_5 (by decide) (fun c_5 => ?_) (fun c_5 => ?_)
  · rw [if_neg c_5] at hf
    rw [← hQQ]
    cases hf
    exact rw_v hx hb hr hlocks hP hS dX10_needs_13
  rw [if_pos c_5] at hf
  refine lv_aload_n hx hb dX10_needs_8 rfl (lv_at hl 0 rfl) ?_
  refine lv_iconst (v := 1) hx hb dX10_needs_9 (by decide) ?_
  obtain ⟨r_10, e_10, hf⟩ := ob_bind hf
  have hPX_10 : va_P D vwCl (cs10 ct a r_2.2) H_2 := hP
  refine wr_call0 (va_runV (As := [.int 1]) (rest := []) ⟨hx, hb, hml, hown, htl⟩ (c_X10_errs l D ct G a fu r_2.2 (1 : Int32) e_10 (hDx r_2.2)) (cw_X10_X10_errs htl ⟨Nat.le_of_ble_eq_true rfl, Nat.le_of_ble_eq_true rfl⟩) ⟨Bx_blind, va_recv hK hPX_10 (ci := 10) (q0 := 0) rfl rfl, Bx_pre hPX_10 hK hN (hX.stay hS hGE)⟩ rfl rfl hl.1 rfl (lv_room (Nat.le_of_ble_eq_true rfl)) dX10_needs_10 ⟨Nat.zero_le _, Nat.zero_le _⟩) hS (wA_cg rfl) (fun H_10 locs_10 hB_10 _ hk_10 hS => ?_)
  have hP : va_P D vwCl (cs10 ct a r_10) H_10 := hB_10
  rw [← hQQ]
  cases hf
  exact rw_v hx hb hr hlocks hP hS dX10_needs_13
theorem c_X10_needs (l : Launch) (D : va_G) (ct : Nat → ClassId) (G : GT) (a : Nat → Nat) (fu : Nat) (o : Ob) (w1 : Nat) {r : Ob} (hf : p_X10_needs fu o w1 = some r) (hw1 : w1 < 13) (hD0 : va_D (GE G) (cs10 ct a o)) : Met l yX10_needs (.code yX10_needs cX10_needs 2 none :: wsL_law) rm_X10_needs (va_Pc [.ref (a 0), .ref (G.2.1 w1)] (Bx D ct G (cs10 ct a o))) (Qwr none (fun H => va_P D vwCl (cs10 ct a r) H) (wA (cs10 ct a o))) 0 0 (wA (cs10 ct a o)) := by
  refine Met.ofW (cc := cX10_needs) (maxL := 2) (ret := none) (by decide) rfl ?_
  intro p e s m args below meth c s₁ B hml hv
  obtain ⟨rfl, hP, hK, hN, hX⟩ := hv
  have hts := atoms_spec (ws := .code yX10_needs cX10_needs 2 none :: wsL_law) B.pre
  rw [lg_entry_eq]
  exact b_X10_needs a fu o w1 B.exec B.bytes B.returns hml (findClass_of_methodNamed B.named) (fun w h => hts w (List.mem_cons_of_mem _ h)) B.notSynchronized hK hN hX hP hf hD0 hw1 (lv_entry [.ref (a 0), .ref (G.2.1 w1)] (n := 2) (Nat.le_of_ble_eq_true rfl))
def p_X10_number_J47 (fu : Nat)  (oz : Ob) : Option (Int32 × Ob) :=
    (p_X10_good fu oz).bind fun r_48 => if r_48 = 0 then some ((0 : Int32), oz) else (p_X10_advance fu oz).bind fun r_62 => some ((oz.1 11 0), r_62)
def p_X10_number_J20 (fu : Nat)  (oz : Ob) (v1 : Int32) (v2 : Int32) : Option (Int32 × Ob) :=
    (p_X10_good fu oz).bind fun r_21 => if r_21 = 0 then p_X10_number_J47 fu oz else (p_X10_in fu ((oz.1 11 0).toInt64) v1.toInt64 v2.toInt64).bind fun r_36 => if r_36 = 0 then (p_X10_errs fu oz (2 : Int32)).bind fun r_44 => p_X10_number_J47 fu r_44 else p_X10_number_J47 fu oz
def p_X10_number (fu : Nat) (o : Ob) (v1 : Int32) (v2 : Int32) : Option (Int32 × Ob) :=
  (p_X10_good fu o).bind fun r_1 => if r_1 = 0 then p_X10_number_J20 fu o v1 v2 else if (o.1 10 0) = (2 : Int32) then p_X10_number_J20 fu o v1 v2 else (p_X10_errs fu o (1 : Int32)).bind fun r_17 => p_X10_number_J20 fu r_17 v1 v2
abbrev rm_X10_number : Room := { frames := 2, cells := 0, slots := 0, locals := 46 }
set_option maxHeartbeats 4000000 in
set_option maxRecDepth 100000 in
theorem b_X10_number {p : Program} {l : Launch} {e : Env} {s : State} {m : MethodId} {args : Array Value} {below : List Frame} {meth : Method} {c : Code} {ls : Array Slot} {D : va_G} {ct : Nat → ClassId} {G : GT} (a : Nat → Nat) (fu : Nat) (o : Ob) (v1 : Int32) (v2 : Int32) {r : Int32 × Ob} (hx : p.tables.exec = Jvm.exec) (hb : c.code = cX10_number) (hr : meth.sig.returnType = (some .int)) (hml : c.maxLocals = 4) (hown : s.vm.findClass RX10 = some m.cls) (htl : ∀ w ∈ wsL_law, w.before args s = true) (hlocks : meth.locks = false) (hK : va_K D vwCl (tyl ct) s) (hN : ∀ w ∈ NW, va_Nw w s) (hX : SX G s s.heap) (hP0 : va_P D vwCl (cs10 ct a o) s.heap) (hf : p_X10_number fu o v1 v2 = some r) (hD0 : va_D (GE G) (cs10 ct a o))  (hl : lv_has ls 4 [(0, .ref (a 0)), (1, .int v1), (2, .int v2)]) : W p l e rm_X10_number s m args below meth c s.heap [] 0 0 (MQ below (Qwr (some (.int r.1)) (fun H => va_P D vwCl (cs10 ct a r.2) H) (wA (cs10 ct a o))) args s 0 0 (wA (cs10 ct a o))) (F0 m 0 ls []) := by
  generalize hQQ : MQ below (Qwr (some (.int r.1)) (fun H => va_P D vwCl (cs10 ct a r.2) H) (wA (cs10 ct a o))) args s 0 0 (wA (cs10 ct a o)) = QQ
  have hDx : ∀ (oy : Ob), va_D (GE G) (cs10 ct a oy) := fun oy => D_cr hD0 rfl
  have hDW : ∀ (oy : Ob), va_D (wA (cs10 ct a o)) (cs10 ct a oy) := fun oy => D_cr (D_self hD0) rfl
  have hGE : ∀ q, wA (cs10 ct a o) q → GE G q := wA_GE hD0
  have hP := hP0
  have hS : va_S (wA (cs10 ct a o)) s.heap s.heap [] := va_S.rf
  have hJ47 : ∀ (oz : Ob), ∀ (H : Heap) (locs : List Loc) (ls : Array Slot), va_P D vwCl (cs10 ct a oz) H → va_S (wA (cs10 ct a o)) s.heap H locs → lv_has ls 4 [(0, .ref (a 0))] → p_X10_number_J47 fu  oz = some r → W p l e rm_X10_number s m args below meth c H locs 0 0 QQ (F0 m 47 ls []) := by
    intro  oz H locs ls hP hS hl hf 
    rw [p_X10_number_J47] at hf
    refine lv_aload_n hx hb dX10_number_47 rfl (lv_at hl 0 rfl) ?_
    obtain ⟨r_48, e_48, hf⟩ := ob_bind hf
    have hPX_48 : va_P D vwCl (cs10 ct a oz) H := hP
    refine ro_call1 (va_runV (As := []) (rest := []) ⟨hx, hb, hml, hown, htl⟩ (c_X10_good l D ct G a fu oz e_48) (cw_X10_X10_good htl ⟨Nat.le_of_ble_eq_true rfl, Nat.le_of_ble_eq_true rfl⟩) ⟨Bx_blind, va_recv hK hPX_48 (ci := 10) (q0 := 0) rfl rfl, Bx_pre hPX_48 hK hN (hX.stay hS hGE)⟩ rfl rfl hl.1 rfl (lv_room (Nat.le_of_ble_eq_true rfl)) dX10_number_48 ⟨Nat.zero_le _, Nat.zero_le _⟩) ?_
    refine lv_if_ne (tgt := 56) hx hb dX10_number_51 (by decide) (fun c_51 => ?_) (fun c_51 => ?_)
    rotate_left 1
    · rw [if_pos c_51] at hf
      refine lv_iconst (v := 0) hx hb dX10_number_54 (by decide) ?_
      rw [← hQQ]
      cases hf
      exact rw_i hx hb hr hlocks hP hS dX10_number_55
    rw [if_neg c_51] at hf
    refine lv_aload_n hx hb dX10_number_56 rfl (lv_at hl 0 rfl) ?_
    refine va_get (D := D) (ci := 10) (v := .int (oz.1 11 0)) (C := RX10) (T := TX10) (N := 42) hx hb htl inlX10 hown hK hP 0 rfl rfl 11 (by decide) (htl _ wq_16_23) (fun _ h9 => h9) rfl dX10_number_57 ?_
    refine lv_istore_n (lv' := [(3, .int (oz.1 11 0)), (0, .ref (a 0))]) hx hb dX10_number_60 rfl hl (by decide) rfl (fun ls hl => ?_)
    refine lv_aload_n hx hb dX10_number_61 rfl (lv_at hl 1 rfl) ?_
    obtain ⟨r_62, e_62, hf⟩ := ob_bind hf
    have hPX_62 : va_P D vwCl (cs10 ct a oz) H := hP
    refine wr_call0 (va_runV (As := []) (rest := []) ⟨hx, hb, hml, hown, htl⟩ (c_X10_advance l D ct G a fu oz e_62 (hDx oz)) (cw_X10_X10_advance htl ⟨Nat.le_of_ble_eq_true rfl, Nat.le_of_ble_eq_true rfl⟩) ⟨Bx_blind, va_recv hK hPX_62 (ci := 10) (q0 := 0) rfl rfl, Bx_pre hPX_62 hK hN (hX.stay hS hGE)⟩ rfl rfl hl.1 rfl (lv_room (Nat.le_of_ble_eq_true rfl)) dX10_number_62 ⟨Nat.zero_le _, Nat.zero_le _⟩) hS (wA_cg rfl) (fun H_62 locs_62 hB_62 _ hk_62 hS => ?_)
    have hP : va_P D vwCl (cs10 ct a r_62) H_62 := hB_62
    refine lv_iload_n hx hb dX10_number_65 rfl (lv_at hl 0 rfl) ?_
    rw [← hQQ]
    cases hf
    exact rw_i hx hb hr hlocks hP hS dX10_number_66
  have hJ20 : ∀ (oz : Ob) (v1 : Int32) (v2 : Int32), ∀ (H : Heap) (locs : List Loc) (ls : Array Slot), va_P D vwCl (cs10 ct a oz) H → va_S (wA (cs10 ct a o)) s.heap H locs → lv_has ls 4 [(0, .ref (a 0)), (1, .int v1), (2, .int v2)] → p_X10_number_J20 fu  oz v1 v2 = some r → W p l e rm_X10_number s m args below meth c H locs 0 0 QQ (F0 m 20 ls []) := by
    intro  oz v1 v2 H locs ls hP hS hl hf 
    rw [p_X10_number_J20] at hf
    refine lv_aload_n hx hb dX10_number_20 rfl (lv_at hl 0 rfl) ?_
    obtain ⟨r_21, e_21, hf⟩ := ob_bind hf
    have hPX_21 : va_P D vwCl (cs10 ct a oz) H := hP
    refine ro_call1 (va_runV (As := []) (rest := []) ⟨hx, hb, hml, hown, htl⟩ (c_X10_good l D ct G a fu oz e_21) (cw_X10_X10_good htl ⟨Nat.le_of_ble_eq_true rfl, Nat.le_of_ble_eq_true rfl⟩) ⟨Bx_blind, va_recv hK hPX_21 (ci := 10) (q0 := 0) rfl rfl, Bx_pre hPX_21 hK hN (hX.stay hS hGE)⟩ rfl rfl hl.1 rfl (lv_room (Nat.le_of_ble_eq_true rfl)) dX10_number_21 ⟨Nat.zero_le _, Nat.zero_le _⟩) ?_
    refine lv_if_eq (tgt := 47) hx hb dX10_number_24 (by decide) (fun c_24 => ?_) (fun c_24 => ?_)
    · rw [if_pos c_24] at hf
      exact hJ47 oz _ _ _ hP hS (lv_sub hl [0] rfl) hf 
    rw [if_neg c_24] at hf
    refine lv_aload_n hx hb dX10_number_27 rfl (lv_at hl 0 rfl) ?_
    refine va_get (D := D) (ci := 10) (v := .int (oz.1 11 0)) (C := RX10) (T := TX10) (N := 42) hx hb htl inlX10 hown hK hP 0 rfl rfl 11 (by decide) (htl _ wq_16_23) (fun _ h9 => h9) rfl dX10_number_28 ?_
    refine lv_i2l hx hb dX10_number_31 rfl ?_
    refine lv_iload_n hx hb dX10_number_32 rfl (lv_at hl 1 rfl) ?_
    refine lv_i2l hx hb dX10_number_33 rfl ?_
    refine lv_iload_n hx hb dX10_number_34 rfl (lv_at hl 2 rfl) ?_
    refine lv_i2l hx hb dX10_number_35 rfl ?_
    obtain ⟨r_36, e_36, hf⟩ := ob_bind hf
    have hPX_36 : va_P D vwCl ([]) H := P_nil
    refine ro_call1 (va_runS (As := [.long ((oz.1 11 0).toInt64), .long v1.toInt64, .long v2.toInt64]) (rest := []) ⟨hx, hb, hml, hown, htl⟩ (c_X10_in l D ct G fu ((oz.1 11 0).toInt64) v1.toInt64 v2.toInt64 e_36) (cw_X10_X10_in htl ⟨Nat.le_of_ble_eq_true rfl, Nat.le_of_ble_eq_true rfl⟩) ⟨Bx_blind, Bx_pre hPX_36 hK hN (hX.stay hS hGE)⟩ rfl rfl hl.1 rfl (lv_room (Nat.le_of_ble_eq_true rfl)) dX10_number_36 ⟨Nat.zero_le _, Nat.zero_le _⟩) ?_
    refine lv_if_ne (tgt := 47) hx hb dX10_number_39 (by decide) (fun c_39 => ?_) (fun c_39 => ?_)
    · rw [if_neg c_39] at hf
      exact hJ47 oz _ _ _ hP hS (lv_sub hl [0] rfl) hf 
    rw [if_pos c_39] at hf
    refine lv_aload_n hx hb dX10_number_42 rfl (lv_at hl 0 rfl) ?_
    refine lv_iconst (v := 2) hx hb dX10_number_43 (by decide) ?_
    obtain ⟨r_44, e_44, hf⟩ := ob_bind hf
    have hPX_44 : va_P D vwCl (cs10 ct a oz) H := hP
    refine wr_call0 (va_runV (As := [.int 2]) (rest := []) ⟨hx, hb, hml, hown, htl⟩ (c_X10_errs l D ct G a fu oz (2 : Int32) e_44 (hDx oz)) (cw_X10_X10_errs htl ⟨Nat.le_of_ble_eq_true rfl, Nat.le_of_ble_eq_true rfl⟩) ⟨Bx_blind, va_recv hK hPX_44 (ci := 10) (q0 := 0) rfl rfl, Bx_pre hPX_44 hK hN (hX.stay hS hGE)⟩ rfl rfl hl.1 rfl (lv_room (Nat.le_of_ble_eq_true rfl)) dX10_number_44 ⟨Nat.zero_le _, Nat.zero_le _⟩) hS (wA_cg rfl) (fun H_44 locs_44 hB_44 _ hk_44 hS => ?_)
    have hP : va_P D vwCl (cs10 ct a r_44) H_44 := hB_44
    exact hJ47 r_44 _ _ _ hP hS (lv_sub hl [0] rfl) hf 
  rw [p_X10_number] at hf
  refine lv_aload_n hx hb dX10_number_0 rfl (lv_at hl 0 rfl) ?_
  obtain ⟨r_1, e_1, hf⟩ := ob_bind hf
  have hPX_1 : va_P D vwCl (cs10 ct a o) s.heap := hP
  refine ro_call1 (va_runV (As := []) (rest := []) ⟨hx, hb, hml, hown, htl⟩ (c_X10_good l D ct G a fu o e_1) (cw_X10_X10_good htl ⟨Nat.le_of_ble_eq_true rfl, Nat.le_of_ble_eq_true rfl⟩) ⟨Bx_blind, va_recv hK hPX_1 (ci := 10) (q0 := 0) rfl rfl, Bx_pre hPX_1 hK hN (hX.stay hS hGE)⟩ rfl rfl hl.1 rfl (lv_room (Nat.le_of_ble_eq_true rfl)) dX10_number_1 ⟨Nat.zero_le _, Nat.zero_le _⟩) ?_
  refine lv_if_eq (tgt := 20) hx hb dX10_number_4 (by decide) (fun c_4 => ?_) (fun c_4 => ?_)
  · rw [if_pos c_4] at hf
    exact hJ20 o v1 v2 _ _ _ hP hS (lv_sub hl [0, 1, 2] rfl) hf 
  rw [if_neg c_4] at hf
  refine lv_aload_n hx hb dX10_number_7 rfl (lv_at hl 0 rfl) ?_
  refine va_get (D := D) (ci := 10) (v := .int (o.1 10 0)) (C := RX10) (T := TX10) (N := 42) hx hb htl inlX10 hown hK hP 0 rfl rfl 10 (by decide) (htl _ wq_16_13) (fun _ h9 => h9) rfl dX10_number_8 ?_
  refine lv_iconst (v := 2) hx hb dX10_number_11 (by decide) ?_
  refine lv_icmp_eq (tgt := 20) hx hb dX10_number_12 (by decide) (fun c_12 => ?_) (fun c_12 => ?_)
  · rw [if_pos c_12] at hf
    exact hJ20 o v1 v2 _ _ _ hP hS (lv_sub hl [0, 1, 2] rfl) hf 
  rw [if_neg c_12] at hf
  refine lv_aload_n hx hb dX10_number_15 rfl (lv_at hl 0 rfl) ?_
  refine lv_iconst (v := 1) hx hb dX10_number_16 (by decide) ?_
  obtain ⟨r_17, e_17, hf⟩ := ob_bind hf
  have hPX_17 : va_P D vwCl (cs10 ct a o) s.heap := hP
  refine wr_call0 (va_runV (As := [.int 1]) (rest := []) ⟨hx, hb, hml, hown, htl⟩ (c_X10_errs l D ct G a fu o (1 : Int32) e_17 (hDx o)) (cw_X10_X10_errs htl ⟨Nat.le_of_ble_eq_true rfl, Nat.le_of_ble_eq_true rfl⟩) ⟨Bx_blind, va_recv hK hPX_17 (ci := 10) (q0 := 0) rfl rfl, Bx_pre hPX_17 hK hN (hX.stay hS hGE)⟩ rfl rfl hl.1 rfl (lv_room (Nat.le_of_ble_eq_true rfl)) dX10_number_17 ⟨Nat.zero_le _, Nat.zero_le _⟩) hS (wA_cg rfl) (fun H_17 locs_17 hB_17 _ hk_17 hS => ?_)
  have hP : va_P D vwCl (cs10 ct a r_17) H_17 := hB_17
  exact hJ20 r_17 v1 v2 _ _ _ hP hS (lv_sub hl [0, 1, 2] rfl) hf 
theorem c_X10_number (l : Launch) (D : va_G) (ct : Nat → ClassId) (G : GT) (a : Nat → Nat) (fu : Nat) (o : Ob) (v1 : Int32) (v2 : Int32) {r : Int32 × Ob} (hf : p_X10_number fu o v1 v2 = some r)  (hD0 : va_D (GE G) (cs10 ct a o)) : Met l yX10_number (.code yX10_number cX10_number 4 (some .int) :: wsL_law) rm_X10_number (va_Pc [.ref (a 0), .int v1, .int v2] (Bx D ct G (cs10 ct a o))) (Qwr (some (.int r.1)) (fun H => va_P D vwCl (cs10 ct a r.2) H) (wA (cs10 ct a o))) 0 0 (wA (cs10 ct a o)) := by
  refine Met.ofW (cc := cX10_number) (maxL := 4) (ret := (some .int)) (by decide) rfl ?_
  intro p e s m args below meth c s₁ B hml hv
  obtain ⟨rfl, hP, hK, hN, hX⟩ := hv
  have hts := atoms_spec (ws := .code yX10_number cX10_number 4 (some .int) :: wsL_law) B.pre
  rw [lg_entry_eq]
  exact b_X10_number a fu o v1 v2 B.exec B.bytes B.returns hml (findClass_of_methodNamed B.named) (fun w h => hts w (List.mem_cons_of_mem _ h)) B.notSynchronized hK hN hX hP hf hD0  (lv_entry [.ref (a 0), .int v1, .int v2] (n := 4) (Nat.le_of_ble_eq_true rfl))
theorem hd_X10_needs : yX10_needs.cls ≠ "java/lang/invoke/MethodHandle" ∧ yX10_needs.cls ≠ "java/lang/invoke/VarHandle" ∧ (parseMethodDescriptor yX10_needs.desc).map (fun d => d.parameters.length) = some 1 := by decide +kernel
theorem cw_X10_X10_needs {R : Room} {s : State} {args : Array Value} (ht : ∀ w ∈ wsL_law, w.before args s = true) (hR : rm_X10_needs.frames + 1 ≤ R.frames ∧ 8 + (2 + 11) + rm_X10_needs.locals ≤ R.locals) : CallW R s args RX10 RX10 166 yX10_needs cX10_needs 2 none ((.code yX10_needs cX10_needs 2 none) :: wsL_law) rm_X10_needs 0 0 1 := cwV 1 ht (GV wq_17_18 wq_17_19 wq_17_20 wq_1_5 wq_17_21) rfl rfl rfl ⟨rfl, hd_X10_needs⟩ hR
theorem hd_X10_number : yX10_number.cls ≠ "java/lang/invoke/MethodHandle" ∧ yX10_number.cls ≠ "java/lang/invoke/VarHandle" ∧ (parseMethodDescriptor yX10_number.desc).map (fun d => d.parameters.length) = some 2 := by decide +kernel
theorem cw_X10_X10_number {R : Room} {s : State} {args : Array Value} (ht : ∀ w ∈ wsL_law, w.before args s = true) (hR : rm_X10_number.frames + 1 ≤ R.frames ∧ 8 + (4 + 11) + rm_X10_number.locals ≤ R.locals) : CallW R s args RX10 RX10 170 yX10_number cX10_number 4 (some .int) ((.code yX10_number cX10_number 4 (some .int)) :: wsL_law) rm_X10_number 0 0 2 := cwV 2 ht (GV wq_18_16 wq_18_17 wq_18_18 wq_1_5 wq_18_19) rfl rfl rfl ⟨rfl, hd_X10_number⟩ hR
def p_X10_told (fu : Nat) (o : Ob) (w1 : Nat) (v2 : Int32) (v3 : Int32) : Option (Int32 × Ob) :=
  (p_X10_needs fu o w1).bind fun r_2 => (p_X10_number fu r_2 v2 v3).bind fun r_8 => some (r_8.1, r_8.2)
abbrev rm_X10_told : Room := { frames := 7, cells := 0, slots := 0, locals := 151 }
set_option maxHeartbeats 4000000 in
set_option maxRecDepth 100000 in
theorem b_X10_told {p : Program} {l : Launch} {e : Env} {s : State} {m : MethodId} {args : Array Value} {below : List Frame} {meth : Method} {c : Code} {ls : Array Slot} {D : va_G} {ct : Nat → ClassId} {G : GT} (a : Nat → Nat) (fu : Nat) (o : Ob) (w1 : Nat) (v2 : Int32) (v3 : Int32) {r : Int32 × Ob} (hx : p.tables.exec = Jvm.exec) (hb : c.code = cX10_told) (hr : meth.sig.returnType = (some .int)) (hml : c.maxLocals = 4) (hown : s.vm.findClass RX10 = some m.cls) (htl : ∀ w ∈ wsL_law, w.before args s = true) (hlocks : meth.locks = false) (hK : va_K D vwCl (tyl ct) s) (hN : ∀ w ∈ NW, va_Nw w s) (hX : SX G s s.heap) (hP0 : va_P D vwCl (cs10 ct a o) s.heap) (hf : p_X10_told fu o w1 v2 v3 = some r) (hD0 : va_D (GE G) (cs10 ct a o)) (hw1 : w1 < 13) (hl : lv_has ls 4 [(0, .ref (a 0)), (1, .ref (G.2.1 w1)), (2, .int v2), (3, .int v3)]) : W p l e rm_X10_told s m args below meth c s.heap [] 0 0 (MQ below (Qwr (some (.int r.1)) (fun H => va_P D vwCl (cs10 ct a r.2) H) (wA (cs10 ct a o))) args s 0 0 (wA (cs10 ct a o))) (F0 m 0 ls []) := by
  generalize hQQ : MQ below (Qwr (some (.int r.1)) (fun H => va_P D vwCl (cs10 ct a r.2) H) (wA (cs10 ct a o))) args s 0 0 (wA (cs10 ct a o)) = QQ
  have hDx : ∀ (oy : Ob), va_D (GE G) (cs10 ct a oy) := fun oy => D_cr hD0 rfl
  have hDW : ∀ (oy : Ob), va_D (wA (cs10 ct a o)) (cs10 ct a oy) := fun oy => D_cr (D_self hD0) rfl
  have hGE : ∀ q, wA (cs10 ct a o) q → GE G q := wA_GE hD0
  have hP := hP0
  have hS : va_S (wA (cs10 ct a o)) s.heap s.heap [] := va_S.rf
  rw [p_X10_told] at hf
  refine lv_aload_n hx hb dX10_told_0 rfl (lv_at hl 0 rfl) ?_
  refine lv_aload_n hx hb dX10_told_1 rfl (lv_at hl 1 rfl) ?_
  obtain ⟨r_2, e_2, hf⟩ := ob_bind hf
  have hPX_2 : va_P D vwCl (cs10 ct a o) s.heap := hP
  refine wr_call0 (va_runV (As := [.ref (G.2.1 w1)]) (rest := []) ⟨hx, hb, hml, hown, htl⟩ (c_X10_needs l D ct G a fu o w1 e_2 hw1 (hDx o)) (cw_X10_X10_needs htl ⟨Nat.le_of_ble_eq_true rfl, Nat.le_of_ble_eq_true rfl⟩) ⟨Bx_blind, va_recv hK hPX_2 (ci := 10) (q0 := 0) rfl rfl, Bx_pre hPX_2 hK hN (hX.stay hS hGE)⟩ rfl rfl hl.1 rfl (lv_room (Nat.le_of_ble_eq_true rfl)) dX10_told_2 ⟨Nat.zero_le _, Nat.zero_le _⟩) hS (wA_cg rfl) (fun H_2 locs_2 hB_2 _ hk_2 hS => ?_)
  have hP : va_P D vwCl (cs10 ct a r_2) H_2 := hB_2
  refine lv_aload_n hx hb dX10_told_5 rfl (lv_at hl 0 rfl) ?_
  refine lv_iload_n hx hb dX10_told_6 rfl (lv_at hl 2 rfl) ?_
  refine lv_iload_n hx hb dX10_told_7 rfl (lv_at hl 3 rfl) ?_
  obtain ⟨r_8, e_8, hf⟩ := ob_bind hf
  have hPX_8 : va_P D vwCl (cs10 ct a r_2) H_2 := hP
  refine wr_call1 (va_runV (As := [.int v2, .int v3]) (rest := []) ⟨hx, hb, hml, hown, htl⟩ (c_X10_number l D ct G a fu r_2 v2 v3 e_8 (hDx r_2)) (cw_X10_X10_number htl ⟨Nat.le_of_ble_eq_true rfl, Nat.le_of_ble_eq_true rfl⟩) ⟨Bx_blind, va_recv hK hPX_8 (ci := 10) (q0 := 0) rfl rfl, Bx_pre hPX_8 hK hN (hX.stay hS hGE)⟩ rfl rfl hl.1 rfl (lv_room (Nat.le_of_ble_eq_true rfl)) dX10_told_8 ⟨Nat.zero_le _, Nat.zero_le _⟩) hS (wA_cg rfl) (fun H_8 locs_8 hB_8 _ hk_8 hS => ?_)
  have hP : va_P D vwCl (cs10 ct a r_8.2) H_8 := hB_8
  rw [← hQQ]
  cases hf
  exact rw_i hx hb hr hlocks hP hS dX10_told_11
theorem c_X10_told (l : Launch) (D : va_G) (ct : Nat → ClassId) (G : GT) (a : Nat → Nat) (fu : Nat) (o : Ob) (w1 : Nat) (v2 : Int32) (v3 : Int32) {r : Int32 × Ob} (hf : p_X10_told fu o w1 v2 v3 = some r) (hw1 : w1 < 13) (hD0 : va_D (GE G) (cs10 ct a o)) : Met l yX10_told (.code yX10_told cX10_told 4 (some .int) :: wsL_law) rm_X10_told (va_Pc [.ref (a 0), .ref (G.2.1 w1), .int v2, .int v3] (Bx D ct G (cs10 ct a o))) (Qwr (some (.int r.1)) (fun H => va_P D vwCl (cs10 ct a r.2) H) (wA (cs10 ct a o))) 0 0 (wA (cs10 ct a o)) := by
  refine Met.ofW (cc := cX10_told) (maxL := 4) (ret := (some .int)) (by decide) rfl ?_
  intro p e s m args below meth c s₁ B hml hv
  obtain ⟨rfl, hP, hK, hN, hX⟩ := hv
  have hts := atoms_spec (ws := .code yX10_told cX10_told 4 (some .int) :: wsL_law) B.pre
  rw [lg_entry_eq]
  exact b_X10_told a fu o w1 v2 v3 B.exec B.bytes B.returns hml (findClass_of_methodNamed B.named) (fun w h => hts w (List.mem_cons_of_mem _ h)) B.notSynchronized hK hN hX hP hf hD0 hw1 (lv_entry [.ref (a 0), .ref (G.2.1 w1), .int v2, .int v3] (n := 4) (Nat.le_of_ble_eq_true rfl))
def p_X10_fault (fu : Nat) (o : Ob) (v1 : Int32) : Option (Int32) :=
  if v1 = 0 then some (o.1 12 0) else if v1 = (1 : Int32) then some (o.1 13 0) else some ((-1) : Int32)
abbrev rm_X10_fault : Room := { frames := 0, cells := 0, slots := 0, locals := 0 }
set_option maxHeartbeats 4000000 in
set_option maxRecDepth 100000 in
theorem b_X10_fault {p : Program} {l : Launch} {e : Env} {s : State} {m : MethodId} {args : Array Value} {below : List Frame} {meth : Method} {c : Code} {ls : Array Slot} {D : va_G} {ct : Nat → ClassId} {G : GT} (a : Nat → Nat) (fu : Nat) (o : Ob) (v1 : Int32) {r : Int32} (hx : p.tables.exec = Jvm.exec) (hb : c.code = cX10_fault) (hr : meth.sig.returnType = (some .int)) (hml : c.maxLocals = 2) (hown : s.vm.findClass RX10 = some m.cls) (htl : ∀ w ∈ wsL_law, w.before args s = true) (hlocks : meth.locks = false) (hK : va_K D vwCl (tyl ct) s) (hN : ∀ w ∈ NW, va_Nw w s) (hX : SX G s s.heap) (hP0 : va_P D vwCl (cs10 ct a o) s.heap) (hf : p_X10_fault fu o v1 = some r)  (hl : lv_has ls 2 [(0, .ref (a 0)), (1, .int v1)]) : W p l e rm_X10_fault s m args below meth c s.heap [] 0 0 (MQ below (Qro (some (.int r))) args s 0 0 (fun _ => False)) (F0 m 0 ls []) := by
  generalize hQQ : MQ below (Qro (some (.int r))) args s 0 0 (fun _ => False) = QQ
  have hP := hP0
  rw [p_X10_fault] at hf
  refine lv_iload_n hx hb dX10_fault_0 rfl (lv_at hl 1 rfl) ?_
  refine lv_if_ne (tgt := 11) hx hb dX10_fault_1 (by decide) (fun c_1 => ?_) (fun c_1 => ?_)
  rotate_left 1
  · rw [if_pos c_1] at hf
    refine lv_aload_n hx hb dX10_fault_4 rfl (lv_at hl 0 rfl) ?_
    refine va_get (D := D) (ci := 10) (v := .int (o.1 12 0)) (C := RX10) (T := TX10) (N := 42) hx hb htl inlX10 hown hK hP 0 rfl rfl 12 (by decide) (htl _ wq_16_12) (fun _ h9 => h9) rfl dX10_fault_5 ?_
    refine lv_goto (tgt := 24) hx hb dX10_fault_8 (by decide) ?_
    rw [← hQQ]
    exact rf_i hx hb hr hlocks hf dX10_fault_24
  rw [if_neg c_1] at hf
  refine lv_iload_n hx hb dX10_fault_11 rfl (lv_at hl 1 rfl) ?_
  refine lv_iconst (v := 1) hx hb dX10_fault_12 (by decide) ?_
  refine lv_icmp_ne (tgt := 23) hx hb dX10_fault_13 (by decide) (fun c_13 => ?_) (fun c_13 => ?_)
  · rw [if_neg c_13] at hf
    refine lv_iconst (v := (-1)) hx hb dX10_fault_23 (by decide) ?_
    rw [← hQQ]
    exact rf_i hx hb hr hlocks hf dX10_fault_24
  rw [if_pos c_13] at hf
  refine lv_aload_n hx hb dX10_fault_16 rfl (lv_at hl 0 rfl) ?_
  refine va_get (D := D) (ci := 10) (v := .int (o.1 13 0)) (C := RX10) (T := TX10) (N := 42) hx hb htl inlX10 hown hK hP 0 rfl rfl 13 (by decide) (htl _ wq_7_7) (fun _ h9 => h9) rfl dX10_fault_17 ?_
  refine lv_goto (tgt := 24) hx hb dX10_fault_20 (by decide) ?_
  rw [← hQQ]
  exact rf_i hx hb hr hlocks hf dX10_fault_24
theorem c_X10_fault (l : Launch) (D : va_G) (ct : Nat → ClassId) (G : GT) (a : Nat → Nat) (fu : Nat) (o : Ob) (v1 : Int32) {r : Int32} (hf : p_X10_fault fu o v1 = some r)  : Met l yX10_fault (.code yX10_fault cX10_fault 2 (some .int) :: wsL_law) rm_X10_fault (va_Pc [.ref (a 0), .int v1] (Bx D ct G (cs10 ct a o))) (Qro (some (.int r))) 0 0 (fun _ => False) := by
  refine Met.ofW (cc := cX10_fault) (maxL := 2) (ret := (some .int)) (by decide) rfl ?_
  intro p e s m args below meth c s₁ B hml hv
  obtain ⟨rfl, hP, hK, hN, hX⟩ := hv
  have hts := atoms_spec (ws := .code yX10_fault cX10_fault 2 (some .int) :: wsL_law) B.pre
  rw [lg_entry_eq]
  exact b_X10_fault a fu o v1 B.exec B.bytes B.returns hml (findClass_of_methodNamed B.named) (fun w h => hts w (List.mem_cons_of_mem _ h)) B.notSynchronized hK hN hX hP hf   (lv_entry [.ref (a 0), .int v1] (n := 2) (Nat.le_of_ble_eq_true rfl))
theorem hd_X10_told : yX10_told.cls ≠ "java/lang/invoke/MethodHandle" ∧ yX10_told.cls ≠ "java/lang/invoke/VarHandle" ∧ (parseMethodDescriptor yX10_told.desc).map (fun d => d.parameters.length) = some 3 := by decide +kernel
theorem cw_X10_X10_told {R : Room} {s : State} {args : Array Value} (ht : ∀ w ∈ wsL_law, w.before args s = true) (hR : rm_X10_told.frames + 1 ≤ R.frames ∧ 8 + (4 + 11) + rm_X10_told.locals ≤ R.locals) : CallW R s args RX10 RX10 177 yX10_told cX10_told 4 (some .int) ((.code yX10_told cX10_told 4 (some .int)) :: wsL_law) rm_X10_told 0 0 3 := cwV 3 ht (GV wq_18_12 wq_18_13 wq_18_14 wq_1_5 wq_18_15) rfl rfl rfl ⟨rfl, hd_X10_told⟩ hR
def p_X10_readFirst (fu : Nat) (o : Ob) : Option (Ob) :=
  (p_X10_needs fu o 12).bind fun r_3 => (p_X10_told fu r_3 10 (0 : Int32) (60 : Int32)).bind fun r_17 => if inb (0 : Int32) 98 = true then (p_X10_told fu (oA r_17.2 14 (upd (r_17.2.1 14) ((0 : Int32).toNatClampNeg) r_17.1)) 7 (0 : Int32) (10 : Int32)).bind fun r_32 => if inb (1 : Int32) 98 = true then (p_X10_told fu (oA r_32.2 14 (upd (r_32.2.1 14) ((1 : Int32).toNatClampNeg) r_32.1)) 11 (1 : Int32) (9 : Int32)).bind fun r_47 => if inb (2 : Int32) 98 = true then some (oA r_47.2 14 (upd (r_47.2.1 14) ((2 : Int32).toNatClampNeg) r_47.1)) else none else none else none
abbrev rm_X10_readFirst : Room := { frames := 8, cells := 0, slots := 0, locals := 174 }
set_option maxHeartbeats 4000000 in
set_option maxRecDepth 100000 in
theorem b_X10_readFirst {p : Program} {l : Launch} {e : Env} {s : State} {m : MethodId} {args : Array Value} {below : List Frame} {meth : Method} {c : Code} {ls : Array Slot} {D : va_G} {ct : Nat → ClassId} {G : GT} (a : Nat → Nat) (fu : Nat) (o : Ob) {r : Ob} (hx : p.tables.exec = Jvm.exec) (hb : c.code = cX10_readFirst) (hr : meth.sig.returnType = none) (hml : c.maxLocals = 1) (hown : s.vm.findClass RX10 = some m.cls) (htl : ∀ w ∈ wsL_law, w.before args s = true) (hlocks : meth.locks = false) (hK : va_K D vwCl (tyl ct) s) (hN : ∀ w ∈ NW, va_Nw w s) (hX : SX G s s.heap) (hP0 : va_P D vwCl (cs10 ct a o) s.heap) (hf : p_X10_readFirst fu o = some r) (hD0 : va_D (GE G) (cs10 ct a o))  (hl : lv_has ls 1 [(0, .ref (a 0))]) : W p l e rm_X10_readFirst s m args below meth c s.heap [] 0 0 (MQ below (Qwr none (fun H => va_P D vwCl (cs10 ct a r) H) (wA (cs10 ct a o))) args s 0 0 (wA (cs10 ct a o))) (F0 m 0 ls []) := by
  generalize hQQ : MQ below (Qwr none (fun H => va_P D vwCl (cs10 ct a r) H) (wA (cs10 ct a o))) args s 0 0 (wA (cs10 ct a o)) = QQ
  have hDx : ∀ (oy : Ob), va_D (GE G) (cs10 ct a oy) := fun oy => D_cr hD0 rfl
  have hDW : ∀ (oy : Ob), va_D (wA (cs10 ct a o)) (cs10 ct a oy) := fun oy => D_cr (D_self hD0) rfl
  have hGE : ∀ q, wA (cs10 ct a o) q → GE G q := wA_GE hD0
  have hP := hP0
  have hS : va_S (wA (cs10 ct a o)) s.heap s.heap [] := va_S.rf
  rw [p_X10_readFirst] at hf
  refine lv_aload_n hx hb dX10_readFirst_0 rfl (lv_at hl 0 rfl) ?_
  refine va_ldcS (index := 173) (tx := "rivers") (q := G.2.1 12) hx hb hown (hX.2.1 ("QuotedRiverModel", 173, "rivers", 12) (List.mem_of_getElem? (i := 13) rfl)) dX10_readFirst_1 ?_
  obtain ⟨r_3, e_3, hf⟩ := ob_bind hf
  have hPX_3 : va_P D vwCl (cs10 ct a o) s.heap := hP
  refine wr_call0 (va_runV (As := [.ref (G.2.1 12)]) (rest := []) ⟨hx, hb, hml, hown, htl⟩ (c_X10_needs l D ct G a fu o 12 e_3 (by decide) (hDx o)) (cw_X10_X10_needs htl ⟨Nat.le_of_ble_eq_true rfl, Nat.le_of_ble_eq_true rfl⟩) ⟨Bx_blind, va_recv hK hPX_3 (ci := 10) (q0 := 0) rfl rfl, Bx_pre hPX_3 hK hN (hX.stay hS hGE)⟩ rfl rfl hl.1 rfl (lv_room (Nat.le_of_ble_eq_true rfl)) dX10_readFirst_3 ⟨Nat.zero_le _, Nat.zero_le _⟩) hS (wA_cg rfl) (fun H_3 locs_3 hB_3 _ hk_3 hS => ?_)
  have hP : va_P D vwCl (cs10 ct a r_3) H_3 := hB_3
  refine lv_aload_n hx hb dX10_readFirst_6 rfl (lv_at hl 0 rfl) ?_
  refine va_get (D := D) (ci := 10) (v := .ref (a 6)) (C := RX10) (T := TX10) (N := 42) hx hb htl inlX10 hown hK hP 0 rfl rfl 14 (by decide) (htl _ wq_7_8) (fun _ h9 => h9) rfl dX10_readFirst_7 ?_
  refine lv_iconst (v := 0) hx hb dX10_readFirst_10 (by decide) ?_
  refine lv_aload_n hx hb dX10_readFirst_11 rfl (lv_at hl 0 rfl) ?_
  refine va_ldcS (index := 175) (tx := "level") (q := G.2.1 10) hx hb hown (hX.2.1 ("QuotedRiverModel", 175, "level", 10) (List.mem_of_getElem? (i := 14) rfl)) dX10_readFirst_12 ?_
  refine lv_iconst (v := 0) hx hb dX10_readFirst_14 (by decide) ?_
  refine lv_bipush (v := 60) hx hb dX10_readFirst_15 (by decide) ?_
  obtain ⟨r_17, e_17, hf⟩ := ob_bind hf
  have hPX_17 : va_P D vwCl (cs10 ct a r_3) H_3 := hP
  refine wr_call1 (va_runV (As := [.ref (G.2.1 10), .int 0, .int 60]) (rest := [.int 0, .ref (a 6)]) ⟨hx, hb, hml, hown, htl⟩ (c_X10_told l D ct G a fu r_3 10 (0 : Int32) (60 : Int32) e_17 (by decide) (hDx r_3)) (cw_X10_X10_told htl ⟨Nat.le_of_ble_eq_true rfl, Nat.le_of_ble_eq_true rfl⟩) ⟨Bx_blind, va_recv hK hPX_17 (ci := 10) (q0 := 0) rfl rfl, Bx_pre hPX_17 hK hN (hX.stay hS hGE)⟩ rfl rfl hl.1 rfl (lv_room (Nat.le_of_ble_eq_true rfl)) dX10_readFirst_17 ⟨Nat.zero_le _, Nat.zero_le _⟩) hS (wA_cg rfl) (fun H_17 locs_17 hB_17 _ hk_17 hS => ?_)
  have hP : va_P D vwCl (cs10 ct a r_17.2) H_17 := hB_17
  obtain ⟨hi_20, hf⟩ := ob_in hf
  refine va_iast (D := D) (tys := tyl ct) hx hb hK hP (hDW r_17.2) hS 6 0 rfl rfl hi_20 dX10_readFirst_20 (fun H_20 locs_20 hP _ hS => ?_)
  have hP : va_P D vwCl (cs10 ct a (oA r_17.2 14 (upd (r_17.2.1 14) ((0 : Int32).toNatClampNeg) r_17.1))) H_20 := sa10_14 hP
  refine lv_aload_n hx hb dX10_readFirst_21 rfl (lv_at hl 0 rfl) ?_
  refine va_get (D := D) (ci := 10) (v := .ref (a 6)) (C := RX10) (T := TX10) (N := 42) hx hb htl inlX10 hown hK hP 0 rfl rfl 14 (by decide) (htl _ wq_7_8) (fun _ h9 => h9) rfl dX10_readFirst_22 ?_
  refine lv_iconst (v := 1) hx hb dX10_readFirst_25 (by decide) ?_
  refine lv_aload_n hx hb dX10_readFirst_26 rfl (lv_at hl 0 rfl) ?_
  refine va_ldcS (index := 181) (tx := "odds") (q := G.2.1 7) hx hb hown (hX.2.1 ("QuotedRiverModel", 181, "odds", 7) (List.mem_of_getElem? (i := 15) rfl)) dX10_readFirst_27 ?_
  refine lv_iconst (v := 0) hx hb dX10_readFirst_29 (by decide) ?_
  refine lv_bipush (v := 10) hx hb dX10_readFirst_30 (by decide) ?_
  obtain ⟨r_32, e_32, hf⟩ := ob_bind hf
  have hPX_32 : va_P D vwCl (cs10 ct a (oA r_17.2 14 (upd (r_17.2.1 14) ((0 : Int32).toNatClampNeg) r_17.1))) H_20 := hP
  refine wr_call1 (va_runV (As := [.ref (G.2.1 7), .int 0, .int 10]) (rest := [.int 1, .ref (a 6)]) ⟨hx, hb, hml, hown, htl⟩ (c_X10_told l D ct G a fu (oA r_17.2 14 (upd (r_17.2.1 14) ((0 : Int32).toNatClampNeg) r_17.1)) 7 (0 : Int32) (10 : Int32) e_32 (by decide) (hDx (oA r_17.2 14 (upd (r_17.2.1 14) ((0 : Int32).toNatClampNeg) r_17.1)))) (cw_X10_X10_told htl ⟨Nat.le_of_ble_eq_true rfl, Nat.le_of_ble_eq_true rfl⟩) ⟨Bx_blind, va_recv hK hPX_32 (ci := 10) (q0 := 0) rfl rfl, Bx_pre hPX_32 hK hN (hX.stay hS hGE)⟩ rfl rfl hl.1 rfl (lv_room (Nat.le_of_ble_eq_true rfl)) dX10_readFirst_32 ⟨Nat.zero_le _, Nat.zero_le _⟩) hS (wA_cg rfl) (fun H_32 locs_32 hB_32 _ hk_32 hS => ?_)
  have hP : va_P D vwCl (cs10 ct a r_32.2) H_32 := hB_32
  obtain ⟨hi_35, hf⟩ := ob_in hf
  refine va_iast (D := D) (tys := tyl ct) hx hb hK hP (hDW r_32.2) hS 6 0 rfl rfl hi_35 dX10_readFirst_35 (fun H_35 locs_35 hP _ hS => ?_)
  have hP : va_P D vwCl (cs10 ct a (oA r_32.2 14 (upd (r_32.2.1 14) ((1 : Int32).toNatClampNeg) r_32.1))) H_35 := sa10_14 hP
  refine lv_aload_n hx hb dX10_readFirst_36 rfl (lv_at hl 0 rfl) ?_
  refine va_get (D := D) (ci := 10) (v := .ref (a 6)) (C := RX10) (T := TX10) (N := 42) hx hb htl inlX10 hown hK hP 0 rfl rfl 14 (by decide) (htl _ wq_7_8) (fun _ h9 => h9) rfl dX10_readFirst_37 ?_
  refine lv_iconst (v := 2) hx hb dX10_readFirst_40 (by decide) ?_
  refine lv_aload_n hx hb dX10_readFirst_41 rfl (lv_at hl 0 rfl) ?_
  refine va_ldcS (index := 183) (tx := "swell") (q := G.2.1 11) hx hb hown (hX.2.1 ("QuotedRiverModel", 183, "swell", 11) (List.mem_of_getElem? (i := 16) rfl)) dX10_readFirst_42 ?_
  refine lv_iconst (v := 1) hx hb dX10_readFirst_44 (by decide) ?_
  refine lv_bipush (v := 9) hx hb dX10_readFirst_45 (by decide) ?_
  obtain ⟨r_47, e_47, hf⟩ := ob_bind hf
  have hPX_47 : va_P D vwCl (cs10 ct a (oA r_32.2 14 (upd (r_32.2.1 14) ((1 : Int32).toNatClampNeg) r_32.1))) H_35 := hP
  refine wr_call1 (va_runV (As := [.ref (G.2.1 11), .int 1, .int 9]) (rest := [.int 2, .ref (a 6)]) ⟨hx, hb, hml, hown, htl⟩ (c_X10_told l D ct G a fu (oA r_32.2 14 (upd (r_32.2.1 14) ((1 : Int32).toNatClampNeg) r_32.1)) 11 (1 : Int32) (9 : Int32) e_47 (by decide) (hDx (oA r_32.2 14 (upd (r_32.2.1 14) ((1 : Int32).toNatClampNeg) r_32.1)))) (cw_X10_X10_told htl ⟨Nat.le_of_ble_eq_true rfl, Nat.le_of_ble_eq_true rfl⟩) ⟨Bx_blind, va_recv hK hPX_47 (ci := 10) (q0 := 0) rfl rfl, Bx_pre hPX_47 hK hN (hX.stay hS hGE)⟩ rfl rfl hl.1 rfl (lv_room (Nat.le_of_ble_eq_true rfl)) dX10_readFirst_47 ⟨Nat.zero_le _, Nat.zero_le _⟩) hS (wA_cg rfl) (fun H_47 locs_47 hB_47 _ hk_47 hS => ?_)
  have hP : va_P D vwCl (cs10 ct a r_47.2) H_47 := hB_47
  obtain ⟨hi_50, hf⟩ := ob_in hf
  refine va_iast (D := D) (tys := tyl ct) hx hb hK hP (hDW r_47.2) hS 6 0 rfl rfl hi_50 dX10_readFirst_50 (fun H_50 locs_50 hP _ hS => ?_)
  have hP : va_P D vwCl (cs10 ct a (oA r_47.2 14 (upd (r_47.2.1 14) ((2 : Int32).toNatClampNeg) r_47.1))) H_50 := sa10_14 hP
  rw [← hQQ]
  cases hf
  exact rw_v hx hb hr hlocks hP hS dX10_readFirst_51
theorem c_X10_readFirst (l : Launch) (D : va_G) (ct : Nat → ClassId) (G : GT) (a : Nat → Nat) (fu : Nat) (o : Ob) {r : Ob} (hf : p_X10_readFirst fu o = some r)  (hD0 : va_D (GE G) (cs10 ct a o)) : Met l yX10_readFirst (.code yX10_readFirst cX10_readFirst 1 none :: wsL_law) rm_X10_readFirst (va_Pc [.ref (a 0)] (Bx D ct G (cs10 ct a o))) (Qwr none (fun H => va_P D vwCl (cs10 ct a r) H) (wA (cs10 ct a o))) 0 0 (wA (cs10 ct a o)) := by
  refine Met.ofW (cc := cX10_readFirst) (maxL := 1) (ret := none) (by decide) rfl ?_
  intro p e s m args below meth c s₁ B hml hv
  obtain ⟨rfl, hP, hK, hN, hX⟩ := hv
  have hts := atoms_spec (ws := .code yX10_readFirst cX10_readFirst 1 none :: wsL_law) B.pre
  rw [lg_entry_eq]
  exact b_X10_readFirst a fu o B.exec B.bytes B.returns hml (findClass_of_methodNamed B.named) (fun w h => hts w (List.mem_cons_of_mem _ h)) B.notSynchronized hK hN hX hP hf hD0  (lv_entry [.ref (a 0)] (n := 1) (Nat.le_of_ble_eq_true rfl))
def p_X10_readReach_J47 (fu : Nat)  (oz : Ob) (v1 : Int32) (s1 : Int32) (s2 : Int32) : Option (Ob) :=
    if inb s1 98 = true then (p_X10_told fu (oA oz 14 (upd (oz.1 14) s1.toNatClampNeg s2)) 9 (1 : Int32) (5 : Int32)).bind fun r_60 => if inb (v1 + 1) 98 = true then (p_X10_told fu (oA r_60.2 14 (upd (r_60.2.1 14) ((v1 + 1).toNatClampNeg) r_60.1)) 3 (0 : Int32) (20 : Int32)).bind fun r_77 => if inb (v1 + 2) 98 = true then if inb (3 : Int32) 98 = true then if inb (3 : Int32) 98 = true then some (oA (oA r_77.2 14 (upd (r_77.2.1 14) ((v1 + 2).toNatClampNeg) r_77.1)) 14 (upd ((oA r_77.2 14 (upd (r_77.2.1 14) ((v1 + 2).toNatClampNeg) r_77.1)).1 14) ((3 : Int32).toNatClampNeg) ((((oA r_77.2 14 (upd (r_77.2.1 14) ((v1 + 2).toNatClampNeg) r_77.1)).1 14) (3 : Int32).toNatClampNeg) + 1))) else none else none else none else none else none
def p_X10_readReach (fu : Nat) (o : Ob) : Option (Ob) :=
  if inb (3 : Int32) 98 = true then (p_X10_needs fu o 0).bind fun r_15 => (p_X10_takes fu r_15 2).bind fun r_21 => if r_21.1 = 0 then (p_X10_number fu r_21.2 (0 : Int32) (9 : Int32)).bind fun r_44 => p_X10_readReach_J47 fu r_44.2 (8 + (3 * ((o.1 14) (3 : Int32).toNatClampNeg))) ((8 + (3 * ((o.1 14) (3 : Int32).toNatClampNeg))) + 0) r_44.1 else p_X10_readReach_J47 fu r_21.2 (8 + (3 * ((o.1 14) (3 : Int32).toNatClampNeg))) ((8 + (3 * ((o.1 14) (3 : Int32).toNatClampNeg))) + 0) (-1) else none
abbrev rm_X10_readReach : Room := { frames := 8, cells := 0, slots := 0, locals := 174 }
set_option maxHeartbeats 4000000 in
set_option maxRecDepth 100000 in
theorem b_X10_readReach {p : Program} {l : Launch} {e : Env} {s : State} {m : MethodId} {args : Array Value} {below : List Frame} {meth : Method} {c : Code} {ls : Array Slot} {D : va_G} {ct : Nat → ClassId} {G : GT} (a : Nat → Nat) (fu : Nat) (o : Ob) {r : Ob} (hx : p.tables.exec = Jvm.exec) (hb : c.code = cX10_readReach) (hr : meth.sig.returnType = none) (hml : c.maxLocals = 3) (hown : s.vm.findClass RX10 = some m.cls) (htl : ∀ w ∈ wsL_law, w.before args s = true) (hlocks : meth.locks = false) (hK : va_K D vwCl (tyl ct) s) (hN : ∀ w ∈ NW, va_Nw w s) (hX : SX G s s.heap) (hP0 : va_P D vwCl (cs10 ct a o) s.heap) (hf : p_X10_readReach fu o = some r) (hD0 : va_D (GE G) (cs10 ct a o))  (hl : lv_has ls 3 [(0, .ref (a 0))]) : W p l e rm_X10_readReach s m args below meth c s.heap [] 0 0 (MQ below (Qwr none (fun H => va_P D vwCl (cs10 ct a r) H) (wA (cs10 ct a o))) args s 0 0 (wA (cs10 ct a o))) (F0 m 0 ls []) := by
  generalize hQQ : MQ below (Qwr none (fun H => va_P D vwCl (cs10 ct a r) H) (wA (cs10 ct a o))) args s 0 0 (wA (cs10 ct a o)) = QQ
  have hDx : ∀ (oy : Ob), va_D (GE G) (cs10 ct a oy) := fun oy => D_cr hD0 rfl
  have hDW : ∀ (oy : Ob), va_D (wA (cs10 ct a o)) (cs10 ct a oy) := fun oy => D_cr (D_self hD0) rfl
  have hGE : ∀ q, wA (cs10 ct a o) q → GE G q := wA_GE hD0
  have hP := hP0
  have hS : va_S (wA (cs10 ct a o)) s.heap s.heap [] := va_S.rf
  have hJ47 : ∀ (oz : Ob) (v1 : Int32) (s1 : Int32) (s2 : Int32), ∀ (H : Heap) (locs : List Loc) (ls : Array Slot), va_P D vwCl (cs10 ct a oz) H → va_S (wA (cs10 ct a o)) s.heap H locs → lv_has ls 3 [(0, .ref (a 0)), (1, .int v1)] → p_X10_readReach_J47 fu  oz v1 s1 s2 = some r → W p l e rm_X10_readReach s m args below meth c H locs 0 0 QQ (F0 m 47 ls [.int s2, .int s1, .ref (a 6)]) := by
    intro  oz v1 s1 s2 H locs ls hP hS hl hf 
    rw [p_X10_readReach_J47] at hf
    obtain ⟨hi_47, hf⟩ := ob_in hf
    refine va_iast (D := D) (tys := tyl ct) hx hb hK hP (hDW oz) hS 6 0 rfl rfl hi_47 dX10_readReach_47 (fun H_47 locs_47 hP _ hS => ?_)
    have hP : va_P D vwCl (cs10 ct a (oA oz 14 (upd (oz.1 14) s1.toNatClampNeg s2))) H_47 := sa10_14 hP
    refine lv_aload_n hx hb dX10_readReach_48 rfl (lv_at hl 0 rfl) ?_
    refine va_get (D := D) (ci := 10) (v := .ref (a 6)) (C := RX10) (T := TX10) (N := 42) hx hb htl inlX10 hown hK hP 0 rfl rfl 14 (by decide) (htl _ wq_7_8) (fun _ h9 => h9) rfl dX10_readReach_49 ?_
    refine lv_iload_n hx hb dX10_readReach_52 rfl (lv_at hl 1 rfl) ?_
    refine lv_iconst (v := 1) hx hb dX10_readReach_53 (by decide) ?_
    refine lv_iadd hx hb dX10_readReach_54 ?_
    refine lv_aload_n hx hb dX10_readReach_55 rfl (lv_at hl 0 rfl) ?_
    refine va_ldcS (index := 189) (tx := "takes") (q := G.2.1 9) hx hb hown (hX.2.1 ("QuotedRiverModel", 189, "takes", 9) (List.mem_of_getElem? (i := 19) rfl)) dX10_readReach_56 ?_
    refine lv_iconst (v := 1) hx hb dX10_readReach_58 (by decide) ?_
    refine lv_iconst (v := 5) hx hb dX10_readReach_59 (by decide) ?_
    obtain ⟨r_60, e_60, hf⟩ := ob_bind hf
    have hPX_60 : va_P D vwCl (cs10 ct a (oA oz 14 (upd (oz.1 14) s1.toNatClampNeg s2))) H_47 := hP
    refine wr_call1 (va_runV (As := [.ref (G.2.1 9), .int 1, .int 5]) (rest := [.int (v1 + 1), .ref (a 6)]) ⟨hx, hb, hml, hown, htl⟩ (c_X10_told l D ct G a fu (oA oz 14 (upd (oz.1 14) s1.toNatClampNeg s2)) 9 (1 : Int32) (5 : Int32) e_60 (by decide) (hDx (oA oz 14 (upd (oz.1 14) s1.toNatClampNeg s2)))) (cw_X10_X10_told htl ⟨Nat.le_of_ble_eq_true rfl, Nat.le_of_ble_eq_true rfl⟩) ⟨Bx_blind, va_recv hK hPX_60 (ci := 10) (q0 := 0) rfl rfl, Bx_pre hPX_60 hK hN (hX.stay hS hGE)⟩ rfl rfl hl.1 rfl (lv_room (Nat.le_of_ble_eq_true rfl)) dX10_readReach_60 ⟨Nat.zero_le _, Nat.zero_le _⟩) hS (wA_cg rfl) (fun H_60 locs_60 hB_60 _ hk_60 hS => ?_)
    have hP : va_P D vwCl (cs10 ct a r_60.2) H_60 := hB_60
    obtain ⟨hi_63, hf⟩ := ob_in hf
    refine va_iast (D := D) (tys := tyl ct) hx hb hK hP (hDW r_60.2) hS 6 0 rfl rfl hi_63 dX10_readReach_63 (fun H_63 locs_63 hP _ hS => ?_)
    have hP : va_P D vwCl (cs10 ct a (oA r_60.2 14 (upd (r_60.2.1 14) ((v1 + 1).toNatClampNeg) r_60.1))) H_63 := sa10_14 hP
    refine lv_aload_n hx hb dX10_readReach_64 rfl (lv_at hl 0 rfl) ?_
    refine va_get (D := D) (ci := 10) (v := .ref (a 6)) (C := RX10) (T := TX10) (N := 42) hx hb htl inlX10 hown hK hP 0 rfl rfl 14 (by decide) (htl _ wq_7_8) (fun _ h9 => h9) rfl dX10_readReach_65 ?_
    refine lv_iload_n hx hb dX10_readReach_68 rfl (lv_at hl 1 rfl) ?_
    refine lv_iconst (v := 2) hx hb dX10_readReach_69 (by decide) ?_
    refine lv_iadd hx hb dX10_readReach_70 ?_
    refine lv_aload_n hx hb dX10_readReach_71 rfl (lv_at hl 0 rfl) ?_
    refine va_ldcS (index := 190) (tx := "low") (q := G.2.1 3) hx hb hown (hX.2.1 ("QuotedRiverModel", 190, "low", 3) (List.mem_of_getElem? (i := 20) rfl)) dX10_readReach_72 ?_
    refine lv_iconst (v := 0) hx hb dX10_readReach_74 (by decide) ?_
    refine lv_bipush (v := 20) hx hb dX10_readReach_75 (by decide) ?_
    obtain ⟨r_77, e_77, hf⟩ := ob_bind hf
    have hPX_77 : va_P D vwCl (cs10 ct a (oA r_60.2 14 (upd (r_60.2.1 14) ((v1 + 1).toNatClampNeg) r_60.1))) H_63 := hP
    refine wr_call1 (va_runV (As := [.ref (G.2.1 3), .int 0, .int 20]) (rest := [.int (v1 + 2), .ref (a 6)]) ⟨hx, hb, hml, hown, htl⟩ (c_X10_told l D ct G a fu (oA r_60.2 14 (upd (r_60.2.1 14) ((v1 + 1).toNatClampNeg) r_60.1)) 3 (0 : Int32) (20 : Int32) e_77 (by decide) (hDx (oA r_60.2 14 (upd (r_60.2.1 14) ((v1 + 1).toNatClampNeg) r_60.1)))) (cw_X10_X10_told htl ⟨Nat.le_of_ble_eq_true rfl, Nat.le_of_ble_eq_true rfl⟩) ⟨Bx_blind, va_recv hK hPX_77 (ci := 10) (q0 := 0) rfl rfl, Bx_pre hPX_77 hK hN (hX.stay hS hGE)⟩ rfl rfl hl.1 rfl (lv_room (Nat.le_of_ble_eq_true rfl)) dX10_readReach_77 ⟨Nat.zero_le _, Nat.zero_le _⟩) hS (wA_cg rfl) (fun H_77 locs_77 hB_77 _ hk_77 hS => ?_)
    have hP : va_P D vwCl (cs10 ct a r_77.2) H_77 := hB_77
    obtain ⟨hi_80, hf⟩ := ob_in hf
    refine va_iast (D := D) (tys := tyl ct) hx hb hK hP (hDW r_77.2) hS 6 0 rfl rfl hi_80 dX10_readReach_80 (fun H_80 locs_80 hP _ hS => ?_)
    have hP : va_P D vwCl (cs10 ct a (oA r_77.2 14 (upd (r_77.2.1 14) ((v1 + 2).toNatClampNeg) r_77.1))) H_80 := sa10_14 hP
    refine lv_aload_n hx hb dX10_readReach_81 rfl (lv_at hl 0 rfl) ?_
    refine va_get (D := D) (ci := 10) (v := .ref (a 6)) (C := RX10) (T := TX10) (N := 42) hx hb htl inlX10 hown hK hP 0 rfl rfl 14 (by decide) (htl _ wq_7_8) (fun _ h9 => h9) rfl dX10_readReach_82 ?_
    refine lv_iconst (v := 3) hx hb dX10_readReach_85 (by decide) ?_
    refine lv_dup2_11 hx hb dX10_readReach_86 rfl rfl ?_
    obtain ⟨hi_87, hf⟩ := ob_in hf
    refine va_iald (D := D) (tys := tyl ct) hx hb hK hP 6 0 rfl rfl hi_87 dX10_readReach_87 ?_
    refine lv_iconst (v := 1) hx hb dX10_readReach_88 (by decide) ?_
    refine lv_iadd hx hb dX10_readReach_89 ?_
    obtain ⟨hi_90, hf⟩ := ob_in hf
    refine va_iast (D := D) (tys := tyl ct) hx hb hK hP (hDW (oA r_77.2 14 (upd (r_77.2.1 14) ((v1 + 2).toNatClampNeg) r_77.1))) hS 6 0 rfl rfl hi_90 dX10_readReach_90 (fun H_90 locs_90 hP _ hS => ?_)
    have hP : va_P D vwCl (cs10 ct a (oA (oA r_77.2 14 (upd (r_77.2.1 14) ((v1 + 2).toNatClampNeg) r_77.1)) 14 (upd ((oA r_77.2 14 (upd (r_77.2.1 14) ((v1 + 2).toNatClampNeg) r_77.1)).1 14) ((3 : Int32).toNatClampNeg) ((((oA r_77.2 14 (upd (r_77.2.1 14) ((v1 + 2).toNatClampNeg) r_77.1)).1 14) (3 : Int32).toNatClampNeg) + 1)))) H_90 := sa10_14 hP
    rw [← hQQ]
    cases hf
    exact rw_v hx hb hr hlocks hP hS dX10_readReach_91
  rw [p_X10_readReach] at hf
  refine lv_bipush (v := 8) hx hb dX10_readReach_0 (by decide) ?_
  refine lv_iconst (v := 3) hx hb dX10_readReach_2 (by decide) ?_
  refine lv_aload_n hx hb dX10_readReach_3 rfl (lv_at hl 0 rfl) ?_
  refine va_get (D := D) (ci := 10) (v := .ref (a 6)) (C := RX10) (T := TX10) (N := 42) hx hb htl inlX10 hown hK hP 0 rfl rfl 14 (by decide) (htl _ wq_7_8) (fun _ h9 => h9) rfl dX10_readReach_4 ?_
  refine lv_iconst (v := 3) hx hb dX10_readReach_7 (by decide) ?_
  obtain ⟨hi_8, hf⟩ := ob_in hf
  refine va_iald (D := D) (tys := tyl ct) hx hb hK hP 6 0 rfl rfl hi_8 dX10_readReach_8 ?_
  refine lv_imul hx hb dX10_readReach_9 ?_
  refine lv_iadd hx hb dX10_readReach_10 ?_
  refine lv_istore_n (lv' := [(1, .int (8 + (3 * ((o.1 14) (3 : Int32).toNatClampNeg)))), (0, .ref (a 0))]) hx hb dX10_readReach_11 rfl hl (by decide) rfl (fun ls hl => ?_)
  refine lv_aload_n hx hb dX10_readReach_12 rfl (lv_at hl 1 rfl) ?_
  refine va_ldcS (index := 185) (tx := "to") (q := G.2.1 0) hx hb hown (hX.2.1 ("QuotedRiverModel", 185, "to", 0) (List.mem_of_getElem? (i := 17) rfl)) dX10_readReach_13 ?_
  obtain ⟨r_15, e_15, hf⟩ := ob_bind hf
  have hPX_15 : va_P D vwCl (cs10 ct a o) s.heap := hP
  refine wr_call0 (va_runV (As := [.ref (G.2.1 0)]) (rest := []) ⟨hx, hb, hml, hown, htl⟩ (c_X10_needs l D ct G a fu o 0 e_15 (by decide) (hDx o)) (cw_X10_X10_needs htl ⟨Nat.le_of_ble_eq_true rfl, Nat.le_of_ble_eq_true rfl⟩) ⟨Bx_blind, va_recv hK hPX_15 (ci := 10) (q0 := 0) rfl rfl, Bx_pre hPX_15 hK hN (hX.stay hS hGE)⟩ rfl rfl hl.1 rfl (lv_room (Nat.le_of_ble_eq_true rfl)) dX10_readReach_15 ⟨Nat.zero_le _, Nat.zero_le _⟩) hS (wA_cg rfl) (fun H_15 locs_15 hB_15 _ hk_15 hS => ?_)
  have hP : va_P D vwCl (cs10 ct a r_15) H_15 := hB_15
  refine lv_aload_n hx hb dX10_readReach_18 rfl (lv_at hl 1 rfl) ?_
  refine va_ldcS (index := 187) (tx := "sea") (q := G.2.1 2) hx hb hown (hX.2.1 ("QuotedRiverModel", 187, "sea", 2) (List.mem_of_getElem? (i := 18) rfl)) dX10_readReach_19 ?_
  obtain ⟨r_21, e_21, hf⟩ := ob_bind hf
  have hPX_21 : va_P D vwCl (cs10 ct a r_15) H_15 := hP
  refine wr_call1 (va_runV (As := [.ref (G.2.1 2)]) (rest := []) ⟨hx, hb, hml, hown, htl⟩ (c_X10_takes l D ct G a fu r_15 2 e_21 (by decide) (hDx r_15)) (cw_X10_X10_takes htl ⟨Nat.le_of_ble_eq_true rfl, Nat.le_of_ble_eq_true rfl⟩) ⟨Bx_blind, va_recv hK hPX_21 (ci := 10) (q0 := 0) rfl rfl, Bx_pre hPX_21 hK hN (hX.stay hS hGE)⟩ rfl rfl hl.1 rfl (lv_room (Nat.le_of_ble_eq_true rfl)) dX10_readReach_21 ⟨Nat.zero_le _, Nat.zero_le _⟩) hS (wA_cg rfl) (fun H_21 locs_21 hB_21 _ hk_21 hS => ?_)
  have hP : va_P D vwCl (cs10 ct a r_21.2) H_21 := hB_21
  refine lv_istore_n (lv' := [(2, .int r_21.1), (1, .int (8 + (3 * ((o.1 14) (3 : Int32).toNatClampNeg)))), (0, .ref (a 0))]) hx hb dX10_readReach_24 rfl hl (by decide) rfl (fun ls hl => ?_)
  refine lv_aload_n hx hb dX10_readReach_25 rfl (lv_at hl 2 rfl) ?_
  refine va_get (D := D) (ci := 10) (v := .ref (a 6)) (C := RX10) (T := TX10) (N := 42) hx hb htl inlX10 hown hK hP 0 rfl rfl 14 (by decide) (htl _ wq_7_8) (fun _ h9 => h9) rfl dX10_readReach_26 ?_
  refine lv_iload_n hx hb dX10_readReach_29 rfl (lv_at hl 1 rfl) ?_
  refine lv_iconst (v := 0) hx hb dX10_readReach_30 (by decide) ?_
  refine lv_iadd hx hb dX10_readReach_31 ?_
  refine lv_iload_n hx hb dX10_readReach_32 rfl (lv_at hl 0 rfl) ?_
  refine lv_if_eq (tgt := 40) hx hb dX10_readReach_33 (by decide) (fun c_33 => ?_) (fun c_33 => ?_)
  rotate_left 1
  · rw [if_neg c_33] at hf
    refine lv_iconst (v := (-1)) hx hb dX10_readReach_36 (by decide) ?_
    refine lv_goto (tgt := 47) hx hb dX10_readReach_37 (by decide) ?_
    exact hJ47 r_21.2 (8 + (3 * ((o.1 14) (3 : Int32).toNatClampNeg))) ((8 + (3 * ((o.1 14) (3 : Int32).toNatClampNeg))) + 0) (-1) _ _ _ hP hS (lv_sub hl [2, 1] rfl) hf 
  rw [if_pos c_33] at hf
  refine lv_aload_n hx hb dX10_readReach_40 rfl (lv_at hl 2 rfl) ?_
  refine lv_iconst (v := 0) hx hb dX10_readReach_41 (by decide) ?_
  refine lv_bipush (v := 9) hx hb dX10_readReach_42 (by decide) ?_
  obtain ⟨r_44, e_44, hf⟩ := ob_bind hf
  have hPX_44 : va_P D vwCl (cs10 ct a r_21.2) H_21 := hP
  refine wr_call1 (va_runV (As := [.int 0, .int 9]) (rest := [.int ((8 + (3 * ((o.1 14) (3 : Int32).toNatClampNeg))) + 0), .ref (a 6)]) ⟨hx, hb, hml, hown, htl⟩ (c_X10_number l D ct G a fu r_21.2 (0 : Int32) (9 : Int32) e_44 (hDx r_21.2)) (cw_X10_X10_number htl ⟨Nat.le_of_ble_eq_true rfl, Nat.le_of_ble_eq_true rfl⟩) ⟨Bx_blind, va_recv hK hPX_44 (ci := 10) (q0 := 0) rfl rfl, Bx_pre hPX_44 hK hN (hX.stay hS hGE)⟩ rfl rfl hl.1 rfl (lv_room (Nat.le_of_ble_eq_true rfl)) dX10_readReach_44 ⟨Nat.zero_le _, Nat.zero_le _⟩) hS (wA_cg rfl) (fun H_44 locs_44 hB_44 _ hk_44 hS => ?_)
  have hP : va_P D vwCl (cs10 ct a r_44.2) H_44 := hB_44
  exact hJ47 r_44.2 (8 + (3 * ((o.1 14) (3 : Int32).toNatClampNeg))) ((8 + (3 * ((o.1 14) (3 : Int32).toNatClampNeg))) + 0) r_44.1 _ _ _ hP hS (lv_sub hl [2, 1] rfl) hf 
theorem c_X10_readReach (l : Launch) (D : va_G) (ct : Nat → ClassId) (G : GT) (a : Nat → Nat) (fu : Nat) (o : Ob) {r : Ob} (hf : p_X10_readReach fu o = some r)  (hD0 : va_D (GE G) (cs10 ct a o)) : Met l yX10_readReach (.code yX10_readReach cX10_readReach 3 none :: wsL_law) rm_X10_readReach (va_Pc [.ref (a 0)] (Bx D ct G (cs10 ct a o))) (Qwr none (fun H => va_P D vwCl (cs10 ct a r) H) (wA (cs10 ct a o))) 0 0 (wA (cs10 ct a o)) := by
  refine Met.ofW (cc := cX10_readReach) (maxL := 3) (ret := none) (by decide) rfl ?_
  intro p e s m args below meth c s₁ B hml hv
  obtain ⟨rfl, hP, hK, hN, hX⟩ := hv
  have hts := atoms_spec (ws := .code yX10_readReach cX10_readReach 3 none :: wsL_law) B.pre
  rw [lg_entry_eq]
  exact b_X10_readReach a fu o B.exec B.bytes B.returns hml (findClass_of_methodNamed B.named) (fun w h => hts w (List.mem_cons_of_mem _ h)) B.notSynchronized hK hN hX hP hf hD0  (lv_entry [.ref (a 0)] (n := 3) (Nat.le_of_ble_eq_true rfl))
def p_X10_readJoin (fu : Nat) (o : Ob) : Option (Ob) :=
  if inb (4 : Int32) 98 = true then if inb (3 : Int32) 98 = true then (p_X10_number fu o (0 : Int32) (((o.1 14) (3 : Int32).toNatClampNeg) - 1)).bind fun r_27 => if inb (38 + (4 * ((o.1 14) (4 : Int32).toNatClampNeg))) 98 = true then if inb (3 : Int32) 98 = true then (p_X10_told fu (oA r_27.2 14 (upd (r_27.2.1 14) ((38 + (4 * ((o.1 14) (4 : Int32).toNatClampNeg))).toNatClampNeg) r_27.1)) 0 (0 : Int32) ((((oA r_27.2 14 (upd (r_27.2.1 14) ((38 + (4 * ((o.1 14) (4 : Int32).toNatClampNeg))).toNatClampNeg) r_27.1)).1 14) (3 : Int32).toNatClampNeg) - 1)).bind fun r_50 => if inb ((38 + (4 * ((o.1 14) (4 : Int32).toNatClampNeg))) + 1) 98 = true then (p_X10_told fu (oA r_50.2 14 (upd (r_50.2.1 14) (((38 + (4 * ((o.1 14) (4 : Int32).toNatClampNeg))) + 1).toNatClampNeg) r_50.1)) 5 (1 : Int32) (9 : Int32)).bind fun r_67 => if inb ((38 + (4 * ((o.1 14) (4 : Int32).toNatClampNeg))) + 2) 98 = true then if inb ((38 + (4 * ((o.1 14) (4 : Int32).toNatClampNeg))) + 2) 98 = true then (p_X10_told fu (oA r_67.2 14 (upd (r_67.2.1 14) (((38 + (4 * ((o.1 14) (4 : Int32).toNatClampNeg))) + 2).toNatClampNeg) r_67.1)) 1 (0 : Int32) ((((oA r_67.2 14 (upd (r_67.2.1 14) (((38 + (4 * ((o.1 14) (4 : Int32).toNatClampNeg))) + 2).toNatClampNeg) r_67.1)).1 14) ((38 + (4 * ((o.1 14) (4 : Int32).toNatClampNeg))) + 2).toNatClampNeg) - 1)).bind fun r_92 => if inb ((38 + (4 * ((o.1 14) (4 : Int32).toNatClampNeg))) + 3) 98 = true then if inb (4 : Int32) 98 = true then if inb (4 : Int32) 98 = true then some (oA (oA r_92.2 14 (upd (r_92.2.1 14) (((38 + (4 * ((o.1 14) (4 : Int32).toNatClampNeg))) + 3).toNatClampNeg) r_92.1)) 14 (upd ((oA r_92.2 14 (upd (r_92.2.1 14) (((38 + (4 * ((o.1 14) (4 : Int32).toNatClampNeg))) + 3).toNatClampNeg) r_92.1)).1 14) ((4 : Int32).toNatClampNeg) ((((oA r_92.2 14 (upd (r_92.2.1 14) (((38 + (4 * ((o.1 14) (4 : Int32).toNatClampNeg))) + 3).toNatClampNeg) r_92.1)).1 14) (4 : Int32).toNatClampNeg) + 1))) else none else none else none else none else none else none else none else none else none else none
abbrev rm_X10_readJoin : Room := { frames := 8, cells := 0, slots := 0, locals := 174 }
set_option maxHeartbeats 4000000 in
set_option maxRecDepth 100000 in
theorem b_X10_readJoin {p : Program} {l : Launch} {e : Env} {s : State} {m : MethodId} {args : Array Value} {below : List Frame} {meth : Method} {c : Code} {ls : Array Slot} {D : va_G} {ct : Nat → ClassId} {G : GT} (a : Nat → Nat) (fu : Nat) (o : Ob) {r : Ob} (hx : p.tables.exec = Jvm.exec) (hb : c.code = cX10_readJoin) (hr : meth.sig.returnType = none) (hml : c.maxLocals = 2) (hown : s.vm.findClass RX10 = some m.cls) (htl : ∀ w ∈ wsL_law, w.before args s = true) (hlocks : meth.locks = false) (hK : va_K D vwCl (tyl ct) s) (hN : ∀ w ∈ NW, va_Nw w s) (hX : SX G s s.heap) (hP0 : va_P D vwCl (cs10 ct a o) s.heap) (hf : p_X10_readJoin fu o = some r) (hD0 : va_D (GE G) (cs10 ct a o))  (hl : lv_has ls 2 [(0, .ref (a 0))]) : W p l e rm_X10_readJoin s m args below meth c s.heap [] 0 0 (MQ below (Qwr none (fun H => va_P D vwCl (cs10 ct a r) H) (wA (cs10 ct a o))) args s 0 0 (wA (cs10 ct a o))) (F0 m 0 ls []) := by
  generalize hQQ : MQ below (Qwr none (fun H => va_P D vwCl (cs10 ct a r) H) (wA (cs10 ct a o))) args s 0 0 (wA (cs10 ct a o)) = QQ
  have hDx : ∀ (oy : Ob), va_D (GE G) (cs10 ct a oy) := fun oy => D_cr hD0 rfl
  have hDW : ∀ (oy : Ob), va_D (wA (cs10 ct a o)) (cs10 ct a oy) := fun oy => D_cr (D_self hD0) rfl
  have hGE : ∀ q, wA (cs10 ct a o) q → GE G q := wA_GE hD0
  have hP := hP0
  have hS : va_S (wA (cs10 ct a o)) s.heap s.heap [] := va_S.rf
  rw [p_X10_readJoin] at hf
  refine lv_bipush (v := 38) hx hb dX10_readJoin_0 (by decide) ?_
  refine lv_iconst (v := 4) hx hb dX10_readJoin_2 (by decide) ?_
  refine lv_aload_n hx hb dX10_readJoin_3 rfl (lv_at hl 0 rfl) ?_
  refine va_get (D := D) (ci := 10) (v := .ref (a 6)) (C := RX10) (T := TX10) (N := 42) hx hb htl inlX10 hown hK hP 0 rfl rfl 14 (by decide) (htl _ wq_7_8) (fun _ h9 => h9) rfl dX10_readJoin_4 ?_
  refine lv_iconst (v := 4) hx hb dX10_readJoin_7 (by decide) ?_
  obtain ⟨hi_8, hf⟩ := ob_in hf
  refine va_iald (D := D) (tys := tyl ct) hx hb hK hP 6 0 rfl rfl hi_8 dX10_readJoin_8 ?_
  refine lv_imul hx hb dX10_readJoin_9 ?_
  refine lv_iadd hx hb dX10_readJoin_10 ?_
  refine lv_istore_n (lv' := [(1, .int (38 + (4 * ((o.1 14) (4 : Int32).toNatClampNeg)))), (0, .ref (a 0))]) hx hb dX10_readJoin_11 rfl hl (by decide) rfl (fun ls hl => ?_)
  refine lv_aload_n hx hb dX10_readJoin_12 rfl (lv_at hl 1 rfl) ?_
  refine va_get (D := D) (ci := 10) (v := .ref (a 6)) (C := RX10) (T := TX10) (N := 42) hx hb htl inlX10 hown hK hP 0 rfl rfl 14 (by decide) (htl _ wq_7_8) (fun _ h9 => h9) rfl dX10_readJoin_13 ?_
  refine lv_iload_n hx hb dX10_readJoin_16 rfl (lv_at hl 0 rfl) ?_
  refine lv_aload_n hx hb dX10_readJoin_17 rfl (lv_at hl 1 rfl) ?_
  refine lv_iconst (v := 0) hx hb dX10_readJoin_18 (by decide) ?_
  refine lv_aload_n hx hb dX10_readJoin_19 rfl (lv_at hl 1 rfl) ?_
  refine va_get (D := D) (ci := 10) (v := .ref (a 6)) (C := RX10) (T := TX10) (N := 42) hx hb htl inlX10 hown hK hP 0 rfl rfl 14 (by decide) (htl _ wq_7_8) (fun _ h9 => h9) rfl dX10_readJoin_20 ?_
  refine lv_iconst (v := 3) hx hb dX10_readJoin_23 (by decide) ?_
  obtain ⟨hi_24, hf⟩ := ob_in hf
  refine va_iald (D := D) (tys := tyl ct) hx hb hK hP 6 0 rfl rfl hi_24 dX10_readJoin_24 ?_
  refine lv_iconst (v := 1) hx hb dX10_readJoin_25 (by decide) ?_
  refine lv_isub hx hb dX10_readJoin_26 ?_
  obtain ⟨r_27, e_27, hf⟩ := ob_bind hf
  have hPX_27 : va_P D vwCl (cs10 ct a o) s.heap := hP
  refine wr_call1 (va_runV (As := [.int 0, .int (((o.1 14) (3 : Int32).toNatClampNeg) - 1)]) (rest := [.int (38 + (4 * ((o.1 14) (4 : Int32).toNatClampNeg))), .ref (a 6)]) ⟨hx, hb, hml, hown, htl⟩ (c_X10_number l D ct G a fu o (0 : Int32) (((o.1 14) (3 : Int32).toNatClampNeg) - 1) e_27 (hDx o)) (cw_X10_X10_number htl ⟨Nat.le_of_ble_eq_true rfl, Nat.le_of_ble_eq_true rfl⟩) ⟨Bx_blind, va_recv hK hPX_27 (ci := 10) (q0 := 0) rfl rfl, Bx_pre hPX_27 hK hN (hX.stay hS hGE)⟩ rfl rfl hl.1 rfl (lv_room (Nat.le_of_ble_eq_true rfl)) dX10_readJoin_27 ⟨Nat.zero_le _, Nat.zero_le _⟩) hS (wA_cg rfl) (fun H_27 locs_27 hB_27 _ hk_27 hS => ?_)
  have hP : va_P D vwCl (cs10 ct a r_27.2) H_27 := hB_27
  obtain ⟨hi_30, hf⟩ := ob_in hf
  refine va_iast (D := D) (tys := tyl ct) hx hb hK hP (hDW r_27.2) hS 6 0 rfl rfl hi_30 dX10_readJoin_30 (fun H_30 locs_30 hP _ hS => ?_)
  have hP : va_P D vwCl (cs10 ct a (oA r_27.2 14 (upd (r_27.2.1 14) ((38 + (4 * ((o.1 14) (4 : Int32).toNatClampNeg))).toNatClampNeg) r_27.1))) H_30 := sa10_14 hP
  refine lv_aload_n hx hb dX10_readJoin_31 rfl (lv_at hl 1 rfl) ?_
  refine va_get (D := D) (ci := 10) (v := .ref (a 6)) (C := RX10) (T := TX10) (N := 42) hx hb htl inlX10 hown hK hP 0 rfl rfl 14 (by decide) (htl _ wq_7_8) (fun _ h9 => h9) rfl dX10_readJoin_32 ?_
  refine lv_iload_n hx hb dX10_readJoin_35 rfl (lv_at hl 0 rfl) ?_
  refine lv_iconst (v := 1) hx hb dX10_readJoin_36 (by decide) ?_
  refine lv_iadd hx hb dX10_readJoin_37 ?_
  refine lv_aload_n hx hb dX10_readJoin_38 rfl (lv_at hl 1 rfl) ?_
  refine va_ldcS (index := 185) (tx := "to") (q := G.2.1 0) hx hb hown (hX.2.1 ("QuotedRiverModel", 185, "to", 0) (List.mem_of_getElem? (i := 17) rfl)) dX10_readJoin_39 ?_
  refine lv_iconst (v := 0) hx hb dX10_readJoin_41 (by decide) ?_
  refine lv_aload_n hx hb dX10_readJoin_42 rfl (lv_at hl 1 rfl) ?_
  refine va_get (D := D) (ci := 10) (v := .ref (a 6)) (C := RX10) (T := TX10) (N := 42) hx hb htl inlX10 hown hK hP 0 rfl rfl 14 (by decide) (htl _ wq_7_8) (fun _ h9 => h9) rfl dX10_readJoin_43 ?_
  refine lv_iconst (v := 3) hx hb dX10_readJoin_46 (by decide) ?_
  obtain ⟨hi_47, hf⟩ := ob_in hf
  refine va_iald (D := D) (tys := tyl ct) hx hb hK hP 6 0 rfl rfl hi_47 dX10_readJoin_47 ?_
  refine lv_iconst (v := 1) hx hb dX10_readJoin_48 (by decide) ?_
  refine lv_isub hx hb dX10_readJoin_49 ?_
  obtain ⟨r_50, e_50, hf⟩ := ob_bind hf
  have hPX_50 : va_P D vwCl (cs10 ct a (oA r_27.2 14 (upd (r_27.2.1 14) ((38 + (4 * ((o.1 14) (4 : Int32).toNatClampNeg))).toNatClampNeg) r_27.1))) H_30 := hP
  refine wr_call1 (va_runV (As := [.ref (G.2.1 0), .int 0, .int ((((oA r_27.2 14 (upd (r_27.2.1 14) ((38 + (4 * ((o.1 14) (4 : Int32).toNatClampNeg))).toNatClampNeg) r_27.1)).1 14) (3 : Int32).toNatClampNeg) - 1)]) (rest := [.int ((38 + (4 * ((o.1 14) (4 : Int32).toNatClampNeg))) + 1), .ref (a 6)]) ⟨hx, hb, hml, hown, htl⟩ (c_X10_told l D ct G a fu (oA r_27.2 14 (upd (r_27.2.1 14) ((38 + (4 * ((o.1 14) (4 : Int32).toNatClampNeg))).toNatClampNeg) r_27.1)) 0 (0 : Int32) ((((oA r_27.2 14 (upd (r_27.2.1 14) ((38 + (4 * ((o.1 14) (4 : Int32).toNatClampNeg))).toNatClampNeg) r_27.1)).1 14) (3 : Int32).toNatClampNeg) - 1) e_50 (by decide) (hDx (oA r_27.2 14 (upd (r_27.2.1 14) ((38 + (4 * ((o.1 14) (4 : Int32).toNatClampNeg))).toNatClampNeg) r_27.1)))) (cw_X10_X10_told htl ⟨Nat.le_of_ble_eq_true rfl, Nat.le_of_ble_eq_true rfl⟩) ⟨Bx_blind, va_recv hK hPX_50 (ci := 10) (q0 := 0) rfl rfl, Bx_pre hPX_50 hK hN (hX.stay hS hGE)⟩ rfl rfl hl.1 rfl (lv_room (Nat.le_of_ble_eq_true rfl)) dX10_readJoin_50 ⟨Nat.zero_le _, Nat.zero_le _⟩) hS (wA_cg rfl) (fun H_50 locs_50 hB_50 _ hk_50 hS => ?_)
  have hP : va_P D vwCl (cs10 ct a r_50.2) H_50 := hB_50
  obtain ⟨hi_53, hf⟩ := ob_in hf
  refine va_iast (D := D) (tys := tyl ct) hx hb hK hP (hDW r_50.2) hS 6 0 rfl rfl hi_53 dX10_readJoin_53 (fun H_53 locs_53 hP _ hS => ?_)
  have hP : va_P D vwCl (cs10 ct a (oA r_50.2 14 (upd (r_50.2.1 14) (((38 + (4 * ((o.1 14) (4 : Int32).toNatClampNeg))) + 1).toNatClampNeg) r_50.1))) H_53 := sa10_14 hP
  refine lv_aload_n hx hb dX10_readJoin_54 rfl (lv_at hl 1 rfl) ?_
  refine va_get (D := D) (ci := 10) (v := .ref (a 6)) (C := RX10) (T := TX10) (N := 42) hx hb htl inlX10 hown hK hP 0 rfl rfl 14 (by decide) (htl _ wq_7_8) (fun _ h9 => h9) rfl dX10_readJoin_55 ?_
  refine lv_iload_n hx hb dX10_readJoin_58 rfl (lv_at hl 0 rfl) ?_
  refine lv_iconst (v := 2) hx hb dX10_readJoin_59 (by decide) ?_
  refine lv_iadd hx hb dX10_readJoin_60 ?_
  refine lv_aload_n hx hb dX10_readJoin_61 rfl (lv_at hl 1 rfl) ?_
  refine va_ldcS (index := 192) (tx := "each") (q := G.2.1 5) hx hb hown (hX.2.1 ("QuotedRiverModel", 192, "each", 5) (List.mem_of_getElem? (i := 21) rfl)) dX10_readJoin_62 ?_
  refine lv_iconst (v := 1) hx hb dX10_readJoin_64 (by decide) ?_
  refine lv_bipush (v := 9) hx hb dX10_readJoin_65 (by decide) ?_
  obtain ⟨r_67, e_67, hf⟩ := ob_bind hf
  have hPX_67 : va_P D vwCl (cs10 ct a (oA r_50.2 14 (upd (r_50.2.1 14) (((38 + (4 * ((o.1 14) (4 : Int32).toNatClampNeg))) + 1).toNatClampNeg) r_50.1))) H_53 := hP
  refine wr_call1 (va_runV (As := [.ref (G.2.1 5), .int 1, .int 9]) (rest := [.int ((38 + (4 * ((o.1 14) (4 : Int32).toNatClampNeg))) + 2), .ref (a 6)]) ⟨hx, hb, hml, hown, htl⟩ (c_X10_told l D ct G a fu (oA r_50.2 14 (upd (r_50.2.1 14) (((38 + (4 * ((o.1 14) (4 : Int32).toNatClampNeg))) + 1).toNatClampNeg) r_50.1)) 5 (1 : Int32) (9 : Int32) e_67 (by decide) (hDx (oA r_50.2 14 (upd (r_50.2.1 14) (((38 + (4 * ((o.1 14) (4 : Int32).toNatClampNeg))) + 1).toNatClampNeg) r_50.1)))) (cw_X10_X10_told htl ⟨Nat.le_of_ble_eq_true rfl, Nat.le_of_ble_eq_true rfl⟩) ⟨Bx_blind, va_recv hK hPX_67 (ci := 10) (q0 := 0) rfl rfl, Bx_pre hPX_67 hK hN (hX.stay hS hGE)⟩ rfl rfl hl.1 rfl (lv_room (Nat.le_of_ble_eq_true rfl)) dX10_readJoin_67 ⟨Nat.zero_le _, Nat.zero_le _⟩) hS (wA_cg rfl) (fun H_67 locs_67 hB_67 _ hk_67 hS => ?_)
  have hP : va_P D vwCl (cs10 ct a r_67.2) H_67 := hB_67
  obtain ⟨hi_70, hf⟩ := ob_in hf
  refine va_iast (D := D) (tys := tyl ct) hx hb hK hP (hDW r_67.2) hS 6 0 rfl rfl hi_70 dX10_readJoin_70 (fun H_70 locs_70 hP _ hS => ?_)
  have hP : va_P D vwCl (cs10 ct a (oA r_67.2 14 (upd (r_67.2.1 14) (((38 + (4 * ((o.1 14) (4 : Int32).toNatClampNeg))) + 2).toNatClampNeg) r_67.1))) H_70 := sa10_14 hP
  refine lv_aload_n hx hb dX10_readJoin_71 rfl (lv_at hl 1 rfl) ?_
  refine va_get (D := D) (ci := 10) (v := .ref (a 6)) (C := RX10) (T := TX10) (N := 42) hx hb htl inlX10 hown hK hP 0 rfl rfl 14 (by decide) (htl _ wq_7_8) (fun _ h9 => h9) rfl dX10_readJoin_72 ?_
  refine lv_iload_n hx hb dX10_readJoin_75 rfl (lv_at hl 0 rfl) ?_
  refine lv_iconst (v := 3) hx hb dX10_readJoin_76 (by decide) ?_
  refine lv_iadd hx hb dX10_readJoin_77 ?_
  refine lv_aload_n hx hb dX10_readJoin_78 rfl (lv_at hl 1 rfl) ?_
  refine va_ldcS (index := 194) (tx := "at") (q := G.2.1 1) hx hb hown (hX.2.1 ("QuotedRiverModel", 194, "at", 1) (List.mem_of_getElem? (i := 22) rfl)) dX10_readJoin_79 ?_
  refine lv_iconst (v := 0) hx hb dX10_readJoin_81 (by decide) ?_
  refine lv_aload_n hx hb dX10_readJoin_82 rfl (lv_at hl 1 rfl) ?_
  refine va_get (D := D) (ci := 10) (v := .ref (a 6)) (C := RX10) (T := TX10) (N := 42) hx hb htl inlX10 hown hK hP 0 rfl rfl 14 (by decide) (htl _ wq_7_8) (fun _ h9 => h9) rfl dX10_readJoin_83 ?_
  refine lv_iload_n hx hb dX10_readJoin_86 rfl (lv_at hl 0 rfl) ?_
  refine lv_iconst (v := 2) hx hb dX10_readJoin_87 (by decide) ?_
  refine lv_iadd hx hb dX10_readJoin_88 ?_
  obtain ⟨hi_89, hf⟩ := ob_in hf
  refine va_iald (D := D) (tys := tyl ct) hx hb hK hP 6 0 rfl rfl hi_89 dX10_readJoin_89 ?_
  refine lv_iconst (v := 1) hx hb dX10_readJoin_90 (by decide) ?_
  refine lv_isub hx hb dX10_readJoin_91 ?_
  obtain ⟨r_92, e_92, hf⟩ := ob_bind hf
  have hPX_92 : va_P D vwCl (cs10 ct a (oA r_67.2 14 (upd (r_67.2.1 14) (((38 + (4 * ((o.1 14) (4 : Int32).toNatClampNeg))) + 2).toNatClampNeg) r_67.1))) H_70 := hP
  refine wr_call1 (va_runV (As := [.ref (G.2.1 1), .int 0, .int ((((oA r_67.2 14 (upd (r_67.2.1 14) (((38 + (4 * ((o.1 14) (4 : Int32).toNatClampNeg))) + 2).toNatClampNeg) r_67.1)).1 14) ((38 + (4 * ((o.1 14) (4 : Int32).toNatClampNeg))) + 2).toNatClampNeg) - 1)]) (rest := [.int ((38 + (4 * ((o.1 14) (4 : Int32).toNatClampNeg))) + 3), .ref (a 6)]) ⟨hx, hb, hml, hown, htl⟩ (c_X10_told l D ct G a fu (oA r_67.2 14 (upd (r_67.2.1 14) (((38 + (4 * ((o.1 14) (4 : Int32).toNatClampNeg))) + 2).toNatClampNeg) r_67.1)) 1 (0 : Int32) ((((oA r_67.2 14 (upd (r_67.2.1 14) (((38 + (4 * ((o.1 14) (4 : Int32).toNatClampNeg))) + 2).toNatClampNeg) r_67.1)).1 14) ((38 + (4 * ((o.1 14) (4 : Int32).toNatClampNeg))) + 2).toNatClampNeg) - 1) e_92 (by decide) (hDx (oA r_67.2 14 (upd (r_67.2.1 14) (((38 + (4 * ((o.1 14) (4 : Int32).toNatClampNeg))) + 2).toNatClampNeg) r_67.1)))) (cw_X10_X10_told htl ⟨Nat.le_of_ble_eq_true rfl, Nat.le_of_ble_eq_true rfl⟩) ⟨Bx_blind, va_recv hK hPX_92 (ci := 10) (q0 := 0) rfl rfl, Bx_pre hPX_92 hK hN (hX.stay hS hGE)⟩ rfl rfl hl.1 rfl (lv_room (Nat.le_of_ble_eq_true rfl)) dX10_readJoin_92 ⟨Nat.zero_le _, Nat.zero_le _⟩) hS (wA_cg rfl) (fun H_92 locs_92 hB_92 _ hk_92 hS => ?_)
  have hP : va_P D vwCl (cs10 ct a r_92.2) H_92 := hB_92
  obtain ⟨hi_95, hf⟩ := ob_in hf
  refine va_iast (D := D) (tys := tyl ct) hx hb hK hP (hDW r_92.2) hS 6 0 rfl rfl hi_95 dX10_readJoin_95 (fun H_95 locs_95 hP _ hS => ?_)
  have hP : va_P D vwCl (cs10 ct a (oA r_92.2 14 (upd (r_92.2.1 14) (((38 + (4 * ((o.1 14) (4 : Int32).toNatClampNeg))) + 3).toNatClampNeg) r_92.1))) H_95 := sa10_14 hP
  refine lv_aload_n hx hb dX10_readJoin_96 rfl (lv_at hl 1 rfl) ?_
  refine va_get (D := D) (ci := 10) (v := .ref (a 6)) (C := RX10) (T := TX10) (N := 42) hx hb htl inlX10 hown hK hP 0 rfl rfl 14 (by decide) (htl _ wq_7_8) (fun _ h9 => h9) rfl dX10_readJoin_97 ?_
  refine lv_iconst (v := 4) hx hb dX10_readJoin_100 (by decide) ?_
  refine lv_dup2_11 hx hb dX10_readJoin_101 rfl rfl ?_
  obtain ⟨hi_102, hf⟩ := ob_in hf
  refine va_iald (D := D) (tys := tyl ct) hx hb hK hP 6 0 rfl rfl hi_102 dX10_readJoin_102 ?_
  refine lv_iconst (v := 1) hx hb dX10_readJoin_103 (by decide) ?_
  refine lv_iadd hx hb dX10_readJoin_104 ?_
  obtain ⟨hi_105, hf⟩ := ob_in hf
  refine va_iast (D := D) (tys := tyl ct) hx hb hK hP (hDW (oA r_92.2 14 (upd (r_92.2.1 14) (((38 + (4 * ((o.1 14) (4 : Int32).toNatClampNeg))) + 3).toNatClampNeg) r_92.1))) hS 6 0 rfl rfl hi_105 dX10_readJoin_105 (fun H_105 locs_105 hP _ hS => ?_)
  have hP : va_P D vwCl (cs10 ct a (oA (oA r_92.2 14 (upd (r_92.2.1 14) (((38 + (4 * ((o.1 14) (4 : Int32).toNatClampNeg))) + 3).toNatClampNeg) r_92.1)) 14 (upd ((oA r_92.2 14 (upd (r_92.2.1 14) (((38 + (4 * ((o.1 14) (4 : Int32).toNatClampNeg))) + 3).toNatClampNeg) r_92.1)).1 14) ((4 : Int32).toNatClampNeg) ((((oA r_92.2 14 (upd (r_92.2.1 14) (((38 + (4 * ((o.1 14) (4 : Int32).toNatClampNeg))) + 3).toNatClampNeg) r_92.1)).1 14) (4 : Int32).toNatClampNeg) + 1)))) H_105 := sa10_14 hP
  rw [← hQQ]
  cases hf
  exact rw_v hx hb hr hlocks hP hS dX10_readJoin_106
theorem c_X10_readJoin (l : Launch) (D : va_G) (ct : Nat → ClassId) (G : GT) (a : Nat → Nat) (fu : Nat) (o : Ob) {r : Ob} (hf : p_X10_readJoin fu o = some r)  (hD0 : va_D (GE G) (cs10 ct a o)) : Met l yX10_readJoin (.code yX10_readJoin cX10_readJoin 2 none :: wsL_law) rm_X10_readJoin (va_Pc [.ref (a 0)] (Bx D ct G (cs10 ct a o))) (Qwr none (fun H => va_P D vwCl (cs10 ct a r) H) (wA (cs10 ct a o))) 0 0 (wA (cs10 ct a o)) := by
  refine Met.ofW (cc := cX10_readJoin) (maxL := 2) (ret := none) (by decide) rfl ?_
  intro p e s m args below meth c s₁ B hml hv
  obtain ⟨rfl, hP, hK, hN, hX⟩ := hv
  have hts := atoms_spec (ws := .code yX10_readJoin cX10_readJoin 2 none :: wsL_law) B.pre
  rw [lg_entry_eq]
  exact b_X10_readJoin a fu o B.exec B.bytes B.returns hml (findClass_of_methodNamed B.named) (fun w h => hts w (List.mem_cons_of_mem _ h)) B.notSynchronized hK hN hX hP hf hD0  (lv_entry [.ref (a 0)] (n := 2) (Nat.le_of_ble_eq_true rfl))
def p_X10_readRain (fu : Nat) (o : Ob) : Option (Ob) :=
  if inb (5 : Int32) 98 = true then (p_X10_number fu o (1 : Int32) (30 : Int32)).bind fun r_21 => if inb (58 + (2 * ((o.1 14) (5 : Int32).toNatClampNeg))) 98 = true then (p_X10_told fu (oA r_21.2 14 (upd (r_21.2.1 14) ((58 + (2 * ((o.1 14) (5 : Int32).toNatClampNeg))).toNatClampNeg) r_21.1)) 1 (0 : Int32) (60 : Int32)).bind fun r_38 => if inb ((58 + (2 * ((o.1 14) (5 : Int32).toNatClampNeg))) + 1) 98 = true then if inb (5 : Int32) 98 = true then if inb (5 : Int32) 98 = true then some (oA (oA r_38.2 14 (upd (r_38.2.1 14) (((58 + (2 * ((o.1 14) (5 : Int32).toNatClampNeg))) + 1).toNatClampNeg) r_38.1)) 14 (upd ((oA r_38.2 14 (upd (r_38.2.1 14) (((58 + (2 * ((o.1 14) (5 : Int32).toNatClampNeg))) + 1).toNatClampNeg) r_38.1)).1 14) ((5 : Int32).toNatClampNeg) ((((oA r_38.2 14 (upd (r_38.2.1 14) (((58 + (2 * ((o.1 14) (5 : Int32).toNatClampNeg))) + 1).toNatClampNeg) r_38.1)).1 14) (5 : Int32).toNatClampNeg) + 1))) else none else none else none else none else none
abbrev rm_X10_readRain : Room := { frames := 8, cells := 0, slots := 0, locals := 174 }
set_option maxHeartbeats 4000000 in
set_option maxRecDepth 100000 in
theorem b_X10_readRain {p : Program} {l : Launch} {e : Env} {s : State} {m : MethodId} {args : Array Value} {below : List Frame} {meth : Method} {c : Code} {ls : Array Slot} {D : va_G} {ct : Nat → ClassId} {G : GT} (a : Nat → Nat) (fu : Nat) (o : Ob) {r : Ob} (hx : p.tables.exec = Jvm.exec) (hb : c.code = cX10_readRain) (hr : meth.sig.returnType = none) (hml : c.maxLocals = 2) (hown : s.vm.findClass RX10 = some m.cls) (htl : ∀ w ∈ wsL_law, w.before args s = true) (hlocks : meth.locks = false) (hK : va_K D vwCl (tyl ct) s) (hN : ∀ w ∈ NW, va_Nw w s) (hX : SX G s s.heap) (hP0 : va_P D vwCl (cs10 ct a o) s.heap) (hf : p_X10_readRain fu o = some r) (hD0 : va_D (GE G) (cs10 ct a o))  (hl : lv_has ls 2 [(0, .ref (a 0))]) : W p l e rm_X10_readRain s m args below meth c s.heap [] 0 0 (MQ below (Qwr none (fun H => va_P D vwCl (cs10 ct a r) H) (wA (cs10 ct a o))) args s 0 0 (wA (cs10 ct a o))) (F0 m 0 ls []) := by
  generalize hQQ : MQ below (Qwr none (fun H => va_P D vwCl (cs10 ct a r) H) (wA (cs10 ct a o))) args s 0 0 (wA (cs10 ct a o)) = QQ
  have hDx : ∀ (oy : Ob), va_D (GE G) (cs10 ct a oy) := fun oy => D_cr hD0 rfl
  have hDW : ∀ (oy : Ob), va_D (wA (cs10 ct a o)) (cs10 ct a oy) := fun oy => D_cr (D_self hD0) rfl
  have hGE : ∀ q, wA (cs10 ct a o) q → GE G q := wA_GE hD0
  have hP := hP0
  have hS : va_S (wA (cs10 ct a o)) s.heap s.heap [] := va_S.rf
  rw [p_X10_readRain] at hf
  refine lv_bipush (v := 58) hx hb dX10_readRain_0 (by decide) ?_
  refine lv_iconst (v := 2) hx hb dX10_readRain_2 (by decide) ?_
  refine lv_aload_n hx hb dX10_readRain_3 rfl (lv_at hl 0 rfl) ?_
  refine va_get (D := D) (ci := 10) (v := .ref (a 6)) (C := RX10) (T := TX10) (N := 42) hx hb htl inlX10 hown hK hP 0 rfl rfl 14 (by decide) (htl _ wq_7_8) (fun _ h9 => h9) rfl dX10_readRain_4 ?_
  refine lv_iconst (v := 5) hx hb dX10_readRain_7 (by decide) ?_
  obtain ⟨hi_8, hf⟩ := ob_in hf
  refine va_iald (D := D) (tys := tyl ct) hx hb hK hP 6 0 rfl rfl hi_8 dX10_readRain_8 ?_
  refine lv_imul hx hb dX10_readRain_9 ?_
  refine lv_iadd hx hb dX10_readRain_10 ?_
  refine lv_istore_n (lv' := [(1, .int (58 + (2 * ((o.1 14) (5 : Int32).toNatClampNeg)))), (0, .ref (a 0))]) hx hb dX10_readRain_11 rfl hl (by decide) rfl (fun ls hl => ?_)
  refine lv_aload_n hx hb dX10_readRain_12 rfl (lv_at hl 1 rfl) ?_
  refine va_get (D := D) (ci := 10) (v := .ref (a 6)) (C := RX10) (T := TX10) (N := 42) hx hb htl inlX10 hown hK hP 0 rfl rfl 14 (by decide) (htl _ wq_7_8) (fun _ h9 => h9) rfl dX10_readRain_13 ?_
  refine lv_iload_n hx hb dX10_readRain_16 rfl (lv_at hl 0 rfl) ?_
  refine lv_aload_n hx hb dX10_readRain_17 rfl (lv_at hl 1 rfl) ?_
  refine lv_iconst (v := 1) hx hb dX10_readRain_18 (by decide) ?_
  refine lv_bipush (v := 30) hx hb dX10_readRain_19 (by decide) ?_
  obtain ⟨r_21, e_21, hf⟩ := ob_bind hf
  have hPX_21 : va_P D vwCl (cs10 ct a o) s.heap := hP
  refine wr_call1 (va_runV (As := [.int 1, .int 30]) (rest := [.int (58 + (2 * ((o.1 14) (5 : Int32).toNatClampNeg))), .ref (a 6)]) ⟨hx, hb, hml, hown, htl⟩ (c_X10_number l D ct G a fu o (1 : Int32) (30 : Int32) e_21 (hDx o)) (cw_X10_X10_number htl ⟨Nat.le_of_ble_eq_true rfl, Nat.le_of_ble_eq_true rfl⟩) ⟨Bx_blind, va_recv hK hPX_21 (ci := 10) (q0 := 0) rfl rfl, Bx_pre hPX_21 hK hN (hX.stay hS hGE)⟩ rfl rfl hl.1 rfl (lv_room (Nat.le_of_ble_eq_true rfl)) dX10_readRain_21 ⟨Nat.zero_le _, Nat.zero_le _⟩) hS (wA_cg rfl) (fun H_21 locs_21 hB_21 _ hk_21 hS => ?_)
  have hP : va_P D vwCl (cs10 ct a r_21.2) H_21 := hB_21
  obtain ⟨hi_24, hf⟩ := ob_in hf
  refine va_iast (D := D) (tys := tyl ct) hx hb hK hP (hDW r_21.2) hS 6 0 rfl rfl hi_24 dX10_readRain_24 (fun H_24 locs_24 hP _ hS => ?_)
  have hP : va_P D vwCl (cs10 ct a (oA r_21.2 14 (upd (r_21.2.1 14) ((58 + (2 * ((o.1 14) (5 : Int32).toNatClampNeg))).toNatClampNeg) r_21.1))) H_24 := sa10_14 hP
  refine lv_aload_n hx hb dX10_readRain_25 rfl (lv_at hl 1 rfl) ?_
  refine va_get (D := D) (ci := 10) (v := .ref (a 6)) (C := RX10) (T := TX10) (N := 42) hx hb htl inlX10 hown hK hP 0 rfl rfl 14 (by decide) (htl _ wq_7_8) (fun _ h9 => h9) rfl dX10_readRain_26 ?_
  refine lv_iload_n hx hb dX10_readRain_29 rfl (lv_at hl 0 rfl) ?_
  refine lv_iconst (v := 1) hx hb dX10_readRain_30 (by decide) ?_
  refine lv_iadd hx hb dX10_readRain_31 ?_
  refine lv_aload_n hx hb dX10_readRain_32 rfl (lv_at hl 1 rfl) ?_
  refine va_ldcS (index := 194) (tx := "at") (q := G.2.1 1) hx hb hown (hX.2.1 ("QuotedRiverModel", 194, "at", 1) (List.mem_of_getElem? (i := 22) rfl)) dX10_readRain_33 ?_
  refine lv_iconst (v := 0) hx hb dX10_readRain_35 (by decide) ?_
  refine lv_bipush (v := 60) hx hb dX10_readRain_36 (by decide) ?_
  obtain ⟨r_38, e_38, hf⟩ := ob_bind hf
  have hPX_38 : va_P D vwCl (cs10 ct a (oA r_21.2 14 (upd (r_21.2.1 14) ((58 + (2 * ((o.1 14) (5 : Int32).toNatClampNeg))).toNatClampNeg) r_21.1))) H_24 := hP
  refine wr_call1 (va_runV (As := [.ref (G.2.1 1), .int 0, .int 60]) (rest := [.int ((58 + (2 * ((o.1 14) (5 : Int32).toNatClampNeg))) + 1), .ref (a 6)]) ⟨hx, hb, hml, hown, htl⟩ (c_X10_told l D ct G a fu (oA r_21.2 14 (upd (r_21.2.1 14) ((58 + (2 * ((o.1 14) (5 : Int32).toNatClampNeg))).toNatClampNeg) r_21.1)) 1 (0 : Int32) (60 : Int32) e_38 (by decide) (hDx (oA r_21.2 14 (upd (r_21.2.1 14) ((58 + (2 * ((o.1 14) (5 : Int32).toNatClampNeg))).toNatClampNeg) r_21.1)))) (cw_X10_X10_told htl ⟨Nat.le_of_ble_eq_true rfl, Nat.le_of_ble_eq_true rfl⟩) ⟨Bx_blind, va_recv hK hPX_38 (ci := 10) (q0 := 0) rfl rfl, Bx_pre hPX_38 hK hN (hX.stay hS hGE)⟩ rfl rfl hl.1 rfl (lv_room (Nat.le_of_ble_eq_true rfl)) dX10_readRain_38 ⟨Nat.zero_le _, Nat.zero_le _⟩) hS (wA_cg rfl) (fun H_38 locs_38 hB_38 _ hk_38 hS => ?_)
  have hP : va_P D vwCl (cs10 ct a r_38.2) H_38 := hB_38
  obtain ⟨hi_41, hf⟩ := ob_in hf
  refine va_iast (D := D) (tys := tyl ct) hx hb hK hP (hDW r_38.2) hS 6 0 rfl rfl hi_41 dX10_readRain_41 (fun H_41 locs_41 hP _ hS => ?_)
  have hP : va_P D vwCl (cs10 ct a (oA r_38.2 14 (upd (r_38.2.1 14) (((58 + (2 * ((o.1 14) (5 : Int32).toNatClampNeg))) + 1).toNatClampNeg) r_38.1))) H_41 := sa10_14 hP
  refine lv_aload_n hx hb dX10_readRain_42 rfl (lv_at hl 1 rfl) ?_
  refine va_get (D := D) (ci := 10) (v := .ref (a 6)) (C := RX10) (T := TX10) (N := 42) hx hb htl inlX10 hown hK hP 0 rfl rfl 14 (by decide) (htl _ wq_7_8) (fun _ h9 => h9) rfl dX10_readRain_43 ?_
  refine lv_iconst (v := 5) hx hb dX10_readRain_46 (by decide) ?_
  refine lv_dup2_11 hx hb dX10_readRain_47 rfl rfl ?_
  obtain ⟨hi_48, hf⟩ := ob_in hf
  refine va_iald (D := D) (tys := tyl ct) hx hb hK hP 6 0 rfl rfl hi_48 dX10_readRain_48 ?_
  refine lv_iconst (v := 1) hx hb dX10_readRain_49 (by decide) ?_
  refine lv_iadd hx hb dX10_readRain_50 ?_
  obtain ⟨hi_51, hf⟩ := ob_in hf
  refine va_iast (D := D) (tys := tyl ct) hx hb hK hP (hDW (oA r_38.2 14 (upd (r_38.2.1 14) (((58 + (2 * ((o.1 14) (5 : Int32).toNatClampNeg))) + 1).toNatClampNeg) r_38.1))) hS 6 0 rfl rfl hi_51 dX10_readRain_51 (fun H_51 locs_51 hP _ hS => ?_)
  have hP : va_P D vwCl (cs10 ct a (oA (oA r_38.2 14 (upd (r_38.2.1 14) (((58 + (2 * ((o.1 14) (5 : Int32).toNatClampNeg))) + 1).toNatClampNeg) r_38.1)) 14 (upd ((oA r_38.2 14 (upd (r_38.2.1 14) (((58 + (2 * ((o.1 14) (5 : Int32).toNatClampNeg))) + 1).toNatClampNeg) r_38.1)).1 14) ((5 : Int32).toNatClampNeg) ((((oA r_38.2 14 (upd (r_38.2.1 14) (((58 + (2 * ((o.1 14) (5 : Int32).toNatClampNeg))) + 1).toNatClampNeg) r_38.1)).1 14) (5 : Int32).toNatClampNeg) + 1)))) H_51 := sa10_14 hP
  rw [← hQQ]
  cases hf
  exact rw_v hx hb hr hlocks hP hS dX10_readRain_52
theorem c_X10_readRain (l : Launch) (D : va_G) (ct : Nat → ClassId) (G : GT) (a : Nat → Nat) (fu : Nat) (o : Ob) {r : Ob} (hf : p_X10_readRain fu o = some r)  (hD0 : va_D (GE G) (cs10 ct a o)) : Met l yX10_readRain (.code yX10_readRain cX10_readRain 2 none :: wsL_law) rm_X10_readRain (va_Pc [.ref (a 0)] (Bx D ct G (cs10 ct a o))) (Qwr none (fun H => va_P D vwCl (cs10 ct a r) H) (wA (cs10 ct a o))) 0 0 (wA (cs10 ct a o)) := by
  refine Met.ofW (cc := cX10_readRain) (maxL := 2) (ret := none) (by decide) rfl ?_
  intro p e s m args below meth c s₁ B hml hv
  obtain ⟨rfl, hP, hK, hN, hX⟩ := hv
  have hts := atoms_spec (ws := .code yX10_readRain cX10_readRain 2 none :: wsL_law) B.pre
  rw [lg_entry_eq]
  exact b_X10_readRain a fu o B.exec B.bytes B.returns hml (findClass_of_methodNamed B.named) (fun w h => hts w (List.mem_cons_of_mem _ h)) B.notSynchronized hK hN hX hP hf hD0  (lv_entry [.ref (a 0)] (n := 2) (Nat.le_of_ble_eq_true rfl))
theorem hd_X10_readRain : yX10_readRain.cls ≠ "java/lang/invoke/MethodHandle" ∧ yX10_readRain.cls ≠ "java/lang/invoke/VarHandle" ∧ (parseMethodDescriptor yX10_readRain.desc).map (fun d => d.parameters.length) = some 0 := by decide +kernel
theorem cw_X10_X10_readRain {R : Room} {s : State} {args : Array Value} (ht : ∀ w ∈ wsL_law, w.before args s = true) (hR : rm_X10_readRain.frames + 1 ≤ R.frames ∧ 8 + (2 + 11) + rm_X10_readRain.locals ≤ R.locals) : CallW R s args RX10 RX10 207 yX10_readRain cX10_readRain 2 none ((.code yX10_readRain cX10_readRain 2 none) :: wsL_law) rm_X10_readRain 0 0 0 := cwV 0 ht (GV wq_19_8 wq_19_9 wq_19_10 wq_1_5 wq_19_11) rfl rfl rfl ⟨rfl, hd_X10_readRain⟩ hR
theorem hd_X10_readJoin : yX10_readJoin.cls ≠ "java/lang/invoke/MethodHandle" ∧ yX10_readJoin.cls ≠ "java/lang/invoke/VarHandle" ∧ (parseMethodDescriptor yX10_readJoin.desc).map (fun d => d.parameters.length) = some 0 := by decide +kernel
theorem cw_X10_X10_readJoin {R : Room} {s : State} {args : Array Value} (ht : ∀ w ∈ wsL_law, w.before args s = true) (hR : rm_X10_readJoin.frames + 1 ≤ R.frames ∧ 8 + (2 + 11) + rm_X10_readJoin.locals ≤ R.locals) : CallW R s args RX10 RX10 204 yX10_readJoin cX10_readJoin 2 none ((.code yX10_readJoin cX10_readJoin 2 none) :: wsL_law) rm_X10_readJoin 0 0 0 := cwV 0 ht (GV wq_19_4 wq_19_5 wq_19_6 wq_1_5 wq_19_7) rfl rfl rfl ⟨rfl, hd_X10_readJoin⟩ hR
theorem hd_X10_readReach : yX10_readReach.cls ≠ "java/lang/invoke/MethodHandle" ∧ yX10_readReach.cls ≠ "java/lang/invoke/VarHandle" ∧ (parseMethodDescriptor yX10_readReach.desc).map (fun d => d.parameters.length) = some 0 := by decide +kernel
theorem cw_X10_X10_readReach {R : Room} {s : State} {args : Array Value} (ht : ∀ w ∈ wsL_law, w.before args s = true) (hR : rm_X10_readReach.frames + 1 ≤ R.frames ∧ 8 + (3 + 11) + rm_X10_readReach.locals ≤ R.locals) : CallW R s args RX10 RX10 201 yX10_readReach cX10_readReach 3 none ((.code yX10_readReach cX10_readReach 3 none) :: wsL_law) rm_X10_readReach 0 0 0 := cwV 0 ht (GV wq_19_0 wq_19_1 wq_19_2 wq_1_5 wq_19_3) rfl rfl rfl ⟨rfl, hd_X10_readReach⟩ hR
def p_X10_readNext_J105 (fu : Nat)  (oz : Ob) : Option (Ob) :=
    (p_X10_good fu oz).bind fun r_106 => if r_106 = 0 then some oz else (p_X10_takes fu oz 8).bind fun r_116 => if r_116.1 = 0 then (p_X10_takes fu r_116.2 4).bind fun r_132 => if r_132.1 = 0 then (p_X10_advance fu r_132.2).bind fun r_146 => (p_X10_readRain fu r_146).bind fun r_150 => some r_150 else (p_X10_readJoin fu r_132.2).bind fun r_139 => some r_139 else (p_X10_readReach fu r_116.2).bind fun r_123 => some r_123
def p_X10_readNext_J81 (fu : Nat)  (oz : Ob) : Option (Ob) :=
    (p_X10_is fu oz 6).bind fun r_84 => if r_84 = 0 then p_X10_readNext_J105 fu oz else if inb (5 : Int32) 98 = true then if ((oz.1 14) (5 : Int32).toNatClampNeg) = (5 : Int32) then (p_X10_errs fu oz (3 : Int32)).bind fun r_102 => p_X10_readNext_J105 fu r_102 else p_X10_readNext_J105 fu oz else none
def p_X10_readNext_J57 (fu : Nat)  (oz : Ob) : Option (Ob) :=
    (p_X10_is fu oz 4).bind fun r_60 => if r_60 = 0 then p_X10_readNext_J81 fu oz else if inb (4 : Int32) 98 = true then if ((oz.1 14) (4 : Int32).toNatClampNeg) = (5 : Int32) then (p_X10_errs fu oz (3 : Int32)).bind fun r_78 => p_X10_readNext_J81 fu r_78 else p_X10_readNext_J81 fu oz else none
def p_X10_readNext_J32 (fu : Nat)  (oz : Ob) : Option (Ob) :=
    (p_X10_is fu oz 8).bind fun r_35 => if r_35 = 0 then p_X10_readNext_J57 fu oz else if inb (3 : Int32) 98 = true then if ((oz.1 14) (3 : Int32).toNatClampNeg) = (10 : Int32) then (p_X10_errs fu oz (3 : Int32)).bind fun r_54 => p_X10_readNext_J57 fu r_54 else p_X10_readNext_J57 fu oz else none
def p_X10_readNext (fu : Nat) (o : Ob) : Option (Ob) :=
  (p_X10_is fu o 8).bind fun r_3 => if r_3 = 0 then (p_X10_is fu o 4).bind fun r_12 => if r_12 = 0 then (p_X10_is fu o 6).bind fun r_21 => if r_21 = 0 then (p_X10_errs fu o (1 : Int32)).bind fun r_29 => p_X10_readNext_J32 fu r_29 else p_X10_readNext_J32 fu o else p_X10_readNext_J32 fu o else p_X10_readNext_J32 fu o
abbrev rm_X10_readNext : Room := { frames := 9, cells := 0, slots := 0, locals := 196 }
set_option maxHeartbeats 4000000 in
set_option maxRecDepth 100000 in
theorem b_X10_readNext {p : Program} {l : Launch} {e : Env} {s : State} {m : MethodId} {args : Array Value} {below : List Frame} {meth : Method} {c : Code} {ls : Array Slot} {D : va_G} {ct : Nat → ClassId} {G : GT} (a : Nat → Nat) (fu : Nat) (o : Ob) {r : Ob} (hx : p.tables.exec = Jvm.exec) (hb : c.code = cX10_readNext) (hr : meth.sig.returnType = none) (hml : c.maxLocals = 1) (hown : s.vm.findClass RX10 = some m.cls) (htl : ∀ w ∈ wsL_law, w.before args s = true) (hlocks : meth.locks = false) (hK : va_K D vwCl (tyl ct) s) (hN : ∀ w ∈ NW, va_Nw w s) (hX : SX G s s.heap) (hP0 : va_P D vwCl (cs10 ct a o) s.heap) (hf : p_X10_readNext fu o = some r) (hD0 : va_D (GE G) (cs10 ct a o))  (hl : lv_has ls 1 [(0, .ref (a 0))]) : W p l e rm_X10_readNext s m args below meth c s.heap [] 0 0 (MQ below (Qwr none (fun H => va_P D vwCl (cs10 ct a r) H) (wA (cs10 ct a o))) args s 0 0 (wA (cs10 ct a o))) (F0 m 0 ls []) := by
  generalize hQQ : MQ below (Qwr none (fun H => va_P D vwCl (cs10 ct a r) H) (wA (cs10 ct a o))) args s 0 0 (wA (cs10 ct a o)) = QQ
  have hDx : ∀ (oy : Ob), va_D (GE G) (cs10 ct a oy) := fun oy => D_cr hD0 rfl
  have hDW : ∀ (oy : Ob), va_D (wA (cs10 ct a o)) (cs10 ct a oy) := fun oy => D_cr (D_self hD0) rfl
  have hGE : ∀ q, wA (cs10 ct a o) q → GE G q := wA_GE hD0
  have hP := hP0
  have hS : va_S (wA (cs10 ct a o)) s.heap s.heap [] := va_S.rf
  have hJ105 : ∀ (oz : Ob), ∀ (H : Heap) (locs : List Loc) (ls : Array Slot), va_P D vwCl (cs10 ct a oz) H → va_S (wA (cs10 ct a o)) s.heap H locs → lv_has ls 1 [(0, .ref (a 0))] → p_X10_readNext_J105 fu  oz = some r → W p l e rm_X10_readNext s m args below meth c H locs 0 0 QQ (F0 m 105 ls []) := by
    intro  oz H locs ls hP hS hl hf 
    rw [p_X10_readNext_J105] at hf
    refine lv_aload_n hx hb dX10_readNext_105 rfl (lv_at hl 0 rfl) ?_
    obtain ⟨r_106, e_106, hf⟩ := ob_bind hf
    have hPX_106 : va_P D vwCl (cs10 ct a oz) H := hP
    refine ro_call1 (va_runV (As := []) (rest := []) ⟨hx, hb, hml, hown, htl⟩ (c_X10_good l D ct G a fu oz e_106) (cw_X10_X10_good htl ⟨Nat.le_of_ble_eq_true rfl, Nat.le_of_ble_eq_true rfl⟩) ⟨Bx_blind, va_recv hK hPX_106 (ci := 10) (q0 := 0) rfl rfl, Bx_pre hPX_106 hK hN (hX.stay hS hGE)⟩ rfl rfl hl.1 rfl (lv_room (Nat.le_of_ble_eq_true rfl)) dX10_readNext_106 ⟨Nat.zero_le _, Nat.zero_le _⟩) ?_
    refine lv_if_ne (tgt := 113) hx hb dX10_readNext_109 (by decide) (fun c_109 => ?_) (fun c_109 => ?_)
    rotate_left 1
    · rw [if_pos c_109] at hf
      rw [← hQQ]
      cases hf
      exact rw_v hx hb hr hlocks hP hS dX10_readNext_112
    rw [if_neg c_109] at hf
    refine lv_aload_n hx hb dX10_readNext_113 rfl (lv_at hl 0 rfl) ?_
    refine va_ldcS (index := 195) (tx := "reach") (q := G.2.1 8) hx hb hown (hX.2.1 ("QuotedRiverModel", 195, "reach", 8) (List.mem_of_getElem? (i := 23) rfl)) dX10_readNext_114 ?_
    obtain ⟨r_116, e_116, hf⟩ := ob_bind hf
    have hPX_116 : va_P D vwCl (cs10 ct a oz) H := hP
    refine wr_call1 (va_runV (As := [.ref (G.2.1 8)]) (rest := []) ⟨hx, hb, hml, hown, htl⟩ (c_X10_takes l D ct G a fu oz 8 e_116 (by decide) (hDx oz)) (cw_X10_X10_takes htl ⟨Nat.le_of_ble_eq_true rfl, Nat.le_of_ble_eq_true rfl⟩) ⟨Bx_blind, va_recv hK hPX_116 (ci := 10) (q0 := 0) rfl rfl, Bx_pre hPX_116 hK hN (hX.stay hS hGE)⟩ rfl rfl hl.1 rfl (lv_room (Nat.le_of_ble_eq_true rfl)) dX10_readNext_116 ⟨Nat.zero_le _, Nat.zero_le _⟩) hS (wA_cg rfl) (fun H_116 locs_116 hB_116 _ hk_116 hS => ?_)
    have hP : va_P D vwCl (cs10 ct a r_116.2) H_116 := hB_116
    refine lv_if_eq (tgt := 129) hx hb dX10_readNext_119 (by decide) (fun c_119 => ?_) (fun c_119 => ?_)
    rotate_left 1
    · rw [if_neg c_119] at hf
      refine lv_aload_n hx hb dX10_readNext_122 rfl (lv_at hl 0 rfl) ?_
      obtain ⟨r_123, e_123, hf⟩ := ob_bind hf
      have hPX_123 : va_P D vwCl (cs10 ct a r_116.2) H_116 := hP
      refine wr_call0 (va_runV (As := []) (rest := []) ⟨hx, hb, hml, hown, htl⟩ (c_X10_readReach l D ct G a fu r_116.2 e_123 (hDx r_116.2)) (cw_X10_X10_readReach htl ⟨Nat.le_of_ble_eq_true rfl, Nat.le_of_ble_eq_true rfl⟩) ⟨Bx_blind, va_recv hK hPX_123 (ci := 10) (q0 := 0) rfl rfl, Bx_pre hPX_123 hK hN (hX.stay hS hGE)⟩ rfl rfl hl.1 rfl (lv_room (Nat.le_of_ble_eq_true rfl)) dX10_readNext_123 ⟨Nat.zero_le _, Nat.zero_le _⟩) hS (wA_cg rfl) (fun H_123 locs_123 hB_123 _ hk_123 hS => ?_)
      have hP : va_P D vwCl (cs10 ct a r_123) H_123 := hB_123
      refine lv_goto (tgt := 153) hx hb dX10_readNext_126 (by decide) ?_
      rw [← hQQ]
      cases hf
      exact rw_v hx hb hr hlocks hP hS dX10_readNext_153
    rw [if_pos c_119] at hf
    refine lv_aload_n hx hb dX10_readNext_129 rfl (lv_at hl 0 rfl) ?_
    refine va_ldcS (index := 197) (tx := "join") (q := G.2.1 4) hx hb hown (hX.2.1 ("QuotedRiverModel", 197, "join", 4) (List.mem_of_getElem? (i := 24) rfl)) dX10_readNext_130 ?_
    obtain ⟨r_132, e_132, hf⟩ := ob_bind hf
    have hPX_132 : va_P D vwCl (cs10 ct a r_116.2) H_116 := hP
    refine wr_call1 (va_runV (As := [.ref (G.2.1 4)]) (rest := []) ⟨hx, hb, hml, hown, htl⟩ (c_X10_takes l D ct G a fu r_116.2 4 e_132 (by decide) (hDx r_116.2)) (cw_X10_X10_takes htl ⟨Nat.le_of_ble_eq_true rfl, Nat.le_of_ble_eq_true rfl⟩) ⟨Bx_blind, va_recv hK hPX_132 (ci := 10) (q0 := 0) rfl rfl, Bx_pre hPX_132 hK hN (hX.stay hS hGE)⟩ rfl rfl hl.1 rfl (lv_room (Nat.le_of_ble_eq_true rfl)) dX10_readNext_132 ⟨Nat.zero_le _, Nat.zero_le _⟩) hS (wA_cg rfl) (fun H_132 locs_132 hB_132 _ hk_132 hS => ?_)
    have hP : va_P D vwCl (cs10 ct a r_132.2) H_132 := hB_132
    refine lv_if_eq (tgt := 145) hx hb dX10_readNext_135 (by decide) (fun c_135 => ?_) (fun c_135 => ?_)
    rotate_left 1
    · rw [if_neg c_135] at hf
      refine lv_aload_n hx hb dX10_readNext_138 rfl (lv_at hl 0 rfl) ?_
      obtain ⟨r_139, e_139, hf⟩ := ob_bind hf
      have hPX_139 : va_P D vwCl (cs10 ct a r_132.2) H_132 := hP
      refine wr_call0 (va_runV (As := []) (rest := []) ⟨hx, hb, hml, hown, htl⟩ (c_X10_readJoin l D ct G a fu r_132.2 e_139 (hDx r_132.2)) (cw_X10_X10_readJoin htl ⟨Nat.le_of_ble_eq_true rfl, Nat.le_of_ble_eq_true rfl⟩) ⟨Bx_blind, va_recv hK hPX_139 (ci := 10) (q0 := 0) rfl rfl, Bx_pre hPX_139 hK hN (hX.stay hS hGE)⟩ rfl rfl hl.1 rfl (lv_room (Nat.le_of_ble_eq_true rfl)) dX10_readNext_139 ⟨Nat.zero_le _, Nat.zero_le _⟩) hS (wA_cg rfl) (fun H_139 locs_139 hB_139 _ hk_139 hS => ?_)
      have hP : va_P D vwCl (cs10 ct a r_139) H_139 := hB_139
      refine lv_goto (tgt := 153) hx hb dX10_readNext_142 (by decide) ?_
      rw [← hQQ]
      cases hf
      exact rw_v hx hb hr hlocks hP hS dX10_readNext_153
    rw [if_pos c_135] at hf
    refine lv_aload_n hx hb dX10_readNext_145 rfl (lv_at hl 0 rfl) ?_
    obtain ⟨r_146, e_146, hf⟩ := ob_bind hf
    have hPX_146 : va_P D vwCl (cs10 ct a r_132.2) H_132 := hP
    refine wr_call0 (va_runV (As := []) (rest := []) ⟨hx, hb, hml, hown, htl⟩ (c_X10_advance l D ct G a fu r_132.2 e_146 (hDx r_132.2)) (cw_X10_X10_advance htl ⟨Nat.le_of_ble_eq_true rfl, Nat.le_of_ble_eq_true rfl⟩) ⟨Bx_blind, va_recv hK hPX_146 (ci := 10) (q0 := 0) rfl rfl, Bx_pre hPX_146 hK hN (hX.stay hS hGE)⟩ rfl rfl hl.1 rfl (lv_room (Nat.le_of_ble_eq_true rfl)) dX10_readNext_146 ⟨Nat.zero_le _, Nat.zero_le _⟩) hS (wA_cg rfl) (fun H_146 locs_146 hB_146 _ hk_146 hS => ?_)
    have hP : va_P D vwCl (cs10 ct a r_146) H_146 := hB_146
    refine lv_aload_n hx hb dX10_readNext_149 rfl (lv_at hl 0 rfl) ?_
    obtain ⟨r_150, e_150, hf⟩ := ob_bind hf
    have hPX_150 : va_P D vwCl (cs10 ct a r_146) H_146 := hP
    refine wr_call0 (va_runV (As := []) (rest := []) ⟨hx, hb, hml, hown, htl⟩ (c_X10_readRain l D ct G a fu r_146 e_150 (hDx r_146)) (cw_X10_X10_readRain htl ⟨Nat.le_of_ble_eq_true rfl, Nat.le_of_ble_eq_true rfl⟩) ⟨Bx_blind, va_recv hK hPX_150 (ci := 10) (q0 := 0) rfl rfl, Bx_pre hPX_150 hK hN (hX.stay hS hGE)⟩ rfl rfl hl.1 rfl (lv_room (Nat.le_of_ble_eq_true rfl)) dX10_readNext_150 ⟨Nat.zero_le _, Nat.zero_le _⟩) hS (wA_cg rfl) (fun H_150 locs_150 hB_150 _ hk_150 hS => ?_)
    have hP : va_P D vwCl (cs10 ct a r_150) H_150 := hB_150
    rw [← hQQ]
    cases hf
    exact rw_v hx hb hr hlocks hP hS dX10_readNext_153
  have hJ81 : ∀ (oz : Ob), ∀ (H : Heap) (locs : List Loc) (ls : Array Slot), va_P D vwCl (cs10 ct a oz) H → va_S (wA (cs10 ct a o)) s.heap H locs → lv_has ls 1 [(0, .ref (a 0))] → p_X10_readNext_J81 fu  oz = some r → W p l e rm_X10_readNext s m args below meth c H locs 0 0 QQ (F0 m 81 ls []) := by
    intro  oz H locs ls hP hS hl hf 
    rw [p_X10_readNext_J81] at hf
    refine lv_aload_n hx hb dX10_readNext_81 rfl (lv_at hl 0 rfl) ?_
    refine va_ldcS (index := 199) (tx := "rain") (q := G.2.1 6) hx hb hown (hX.2.1 ("QuotedRiverModel", 199, "rain", 6) (List.mem_of_getElem? (i := 25) rfl)) dX10_readNext_82 ?_
    obtain ⟨r_84, e_84, hf⟩ := ob_bind hf
    have hPX_84 : va_P D vwCl (cs10 ct a oz) H := hP
    refine ro_call1 (va_runV (As := [.ref (G.2.1 6)]) (rest := []) ⟨hx, hb, hml, hown, htl⟩ (c_X10_is l D ct G a fu oz 6 e_84 (by decide)) (cw_X10_X10_is htl ⟨Nat.le_of_ble_eq_true rfl, Nat.le_of_ble_eq_true rfl⟩) ⟨Bx_blind, va_recv hK hPX_84 (ci := 10) (q0 := 0) rfl rfl, Bx_pre hPX_84 hK hN (hX.stay hS hGE)⟩ rfl rfl hl.1 rfl (lv_room (Nat.le_of_ble_eq_true rfl)) dX10_readNext_84 ⟨Nat.zero_le _, Nat.zero_le _⟩) ?_
    refine lv_if_eq (tgt := 105) hx hb dX10_readNext_87 (by decide) (fun c_87 => ?_) (fun c_87 => ?_)
    · rw [if_pos c_87] at hf
      exact hJ105 oz _ _ _ hP hS (lv_sub hl [0] rfl) hf 
    rw [if_neg c_87] at hf
    refine lv_aload_n hx hb dX10_readNext_90 rfl (lv_at hl 0 rfl) ?_
    refine va_get (D := D) (ci := 10) (v := .ref (a 6)) (C := RX10) (T := TX10) (N := 42) hx hb htl inlX10 hown hK hP 0 rfl rfl 14 (by decide) (htl _ wq_7_8) (fun _ h9 => h9) rfl dX10_readNext_91 ?_
    refine lv_iconst (v := 5) hx hb dX10_readNext_94 (by decide) ?_
    obtain ⟨hi_95, hf⟩ := ob_in hf
    refine va_iald (D := D) (tys := tyl ct) hx hb hK hP 6 0 rfl rfl hi_95 dX10_readNext_95 ?_
    refine lv_iconst (v := 5) hx hb dX10_readNext_96 (by decide) ?_
    refine lv_icmp_ne (tgt := 105) hx hb dX10_readNext_97 (by decide) (fun c_97 => ?_) (fun c_97 => ?_)
    · rw [if_neg c_97] at hf
      exact hJ105 oz _ _ _ hP hS (lv_sub hl [0] rfl) hf 
    rw [if_pos c_97] at hf
    refine lv_aload_n hx hb dX10_readNext_100 rfl (lv_at hl 0 rfl) ?_
    refine lv_iconst (v := 3) hx hb dX10_readNext_101 (by decide) ?_
    obtain ⟨r_102, e_102, hf⟩ := ob_bind hf
    have hPX_102 : va_P D vwCl (cs10 ct a oz) H := hP
    refine wr_call0 (va_runV (As := [.int 3]) (rest := []) ⟨hx, hb, hml, hown, htl⟩ (c_X10_errs l D ct G a fu oz (3 : Int32) e_102 (hDx oz)) (cw_X10_X10_errs htl ⟨Nat.le_of_ble_eq_true rfl, Nat.le_of_ble_eq_true rfl⟩) ⟨Bx_blind, va_recv hK hPX_102 (ci := 10) (q0 := 0) rfl rfl, Bx_pre hPX_102 hK hN (hX.stay hS hGE)⟩ rfl rfl hl.1 rfl (lv_room (Nat.le_of_ble_eq_true rfl)) dX10_readNext_102 ⟨Nat.zero_le _, Nat.zero_le _⟩) hS (wA_cg rfl) (fun H_102 locs_102 hB_102 _ hk_102 hS => ?_)
    have hP : va_P D vwCl (cs10 ct a r_102) H_102 := hB_102
    exact hJ105 r_102 _ _ _ hP hS (lv_sub hl [0] rfl) hf 
  have hJ57 : ∀ (oz : Ob), ∀ (H : Heap) (locs : List Loc) (ls : Array Slot), va_P D vwCl (cs10 ct a oz) H → va_S (wA (cs10 ct a o)) s.heap H locs → lv_has ls 1 [(0, .ref (a 0))] → p_X10_readNext_J57 fu  oz = some r → W p l e rm_X10_readNext s m args below meth c H locs 0 0 QQ (F0 m 57 ls []) := by
    intro  oz H locs ls hP hS hl hf 
    rw [p_X10_readNext_J57] at hf
    refine lv_aload_n hx hb dX10_readNext_57 rfl (lv_at hl 0 rfl) ?_
    refine va_ldcS (index := 197) (tx := "join") (q := G.2.1 4) hx hb hown (hX.2.1 ("QuotedRiverModel", 197, "join", 4) (List.mem_of_getElem? (i := 24) rfl)) dX10_readNext_58 ?_
    obtain ⟨r_60, e_60, hf⟩ := ob_bind hf
    have hPX_60 : va_P D vwCl (cs10 ct a oz) H := hP
    refine ro_call1 (va_runV (As := [.ref (G.2.1 4)]) (rest := []) ⟨hx, hb, hml, hown, htl⟩ (c_X10_is l D ct G a fu oz 4 e_60 (by decide)) (cw_X10_X10_is htl ⟨Nat.le_of_ble_eq_true rfl, Nat.le_of_ble_eq_true rfl⟩) ⟨Bx_blind, va_recv hK hPX_60 (ci := 10) (q0 := 0) rfl rfl, Bx_pre hPX_60 hK hN (hX.stay hS hGE)⟩ rfl rfl hl.1 rfl (lv_room (Nat.le_of_ble_eq_true rfl)) dX10_readNext_60 ⟨Nat.zero_le _, Nat.zero_le _⟩) ?_
    refine lv_if_eq (tgt := 81) hx hb dX10_readNext_63 (by decide) (fun c_63 => ?_) (fun c_63 => ?_)
    · rw [if_pos c_63] at hf
      exact hJ81 oz _ _ _ hP hS (lv_sub hl [0] rfl) hf 
    rw [if_neg c_63] at hf
    refine lv_aload_n hx hb dX10_readNext_66 rfl (lv_at hl 0 rfl) ?_
    refine va_get (D := D) (ci := 10) (v := .ref (a 6)) (C := RX10) (T := TX10) (N := 42) hx hb htl inlX10 hown hK hP 0 rfl rfl 14 (by decide) (htl _ wq_7_8) (fun _ h9 => h9) rfl dX10_readNext_67 ?_
    refine lv_iconst (v := 4) hx hb dX10_readNext_70 (by decide) ?_
    obtain ⟨hi_71, hf⟩ := ob_in hf
    refine va_iald (D := D) (tys := tyl ct) hx hb hK hP 6 0 rfl rfl hi_71 dX10_readNext_71 ?_
    refine lv_iconst (v := 5) hx hb dX10_readNext_72 (by decide) ?_
    refine lv_icmp_ne (tgt := 81) hx hb dX10_readNext_73 (by decide) (fun c_73 => ?_) (fun c_73 => ?_)
    · rw [if_neg c_73] at hf
      exact hJ81 oz _ _ _ hP hS (lv_sub hl [0] rfl) hf 
    rw [if_pos c_73] at hf
    refine lv_aload_n hx hb dX10_readNext_76 rfl (lv_at hl 0 rfl) ?_
    refine lv_iconst (v := 3) hx hb dX10_readNext_77 (by decide) ?_
    obtain ⟨r_78, e_78, hf⟩ := ob_bind hf
    have hPX_78 : va_P D vwCl (cs10 ct a oz) H := hP
    refine wr_call0 (va_runV (As := [.int 3]) (rest := []) ⟨hx, hb, hml, hown, htl⟩ (c_X10_errs l D ct G a fu oz (3 : Int32) e_78 (hDx oz)) (cw_X10_X10_errs htl ⟨Nat.le_of_ble_eq_true rfl, Nat.le_of_ble_eq_true rfl⟩) ⟨Bx_blind, va_recv hK hPX_78 (ci := 10) (q0 := 0) rfl rfl, Bx_pre hPX_78 hK hN (hX.stay hS hGE)⟩ rfl rfl hl.1 rfl (lv_room (Nat.le_of_ble_eq_true rfl)) dX10_readNext_78 ⟨Nat.zero_le _, Nat.zero_le _⟩) hS (wA_cg rfl) (fun H_78 locs_78 hB_78 _ hk_78 hS => ?_)
    have hP : va_P D vwCl (cs10 ct a r_78) H_78 := hB_78
    exact hJ81 r_78 _ _ _ hP hS (lv_sub hl [0] rfl) hf 
  have hJ32 : ∀ (oz : Ob), ∀ (H : Heap) (locs : List Loc) (ls : Array Slot), va_P D vwCl (cs10 ct a oz) H → va_S (wA (cs10 ct a o)) s.heap H locs → lv_has ls 1 [(0, .ref (a 0))] → p_X10_readNext_J32 fu  oz = some r → W p l e rm_X10_readNext s m args below meth c H locs 0 0 QQ (F0 m 32 ls []) := by
    intro  oz H locs ls hP hS hl hf 
    rw [p_X10_readNext_J32] at hf
    refine lv_aload_n hx hb dX10_readNext_32 rfl (lv_at hl 0 rfl) ?_
    refine va_ldcS (index := 195) (tx := "reach") (q := G.2.1 8) hx hb hown (hX.2.1 ("QuotedRiverModel", 195, "reach", 8) (List.mem_of_getElem? (i := 23) rfl)) dX10_readNext_33 ?_
    obtain ⟨r_35, e_35, hf⟩ := ob_bind hf
    have hPX_35 : va_P D vwCl (cs10 ct a oz) H := hP
    refine ro_call1 (va_runV (As := [.ref (G.2.1 8)]) (rest := []) ⟨hx, hb, hml, hown, htl⟩ (c_X10_is l D ct G a fu oz 8 e_35 (by decide)) (cw_X10_X10_is htl ⟨Nat.le_of_ble_eq_true rfl, Nat.le_of_ble_eq_true rfl⟩) ⟨Bx_blind, va_recv hK hPX_35 (ci := 10) (q0 := 0) rfl rfl, Bx_pre hPX_35 hK hN (hX.stay hS hGE)⟩ rfl rfl hl.1 rfl (lv_room (Nat.le_of_ble_eq_true rfl)) dX10_readNext_35 ⟨Nat.zero_le _, Nat.zero_le _⟩) ?_
    refine lv_if_eq (tgt := 57) hx hb dX10_readNext_38 (by decide) (fun c_38 => ?_) (fun c_38 => ?_)
    · rw [if_pos c_38] at hf
      exact hJ57 oz _ _ _ hP hS (lv_sub hl [0] rfl) hf 
    rw [if_neg c_38] at hf
    refine lv_aload_n hx hb dX10_readNext_41 rfl (lv_at hl 0 rfl) ?_
    refine va_get (D := D) (ci := 10) (v := .ref (a 6)) (C := RX10) (T := TX10) (N := 42) hx hb htl inlX10 hown hK hP 0 rfl rfl 14 (by decide) (htl _ wq_7_8) (fun _ h9 => h9) rfl dX10_readNext_42 ?_
    refine lv_iconst (v := 3) hx hb dX10_readNext_45 (by decide) ?_
    obtain ⟨hi_46, hf⟩ := ob_in hf
    refine va_iald (D := D) (tys := tyl ct) hx hb hK hP 6 0 rfl rfl hi_46 dX10_readNext_46 ?_
    refine lv_bipush (v := 10) hx hb dX10_readNext_47 (by decide) ?_
    refine lv_icmp_ne (tgt := 57) hx hb dX10_readNext_49 (by decide) (fun c_49 => ?_) (fun c_49 => ?_)
    · rw [if_neg c_49] at hf
      exact hJ57 oz _ _ _ hP hS (lv_sub hl [0] rfl) hf 
    rw [if_pos c_49] at hf
    refine lv_aload_n hx hb dX10_readNext_52 rfl (lv_at hl 0 rfl) ?_
    refine lv_iconst (v := 3) hx hb dX10_readNext_53 (by decide) ?_
    obtain ⟨r_54, e_54, hf⟩ := ob_bind hf
    have hPX_54 : va_P D vwCl (cs10 ct a oz) H := hP
    refine wr_call0 (va_runV (As := [.int 3]) (rest := []) ⟨hx, hb, hml, hown, htl⟩ (c_X10_errs l D ct G a fu oz (3 : Int32) e_54 (hDx oz)) (cw_X10_X10_errs htl ⟨Nat.le_of_ble_eq_true rfl, Nat.le_of_ble_eq_true rfl⟩) ⟨Bx_blind, va_recv hK hPX_54 (ci := 10) (q0 := 0) rfl rfl, Bx_pre hPX_54 hK hN (hX.stay hS hGE)⟩ rfl rfl hl.1 rfl (lv_room (Nat.le_of_ble_eq_true rfl)) dX10_readNext_54 ⟨Nat.zero_le _, Nat.zero_le _⟩) hS (wA_cg rfl) (fun H_54 locs_54 hB_54 _ hk_54 hS => ?_)
    have hP : va_P D vwCl (cs10 ct a r_54) H_54 := hB_54
    exact hJ57 r_54 _ _ _ hP hS (lv_sub hl [0] rfl) hf 
  rw [p_X10_readNext] at hf
  refine lv_aload_n hx hb dX10_readNext_0 rfl (lv_at hl 0 rfl) ?_
  refine va_ldcS (index := 195) (tx := "reach") (q := G.2.1 8) hx hb hown (hX.2.1 ("QuotedRiverModel", 195, "reach", 8) (List.mem_of_getElem? (i := 23) rfl)) dX10_readNext_1 ?_
  obtain ⟨r_3, e_3, hf⟩ := ob_bind hf
  have hPX_3 : va_P D vwCl (cs10 ct a o) s.heap := hP
  refine ro_call1 (va_runV (As := [.ref (G.2.1 8)]) (rest := []) ⟨hx, hb, hml, hown, htl⟩ (c_X10_is l D ct G a fu o 8 e_3 (by decide)) (cw_X10_X10_is htl ⟨Nat.le_of_ble_eq_true rfl, Nat.le_of_ble_eq_true rfl⟩) ⟨Bx_blind, va_recv hK hPX_3 (ci := 10) (q0 := 0) rfl rfl, Bx_pre hPX_3 hK hN (hX.stay hS hGE)⟩ rfl rfl hl.1 rfl (lv_room (Nat.le_of_ble_eq_true rfl)) dX10_readNext_3 ⟨Nat.zero_le _, Nat.zero_le _⟩) ?_
  refine lv_if_ne (tgt := 32) hx hb dX10_readNext_6 (by decide) (fun c_6 => ?_) (fun c_6 => ?_)
  · rw [if_neg c_6] at hf
    exact hJ32 o _ _ _ hP hS (lv_sub hl [0] rfl) hf 
  rw [if_pos c_6] at hf
  refine lv_aload_n hx hb dX10_readNext_9 rfl (lv_at hl 0 rfl) ?_
  refine va_ldcS (index := 197) (tx := "join") (q := G.2.1 4) hx hb hown (hX.2.1 ("QuotedRiverModel", 197, "join", 4) (List.mem_of_getElem? (i := 24) rfl)) dX10_readNext_10 ?_
  obtain ⟨r_12, e_12, hf⟩ := ob_bind hf
  have hPX_12 : va_P D vwCl (cs10 ct a o) s.heap := hP
  refine ro_call1 (va_runV (As := [.ref (G.2.1 4)]) (rest := []) ⟨hx, hb, hml, hown, htl⟩ (c_X10_is l D ct G a fu o 4 e_12 (by decide)) (cw_X10_X10_is htl ⟨Nat.le_of_ble_eq_true rfl, Nat.le_of_ble_eq_true rfl⟩) ⟨Bx_blind, va_recv hK hPX_12 (ci := 10) (q0 := 0) rfl rfl, Bx_pre hPX_12 hK hN (hX.stay hS hGE)⟩ rfl rfl hl.1 rfl (lv_room (Nat.le_of_ble_eq_true rfl)) dX10_readNext_12 ⟨Nat.zero_le _, Nat.zero_le _⟩) ?_
  refine lv_if_ne (tgt := 32) hx hb dX10_readNext_15 (by decide) (fun c_15 => ?_) (fun c_15 => ?_)
  · rw [if_neg c_15] at hf
    exact hJ32 o _ _ _ hP hS (lv_sub hl [0] rfl) hf 
  rw [if_pos c_15] at hf
  refine lv_aload_n hx hb dX10_readNext_18 rfl (lv_at hl 0 rfl) ?_
  refine va_ldcS (index := 199) (tx := "rain") (q := G.2.1 6) hx hb hown (hX.2.1 ("QuotedRiverModel", 199, "rain", 6) (List.mem_of_getElem? (i := 25) rfl)) dX10_readNext_19 ?_
  obtain ⟨r_21, e_21, hf⟩ := ob_bind hf
  have hPX_21 : va_P D vwCl (cs10 ct a o) s.heap := hP
  refine ro_call1 (va_runV (As := [.ref (G.2.1 6)]) (rest := []) ⟨hx, hb, hml, hown, htl⟩ (c_X10_is l D ct G a fu o 6 e_21 (by decide)) (cw_X10_X10_is htl ⟨Nat.le_of_ble_eq_true rfl, Nat.le_of_ble_eq_true rfl⟩) ⟨Bx_blind, va_recv hK hPX_21 (ci := 10) (q0 := 0) rfl rfl, Bx_pre hPX_21 hK hN (hX.stay hS hGE)⟩ rfl rfl hl.1 rfl (lv_room (Nat.le_of_ble_eq_true rfl)) dX10_readNext_21 ⟨Nat.zero_le _, Nat.zero_le _⟩) ?_
  refine lv_if_ne (tgt := 32) hx hb dX10_readNext_24 (by decide) (fun c_24 => ?_) (fun c_24 => ?_)
  · rw [if_neg c_24] at hf
    exact hJ32 o _ _ _ hP hS (lv_sub hl [0] rfl) hf 
  rw [if_pos c_24] at hf
  refine lv_aload_n hx hb dX10_readNext_27 rfl (lv_at hl 0 rfl) ?_
  refine lv_iconst (v := 1) hx hb dX10_readNext_28 (by decide) ?_
  obtain ⟨r_29, e_29, hf⟩ := ob_bind hf
  have hPX_29 : va_P D vwCl (cs10 ct a o) s.heap := hP
  refine wr_call0 (va_runV (As := [.int 1]) (rest := []) ⟨hx, hb, hml, hown, htl⟩ (c_X10_errs l D ct G a fu o (1 : Int32) e_29 (hDx o)) (cw_X10_X10_errs htl ⟨Nat.le_of_ble_eq_true rfl, Nat.le_of_ble_eq_true rfl⟩) ⟨Bx_blind, va_recv hK hPX_29 (ci := 10) (q0 := 0) rfl rfl, Bx_pre hPX_29 hK hN (hX.stay hS hGE)⟩ rfl rfl hl.1 rfl (lv_room (Nat.le_of_ble_eq_true rfl)) dX10_readNext_29 ⟨Nat.zero_le _, Nat.zero_le _⟩) hS (wA_cg rfl) (fun H_29 locs_29 hB_29 _ hk_29 hS => ?_)
  have hP : va_P D vwCl (cs10 ct a r_29) H_29 := hB_29
  exact hJ32 r_29 _ _ _ hP hS (lv_sub hl [0] rfl) hf 
theorem c_X10_readNext (l : Launch) (D : va_G) (ct : Nat → ClassId) (G : GT) (a : Nat → Nat) (fu : Nat) (o : Ob) {r : Ob} (hf : p_X10_readNext fu o = some r)  (hD0 : va_D (GE G) (cs10 ct a o)) : Met l yX10_readNext (.code yX10_readNext cX10_readNext 1 none :: wsL_law) rm_X10_readNext (va_Pc [.ref (a 0)] (Bx D ct G (cs10 ct a o))) (Qwr none (fun H => va_P D vwCl (cs10 ct a r) H) (wA (cs10 ct a o))) 0 0 (wA (cs10 ct a o)) := by
  refine Met.ofW (cc := cX10_readNext) (maxL := 1) (ret := none) (by decide) rfl ?_
  intro p e s m args below meth c s₁ B hml hv
  obtain ⟨rfl, hP, hK, hN, hX⟩ := hv
  have hts := atoms_spec (ws := .code yX10_readNext cX10_readNext 1 none :: wsL_law) B.pre
  rw [lg_entry_eq]
  exact b_X10_readNext a fu o B.exec B.bytes B.returns hml (findClass_of_methodNamed B.named) (fun w h => hts w (List.mem_cons_of_mem _ h)) B.notSynchronized hK hN hX hP hf hD0  (lv_entry [.ref (a 0)] (n := 1) (Nat.le_of_ble_eq_true rfl))
theorem hd_X10_readNext : yX10_readNext.cls ≠ "java/lang/invoke/MethodHandle" ∧ yX10_readNext.cls ≠ "java/lang/invoke/VarHandle" ∧ (parseMethodDescriptor yX10_readNext.desc).map (fun d => d.parameters.length) = some 0 := by decide +kernel
theorem cw_X10_X10_readNext {R : Room} {s : State} {args : Array Value} (ht : ∀ w ∈ wsL_law, w.before args s = true) (hR : rm_X10_readNext.frames + 1 ≤ R.frames ∧ 8 + (1 + 11) + rm_X10_readNext.locals ≤ R.locals) : CallW R s args RX10 RX10 213 yX10_readNext cX10_readNext 1 none ((.code yX10_readNext cX10_readNext 1 none) :: wsL_law) rm_X10_readNext 0 0 0 := cwV 0 ht (GV wq_18_20 wq_18_21 wq_18_22 wq_1_5 wq_18_23) rfl rfl rfl ⟨rfl, hd_X10_readNext⟩ hR
theorem hd_X10_readFirst : yX10_readFirst.cls ≠ "java/lang/invoke/MethodHandle" ∧ yX10_readFirst.cls ≠ "java/lang/invoke/VarHandle" ∧ (parseMethodDescriptor yX10_readFirst.desc).map (fun d => d.parameters.length) = some 0 := by decide +kernel
theorem cw_X10_X10_readFirst {R : Room} {s : State} {args : Array Value} (ht : ∀ w ∈ wsL_law, w.before args s = true) (hR : rm_X10_readFirst.frames + 1 ≤ R.frames ∧ 8 + (1 + 11) + rm_X10_readFirst.locals ≤ R.locals) : CallW R s args RX10 RX10 210 yX10_readFirst cX10_readFirst 1 none ((.code yX10_readFirst cX10_readFirst 1 none) :: wsL_law) rm_X10_readFirst 0 0 0 := cwV 0 ht (GV wq_17_14 wq_17_15 wq_17_16 wq_1_5 wq_17_17) rfl rfl rfl ⟨rfl, hd_X10_readFirst⟩ hR
def p_X10_readLine_J52 (fu : Nat)  (oz : Ob) : Option (Ob) :=
    if inb (7 : Int32) 98 = true then if inb (7 : Int32) 98 = true then some (oA oz 14 (upd (oz.1 14) ((7 : Int32).toNatClampNeg) (((oz.1 14) (7 : Int32).toNatClampNeg) + 1))) else none else none
def p_X10_readLine_J41 (fu : Nat)  (oz : Ob) : Option (Ob) :=
    (p_X10_good fu oz).bind fun r_42 => if r_42 = 0 then p_X10_readLine_J52 fu oz else (p_X10_advance fu oz).bind fun r_49 => p_X10_readLine_J52 fu r_49
def p_X10_readLine_J21 (fu : Nat)  (oz : Ob) : Option (Ob) :=
    (p_X10_good fu oz).bind fun r_22 => if r_22 = 0 then p_X10_readLine_J41 fu oz else if (oz.1 10 0) = (3 : Int32) then p_X10_readLine_J41 fu oz else (p_X10_errs fu oz (1 : Int32)).bind fun r_38 => p_X10_readLine_J41 fu r_38
def p_X10_readLine (fu : Nat) (o : Ob) : Option (Ob) :=
  if inb (7 : Int32) 98 = true then if ((o.1 14) (7 : Int32).toNatClampNeg) = 0 then (p_X10_readFirst fu o).bind fun r_11 => p_X10_readLine_J21 fu r_11 else (p_X10_readNext fu o).bind fun r_18 => p_X10_readLine_J21 fu r_18 else none
abbrev rm_X10_readLine : Room := { frames := 10, cells := 0, slots := 0, locals := 216 }
set_option maxHeartbeats 4000000 in
set_option maxRecDepth 100000 in
theorem b_X10_readLine {p : Program} {l : Launch} {e : Env} {s : State} {m : MethodId} {args : Array Value} {below : List Frame} {meth : Method} {c : Code} {ls : Array Slot} {D : va_G} {ct : Nat → ClassId} {G : GT} (a : Nat → Nat) (fu : Nat) (o : Ob) {r : Ob} (hx : p.tables.exec = Jvm.exec) (hb : c.code = cX10_readLine) (hr : meth.sig.returnType = none) (hml : c.maxLocals = 1) (hown : s.vm.findClass RX10 = some m.cls) (htl : ∀ w ∈ wsL_law, w.before args s = true) (hlocks : meth.locks = false) (hK : va_K D vwCl (tyl ct) s) (hN : ∀ w ∈ NW, va_Nw w s) (hX : SX G s s.heap) (hP0 : va_P D vwCl (cs10 ct a o) s.heap) (hf : p_X10_readLine fu o = some r) (hD0 : va_D (GE G) (cs10 ct a o))  (hl : lv_has ls 1 [(0, .ref (a 0))]) : W p l e rm_X10_readLine s m args below meth c s.heap [] 0 0 (MQ below (Qwr none (fun H => va_P D vwCl (cs10 ct a r) H) (wA (cs10 ct a o))) args s 0 0 (wA (cs10 ct a o))) (F0 m 0 ls []) := by
  generalize hQQ : MQ below (Qwr none (fun H => va_P D vwCl (cs10 ct a r) H) (wA (cs10 ct a o))) args s 0 0 (wA (cs10 ct a o)) = QQ
  have hDx : ∀ (oy : Ob), va_D (GE G) (cs10 ct a oy) := fun oy => D_cr hD0 rfl
  have hDW : ∀ (oy : Ob), va_D (wA (cs10 ct a o)) (cs10 ct a oy) := fun oy => D_cr (D_self hD0) rfl
  have hGE : ∀ q, wA (cs10 ct a o) q → GE G q := wA_GE hD0
  have hP := hP0
  have hS : va_S (wA (cs10 ct a o)) s.heap s.heap [] := va_S.rf
  have hJ52 : ∀ (oz : Ob), ∀ (H : Heap) (locs : List Loc) (ls : Array Slot), va_P D vwCl (cs10 ct a oz) H → va_S (wA (cs10 ct a o)) s.heap H locs → lv_has ls 1 [(0, .ref (a 0))] → p_X10_readLine_J52 fu  oz = some r → W p l e rm_X10_readLine s m args below meth c H locs 0 0 QQ (F0 m 52 ls []) := by
    intro  oz H locs ls hP hS hl hf 
    rw [p_X10_readLine_J52] at hf
    refine lv_aload_n hx hb dX10_readLine_52 rfl (lv_at hl 0 rfl) ?_
    refine va_get (D := D) (ci := 10) (v := .ref (a 6)) (C := RX10) (T := TX10) (N := 42) hx hb htl inlX10 hown hK hP 0 rfl rfl 14 (by decide) (htl _ wq_7_8) (fun _ h9 => h9) rfl dX10_readLine_53 ?_
    refine lv_bipush (v := 7) hx hb dX10_readLine_56 (by decide) ?_
    refine lv_dup2_11 hx hb dX10_readLine_58 rfl rfl ?_
    obtain ⟨hi_59, hf⟩ := ob_in hf
    refine va_iald (D := D) (tys := tyl ct) hx hb hK hP 6 0 rfl rfl hi_59 dX10_readLine_59 ?_
    refine lv_iconst (v := 1) hx hb dX10_readLine_60 (by decide) ?_
    refine lv_iadd hx hb dX10_readLine_61 ?_
    obtain ⟨hi_62, hf⟩ := ob_in hf
    refine va_iast (D := D) (tys := tyl ct) hx hb hK hP (hDW oz) hS 6 0 rfl rfl hi_62 dX10_readLine_62 (fun H_62 locs_62 hP _ hS => ?_)
    have hP : va_P D vwCl (cs10 ct a (oA oz 14 (upd (oz.1 14) ((7 : Int32).toNatClampNeg) (((oz.1 14) (7 : Int32).toNatClampNeg) + 1)))) H_62 := sa10_14 hP
    rw [← hQQ]
    cases hf
    exact rw_v hx hb hr hlocks hP hS dX10_readLine_63
  have hJ41 : ∀ (oz : Ob), ∀ (H : Heap) (locs : List Loc) (ls : Array Slot), va_P D vwCl (cs10 ct a oz) H → va_S (wA (cs10 ct a o)) s.heap H locs → lv_has ls 1 [(0, .ref (a 0))] → p_X10_readLine_J41 fu  oz = some r → W p l e rm_X10_readLine s m args below meth c H locs 0 0 QQ (F0 m 41 ls []) := by
    intro  oz H locs ls hP hS hl hf 
    rw [p_X10_readLine_J41] at hf
    refine lv_aload_n hx hb dX10_readLine_41 rfl (lv_at hl 0 rfl) ?_
    obtain ⟨r_42, e_42, hf⟩ := ob_bind hf
    have hPX_42 : va_P D vwCl (cs10 ct a oz) H := hP
    refine ro_call1 (va_runV (As := []) (rest := []) ⟨hx, hb, hml, hown, htl⟩ (c_X10_good l D ct G a fu oz e_42) (cw_X10_X10_good htl ⟨Nat.le_of_ble_eq_true rfl, Nat.le_of_ble_eq_true rfl⟩) ⟨Bx_blind, va_recv hK hPX_42 (ci := 10) (q0 := 0) rfl rfl, Bx_pre hPX_42 hK hN (hX.stay hS hGE)⟩ rfl rfl hl.1 rfl (lv_room (Nat.le_of_ble_eq_true rfl)) dX10_readLine_42 ⟨Nat.zero_le _, Nat.zero_le _⟩) ?_
    refine lv_if_eq (tgt := 52) hx hb dX10_readLine_45 (by decide) (fun c_45 => ?_) (fun c_45 => ?_)
    · rw [if_pos c_45] at hf
      exact hJ52 oz _ _ _ hP hS (lv_sub hl [0] rfl) hf 
    rw [if_neg c_45] at hf
    refine lv_aload_n hx hb dX10_readLine_48 rfl (lv_at hl 0 rfl) ?_
    obtain ⟨r_49, e_49, hf⟩ := ob_bind hf
    have hPX_49 : va_P D vwCl (cs10 ct a oz) H := hP
    refine wr_call0 (va_runV (As := []) (rest := []) ⟨hx, hb, hml, hown, htl⟩ (c_X10_advance l D ct G a fu oz e_49 (hDx oz)) (cw_X10_X10_advance htl ⟨Nat.le_of_ble_eq_true rfl, Nat.le_of_ble_eq_true rfl⟩) ⟨Bx_blind, va_recv hK hPX_49 (ci := 10) (q0 := 0) rfl rfl, Bx_pre hPX_49 hK hN (hX.stay hS hGE)⟩ rfl rfl hl.1 rfl (lv_room (Nat.le_of_ble_eq_true rfl)) dX10_readLine_49 ⟨Nat.zero_le _, Nat.zero_le _⟩) hS (wA_cg rfl) (fun H_49 locs_49 hB_49 _ hk_49 hS => ?_)
    have hP : va_P D vwCl (cs10 ct a r_49) H_49 := hB_49
    exact hJ52 r_49 _ _ _ hP hS (lv_sub hl [0] rfl) hf 
  have hJ21 : ∀ (oz : Ob), ∀ (H : Heap) (locs : List Loc) (ls : Array Slot), va_P D vwCl (cs10 ct a oz) H → va_S (wA (cs10 ct a o)) s.heap H locs → lv_has ls 1 [(0, .ref (a 0))] → p_X10_readLine_J21 fu  oz = some r → W p l e rm_X10_readLine s m args below meth c H locs 0 0 QQ (F0 m 21 ls []) := by
    intro  oz H locs ls hP hS hl hf 
    rw [p_X10_readLine_J21] at hf
    refine lv_aload_n hx hb dX10_readLine_21 rfl (lv_at hl 0 rfl) ?_
    obtain ⟨r_22, e_22, hf⟩ := ob_bind hf
    have hPX_22 : va_P D vwCl (cs10 ct a oz) H := hP
    refine ro_call1 (va_runV (As := []) (rest := []) ⟨hx, hb, hml, hown, htl⟩ (c_X10_good l D ct G a fu oz e_22) (cw_X10_X10_good htl ⟨Nat.le_of_ble_eq_true rfl, Nat.le_of_ble_eq_true rfl⟩) ⟨Bx_blind, va_recv hK hPX_22 (ci := 10) (q0 := 0) rfl rfl, Bx_pre hPX_22 hK hN (hX.stay hS hGE)⟩ rfl rfl hl.1 rfl (lv_room (Nat.le_of_ble_eq_true rfl)) dX10_readLine_22 ⟨Nat.zero_le _, Nat.zero_le _⟩) ?_
    refine lv_if_eq (tgt := 41) hx hb dX10_readLine_25 (by decide) (fun c_25 => ?_) (fun c_25 => ?_)
    · rw [if_pos c_25] at hf
      exact hJ41 oz _ _ _ hP hS (lv_sub hl [0] rfl) hf 
    rw [if_neg c_25] at hf
    refine lv_aload_n hx hb dX10_readLine_28 rfl (lv_at hl 0 rfl) ?_
    refine va_get (D := D) (ci := 10) (v := .int (oz.1 10 0)) (C := RX10) (T := TX10) (N := 42) hx hb htl inlX10 hown hK hP 0 rfl rfl 10 (by decide) (htl _ wq_16_13) (fun _ h9 => h9) rfl dX10_readLine_29 ?_
    refine lv_iconst (v := 3) hx hb dX10_readLine_32 (by decide) ?_
    refine lv_icmp_eq (tgt := 41) hx hb dX10_readLine_33 (by decide) (fun c_33 => ?_) (fun c_33 => ?_)
    · rw [if_pos c_33] at hf
      exact hJ41 oz _ _ _ hP hS (lv_sub hl [0] rfl) hf 
    rw [if_neg c_33] at hf
    refine lv_aload_n hx hb dX10_readLine_36 rfl (lv_at hl 0 rfl) ?_
    refine lv_iconst (v := 1) hx hb dX10_readLine_37 (by decide) ?_
    obtain ⟨r_38, e_38, hf⟩ := ob_bind hf
    have hPX_38 : va_P D vwCl (cs10 ct a oz) H := hP
    refine wr_call0 (va_runV (As := [.int 1]) (rest := []) ⟨hx, hb, hml, hown, htl⟩ (c_X10_errs l D ct G a fu oz (1 : Int32) e_38 (hDx oz)) (cw_X10_X10_errs htl ⟨Nat.le_of_ble_eq_true rfl, Nat.le_of_ble_eq_true rfl⟩) ⟨Bx_blind, va_recv hK hPX_38 (ci := 10) (q0 := 0) rfl rfl, Bx_pre hPX_38 hK hN (hX.stay hS hGE)⟩ rfl rfl hl.1 rfl (lv_room (Nat.le_of_ble_eq_true rfl)) dX10_readLine_38 ⟨Nat.zero_le _, Nat.zero_le _⟩) hS (wA_cg rfl) (fun H_38 locs_38 hB_38 _ hk_38 hS => ?_)
    have hP : va_P D vwCl (cs10 ct a r_38) H_38 := hB_38
    exact hJ41 r_38 _ _ _ hP hS (lv_sub hl [0] rfl) hf 
  rw [p_X10_readLine] at hf
  refine lv_aload_n hx hb dX10_readLine_0 rfl (lv_at hl 0 rfl) ?_
  refine va_get (D := D) (ci := 10) (v := .ref (a 6)) (C := RX10) (T := TX10) (N := 42) hx hb htl inlX10 hown hK hP 0 rfl rfl 14 (by decide) (htl _ wq_7_8) (fun _ h9 => h9) rfl dX10_readLine_1 ?_
  refine lv_bipush (v := 7) hx hb dX10_readLine_4 (by decide) ?_
  obtain ⟨hi_6, hf⟩ := ob_in hf
  refine va_iald (D := D) (tys := tyl ct) hx hb hK hP 6 0 rfl rfl hi_6 dX10_readLine_6 ?_
  refine lv_if_ne (tgt := 17) hx hb dX10_readLine_7 (by decide) (fun c_7 => ?_) (fun c_7 => ?_)
  · rw [if_neg c_7] at hf
    refine lv_aload_n hx hb dX10_readLine_17 rfl (lv_at hl 0 rfl) ?_
    obtain ⟨r_18, e_18, hf⟩ := ob_bind hf
    have hPX_18 : va_P D vwCl (cs10 ct a o) s.heap := hP
    refine wr_call0 (va_runV (As := []) (rest := []) ⟨hx, hb, hml, hown, htl⟩ (c_X10_readNext l D ct G a fu o e_18 (hDx o)) (cw_X10_X10_readNext htl ⟨Nat.le_of_ble_eq_true rfl, Nat.le_of_ble_eq_true rfl⟩) ⟨Bx_blind, va_recv hK hPX_18 (ci := 10) (q0 := 0) rfl rfl, Bx_pre hPX_18 hK hN (hX.stay hS hGE)⟩ rfl rfl hl.1 rfl (lv_room (Nat.le_of_ble_eq_true rfl)) dX10_readLine_18 ⟨Nat.zero_le _, Nat.zero_le _⟩) hS (wA_cg rfl) (fun H_18 locs_18 hB_18 _ hk_18 hS => ?_)
    have hP : va_P D vwCl (cs10 ct a r_18) H_18 := hB_18
    exact hJ21 r_18 _ _ _ hP hS (lv_sub hl [0] rfl) hf 
  rw [if_pos c_7] at hf
  refine lv_aload_n hx hb dX10_readLine_10 rfl (lv_at hl 0 rfl) ?_
  obtain ⟨r_11, e_11, hf⟩ := ob_bind hf
  have hPX_11 : va_P D vwCl (cs10 ct a o) s.heap := hP
  refine wr_call0 (va_runV (As := []) (rest := []) ⟨hx, hb, hml, hown, htl⟩ (c_X10_readFirst l D ct G a fu o e_11 (hDx o)) (cw_X10_X10_readFirst htl ⟨Nat.le_of_ble_eq_true rfl, Nat.le_of_ble_eq_true rfl⟩) ⟨Bx_blind, va_recv hK hPX_11 (ci := 10) (q0 := 0) rfl rfl, Bx_pre hPX_11 hK hN (hX.stay hS hGE)⟩ rfl rfl hl.1 rfl (lv_room (Nat.le_of_ble_eq_true rfl)) dX10_readLine_11 ⟨Nat.zero_le _, Nat.zero_le _⟩) hS (wA_cg rfl) (fun H_11 locs_11 hB_11 _ hk_11 hS => ?_)
  have hP : va_P D vwCl (cs10 ct a r_11) H_11 := hB_11
  refine lv_goto (tgt := 21) hx hb dX10_readLine_14 (by decide) ?_
  exact hJ21 r_11 _ _ _ hP hS (lv_sub hl [0] rfl) hf 
theorem c_X10_readLine (l : Launch) (D : va_G) (ct : Nat → ClassId) (G : GT) (a : Nat → Nat) (fu : Nat) (o : Ob) {r : Ob} (hf : p_X10_readLine fu o = some r)  (hD0 : va_D (GE G) (cs10 ct a o)) : Met l yX10_readLine (.code yX10_readLine cX10_readLine 1 none :: wsL_law) rm_X10_readLine (va_Pc [.ref (a 0)] (Bx D ct G (cs10 ct a o))) (Qwr none (fun H => va_P D vwCl (cs10 ct a r) H) (wA (cs10 ct a o))) 0 0 (wA (cs10 ct a o)) := by
  refine Met.ofW (cc := cX10_readLine) (maxL := 1) (ret := none) (by decide) rfl ?_
  intro p e s m args below meth c s₁ B hml hv
  obtain ⟨rfl, hP, hK, hN, hX⟩ := hv
  have hts := atoms_spec (ws := .code yX10_readLine cX10_readLine 1 none :: wsL_law) B.pre
  rw [lg_entry_eq]
  exact b_X10_readLine a fu o B.exec B.bytes B.returns hml (findClass_of_methodNamed B.named) (fun w h => hts w (List.mem_cons_of_mem _ h)) B.notSynchronized hK hN hX hP hf hD0  (lv_entry [.ref (a 0)] (n := 1) (Nat.le_of_ble_eq_true rfl))
theorem hd_X10_readLine : yX10_readLine.cls ≠ "java/lang/invoke/MethodHandle" ∧ yX10_readLine.cls ≠ "java/lang/invoke/VarHandle" ∧ (parseMethodDescriptor yX10_readLine.desc).map (fun d => d.parameters.length) = some 0 := by decide +kernel
theorem cw_X10_X10_readLine {R : Room} {s : State} {args : Array Value} (ht : ∀ w ∈ wsL_law, w.before args s = true) (hR : rm_X10_readLine.frames + 1 ≤ R.frames ∧ 8 + (1 + 11) + rm_X10_readLine.locals ≤ R.locals) : CallW R s args RX10 RX10 216 yX10_readLine cX10_readLine 1 none ((.code yX10_readLine cX10_readLine 1 none) :: wsL_law) rm_X10_readLine 0 0 0 := cwV 0 ht (GV wq_17_10 wq_17_11 wq_17_12 wq_1_5 wq_17_13) rfl rfl rfl ⟨rfl, hd_X10_readLine⟩ hR
def p_X10_rivers_L30 (fu : Nat) (c49 : Ob → Option (Int32 × Ob)) : Nat → Ob → Int32 → Option (Int32 × Ob)
  | 0, _, _ => none
  | n + 1, oz, v1 =>
    if (98 : Int32) ≤ v1 then c49 oz else if inb v1 98 = true then p_X10_rivers_L30 fu c49 n (oA oz 14 (upd (oz.1 14) v1.toNatClampNeg (0 : Int32))) (v1 + 1) else none
def p_X10_rivers_L53 (fu : Nat) (c74 : Ob → Option (Int32 × Ob)) : Nat → Ob → Option (Int32 × Ob)
  | 0, _ => none
  | n + 1, oz =>
    (p_X10_good fu oz).bind fun r_54 => if r_54 = 0 then c74 oz else if (oz.1 10 0) = 0 then c74 oz else (p_X10_readLine fu oz).bind fun r_68 => p_X10_rivers_L53 fu c74 n r_68
def p_X10_rivers_L86 (fu : Nat) (c138 : Ob → Option (Int32 × Ob)) : Nat → Ob → Int32 → Option (Int32 × Ob)
  | 0, _, _ => none
  | n + 1, oz, v1 =>
    if inb (3 : Int32) 98 = true then if ((oz.1 14) (3 : Int32).toNatClampNeg) ≤ v1 then c138 oz else if inb ((8 + (3 * v1)) + 0) 98 = true then if inb (3 : Int32) 98 = true then if ((oz.1 14) ((8 + (3 * v1)) + 0).toNatClampNeg) < ((oz.1 14) (3 : Int32).toNatClampNeg) then p_X10_rivers_L86 fu c138 n oz (v1 + 1) else if inb ((8 + (3 * v1)) + 0) 98 = true then p_X10_rivers_L86 fu c138 n (oA oz 14 (upd (oz.1 14) (((8 + (3 * v1)) + 0).toNatClampNeg) ((-1) : Int32))) (v1 + 1) else none else none else none else none
def p_X10_rivers_L140 (fu : Nat)  : Nat → Ob → Int32 → Option (Int32 × Ob)
  | 0, _, _ => none
  | n + 1, oz, v1 =>
    if (98 : Int32) ≤ v1 then if inb (7 : Int32) 98 = true then some (((oz.1 1) (7 : Int32).toNatClampNeg), oz) else none else if inb v1 98 = true then if inb v1 98 = true then p_X10_rivers_L140 fu  n (oA oz 1 (upd (oz.1 1) v1.toNatClampNeg ((oz.1 14) v1.toNatClampNeg))) (v1 + 1) else none else none
def p_X10_rivers (fu : Nat) (o : Ob) : Option (Int32 × Ob) :=
  p_X10_rivers_L30 fu (fun oz => (p_X10_advance fu oz).bind fun r_50 => p_X10_rivers_L53 fu (fun oz => (p_X10_good fu oz).bind fun r_75 => if r_75 = 0 then some (((-4) : Int32), oz) else p_X10_rivers_L86 fu (fun oz => p_X10_rivers_L140 fu fu oz 0) fu oz 0) fu r_50) fu (oI (oI (oI (oI (oI o 7 (o.1 5 0)) 5 (0 : Int32)) 8 (0 : Int32)) 12 (0 : Int32)) 13 ((-1) : Int32)) 0
abbrev rm_X10_rivers : Room := { frames := 11, cells := 0, slots := 0, locals := 236 }
set_option maxHeartbeats 4000000 in
set_option maxRecDepth 100000 in
theorem b_X10_rivers {p : Program} {l : Launch} {e : Env} {s : State} {m : MethodId} {args : Array Value} {below : List Frame} {meth : Method} {c : Code} {ls : Array Slot} {D : va_G} {ct : Nat → ClassId} {G : GT} (a : Nat → Nat) (fu : Nat) (o : Ob) {r : Int32 × Ob} (hx : p.tables.exec = Jvm.exec) (hb : c.code = cX10_rivers) (hr : meth.sig.returnType = (some .int)) (hml : c.maxLocals = 2) (hown : s.vm.findClass RX10 = some m.cls) (htl : ∀ w ∈ wsL_law, w.before args s = true) (hlocks : meth.locks = false) (hK : va_K D vwCl (tyl ct) s) (hN : ∀ w ∈ NW, va_Nw w s) (hX : SX G s s.heap) (hP0 : va_P D vwCl (cs10 ct a o) s.heap) (hf : p_X10_rivers fu o = some r) (hD0 : va_D (GE G) (cs10 ct a o))  (hl : lv_has ls 2 [(0, .ref (a 0))]) : W p l e rm_X10_rivers s m args below meth c s.heap [] 0 0 (MQ below (Qwr (some (.int r.1)) (fun H => va_P D vwCl (cs10 ct a r.2) H) (wA (cs10 ct a o))) args s 0 0 (wA (cs10 ct a o))) (F0 m 0 ls []) := by
  generalize hQQ : MQ below (Qwr (some (.int r.1)) (fun H => va_P D vwCl (cs10 ct a r.2) H) (wA (cs10 ct a o))) args s 0 0 (wA (cs10 ct a o)) = QQ
  have hDx : ∀ (oy : Ob), va_D (GE G) (cs10 ct a oy) := fun oy => D_cr hD0 rfl
  have hDW : ∀ (oy : Ob), va_D (wA (cs10 ct a o)) (cs10 ct a oy) := fun oy => D_cr (D_self hD0) rfl
  have hGE : ∀ q, wA (cs10 ct a o) q → GE G q := wA_GE hD0
  have hP := hP0
  have hS : va_S (wA (cs10 ct a o)) s.heap s.heap [] := va_S.rf
  have hL30 : ∀ (c49 : Ob → Option (Int32 × Ob)) (n : Nat) (oz : Ob) (v1 : Int32), ∀ (H : Heap) (locs : List Loc) (ls : Array Slot), va_P D vwCl (cs10 ct a oz) H → va_S (wA (cs10 ct a o)) s.heap H locs → lv_has ls 2 [(0, .ref (a 0)), (1, .int v1)] → p_X10_rivers_L30 fu c49 n oz v1 = some r → (∀ (oz : Ob), ∀ (H : Heap) (locs : List Loc) (ls : Array Slot), va_P D vwCl (cs10 ct a oz) H → va_S (wA (cs10 ct a o)) s.heap H locs → lv_has ls 2 [(0, .ref (a 0))] → c49 oz = some r → W p l e rm_X10_rivers s m args below meth c H locs 0 0 QQ (F0 m 49 ls [])) → W p l e rm_X10_rivers s m args below meth c H locs 0 0 QQ (F0 m 30 ls []) := by
    intro c49 n
    induction n with
    | zero =>
      intro oz v1 H locs ls hP hS hl hf k49
      rw [p_X10_rivers_L30] at hf
      cases hf
    | succ n ih =>
      intro oz v1 H locs ls hP hS hl hf k49
      rw [p_X10_rivers_L30] at hf
      refine lv_iload_n hx hb dX10_rivers_30 rfl (lv_at hl 1 rfl) ?_
      refine lv_bipush (v := 98) hx hb dX10_rivers_31 (by decide) ?_
      refine lv_icmp_ge (tgt := 49) hx hb dX10_rivers_33 (by decide) (fun c_33 => ?_) (fun c_33 => ?_)
      · rw [if_pos c_33] at hf
        exact k49 oz _ _ _ hP hS (lv_sub hl [0] rfl) hf
      rw [if_neg c_33] at hf
      refine lv_aload_n hx hb dX10_rivers_36 rfl (lv_at hl 0 rfl) ?_
      refine va_get (D := D) (ci := 10) (v := .ref (a 6)) (C := RX10) (T := TX10) (N := 42) hx hb htl inlX10 hown hK hP 0 rfl rfl 14 (by decide) (htl _ wq_7_8) (fun _ h9 => h9) rfl dX10_rivers_37 ?_
      refine lv_iload_n hx hb dX10_rivers_40 rfl (lv_at hl 1 rfl) ?_
      refine lv_iconst (v := 0) hx hb dX10_rivers_41 (by decide) ?_
      obtain ⟨hi_42, hf⟩ := ob_in hf
      refine va_iast (D := D) (tys := tyl ct) hx hb hK hP (hDW oz) hS 6 0 rfl rfl hi_42 dX10_rivers_42 (fun H_42 locs_42 hP _ hS => ?_)
      have hP : va_P D vwCl (cs10 ct a (oA oz 14 (upd (oz.1 14) v1.toNatClampNeg (0 : Int32)))) H_42 := sa10_14 hP
      refine lv_iinc (v := (v1 + 1)) (lv' := [(1, .int (v1 + 1)), (0, .ref (a 0))]) hx hb dX10_rivers_43 hl (k := 1) rfl rfl (by decide) rfl (fun ls hl => ?_)
      refine lv_goto (tgt := 30) hx hb dX10_rivers_46 (by decide) ?_
      exact ih (oA oz 14 (upd (oz.1 14) v1.toNatClampNeg (0 : Int32))) (v1 + 1) _ _ _ hP hS (lv_sub hl [1, 0] rfl) hf k49
  have hL53 : ∀ (c74 : Ob → Option (Int32 × Ob)) (n : Nat) (oz : Ob), ∀ (H : Heap) (locs : List Loc) (ls : Array Slot), va_P D vwCl (cs10 ct a oz) H → va_S (wA (cs10 ct a o)) s.heap H locs → lv_has ls 2 [(0, .ref (a 0))] → p_X10_rivers_L53 fu c74 n oz = some r → (∀ (oz : Ob), ∀ (H : Heap) (locs : List Loc) (ls : Array Slot), va_P D vwCl (cs10 ct a oz) H → va_S (wA (cs10 ct a o)) s.heap H locs → lv_has ls 2 [(0, .ref (a 0))] → c74 oz = some r → W p l e rm_X10_rivers s m args below meth c H locs 0 0 QQ (F0 m 74 ls [])) → W p l e rm_X10_rivers s m args below meth c H locs 0 0 QQ (F0 m 53 ls []) := by
    intro c74 n
    induction n with
    | zero =>
      intro oz H locs ls hP hS hl hf k74
      rw [p_X10_rivers_L53] at hf
      cases hf
    | succ n ih =>
      intro oz H locs ls hP hS hl hf k74
      rw [p_X10_rivers_L53] at hf
      refine lv_aload_n hx hb dX10_rivers_53 rfl (lv_at hl 0 rfl) ?_
      obtain ⟨r_54, e_54, hf⟩ := ob_bind hf
      have hPX_54 : va_P D vwCl (cs10 ct a oz) H := hP
      refine ro_call1 (va_runV (As := []) (rest := []) ⟨hx, hb, hml, hown, htl⟩ (c_X10_good l D ct G a fu oz e_54) (cw_X10_X10_good htl ⟨Nat.le_of_ble_eq_true rfl, Nat.le_of_ble_eq_true rfl⟩) ⟨Bx_blind, va_recv hK hPX_54 (ci := 10) (q0 := 0) rfl rfl, Bx_pre hPX_54 hK hN (hX.stay hS hGE)⟩ rfl rfl hl.1 rfl (lv_room (Nat.le_of_ble_eq_true rfl)) dX10_rivers_54 ⟨Nat.zero_le _, Nat.zero_le _⟩) ?_
      refine lv_if_eq (tgt := 74) hx hb dX10_rivers_57 (by decide) (fun c_57 => ?_) (fun c_57 => ?_)
      · rw [if_pos c_57] at hf
        exact k74 oz _ _ _ hP hS (lv_sub hl [0] rfl) hf
      rw [if_neg c_57] at hf
      refine lv_aload_n hx hb dX10_rivers_60 rfl (lv_at hl 0 rfl) ?_
      refine va_get (D := D) (ci := 10) (v := .int (oz.1 10 0)) (C := RX10) (T := TX10) (N := 42) hx hb htl inlX10 hown hK hP 0 rfl rfl 10 (by decide) (htl _ wq_16_13) (fun _ h9 => h9) rfl dX10_rivers_61 ?_
      refine lv_if_eq (tgt := 74) hx hb dX10_rivers_64 (by decide) (fun c_64 => ?_) (fun c_64 => ?_)
      · rw [if_pos c_64] at hf
        exact k74 oz _ _ _ hP hS (lv_sub hl [0] rfl) hf
      rw [if_neg c_64] at hf
      refine lv_aload_n hx hb dX10_rivers_67 rfl (lv_at hl 0 rfl) ?_
      obtain ⟨r_68, e_68, hf⟩ := ob_bind hf
      have hPX_68 : va_P D vwCl (cs10 ct a oz) H := hP
      refine wr_call0 (va_runV (As := []) (rest := []) ⟨hx, hb, hml, hown, htl⟩ (c_X10_readLine l D ct G a fu oz e_68 (hDx oz)) (cw_X10_X10_readLine htl ⟨Nat.le_of_ble_eq_true rfl, Nat.le_of_ble_eq_true rfl⟩) ⟨Bx_blind, va_recv hK hPX_68 (ci := 10) (q0 := 0) rfl rfl, Bx_pre hPX_68 hK hN (hX.stay hS hGE)⟩ rfl rfl hl.1 rfl (lv_room (Nat.le_of_ble_eq_true rfl)) dX10_rivers_68 ⟨Nat.zero_le _, Nat.zero_le _⟩) hS (wA_cg rfl) (fun H_68 locs_68 hB_68 _ hk_68 hS => ?_)
      have hP : va_P D vwCl (cs10 ct a r_68) H_68 := hB_68
      refine lv_goto (tgt := 53) hx hb dX10_rivers_71 (by decide) ?_
      exact ih r_68 _ _ _ hP hS (lv_sub hl [0] rfl) hf k74
  have hL86 : ∀ (c138 : Ob → Option (Int32 × Ob)) (n : Nat) (oz : Ob) (v1 : Int32), ∀ (H : Heap) (locs : List Loc) (ls : Array Slot), va_P D vwCl (cs10 ct a oz) H → va_S (wA (cs10 ct a o)) s.heap H locs → lv_has ls 2 [(0, .ref (a 0)), (1, .int v1)] → p_X10_rivers_L86 fu c138 n oz v1 = some r → (∀ (oz : Ob), ∀ (H : Heap) (locs : List Loc) (ls : Array Slot), va_P D vwCl (cs10 ct a oz) H → va_S (wA (cs10 ct a o)) s.heap H locs → lv_has ls 2 [(0, .ref (a 0))] → c138 oz = some r → W p l e rm_X10_rivers s m args below meth c H locs 0 0 QQ (F0 m 138 ls [])) → W p l e rm_X10_rivers s m args below meth c H locs 0 0 QQ (F0 m 86 ls []) := by
    intro c138 n
    induction n with
    | zero =>
      intro oz v1 H locs ls hP hS hl hf k138
      rw [p_X10_rivers_L86] at hf
      cases hf
    | succ n ih =>
      intro oz v1 H locs ls hP hS hl hf k138
      rw [p_X10_rivers_L86] at hf
      refine lv_iload_n hx hb dX10_rivers_86 rfl (lv_at hl 1 rfl) ?_
      refine lv_aload_n hx hb dX10_rivers_87 rfl (lv_at hl 0 rfl) ?_
      refine va_get (D := D) (ci := 10) (v := .ref (a 6)) (C := RX10) (T := TX10) (N := 42) hx hb htl inlX10 hown hK hP 0 rfl rfl 14 (by decide) (htl _ wq_7_8) (fun _ h9 => h9) rfl dX10_rivers_88 ?_
      refine lv_iconst (v := 3) hx hb dX10_rivers_91 (by decide) ?_
      obtain ⟨hi_92, hf⟩ := ob_in hf
      refine va_iald (D := D) (tys := tyl ct) hx hb hK hP 6 0 rfl rfl hi_92 dX10_rivers_92 ?_
      refine lv_icmp_ge (tgt := 138) hx hb dX10_rivers_93 (by decide) (fun c_93 => ?_) (fun c_93 => ?_)
      · rw [if_pos c_93] at hf
        exact k138 oz _ _ _ hP hS (lv_sub hl [0] rfl) hf
      rw [if_neg c_93] at hf
      refine lv_aload_n hx hb dX10_rivers_96 rfl (lv_at hl 0 rfl) ?_
      refine va_get (D := D) (ci := 10) (v := .ref (a 6)) (C := RX10) (T := TX10) (N := 42) hx hb htl inlX10 hown hK hP 0 rfl rfl 14 (by decide) (htl _ wq_7_8) (fun _ h9 => h9) rfl dX10_rivers_97 ?_
      refine lv_bipush (v := 8) hx hb dX10_rivers_100 (by decide) ?_
      refine lv_iconst (v := 3) hx hb dX10_rivers_102 (by decide) ?_
      refine lv_iload_n hx hb dX10_rivers_103 rfl (lv_at hl 1 rfl) ?_
      refine lv_imul hx hb dX10_rivers_104 ?_
      refine lv_iadd hx hb dX10_rivers_105 ?_
      refine lv_iconst (v := 0) hx hb dX10_rivers_106 (by decide) ?_
      refine lv_iadd hx hb dX10_rivers_107 ?_
      obtain ⟨hi_108, hf⟩ := ob_in hf
      refine va_iald (D := D) (tys := tyl ct) hx hb hK hP 6 0 rfl rfl hi_108 dX10_rivers_108 ?_
      refine lv_aload_n hx hb dX10_rivers_109 rfl (lv_at hl 0 rfl) ?_
      refine va_get (D := D) (ci := 10) (v := .ref (a 6)) (C := RX10) (T := TX10) (N := 42) hx hb htl inlX10 hown hK hP 0 rfl rfl 14 (by decide) (htl _ wq_7_8) (fun _ h9 => h9) rfl dX10_rivers_110 ?_
      refine lv_iconst (v := 3) hx hb dX10_rivers_113 (by decide) ?_
      obtain ⟨hi_114, hf⟩ := ob_in hf
      refine va_iald (D := D) (tys := tyl ct) hx hb hK hP 6 0 rfl rfl hi_114 dX10_rivers_114 ?_
      refine lv_icmp_lt (tgt := 132) hx hb dX10_rivers_115 (by decide) (fun c_115 => ?_) (fun c_115 => ?_)
      · rw [if_pos c_115] at hf
        refine lv_iinc (v := (v1 + 1)) (lv' := [(1, .int (v1 + 1)), (0, .ref (a 0))]) hx hb dX10_rivers_132 hl (k := 1) rfl rfl (by decide) rfl (fun ls hl => ?_)
        refine lv_goto (tgt := 86) hx hb dX10_rivers_135 (by decide) ?_
        exact ih oz (v1 + 1) _ _ _ hP hS (lv_sub hl [1, 0] rfl) hf k138
      rw [if_neg c_115] at hf
      refine lv_aload_n hx hb dX10_rivers_118 rfl (lv_at hl 0 rfl) ?_
      refine va_get (D := D) (ci := 10) (v := .ref (a 6)) (C := RX10) (T := TX10) (N := 42) hx hb htl inlX10 hown hK hP 0 rfl rfl 14 (by decide) (htl _ wq_7_8) (fun _ h9 => h9) rfl dX10_rivers_119 ?_
      refine lv_bipush (v := 8) hx hb dX10_rivers_122 (by decide) ?_
      refine lv_iconst (v := 3) hx hb dX10_rivers_124 (by decide) ?_
      refine lv_iload_n hx hb dX10_rivers_125 rfl (lv_at hl 1 rfl) ?_
      refine lv_imul hx hb dX10_rivers_126 ?_
      refine lv_iadd hx hb dX10_rivers_127 ?_
      refine lv_iconst (v := 0) hx hb dX10_rivers_128 (by decide) ?_
      refine lv_iadd hx hb dX10_rivers_129 ?_
      refine lv_iconst (v := (-1)) hx hb dX10_rivers_130 (by decide) ?_
      obtain ⟨hi_131, hf⟩ := ob_in hf
      refine va_iast (D := D) (tys := tyl ct) hx hb hK hP (hDW oz) hS 6 0 rfl rfl hi_131 dX10_rivers_131 (fun H_131 locs_131 hP _ hS => ?_)
      have hP : va_P D vwCl (cs10 ct a (oA oz 14 (upd (oz.1 14) (((8 + (3 * v1)) + 0).toNatClampNeg) ((-1) : Int32)))) H_131 := sa10_14 hP
      refine lv_iinc (v := (v1 + 1)) (lv' := [(1, .int (v1 + 1)), (0, .ref (a 0))]) hx hb dX10_rivers_132 hl (k := 1) rfl rfl (by decide) rfl (fun ls hl => ?_)
      refine lv_goto (tgt := 86) hx hb dX10_rivers_135 (by decide) ?_
      exact ih (oA oz 14 (upd (oz.1 14) (((8 + (3 * v1)) + 0).toNatClampNeg) ((-1) : Int32))) (v1 + 1) _ _ _ hP hS (lv_sub hl [1, 0] rfl) hf k138
  have hL140 : ∀ (n : Nat) (oz : Ob) (v1 : Int32), ∀ (H : Heap) (locs : List Loc) (ls : Array Slot), va_P D vwCl (cs10 ct a oz) H → va_S (wA (cs10 ct a o)) s.heap H locs → lv_has ls 2 [(0, .ref (a 0)), (1, .int v1)] → p_X10_rivers_L140 fu  n oz v1 = some r → W p l e rm_X10_rivers s m args below meth c H locs 0 0 QQ (F0 m 140 ls []) := by
    intro  n
    induction n with
    | zero =>
      intro oz v1 H locs ls hP hS hl hf 
      rw [p_X10_rivers_L140] at hf
      cases hf
    | succ n ih =>
      intro oz v1 H locs ls hP hS hl hf 
      rw [p_X10_rivers_L140] at hf
      refine lv_iload_n hx hb dX10_rivers_140 rfl (lv_at hl 1 rfl) ?_
      refine lv_bipush (v := 98) hx hb dX10_rivers_141 (by decide) ?_
      refine lv_icmp_ge (tgt := 164) hx hb dX10_rivers_143 (by decide) (fun c_143 => ?_) (fun c_143 => ?_)
      · rw [if_pos c_143] at hf
        refine lv_aload_n hx hb dX10_rivers_164 rfl (lv_at hl 0 rfl) ?_
        refine va_get (D := D) (ci := 10) (v := .ref (a 1)) (C := RX10) (T := TX10) (N := 42) hx hb htl inlX10 hown hK hP 0 rfl rfl 1 (by decide) (htl _ wq_7_0) (fun _ h9 => h9) rfl dX10_rivers_165 ?_
        refine lv_bipush (v := 7) hx hb dX10_rivers_168 (by decide) ?_
        obtain ⟨hi_170, hf⟩ := ob_in hf
        refine va_iald (D := D) (tys := tyl ct) hx hb hK hP 1 0 rfl rfl hi_170 dX10_rivers_170 ?_
        rw [← hQQ]
        cases hf
        exact rw_i hx hb hr hlocks hP hS dX10_rivers_171
      rw [if_neg c_143] at hf
      refine lv_aload_n hx hb dX10_rivers_146 rfl (lv_at hl 0 rfl) ?_
      refine va_get (D := D) (ci := 10) (v := .ref (a 1)) (C := RX10) (T := TX10) (N := 42) hx hb htl inlX10 hown hK hP 0 rfl rfl 1 (by decide) (htl _ wq_7_0) (fun _ h9 => h9) rfl dX10_rivers_147 ?_
      refine lv_iload_n hx hb dX10_rivers_150 rfl (lv_at hl 1 rfl) ?_
      refine lv_aload_n hx hb dX10_rivers_151 rfl (lv_at hl 0 rfl) ?_
      refine va_get (D := D) (ci := 10) (v := .ref (a 6)) (C := RX10) (T := TX10) (N := 42) hx hb htl inlX10 hown hK hP 0 rfl rfl 14 (by decide) (htl _ wq_7_8) (fun _ h9 => h9) rfl dX10_rivers_152 ?_
      refine lv_iload_n hx hb dX10_rivers_155 rfl (lv_at hl 1 rfl) ?_
      obtain ⟨hi_156, hf⟩ := ob_in hf
      refine va_iald (D := D) (tys := tyl ct) hx hb hK hP 6 0 rfl rfl hi_156 dX10_rivers_156 ?_
      obtain ⟨hi_157, hf⟩ := ob_in hf
      refine va_iast (D := D) (tys := tyl ct) hx hb hK hP (hDW oz) hS 1 0 rfl rfl hi_157 dX10_rivers_157 (fun H_157 locs_157 hP _ hS => ?_)
      have hP : va_P D vwCl (cs10 ct a (oA oz 1 (upd (oz.1 1) v1.toNatClampNeg ((oz.1 14) v1.toNatClampNeg)))) H_157 := sa10_1 hP
      refine lv_iinc (v := (v1 + 1)) (lv' := [(1, .int (v1 + 1)), (0, .ref (a 0))]) hx hb dX10_rivers_158 hl (k := 1) rfl rfl (by decide) rfl (fun ls hl => ?_)
      refine lv_goto (tgt := 140) hx hb dX10_rivers_161 (by decide) ?_
      exact ih (oA oz 1 (upd (oz.1 1) v1.toNatClampNeg ((oz.1 14) v1.toNatClampNeg))) (v1 + 1) _ _ _ hP hS (lv_sub hl [1, 0] rfl) hf 
  rw [p_X10_rivers] at hf
  refine lv_aload_n hx hb dX10_rivers_0 rfl (lv_at hl 0 rfl) ?_
  refine lv_aload_n hx hb dX10_rivers_1 rfl (lv_at hl 0 rfl) ?_
  refine va_get (D := D) (ci := 10) (v := .int (o.1 5 0)) (C := RX10) (T := TX10) (N := 42) hx hb htl inlX10 hown hK hP 0 rfl rfl 5 (by decide) (htl _ wq_8_16) (fun _ h9 => h9) rfl dX10_rivers_2 ?_
  refine va_put (D := D) (ci := 10) (v := .int (o.1 5 0)) (ty := .int) (C := RX10) (T := TX10) (N := 42) hx hb htl inlX10 tyX10 tyX10_ok nmX10 hown hK hP (hDW o) hS 0 rfl rfl 7 (by decide) (htl _ wq_16_10) (fun _ h9 => h9) rfl (tyX10_ok 7 (by decide)) rfl rfl (Nat.le_of_ble_eq_true rfl) dX10_rivers_5 (fun H_5 locs_5 hP _ hS => ?_)
  have hP : va_P D vwCl (cs10 ct a (oI o 7 (o.1 5 0))) H_5 := st10_7 hP
  refine lv_aload_n hx hb dX10_rivers_8 rfl (lv_at hl 0 rfl) ?_
  refine lv_iconst (v := 0) hx hb dX10_rivers_9 (by decide) ?_
  refine va_put (D := D) (ci := 10) (v := .int 0) (ty := .int) (C := RX10) (T := TX10) (N := 42) hx hb htl inlX10 tyX10 tyX10_ok nmX10 hown hK hP (hDW (oI o 7 (o.1 5 0))) hS 0 rfl rfl 5 (by decide) (htl _ wq_8_16) (fun _ h9 => h9) rfl (tyX10_ok 5 (by decide)) rfl rfl (Nat.le_of_ble_eq_true rfl) dX10_rivers_10 (fun H_10 locs_10 hP _ hS => ?_)
  have hP : va_P D vwCl (cs10 ct a (oI (oI o 7 (o.1 5 0)) 5 (0 : Int32))) H_10 := st10_5 hP
  refine lv_aload_n hx hb dX10_rivers_13 rfl (lv_at hl 0 rfl) ?_
  refine lv_iconst (v := 0) hx hb dX10_rivers_14 (by decide) ?_
  refine va_put (D := D) (ci := 10) (v := .int 0) (ty := .int) (C := RX10) (T := TX10) (N := 42) hx hb htl inlX10 tyX10 tyX10_ok nmX10 hown hK hP (hDW (oI (oI o 7 (o.1 5 0)) 5 (0 : Int32))) hS 0 rfl rfl 8 (by decide) (htl _ wq_16_11) (fun _ h9 => h9) rfl (tyX10_ok 8 (by decide)) rfl rfl (Nat.le_of_ble_eq_true rfl) dX10_rivers_15 (fun H_15 locs_15 hP _ hS => ?_)
  have hP : va_P D vwCl (cs10 ct a (oI (oI (oI o 7 (o.1 5 0)) 5 (0 : Int32)) 8 (0 : Int32))) H_15 := st10_8 hP
  refine lv_aload_n hx hb dX10_rivers_18 rfl (lv_at hl 0 rfl) ?_
  refine lv_iconst (v := 0) hx hb dX10_rivers_19 (by decide) ?_
  refine va_put (D := D) (ci := 10) (v := .int 0) (ty := .int) (C := RX10) (T := TX10) (N := 42) hx hb htl inlX10 tyX10 tyX10_ok nmX10 hown hK hP (hDW (oI (oI (oI o 7 (o.1 5 0)) 5 (0 : Int32)) 8 (0 : Int32))) hS 0 rfl rfl 12 (by decide) (htl _ wq_16_12) (fun _ h9 => h9) rfl (tyX10_ok 12 (by decide)) rfl rfl (Nat.le_of_ble_eq_true rfl) dX10_rivers_20 (fun H_20 locs_20 hP _ hS => ?_)
  have hP : va_P D vwCl (cs10 ct a (oI (oI (oI (oI o 7 (o.1 5 0)) 5 (0 : Int32)) 8 (0 : Int32)) 12 (0 : Int32))) H_20 := st10_12 hP
  refine lv_aload_n hx hb dX10_rivers_23 rfl (lv_at hl 0 rfl) ?_
  refine lv_iconst (v := (-1)) hx hb dX10_rivers_24 (by decide) ?_
  refine va_put (D := D) (ci := 10) (v := .int (-1)) (ty := .int) (C := RX10) (T := TX10) (N := 42) hx hb htl inlX10 tyX10 tyX10_ok nmX10 hown hK hP (hDW (oI (oI (oI (oI o 7 (o.1 5 0)) 5 (0 : Int32)) 8 (0 : Int32)) 12 (0 : Int32))) hS 0 rfl rfl 13 (by decide) (htl _ wq_7_7) (fun _ h9 => h9) rfl (tyX10_ok 13 (by decide)) rfl rfl (Nat.le_of_ble_eq_true rfl) dX10_rivers_25 (fun H_25 locs_25 hP _ hS => ?_)
  have hP : va_P D vwCl (cs10 ct a (oI (oI (oI (oI (oI o 7 (o.1 5 0)) 5 (0 : Int32)) 8 (0 : Int32)) 12 (0 : Int32)) 13 ((-1) : Int32))) H_25 := st10_13 hP
  refine lv_iconst (v := 0) hx hb dX10_rivers_28 (by decide) ?_
  refine lv_istore_n (lv' := [(1, .int 0), (0, .ref (a 0))]) hx hb dX10_rivers_29 rfl hl (by decide) rfl (fun ls hl => ?_)
  refine hL30 _ fu (oI (oI (oI (oI (oI o 7 (o.1 5 0)) 5 (0 : Int32)) 8 (0 : Int32)) 12 (0 : Int32)) 13 ((-1) : Int32)) 0 _ _ _ hP hS (lv_sub hl [1, 0] rfl) hf (fun oz H locs ls hP hS hl hf => ?_)
  refine lv_aload_n hx hb dX10_rivers_49 rfl (lv_at hl 0 rfl) ?_
  obtain ⟨r_50, e_50, hf⟩ := ob_bind hf
  have hPX_50 : va_P D vwCl (cs10 ct a oz) H := hP
  refine wr_call0 (va_runV (As := []) (rest := []) ⟨hx, hb, hml, hown, htl⟩ (c_X10_advance l D ct G a fu oz e_50 (hDx oz)) (cw_X10_X10_advance htl ⟨Nat.le_of_ble_eq_true rfl, Nat.le_of_ble_eq_true rfl⟩) ⟨Bx_blind, va_recv hK hPX_50 (ci := 10) (q0 := 0) rfl rfl, Bx_pre hPX_50 hK hN (hX.stay hS hGE)⟩ rfl rfl hl.1 rfl (lv_room (Nat.le_of_ble_eq_true rfl)) dX10_rivers_50 ⟨Nat.zero_le _, Nat.zero_le _⟩) hS (wA_cg rfl) (fun H_50 locs_50 hB_50 _ hk_50 hS => ?_)
  have hP : va_P D vwCl (cs10 ct a r_50) H_50 := hB_50
  refine hL53 _ fu r_50 _ _ _ hP hS (lv_sub hl [0] rfl) hf (fun oz H locs ls hP hS hl hf => ?_)
  refine lv_aload_n hx hb dX10_rivers_74 rfl (lv_at hl 0 rfl) ?_
  obtain ⟨r_75, e_75, hf⟩ := ob_bind hf
  have hPX_75 : va_P D vwCl (cs10 ct a oz) H := hP
  refine ro_call1 (va_runV (As := []) (rest := []) ⟨hx, hb, hml, hown, htl⟩ (c_X10_good l D ct G a fu oz e_75) (cw_X10_X10_good htl ⟨Nat.le_of_ble_eq_true rfl, Nat.le_of_ble_eq_true rfl⟩) ⟨Bx_blind, va_recv hK hPX_75 (ci := 10) (q0 := 0) rfl rfl, Bx_pre hPX_75 hK hN (hX.stay hS hGE)⟩ rfl rfl hl.1 rfl (lv_room (Nat.le_of_ble_eq_true rfl)) dX10_rivers_75 ⟨Nat.zero_le _, Nat.zero_le _⟩) ?_
  refine lv_if_ne (tgt := 84) hx hb dX10_rivers_78 (by decide) (fun c_78 => ?_) (fun c_78 => ?_)
  rotate_left 1
  · rw [if_pos c_78] at hf
    refine lv_bipush (v := (-4)) hx hb dX10_rivers_81 (by decide) ?_
    rw [← hQQ]
    cases hf
    exact rw_i hx hb hr hlocks hP hS dX10_rivers_83
  rw [if_neg c_78] at hf
  refine lv_iconst (v := 0) hx hb dX10_rivers_84 (by decide) ?_
  refine lv_istore_n (lv' := [(1, .int 0), (0, .ref (a 0))]) hx hb dX10_rivers_85 rfl hl (by decide) rfl (fun ls hl => ?_)
  refine hL86 _ fu oz 0 _ _ _ hP hS (lv_sub hl [1, 0] rfl) hf (fun oz H locs ls hP hS hl hf => ?_)
  refine lv_iconst (v := 0) hx hb dX10_rivers_138 (by decide) ?_
  refine lv_istore_n (lv' := [(1, .int 0), (0, .ref (a 0))]) hx hb dX10_rivers_139 rfl hl (by decide) rfl (fun ls hl => ?_)
  exact hL140 fu oz 0 _ _ _ hP hS (lv_sub hl [1, 0] rfl) hf 
theorem c_X10_rivers (l : Launch) (D : va_G) (ct : Nat → ClassId) (G : GT) (a : Nat → Nat) (fu : Nat) (o : Ob) {r : Int32 × Ob} (hf : p_X10_rivers fu o = some r)  (hD0 : va_D (GE G) (cs10 ct a o)) : Met l yX10_rivers (.code yX10_rivers cX10_rivers 2 (some .int) :: wsL_law) rm_X10_rivers (va_Pc [.ref (a 0)] (Bx D ct G (cs10 ct a o))) (Qwr (some (.int r.1)) (fun H => va_P D vwCl (cs10 ct a r.2) H) (wA (cs10 ct a o))) 0 0 (wA (cs10 ct a o)) := by
  refine Met.ofW (cc := cX10_rivers) (maxL := 2) (ret := (some .int)) (by decide) rfl ?_
  intro p e s m args below meth c s₁ B hml hv
  obtain ⟨rfl, hP, hK, hN, hX⟩ := hv
  have hts := atoms_spec (ws := .code yX10_rivers cX10_rivers 2 (some .int) :: wsL_law) B.pre
  rw [lg_entry_eq]
  exact b_X10_rivers a fu o B.exec B.bytes B.returns hml (findClass_of_methodNamed B.named) (fun w h => hts w (List.mem_cons_of_mem _ h)) B.notSynchronized hK hN hX hP hf hD0  (lv_entry [.ref (a 0)] (n := 2) (Nat.le_of_ble_eq_true rfl))
theorem hd_X10_isReach : yX10_isReach.cls ≠ "java/lang/invoke/MethodHandle" ∧ yX10_isReach.cls ≠ "java/lang/invoke/VarHandle" ∧ (parseMethodDescriptor yX10_isReach.desc).map (fun d => d.parameters.length) = some 1 := by decide +kernel
theorem cw_X10_X10_isReach {R : Room} {s : State} {args : Array Value} (ht : ∀ w ∈ wsL_law, w.before args s = true) (hR : rm_X10_isReach.frames + 1 ≤ R.frames ∧ 8 + (3 + 11) + rm_X10_isReach.locals ≤ R.locals) : CallW R s args RX10 RX10 219 yX10_isReach cX10_isReach 3 (some .boolean) ((.code yX10_isReach cX10_isReach 3 (some .boolean)) :: wsL_law) rm_X10_isReach 0 0 1 := cwV 1 ht (GV wq_20_10 wq_20_11 wq_20_12 wq_1_5 wq_20_13) rfl rfl rfl ⟨rfl, hd_X10_isReach⟩ hR
theorem hd_X10_of : yX10_of.cls ≠ "java/lang/invoke/MethodHandle" ∧ yX10_of.cls ≠ "java/lang/invoke/VarHandle" ∧ (parseMethodDescriptor yX10_of.desc).map (fun d => d.parameters.length) = some 2 := by decide +kernel
theorem cw_X10_X10_of {R : Room} {s : State} {args : Array Value} (ht : ∀ w ∈ wsL_law, w.before args s = true) (hR : rm_X10_of.frames + 1 ≤ R.frames ∧ 8 + (3 + 11) + rm_X10_of.locals ≤ R.locals) : CallW R s args RX10 RX10 223 yX10_of cX10_of 3 (some .int) ((.code yX10_of cX10_of 3 (some .int)) :: wsL_law) rm_X10_of 0 0 2 := cwV 2 ht (GV wq_20_14 wq_20_15 wq_20_16 wq_1_5 wq_20_17) rfl rfl rfl ⟨rfl, hd_X10_of⟩ hR
def p_X10_reach (fu : Nat) (o : Ob) (v1 : Int32) (v2 : Int32) : Option (Int32) :=
  (p_X10_isReach fu o v1.toInt64).bind fun r_3 => if r_3 = 0 then some ((-2) : Int32) else (p_X10_in fu v2.toInt64 (0 : Int64) (2 : Int64)).bind fun r_15 => if r_15 = 0 then some ((-2) : Int32) else (p_X10_of fu o v1 v2).bind fun r_24 => some r_24
abbrev rm_X10_reach : Room := { frames := 2, cells := 0, slots := 0, locals := 47 }
set_option maxHeartbeats 4000000 in
set_option maxRecDepth 100000 in
theorem b_X10_reach {p : Program} {l : Launch} {e : Env} {s : State} {m : MethodId} {args : Array Value} {below : List Frame} {meth : Method} {c : Code} {ls : Array Slot} {D : va_G} {ct : Nat → ClassId} {G : GT} (a : Nat → Nat) (fu : Nat) (o : Ob) (v1 : Int32) (v2 : Int32) {r : Int32} (hx : p.tables.exec = Jvm.exec) (hb : c.code = cX10_reach) (hr : meth.sig.returnType = (some .int)) (hml : c.maxLocals = 3) (hown : s.vm.findClass RX10 = some m.cls) (htl : ∀ w ∈ wsL_law, w.before args s = true) (hlocks : meth.locks = false) (hK : va_K D vwCl (tyl ct) s) (hN : ∀ w ∈ NW, va_Nw w s) (hX : SX G s s.heap) (hP0 : va_P D vwCl (cs10 ct a o) s.heap) (hf : p_X10_reach fu o v1 v2 = some r)  (hl : lv_has ls 3 [(0, .ref (a 0)), (1, .int v1), (2, .int v2)]) : W p l e rm_X10_reach s m args below meth c s.heap [] 0 0 (MQ below (Qro (some (.int r))) args s 0 0 (fun _ => False)) (F0 m 0 ls []) := by
  generalize hQQ : MQ below (Qro (some (.int r))) args s 0 0 (fun _ => False) = QQ
  have hP := hP0
  rw [p_X10_reach] at hf
  refine lv_aload_n hx hb dX10_reach_0 rfl (lv_at hl 0 rfl) ?_
  refine lv_iload_n hx hb dX10_reach_1 rfl (lv_at hl 1 rfl) ?_
  refine lv_i2l hx hb dX10_reach_2 rfl ?_
  obtain ⟨r_3, e_3, hf⟩ := ob_bind hf
  have hPX_3 : va_P D vwCl (cs10 ct a o) s.heap := hP
  refine ro_call1 (va_runV (As := [.long v1.toInt64]) (rest := []) ⟨hx, hb, hml, hown, htl⟩ (c_X10_isReach l D ct G a fu o v1.toInt64 e_3) (cw_X10_X10_isReach htl ⟨Nat.le_of_ble_eq_true rfl, Nat.le_of_ble_eq_true rfl⟩) ⟨Bx_blind, va_recv hK hPX_3 (ci := 10) (q0 := 0) rfl rfl, Bx_pre hPX_3 hK hN hX⟩ rfl rfl hl.1 rfl (lv_room (Nat.le_of_ble_eq_true rfl)) dX10_reach_3 ⟨Nat.zero_le _, Nat.zero_le _⟩) ?_
  refine lv_if_eq (tgt := 30) hx hb dX10_reach_6 (by decide) (fun c_6 => ?_) (fun c_6 => ?_)
  · rw [if_pos c_6] at hf
    refine lv_bipush (v := (-2)) hx hb dX10_reach_30 (by decide) ?_
    rw [← hQQ]
    exact rf_i hx hb hr hlocks hf dX10_reach_32
  rw [if_neg c_6] at hf
  refine lv_iload_n hx hb dX10_reach_9 rfl (lv_at hl 2 rfl) ?_
  refine lv_i2l hx hb dX10_reach_10 rfl ?_
  refine lv_lconst (v := 0) hx hb dX10_reach_11 (by decide) ?_
  refine lv_ldc2 (v := 2) hx hb hown (htl _ wq_20_9) dX10_reach_12 ?_
  obtain ⟨r_15, e_15, hf⟩ := ob_bind hf
  have hPX_15 : va_P D vwCl ([]) s.heap := P_nil
  refine ro_call1 (va_runS (As := [.long v2.toInt64, .long 0, .long 2]) (rest := []) ⟨hx, hb, hml, hown, htl⟩ (c_X10_in l D ct G fu v2.toInt64 (0 : Int64) (2 : Int64) e_15) (cw_X10_X10_in htl ⟨Nat.le_of_ble_eq_true rfl, Nat.le_of_ble_eq_true rfl⟩) ⟨Bx_blind, Bx_pre hPX_15 hK hN hX⟩ rfl rfl hl.1 rfl (lv_room (Nat.le_of_ble_eq_true rfl)) dX10_reach_15 ⟨Nat.zero_le _, Nat.zero_le _⟩) ?_
  refine lv_if_eq (tgt := 30) hx hb dX10_reach_18 (by decide) (fun c_18 => ?_) (fun c_18 => ?_)
  · rw [if_pos c_18] at hf
    refine lv_bipush (v := (-2)) hx hb dX10_reach_30 (by decide) ?_
    rw [← hQQ]
    exact rf_i hx hb hr hlocks hf dX10_reach_32
  rw [if_neg c_18] at hf
  refine lv_aload_n hx hb dX10_reach_21 rfl (lv_at hl 0 rfl) ?_
  refine lv_iload_n hx hb dX10_reach_22 rfl (lv_at hl 1 rfl) ?_
  refine lv_iload_n hx hb dX10_reach_23 rfl (lv_at hl 2 rfl) ?_
  obtain ⟨r_24, e_24, hf⟩ := ob_bind hf
  have hPX_24 : va_P D vwCl (cs10 ct a o) s.heap := hP
  refine ro_call1 (va_runV (As := [.int v1, .int v2]) (rest := []) ⟨hx, hb, hml, hown, htl⟩ (c_X10_of l D ct G a fu o v1 v2 e_24) (cw_X10_X10_of htl ⟨Nat.le_of_ble_eq_true rfl, Nat.le_of_ble_eq_true rfl⟩) ⟨Bx_blind, va_recv hK hPX_24 (ci := 10) (q0 := 0) rfl rfl, Bx_pre hPX_24 hK hN hX⟩ rfl rfl hl.1 rfl (lv_room (Nat.le_of_ble_eq_true rfl)) dX10_reach_24 ⟨Nat.zero_le _, Nat.zero_le _⟩) ?_
  refine lv_goto (tgt := 32) hx hb dX10_reach_27 (by decide) ?_
  rw [← hQQ]
  exact rf_i hx hb hr hlocks hf dX10_reach_32
theorem c_X10_reach (l : Launch) (D : va_G) (ct : Nat → ClassId) (G : GT) (a : Nat → Nat) (fu : Nat) (o : Ob) (v1 : Int32) (v2 : Int32) {r : Int32} (hf : p_X10_reach fu o v1 v2 = some r)  : Met l yX10_reach (.code yX10_reach cX10_reach 3 (some .int) :: wsL_law) rm_X10_reach (va_Pc [.ref (a 0), .int v1, .int v2] (Bx D ct G (cs10 ct a o))) (Qro (some (.int r))) 0 0 (fun _ => False) := by
  refine Met.ofW (cc := cX10_reach) (maxL := 3) (ret := (some .int)) (by decide) rfl ?_
  intro p e s m args below meth c s₁ B hml hv
  obtain ⟨rfl, hP, hK, hN, hX⟩ := hv
  have hts := atoms_spec (ws := .code yX10_reach cX10_reach 3 (some .int) :: wsL_law) B.pre
  rw [lg_entry_eq]
  exact b_X10_reach a fu o v1 v2 B.exec B.bytes B.returns hml (findClass_of_methodNamed B.named) (fun w h => hts w (List.mem_cons_of_mem _ h)) B.notSynchronized hK hN hX hP hf   (lv_entry [.ref (a 0), .int v1, .int v2] (n := 3) (Nat.le_of_ble_eq_true rfl))
def p_X10_rain (fu : Nat) (o : Ob) (v1 : Int32) (v2 : Int32) : Option (Int32) :=
  if inb (5 : Int32) 98 = true then (p_X10_in fu v1.toInt64 (0 : Int64) ((((o.1 1) (5 : Int32).toNatClampNeg) - 1).toInt64)).bind fun r_12 => if r_12 = 0 then some ((-2) : Int32) else (p_X10_in fu v2.toInt64 (0 : Int64) (1 : Int64)).bind fun r_22 => if r_22 = 0 then some ((-2) : Int32) else if inb ((58 + (2 * v1)) + v2) 98 = true then some ((o.1 1) ((58 + (2 * v1)) + v2).toNatClampNeg) else none else none
abbrev rm_X10_rain : Room := { frames := 1, cells := 0, slots := 0, locals := 25 }
set_option maxHeartbeats 4000000 in
set_option maxRecDepth 100000 in
theorem b_X10_rain {p : Program} {l : Launch} {e : Env} {s : State} {m : MethodId} {args : Array Value} {below : List Frame} {meth : Method} {c : Code} {ls : Array Slot} {D : va_G} {ct : Nat → ClassId} {G : GT} (a : Nat → Nat) (fu : Nat) (o : Ob) (v1 : Int32) (v2 : Int32) {r : Int32} (hx : p.tables.exec = Jvm.exec) (hb : c.code = cX10_rain) (hr : meth.sig.returnType = (some .int)) (hml : c.maxLocals = 3) (hown : s.vm.findClass RX10 = some m.cls) (htl : ∀ w ∈ wsL_law, w.before args s = true) (hlocks : meth.locks = false) (hK : va_K D vwCl (tyl ct) s) (hN : ∀ w ∈ NW, va_Nw w s) (hX : SX G s s.heap) (hP0 : va_P D vwCl (cs10 ct a o) s.heap) (hf : p_X10_rain fu o v1 v2 = some r)  (hl : lv_has ls 3 [(0, .ref (a 0)), (1, .int v1), (2, .int v2)]) : W p l e rm_X10_rain s m args below meth c s.heap [] 0 0 (MQ below (Qro (some (.int r))) args s 0 0 (fun _ => False)) (F0 m 0 ls []) := by
  generalize hQQ : MQ below (Qro (some (.int r))) args s 0 0 (fun _ => False) = QQ
  have hP := hP0
  rw [p_X10_rain] at hf
  refine lv_iload_n hx hb dX10_rain_0 rfl (lv_at hl 1 rfl) ?_
  refine lv_i2l hx hb dX10_rain_1 rfl ?_
  refine lv_lconst (v := 0) hx hb dX10_rain_2 (by decide) ?_
  refine lv_aload_n hx hb dX10_rain_3 rfl (lv_at hl 0 rfl) ?_
  refine va_get (D := D) (ci := 10) (v := .ref (a 1)) (C := RX10) (T := TX10) (N := 42) hx hb htl inlX10 hown hK hP 0 rfl rfl 1 (by decide) (htl _ wq_7_0) (fun _ h9 => h9) rfl dX10_rain_4 ?_
  refine lv_iconst (v := 5) hx hb dX10_rain_7 (by decide) ?_
  obtain ⟨hi_8, hf⟩ := ob_in hf
  refine va_iald (D := D) (tys := tyl ct) hx hb hK hP 1 0 rfl rfl hi_8 dX10_rain_8 ?_
  refine lv_iconst (v := 1) hx hb dX10_rain_9 (by decide) ?_
  refine lv_isub hx hb dX10_rain_10 ?_
  refine lv_i2l hx hb dX10_rain_11 rfl ?_
  obtain ⟨r_12, e_12, hf⟩ := ob_bind hf
  have hPX_12 : va_P D vwCl ([]) s.heap := P_nil
  refine ro_call1 (va_runS (As := [.long v1.toInt64, .long 0, .long ((((o.1 1) (5 : Int32).toNatClampNeg) - 1).toInt64)]) (rest := []) ⟨hx, hb, hml, hown, htl⟩ (c_X10_in l D ct G fu v1.toInt64 (0 : Int64) ((((o.1 1) (5 : Int32).toNatClampNeg) - 1).toInt64) e_12) (cw_X10_X10_in htl ⟨Nat.le_of_ble_eq_true rfl, Nat.le_of_ble_eq_true rfl⟩) ⟨Bx_blind, Bx_pre hPX_12 hK hN hX⟩ rfl rfl hl.1 rfl (lv_room (Nat.le_of_ble_eq_true rfl)) dX10_rain_12 ⟨Nat.zero_le _, Nat.zero_le _⟩) ?_
  refine lv_if_eq (tgt := 44) hx hb dX10_rain_15 (by decide) (fun c_15 => ?_) (fun c_15 => ?_)
  · rw [if_pos c_15] at hf
    refine lv_bipush (v := (-2)) hx hb dX10_rain_44 (by decide) ?_
    rw [← hQQ]
    exact rf_i hx hb hr hlocks hf dX10_rain_46
  rw [if_neg c_15] at hf
  refine lv_iload_n hx hb dX10_rain_18 rfl (lv_at hl 2 rfl) ?_
  refine lv_i2l hx hb dX10_rain_19 rfl ?_
  refine lv_lconst (v := 0) hx hb dX10_rain_20 (by decide) ?_
  refine lv_lconst (v := 1) hx hb dX10_rain_21 (by decide) ?_
  obtain ⟨r_22, e_22, hf⟩ := ob_bind hf
  have hPX_22 : va_P D vwCl ([]) s.heap := P_nil
  refine ro_call1 (va_runS (As := [.long v2.toInt64, .long 0, .long 1]) (rest := []) ⟨hx, hb, hml, hown, htl⟩ (c_X10_in l D ct G fu v2.toInt64 (0 : Int64) (1 : Int64) e_22) (cw_X10_X10_in htl ⟨Nat.le_of_ble_eq_true rfl, Nat.le_of_ble_eq_true rfl⟩) ⟨Bx_blind, Bx_pre hPX_22 hK hN hX⟩ rfl rfl hl.1 rfl (lv_room (Nat.le_of_ble_eq_true rfl)) dX10_rain_22 ⟨Nat.zero_le _, Nat.zero_le _⟩) ?_
  refine lv_if_eq (tgt := 44) hx hb dX10_rain_25 (by decide) (fun c_25 => ?_) (fun c_25 => ?_)
  · rw [if_pos c_25] at hf
    refine lv_bipush (v := (-2)) hx hb dX10_rain_44 (by decide) ?_
    rw [← hQQ]
    exact rf_i hx hb hr hlocks hf dX10_rain_46
  rw [if_neg c_25] at hf
  refine lv_aload_n hx hb dX10_rain_28 rfl (lv_at hl 0 rfl) ?_
  refine va_get (D := D) (ci := 10) (v := .ref (a 1)) (C := RX10) (T := TX10) (N := 42) hx hb htl inlX10 hown hK hP 0 rfl rfl 1 (by decide) (htl _ wq_7_0) (fun _ h9 => h9) rfl dX10_rain_29 ?_
  refine lv_bipush (v := 58) hx hb dX10_rain_32 (by decide) ?_
  refine lv_iconst (v := 2) hx hb dX10_rain_34 (by decide) ?_
  refine lv_iload_n hx hb dX10_rain_35 rfl (lv_at hl 1 rfl) ?_
  refine lv_imul hx hb dX10_rain_36 ?_
  refine lv_iadd hx hb dX10_rain_37 ?_
  refine lv_iload_n hx hb dX10_rain_38 rfl (lv_at hl 2 rfl) ?_
  refine lv_iadd hx hb dX10_rain_39 ?_
  obtain ⟨hi_40, hf⟩ := ob_in hf
  refine va_iald (D := D) (tys := tyl ct) hx hb hK hP 1 0 rfl rfl hi_40 dX10_rain_40 ?_
  refine lv_goto (tgt := 46) hx hb dX10_rain_41 (by decide) ?_
  rw [← hQQ]
  exact rf_i hx hb hr hlocks hf dX10_rain_46
theorem c_X10_rain (l : Launch) (D : va_G) (ct : Nat → ClassId) (G : GT) (a : Nat → Nat) (fu : Nat) (o : Ob) (v1 : Int32) (v2 : Int32) {r : Int32} (hf : p_X10_rain fu o v1 v2 = some r)  : Met l yX10_rain (.code yX10_rain cX10_rain 3 (some .int) :: wsL_law) rm_X10_rain (va_Pc [.ref (a 0), .int v1, .int v2] (Bx D ct G (cs10 ct a o))) (Qro (some (.int r))) 0 0 (fun _ => False) := by
  refine Met.ofW (cc := cX10_rain) (maxL := 3) (ret := (some .int)) (by decide) rfl ?_
  intro p e s m args below meth c s₁ B hml hv
  obtain ⟨rfl, hP, hK, hN, hX⟩ := hv
  have hts := atoms_spec (ws := .code yX10_rain cX10_rain 3 (some .int) :: wsL_law) B.pre
  rw [lg_entry_eq]
  exact b_X10_rain a fu o v1 v2 B.exec B.bytes B.returns hml (findClass_of_methodNamed B.named) (fun w h => hts w (List.mem_cons_of_mem _ h)) B.notSynchronized hK hN hX hP hf   (lv_entry [.ref (a 0), .int v1, .int v2] (n := 3) (Nat.le_of_ble_eq_true rfl))
theorem hd_X10_isJoin : yX10_isJoin.cls ≠ "java/lang/invoke/MethodHandle" ∧ yX10_isJoin.cls ≠ "java/lang/invoke/VarHandle" ∧ (parseMethodDescriptor yX10_isJoin.desc).map (fun d => d.parameters.length) = some 1 := by decide +kernel
theorem cw_X10_X10_isJoin {R : Room} {s : State} {args : Array Value} (ht : ∀ w ∈ wsL_law, w.before args s = true) (hR : rm_X10_isJoin.frames + 1 ≤ R.frames ∧ 8 + (2 + 11) + rm_X10_isJoin.locals ≤ R.locals) : CallW R s args RX10 RX10 226 yX10_isJoin cX10_isJoin 2 (some .boolean) ((.code yX10_isJoin cX10_isJoin 2 (some .boolean)) :: wsL_law) rm_X10_isJoin 0 0 1 := cwV 1 ht (GV wq_21_7 wq_21_8 wq_21_9 wq_1_5 wq_21_10) rfl rfl rfl ⟨rfl, hd_X10_isJoin⟩ hR
theorem hd_X10_ofJoin : yX10_ofJoin.cls ≠ "java/lang/invoke/MethodHandle" ∧ yX10_ofJoin.cls ≠ "java/lang/invoke/VarHandle" ∧ (parseMethodDescriptor yX10_ofJoin.desc).map (fun d => d.parameters.length) = some 2 := by decide +kernel
theorem cw_X10_X10_ofJoin {R : Room} {s : State} {args : Array Value} (ht : ∀ w ∈ wsL_law, w.before args s = true) (hR : rm_X10_ofJoin.frames + 1 ≤ R.frames ∧ 8 + (3 + 11) + rm_X10_ofJoin.locals ≤ R.locals) : CallW R s args RX10 RX10 232 yX10_ofJoin cX10_ofJoin 3 (some .int) ((.code yX10_ofJoin cX10_ofJoin 3 (some .int)) :: wsL_law) rm_X10_ofJoin 0 0 2 := cwV 2 ht (GV wq_21_11 wq_21_12 wq_21_13 wq_1_5 wq_21_14) rfl rfl rfl ⟨rfl, hd_X10_ofJoin⟩ hR
def p_X10_join (fu : Nat) (o : Ob) (v1 : Int32) (v2 : Int32) : Option (Int32) :=
  (p_X10_isJoin fu o v1).bind fun r_2 => if r_2 = 0 then some ((-2) : Int32) else (p_X10_in fu v2.toInt64 (0 : Int64) (3 : Int64)).bind fun r_14 => if r_14 = 0 then some ((-2) : Int32) else (p_X10_ofJoin fu o v1 v2).bind fun r_23 => some r_23
abbrev rm_X10_join : Room := { frames := 2, cells := 0, slots := 0, locals := 46 }
set_option maxHeartbeats 4000000 in
set_option maxRecDepth 100000 in
theorem b_X10_join {p : Program} {l : Launch} {e : Env} {s : State} {m : MethodId} {args : Array Value} {below : List Frame} {meth : Method} {c : Code} {ls : Array Slot} {D : va_G} {ct : Nat → ClassId} {G : GT} (a : Nat → Nat) (fu : Nat) (o : Ob) (v1 : Int32) (v2 : Int32) {r : Int32} (hx : p.tables.exec = Jvm.exec) (hb : c.code = cX10_join) (hr : meth.sig.returnType = (some .int)) (hml : c.maxLocals = 3) (hown : s.vm.findClass RX10 = some m.cls) (htl : ∀ w ∈ wsL_law, w.before args s = true) (hlocks : meth.locks = false) (hK : va_K D vwCl (tyl ct) s) (hN : ∀ w ∈ NW, va_Nw w s) (hX : SX G s s.heap) (hP0 : va_P D vwCl (cs10 ct a o) s.heap) (hf : p_X10_join fu o v1 v2 = some r)  (hl : lv_has ls 3 [(0, .ref (a 0)), (1, .int v1), (2, .int v2)]) : W p l e rm_X10_join s m args below meth c s.heap [] 0 0 (MQ below (Qro (some (.int r))) args s 0 0 (fun _ => False)) (F0 m 0 ls []) := by
  generalize hQQ : MQ below (Qro (some (.int r))) args s 0 0 (fun _ => False) = QQ
  have hP := hP0
  rw [p_X10_join] at hf
  refine lv_aload_n hx hb dX10_join_0 rfl (lv_at hl 0 rfl) ?_
  refine lv_iload_n hx hb dX10_join_1 rfl (lv_at hl 1 rfl) ?_
  obtain ⟨r_2, e_2, hf⟩ := ob_bind hf
  have hPX_2 : va_P D vwCl (cs10 ct a o) s.heap := hP
  refine ro_call1 (va_runV (As := [.int v1]) (rest := []) ⟨hx, hb, hml, hown, htl⟩ (c_X10_isJoin l D ct G a fu o v1 e_2) (cw_X10_X10_isJoin htl ⟨Nat.le_of_ble_eq_true rfl, Nat.le_of_ble_eq_true rfl⟩) ⟨Bx_blind, va_recv hK hPX_2 (ci := 10) (q0 := 0) rfl rfl, Bx_pre hPX_2 hK hN hX⟩ rfl rfl hl.1 rfl (lv_room (Nat.le_of_ble_eq_true rfl)) dX10_join_2 ⟨Nat.zero_le _, Nat.zero_le _⟩) ?_
  refine lv_if_eq (tgt := 29) hx hb dX10_join_5 (by decide) (fun c_5 => ?_) (fun c_5 => ?_)
  · rw [if_pos c_5] at hf
    refine lv_bipush (v := (-2)) hx hb dX10_join_29 (by decide) ?_
    rw [← hQQ]
    exact rf_i hx hb hr hlocks hf dX10_join_31
  rw [if_neg c_5] at hf
  refine lv_iload_n hx hb dX10_join_8 rfl (lv_at hl 2 rfl) ?_
  refine lv_i2l hx hb dX10_join_9 rfl ?_
  refine lv_lconst (v := 0) hx hb dX10_join_10 (by decide) ?_
  refine lv_ldc2 (v := 3) hx hb hown (htl _ wq_21_6) dX10_join_11 ?_
  obtain ⟨r_14, e_14, hf⟩ := ob_bind hf
  have hPX_14 : va_P D vwCl ([]) s.heap := P_nil
  refine ro_call1 (va_runS (As := [.long v2.toInt64, .long 0, .long 3]) (rest := []) ⟨hx, hb, hml, hown, htl⟩ (c_X10_in l D ct G fu v2.toInt64 (0 : Int64) (3 : Int64) e_14) (cw_X10_X10_in htl ⟨Nat.le_of_ble_eq_true rfl, Nat.le_of_ble_eq_true rfl⟩) ⟨Bx_blind, Bx_pre hPX_14 hK hN hX⟩ rfl rfl hl.1 rfl (lv_room (Nat.le_of_ble_eq_true rfl)) dX10_join_14 ⟨Nat.zero_le _, Nat.zero_le _⟩) ?_
  refine lv_if_eq (tgt := 29) hx hb dX10_join_17 (by decide) (fun c_17 => ?_) (fun c_17 => ?_)
  · rw [if_pos c_17] at hf
    refine lv_bipush (v := (-2)) hx hb dX10_join_29 (by decide) ?_
    rw [← hQQ]
    exact rf_i hx hb hr hlocks hf dX10_join_31
  rw [if_neg c_17] at hf
  refine lv_aload_n hx hb dX10_join_20 rfl (lv_at hl 0 rfl) ?_
  refine lv_iload_n hx hb dX10_join_21 rfl (lv_at hl 1 rfl) ?_
  refine lv_iload_n hx hb dX10_join_22 rfl (lv_at hl 2 rfl) ?_
  obtain ⟨r_23, e_23, hf⟩ := ob_bind hf
  have hPX_23 : va_P D vwCl (cs10 ct a o) s.heap := hP
  refine ro_call1 (va_runV (As := [.int v1, .int v2]) (rest := []) ⟨hx, hb, hml, hown, htl⟩ (c_X10_ofJoin l D ct G a fu o v1 v2 e_23) (cw_X10_X10_ofJoin htl ⟨Nat.le_of_ble_eq_true rfl, Nat.le_of_ble_eq_true rfl⟩) ⟨Bx_blind, va_recv hK hPX_23 (ci := 10) (q0 := 0) rfl rfl, Bx_pre hPX_23 hK hN hX⟩ rfl rfl hl.1 rfl (lv_room (Nat.le_of_ble_eq_true rfl)) dX10_join_23 ⟨Nat.zero_le _, Nat.zero_le _⟩) ?_
  refine lv_goto (tgt := 31) hx hb dX10_join_26 (by decide) ?_
  rw [← hQQ]
  exact rf_i hx hb hr hlocks hf dX10_join_31
theorem c_X10_join (l : Launch) (D : va_G) (ct : Nat → ClassId) (G : GT) (a : Nat → Nat) (fu : Nat) (o : Ob) (v1 : Int32) (v2 : Int32) {r : Int32} (hf : p_X10_join fu o v1 v2 = some r)  : Met l yX10_join (.code yX10_join cX10_join 3 (some .int) :: wsL_law) rm_X10_join (va_Pc [.ref (a 0), .int v1, .int v2] (Bx D ct G (cs10 ct a o))) (Qro (some (.int r))) 0 0 (fun _ => False) := by
  refine Met.ofW (cc := cX10_join) (maxL := 3) (ret := (some .int)) (by decide) rfl ?_
  intro p e s m args below meth c s₁ B hml hv
  obtain ⟨rfl, hP, hK, hN, hX⟩ := hv
  have hts := atoms_spec (ws := .code yX10_join cX10_join 3 (some .int) :: wsL_law) B.pre
  rw [lg_entry_eq]
  exact b_X10_join a fu o v1 v2 B.exec B.bytes B.returns hml (findClass_of_methodNamed B.named) (fun w h => hts w (List.mem_cons_of_mem _ h)) B.notSynchronized hK hN hX hP hf   (lv_entry [.ref (a 0), .int v1, .int v2] (n := 3) (Nat.le_of_ble_eq_true rfl))
def p_X10_layLevels_J96 (fu : Nat) (c57 : Ob → Int32 → Int32 → Option (Ob)) (oz : Ob) (v1 : Int32) (v2 : Int32) (s1 : Int32) (s2 : Int32) (s3 : Int32) : Option (Ob) :=
    if inb s1 61 = true then c57 (oA oz 17 (upd (oz.1 17) s1.toNatClampNeg (s2 ||| s3))) v1 (v2 + 1) else none
def p_X10_layLevels_L57 (fu : Nat) (c104 : Ob → Int32 → Option (Ob)) : Nat → Ob → Int32 → Int32 → Option (Ob)
  | 0, _, _, _ => none
  | n + 1, oz, v1, v2 =>
    if inb (3 : Int32) 98 = true then if ((oz.1 1) (3 : Int32).toNatClampNeg) ≤ v2 then c104 oz v1 else if inb v1 61 = true then if inb v1 61 = true then (p_X10_of fu oz v2 (2 : Int32)).bind fun r_83 => if r_83 ≤ ((oz.1 16) v1.toNatClampNeg) then p_X10_layLevels_J96 fu (fun oz v1 v2 => p_X10_layLevels_L57 fu c104 n oz v1 v2) oz v1 v2 v1 ((oz.1 17) v1.toNatClampNeg) 0 else p_X10_layLevels_J96 fu (fun oz v1 v2 => p_X10_layLevels_L57 fu c104 n oz v1 v2) oz v1 v2 v1 ((oz.1 17) v1.toNatClampNeg) ((1 : Int32) <<< (v2 &&& 31)) else none else none else none
def p_X10_layLevels_J40 (fu : Nat) (c2 : Ob → Int32 → Option (Ob)) (oz : Ob) (v1 : Int32) (s1 : Int32) (s2 : Int32) : Option (Ob) :=
    if inb v1 61 = true then if inb s1 61 = true then if inb v1 61 = true then p_X10_layLevels_L57 fu (fun oz v1 => c2 oz (v1 + 1)) fu (oA (oA oz 16 (upd (oz.1 16) s1.toNatClampNeg (s2 + ((oz.1 15) v1.toNatClampNeg)))) 17 (upd ((oA oz 16 (upd (oz.1 16) s1.toNatClampNeg (s2 + ((oz.1 15) v1.toNatClampNeg)))).1 17) v1.toNatClampNeg (0 : Int32))) v1 0 else none else none else none
def p_X10_layLevels_L2 (fu : Nat)  : Nat → Ob → Int32 → Option (Ob)
  | 0, _, _ => none
  | n + 1, oz, v1 =>
    if (60 : Int32) < v1 then some oz else if v1 = 0 then if inb (0 : Int32) 98 = true then p_X10_layLevels_J40 fu (fun oz v1 => p_X10_layLevels_L2 fu  n oz v1) oz v1 v1 ((oz.1 1) (0 : Int32).toNatClampNeg) else none else if inb (v1 - 1) 61 = true then p_X10_layLevels_J40 fu (fun oz v1 => p_X10_layLevels_L2 fu  n oz v1) oz v1 v1 (if (0 : Int32) < (((oz.1 16) (v1 - 1).toNatClampNeg) - 1) then (((oz.1 16) (v1 - 1).toNatClampNeg) - 1) else (0 : Int32)) else none
def p_X10_layLevels (fu : Nat) (o : Ob) : Option (Ob) :=
  p_X10_layLevels_L2 fu fu o 0
abbrev rm_X10_layLevels : Room := { frames := 1, cells := 0, slots := 0, locals := 22 }
set_option maxHeartbeats 4000000 in
set_option maxRecDepth 100000 in
theorem b_X10_layLevels {p : Program} {l : Launch} {e : Env} {s : State} {m : MethodId} {args : Array Value} {below : List Frame} {meth : Method} {c : Code} {ls : Array Slot} {D : va_G} {ct : Nat → ClassId} {G : GT} (a : Nat → Nat) (fu : Nat) (o : Ob) {r : Ob} (hx : p.tables.exec = Jvm.exec) (hb : c.code = cX10_layLevels) (hr : meth.sig.returnType = none) (hml : c.maxLocals = 3) (hown : s.vm.findClass RX10 = some m.cls) (htl : ∀ w ∈ wsL_law, w.before args s = true) (hlocks : meth.locks = false) (hK : va_K D vwCl (tyl ct) s) (hN : ∀ w ∈ NW, va_Nw w s) (hX : SX G s s.heap) (hP0 : va_P D vwCl (cs10 ct a o) s.heap) (hf : p_X10_layLevels fu o = some r) (hD0 : va_D (GE G) (cs10 ct a o))  (hl : lv_has ls 3 [(0, .ref (a 0))]) : W p l e rm_X10_layLevels s m args below meth c s.heap [] 0 0 (MQ below (Qwr none (fun H => va_P D vwCl (cs10 ct a r) H) (wA (cs10 ct a o))) args s 0 0 (wA (cs10 ct a o))) (F0 m 0 ls []) := by
  generalize hQQ : MQ below (Qwr none (fun H => va_P D vwCl (cs10 ct a r) H) (wA (cs10 ct a o))) args s 0 0 (wA (cs10 ct a o)) = QQ
  have hDx : ∀ (oy : Ob), va_D (GE G) (cs10 ct a oy) := fun oy => D_cr hD0 rfl
  have hDW : ∀ (oy : Ob), va_D (wA (cs10 ct a o)) (cs10 ct a oy) := fun oy => D_cr (D_self hD0) rfl
  have hGE : ∀ q, wA (cs10 ct a o) q → GE G q := wA_GE hD0
  have hP := hP0
  have hS : va_S (wA (cs10 ct a o)) s.heap s.heap [] := va_S.rf
  have hJ96 : ∀ (c57 : Ob → Int32 → Int32 → Option (Ob)) (oz : Ob) (v1 : Int32) (v2 : Int32) (s1 : Int32) (s2 : Int32) (s3 : Int32), ∀ (H : Heap) (locs : List Loc) (ls : Array Slot), va_P D vwCl (cs10 ct a oz) H → va_S (wA (cs10 ct a o)) s.heap H locs → lv_has ls 3 [(0, .ref (a 0)), (1, .int v1), (2, .int v2)] → p_X10_layLevels_J96 fu c57 oz v1 v2 s1 s2 s3 = some r → (∀ (oz : Ob) (v1 : Int32) (v2 : Int32), ∀ (H : Heap) (locs : List Loc) (ls : Array Slot), va_P D vwCl (cs10 ct a oz) H → va_S (wA (cs10 ct a o)) s.heap H locs → lv_has ls 3 [(0, .ref (a 0)), (1, .int v1), (2, .int v2)] → c57 oz v1 v2 = some r → W p l e rm_X10_layLevels s m args below meth c H locs 0 0 QQ (F0 m 57 ls [])) → W p l e rm_X10_layLevels s m args below meth c H locs 0 0 QQ (F0 m 96 ls [.int s3, .int s2, .int s1, .ref (a 9)]) := by
    intro c57 oz v1 v2 s1 s2 s3 H locs ls hP hS hl hf k57
    rw [p_X10_layLevels_J96] at hf
    refine lv_ior hx hb dX10_layLevels_96 ?_
    obtain ⟨hi_97, hf⟩ := ob_in hf
    refine va_iast (D := D) (tys := tyl ct) hx hb hK hP (hDW oz) hS 9 0 rfl rfl hi_97 dX10_layLevels_97 (fun H_97 locs_97 hP _ hS => ?_)
    have hP : va_P D vwCl (cs10 ct a (oA oz 17 (upd (oz.1 17) s1.toNatClampNeg (s2 ||| s3)))) H_97 := sa10_17 hP
    refine lv_iinc (v := (v2 + 1)) (lv' := [(2, .int (v2 + 1)), (0, .ref (a 0)), (1, .int v1)]) hx hb dX10_layLevels_98 hl (k := 2) rfl rfl (by decide) rfl (fun ls hl => ?_)
    refine lv_goto (tgt := 57) hx hb dX10_layLevels_101 (by decide) ?_
    exact k57 (oA oz 17 (upd (oz.1 17) s1.toNatClampNeg (s2 ||| s3))) v1 (v2 + 1) _ _ _ hP hS (lv_sub hl [1, 2, 0] rfl) hf
  have hL57 : ∀ (c104 : Ob → Int32 → Option (Ob)) (n : Nat) (oz : Ob) (v1 : Int32) (v2 : Int32), ∀ (H : Heap) (locs : List Loc) (ls : Array Slot), va_P D vwCl (cs10 ct a oz) H → va_S (wA (cs10 ct a o)) s.heap H locs → lv_has ls 3 [(0, .ref (a 0)), (1, .int v1), (2, .int v2)] → p_X10_layLevels_L57 fu c104 n oz v1 v2 = some r → (∀ (oz : Ob) (v1 : Int32), ∀ (H : Heap) (locs : List Loc) (ls : Array Slot), va_P D vwCl (cs10 ct a oz) H → va_S (wA (cs10 ct a o)) s.heap H locs → lv_has ls 3 [(0, .ref (a 0)), (1, .int v1)] → c104 oz v1 = some r → W p l e rm_X10_layLevels s m args below meth c H locs 0 0 QQ (F0 m 104 ls [])) → W p l e rm_X10_layLevels s m args below meth c H locs 0 0 QQ (F0 m 57 ls []) := by
    intro c104 n
    induction n with
    | zero =>
      intro oz v1 v2 H locs ls hP hS hl hf k104
      rw [p_X10_layLevels_L57] at hf
      cases hf
    | succ n ih =>
      intro oz v1 v2 H locs ls hP hS hl hf k104
      rw [p_X10_layLevels_L57] at hf
      refine lv_iload_n hx hb dX10_layLevels_57 rfl (lv_at hl 2 rfl) ?_
      refine lv_aload_n hx hb dX10_layLevels_58 rfl (lv_at hl 0 rfl) ?_
      refine va_get (D := D) (ci := 10) (v := .ref (a 1)) (C := RX10) (T := TX10) (N := 42) hx hb htl inlX10 hown hK hP 0 rfl rfl 1 (by decide) (htl _ wq_7_0) (fun _ h9 => h9) rfl dX10_layLevels_59 ?_
      refine lv_iconst (v := 3) hx hb dX10_layLevels_62 (by decide) ?_
      obtain ⟨hi_63, hf⟩ := ob_in hf
      refine va_iald (D := D) (tys := tyl ct) hx hb hK hP 1 0 rfl rfl hi_63 dX10_layLevels_63 ?_
      refine lv_icmp_ge (tgt := 104) hx hb dX10_layLevels_64 (by decide) (fun c_64 => ?_) (fun c_64 => ?_)
      · rw [if_pos c_64] at hf
        exact k104 oz v1 _ _ _ hP hS (lv_sub hl [0, 1] rfl) hf
      rw [if_neg c_64] at hf
      refine lv_aload_n hx hb dX10_layLevels_67 rfl (lv_at hl 0 rfl) ?_
      refine va_get (D := D) (ci := 10) (v := .ref (a 9)) (C := RX10) (T := TX10) (N := 42) hx hb htl inlX10 hown hK hP 0 rfl rfl 17 (by decide) (htl _ wq_7_11) (fun _ h9 => h9) rfl dX10_layLevels_68 ?_
      refine lv_iload_n hx hb dX10_layLevels_71 rfl (lv_at hl 1 rfl) ?_
      refine lv_dup2_11 hx hb dX10_layLevels_72 rfl rfl ?_
      obtain ⟨hi_73, hf⟩ := ob_in hf
      refine va_iald (D := D) (tys := tyl ct) hx hb hK hP 9 0 rfl rfl hi_73 dX10_layLevels_73 ?_
      refine lv_aload_n hx hb dX10_layLevels_74 rfl (lv_at hl 0 rfl) ?_
      refine va_get (D := D) (ci := 10) (v := .ref (a 8)) (C := RX10) (T := TX10) (N := 42) hx hb htl inlX10 hown hK hP 0 rfl rfl 16 (by decide) (htl _ wq_7_10) (fun _ h9 => h9) rfl dX10_layLevels_75 ?_
      refine lv_iload_n hx hb dX10_layLevels_78 rfl (lv_at hl 1 rfl) ?_
      obtain ⟨hi_79, hf⟩ := ob_in hf
      refine va_iald (D := D) (tys := tyl ct) hx hb hK hP 8 0 rfl rfl hi_79 dX10_layLevels_79 ?_
      refine lv_aload_n hx hb dX10_layLevels_80 rfl (lv_at hl 0 rfl) ?_
      refine lv_iload_n hx hb dX10_layLevels_81 rfl (lv_at hl 2 rfl) ?_
      refine lv_iconst (v := 2) hx hb dX10_layLevels_82 (by decide) ?_
      obtain ⟨r_83, e_83, hf⟩ := ob_bind hf
      have hPX_83 : va_P D vwCl (cs10 ct a oz) H := hP
      refine ro_call1 (va_runV (As := [.int v2, .int 2]) (rest := [.int ((oz.1 16) v1.toNatClampNeg), .int ((oz.1 17) v1.toNatClampNeg), .int v1, .ref (a 9)]) ⟨hx, hb, hml, hown, htl⟩ (c_X10_of l D ct G a fu oz v2 (2 : Int32) e_83) (cw_X10_X10_of htl ⟨Nat.le_of_ble_eq_true rfl, Nat.le_of_ble_eq_true rfl⟩) ⟨Bx_blind, va_recv hK hPX_83 (ci := 10) (q0 := 0) rfl rfl, Bx_pre hPX_83 hK hN (hX.stay hS hGE)⟩ rfl rfl hl.1 rfl (lv_room (Nat.le_of_ble_eq_true rfl)) dX10_layLevels_83 ⟨Nat.zero_le _, Nat.zero_le _⟩) ?_
      refine lv_icmp_ge (tgt := 95) hx hb dX10_layLevels_86 (by decide) (fun c_86 => ?_) (fun c_86 => ?_)
      · rw [if_pos c_86] at hf
        refine lv_iconst (v := 0) hx hb dX10_layLevels_95 (by decide) ?_
        exact hJ96 _ oz v1 v2 v1 ((oz.1 17) v1.toNatClampNeg) 0 _ _ _ hP hS (lv_sub hl [0, 1, 2] rfl) hf (fun oz v1 v2 H locs ls hP hS hl hf => ih oz v1 v2 H locs ls hP hS hl hf k104)
      rw [if_neg c_86] at hf
      refine lv_iconst (v := 1) hx hb dX10_layLevels_89 (by decide) ?_
      refine lv_iload_n hx hb dX10_layLevels_90 rfl (lv_at hl 2 rfl) ?_
      refine lv_ishl hx hb dX10_layLevels_91 ?_
      refine lv_goto (tgt := 96) hx hb dX10_layLevels_92 (by decide) ?_
      exact hJ96 _ oz v1 v2 v1 ((oz.1 17) v1.toNatClampNeg) ((1 : Int32) <<< (v2 &&& 31)) _ _ _ hP hS (lv_sub hl [0, 1, 2] rfl) hf (fun oz v1 v2 H locs ls hP hS hl hf => ih oz v1 v2 H locs ls hP hS hl hf k104)
  have hJ40 : ∀ (c2 : Ob → Int32 → Option (Ob)) (oz : Ob) (v1 : Int32) (s1 : Int32) (s2 : Int32), ∀ (H : Heap) (locs : List Loc) (ls : Array Slot), va_P D vwCl (cs10 ct a oz) H → va_S (wA (cs10 ct a o)) s.heap H locs → lv_has ls 3 [(0, .ref (a 0)), (1, .int v1)] → p_X10_layLevels_J40 fu c2 oz v1 s1 s2 = some r → (∀ (oz : Ob) (v1 : Int32), ∀ (H : Heap) (locs : List Loc) (ls : Array Slot), va_P D vwCl (cs10 ct a oz) H → va_S (wA (cs10 ct a o)) s.heap H locs → lv_has ls 3 [(0, .ref (a 0)), (1, .int v1)] → c2 oz v1 = some r → W p l e rm_X10_layLevels s m args below meth c H locs 0 0 QQ (F0 m 2 ls [])) → W p l e rm_X10_layLevels s m args below meth c H locs 0 0 QQ (F0 m 40 ls [.int s2, .int s1, .ref (a 8)]) := by
    intro c2 oz v1 s1 s2 H locs ls hP hS hl hf k2
    rw [p_X10_layLevels_J40] at hf
    refine lv_aload_n hx hb dX10_layLevels_40 rfl (lv_at hl 0 rfl) ?_
    refine va_get (D := D) (ci := 10) (v := .ref (a 7)) (C := RX10) (T := TX10) (N := 42) hx hb htl inlX10 hown hK hP 0 rfl rfl 15 (by decide) (htl _ wq_7_9) (fun _ h9 => h9) rfl dX10_layLevels_41 ?_
    refine lv_iload_n hx hb dX10_layLevels_44 rfl (lv_at hl 1 rfl) ?_
    obtain ⟨hi_45, hf⟩ := ob_in hf
    refine va_iald (D := D) (tys := tyl ct) hx hb hK hP 7 0 rfl rfl hi_45 dX10_layLevels_45 ?_
    refine lv_iadd hx hb dX10_layLevels_46 ?_
    obtain ⟨hi_47, hf⟩ := ob_in hf
    refine va_iast (D := D) (tys := tyl ct) hx hb hK hP (hDW oz) hS 8 0 rfl rfl hi_47 dX10_layLevels_47 (fun H_47 locs_47 hP _ hS => ?_)
    have hP : va_P D vwCl (cs10 ct a (oA oz 16 (upd (oz.1 16) s1.toNatClampNeg (s2 + ((oz.1 15) v1.toNatClampNeg))))) H_47 := sa10_16 hP
    refine lv_aload_n hx hb dX10_layLevels_48 rfl (lv_at hl 0 rfl) ?_
    refine va_get (D := D) (ci := 10) (v := .ref (a 9)) (C := RX10) (T := TX10) (N := 42) hx hb htl inlX10 hown hK hP 0 rfl rfl 17 (by decide) (htl _ wq_7_11) (fun _ h9 => h9) rfl dX10_layLevels_49 ?_
    refine lv_iload_n hx hb dX10_layLevels_52 rfl (lv_at hl 1 rfl) ?_
    refine lv_iconst (v := 0) hx hb dX10_layLevels_53 (by decide) ?_
    obtain ⟨hi_54, hf⟩ := ob_in hf
    refine va_iast (D := D) (tys := tyl ct) hx hb hK hP (hDW (oA oz 16 (upd (oz.1 16) s1.toNatClampNeg (s2 + ((oz.1 15) v1.toNatClampNeg))))) hS 9 0 rfl rfl hi_54 dX10_layLevels_54 (fun H_54 locs_54 hP _ hS => ?_)
    have hP : va_P D vwCl (cs10 ct a (oA (oA oz 16 (upd (oz.1 16) s1.toNatClampNeg (s2 + ((oz.1 15) v1.toNatClampNeg)))) 17 (upd ((oA oz 16 (upd (oz.1 16) s1.toNatClampNeg (s2 + ((oz.1 15) v1.toNatClampNeg)))).1 17) v1.toNatClampNeg (0 : Int32)))) H_54 := sa10_17 hP
    refine lv_iconst (v := 0) hx hb dX10_layLevels_55 (by decide) ?_
    refine lv_istore_n (lv' := [(2, .int 0), (0, .ref (a 0)), (1, .int v1)]) hx hb dX10_layLevels_56 rfl hl (by decide) rfl (fun ls hl => ?_)
    refine hL57 _ fu (oA (oA oz 16 (upd (oz.1 16) s1.toNatClampNeg (s2 + ((oz.1 15) v1.toNatClampNeg)))) 17 (upd ((oA oz 16 (upd (oz.1 16) s1.toNatClampNeg (s2 + ((oz.1 15) v1.toNatClampNeg)))).1 17) v1.toNatClampNeg (0 : Int32))) v1 0 _ _ _ hP hS (lv_sub hl [1, 2, 0] rfl) hf (fun oz v1 H locs ls hP hS hl hf => ?_)
    refine lv_iinc (v := (v1 + 1)) (lv' := [(1, .int (v1 + 1)), (0, .ref (a 0))]) hx hb dX10_layLevels_104 hl (k := 1) rfl rfl (by decide) rfl (fun ls hl => ?_)
    refine lv_goto (tgt := 2) hx hb dX10_layLevels_107 (by decide) ?_
    exact k2 oz (v1 + 1) _ _ _ hP hS (lv_sub hl [1, 0] rfl) hf
  have hL2 : ∀ (n : Nat) (oz : Ob) (v1 : Int32), ∀ (H : Heap) (locs : List Loc) (ls : Array Slot), va_P D vwCl (cs10 ct a oz) H → va_S (wA (cs10 ct a o)) s.heap H locs → lv_has ls 3 [(0, .ref (a 0)), (1, .int v1)] → p_X10_layLevels_L2 fu  n oz v1 = some r → W p l e rm_X10_layLevels s m args below meth c H locs 0 0 QQ (F0 m 2 ls []) := by
    intro  n
    induction n with
    | zero =>
      intro oz v1 H locs ls hP hS hl hf 
      rw [p_X10_layLevels_L2] at hf
      cases hf
    | succ n ih =>
      intro oz v1 H locs ls hP hS hl hf 
      rw [p_X10_layLevels_L2] at hf
      refine lv_iload_n hx hb dX10_layLevels_2 rfl (lv_at hl 1 rfl) ?_
      refine lv_bipush (v := 60) hx hb dX10_layLevels_3 (by decide) ?_
      refine lv_icmp_gt (tgt := 110) hx hb dX10_layLevels_5 (by decide) (fun c_5 => ?_) (fun c_5 => ?_)
      · rw [if_pos c_5] at hf
        rw [← hQQ]
        cases hf
        exact rw_v hx hb hr hlocks hP hS dX10_layLevels_110
      rw [if_neg c_5] at hf
      refine lv_aload_n hx hb dX10_layLevels_8 rfl (lv_at hl 0 rfl) ?_
      refine va_get (D := D) (ci := 10) (v := .ref (a 8)) (C := RX10) (T := TX10) (N := 42) hx hb htl inlX10 hown hK hP 0 rfl rfl 16 (by decide) (htl _ wq_7_10) (fun _ h9 => h9) rfl dX10_layLevels_9 ?_
      refine lv_iload_n hx hb dX10_layLevels_12 rfl (lv_at hl 1 rfl) ?_
      refine lv_iload_n hx hb dX10_layLevels_13 rfl (lv_at hl 1 rfl) ?_
      refine lv_if_ne (tgt := 26) hx hb dX10_layLevels_14 (by decide) (fun c_14 => ?_) (fun c_14 => ?_)
      rotate_left 1
      · rw [if_pos c_14] at hf
        refine lv_aload_n hx hb dX10_layLevels_17 rfl (lv_at hl 0 rfl) ?_
        refine va_get (D := D) (ci := 10) (v := .ref (a 1)) (C := RX10) (T := TX10) (N := 42) hx hb htl inlX10 hown hK hP 0 rfl rfl 1 (by decide) (htl _ wq_7_0) (fun _ h9 => h9) rfl dX10_layLevels_18 ?_
        refine lv_iconst (v := 0) hx hb dX10_layLevels_21 (by decide) ?_
        obtain ⟨hi_22, hf⟩ := ob_in hf
        refine va_iald (D := D) (tys := tyl ct) hx hb hK hP 1 0 rfl rfl hi_22 dX10_layLevels_22 ?_
        refine lv_goto (tgt := 40) hx hb dX10_layLevels_23 (by decide) ?_
        exact hJ40 _ oz v1 v1 ((oz.1 1) (0 : Int32).toNatClampNeg) _ _ _ hP hS (lv_sub hl [0, 1] rfl) hf (fun oz v1 H locs ls hP hS hl hf => ih oz v1 H locs ls hP hS hl hf )
      rw [if_neg c_14] at hf
      refine lv_iconst (v := 0) hx hb dX10_layLevels_26 (by decide) ?_
      refine lv_aload_n hx hb dX10_layLevels_27 rfl (lv_at hl 0 rfl) ?_
      refine va_get (D := D) (ci := 10) (v := .ref (a 8)) (C := RX10) (T := TX10) (N := 42) hx hb htl inlX10 hown hK hP 0 rfl rfl 16 (by decide) (htl _ wq_7_10) (fun _ h9 => h9) rfl dX10_layLevels_28 ?_
      refine lv_iload_n hx hb dX10_layLevels_31 rfl (lv_at hl 1 rfl) ?_
      refine lv_iconst (v := 1) hx hb dX10_layLevels_32 (by decide) ?_
      refine lv_isub hx hb dX10_layLevels_33 ?_
      obtain ⟨hi_34, hf⟩ := ob_in hf
      refine va_iald (D := D) (tys := tyl ct) hx hb hK hP 8 0 rfl rfl hi_34 dX10_layLevels_34 ?_
      refine lv_iconst (v := 1) hx hb dX10_layLevels_35 (by decide) ?_
      refine lv_isub hx hb dX10_layLevels_36 ?_
      refine va_mmax hx hb (hml.trans hl.1.symm) hown (htl _ wq_23_7) (htl _ wq_15_21) (htl _ wq_12_23) (htl _ wq_15_22) (Nat.le_of_ble_eq_true rfl) (Nat.le_of_ble_eq_true rfl) (Nat.zero_le _) (Nat.zero_le _) dX10_layLevels_37 ?_
      exact hJ40 _ oz v1 v1 (if (0 : Int32) < (((oz.1 16) (v1 - 1).toNatClampNeg) - 1) then (((oz.1 16) (v1 - 1).toNatClampNeg) - 1) else (0 : Int32)) _ _ _ hP hS (lv_sub hl [0, 1] rfl) hf (fun oz v1 H locs ls hP hS hl hf => ih oz v1 H locs ls hP hS hl hf )
  rw [p_X10_layLevels] at hf
  refine lv_iconst (v := 0) hx hb dX10_layLevels_0 (by decide) ?_
  refine lv_istore_n (lv' := [(1, .int 0), (0, .ref (a 0))]) hx hb dX10_layLevels_1 rfl hl (by decide) rfl (fun ls hl => ?_)
  exact hL2 fu o 0 _ _ _ hP hS (lv_sub hl [1, 0] rfl) hf 
theorem c_X10_layLevels (l : Launch) (D : va_G) (ct : Nat → ClassId) (G : GT) (a : Nat → Nat) (fu : Nat) (o : Ob) {r : Ob} (hf : p_X10_layLevels fu o = some r)  (hD0 : va_D (GE G) (cs10 ct a o)) : Met l yX10_layLevels (.code yX10_layLevels cX10_layLevels 3 none :: wsL_law) rm_X10_layLevels (va_Pc [.ref (a 0)] (Bx D ct G (cs10 ct a o))) (Qwr none (fun H => va_P D vwCl (cs10 ct a r) H) (wA (cs10 ct a o))) 0 0 (wA (cs10 ct a o)) := by
  refine Met.ofW (cc := cX10_layLevels) (maxL := 3) (ret := none) (by decide) rfl ?_
  intro p e s m args below meth c s₁ B hml hv
  obtain ⟨rfl, hP, hK, hN, hX⟩ := hv
  have hts := atoms_spec (ws := .code yX10_layLevels cX10_layLevels 3 none :: wsL_law) B.pre
  rw [lg_entry_eq]
  exact b_X10_layLevels a fu o B.exec B.bytes B.returns hml (findClass_of_methodNamed B.named) (fun w h => hts w (List.mem_cons_of_mem _ h)) B.notSynchronized hK hN hX hP hf hD0  (lv_entry [.ref (a 0)] (n := 3) (Nat.le_of_ble_eq_true rfl))
