theorem hd_X10_layLevels : yX10_layLevels.cls ≠ "java/lang/invoke/MethodHandle" ∧ yX10_layLevels.cls ≠ "java/lang/invoke/VarHandle" ∧ (parseMethodDescriptor yX10_layLevels.desc).map (fun d => d.parameters.length) = some 0 := by decide +kernel
theorem cw_X10_X10_layLevels {R : Room} {s : State} {args : Array Value} (ht : ∀ w ∈ wsL_law, w.before args s = true) (hR : rm_X10_layLevels.frames + 1 ≤ R.frames ∧ 8 + (3 + 11) + rm_X10_layLevels.locals ≤ R.locals) : CallW R s args RX10 RX10 244 yX10_layLevels cX10_layLevels 3 none ((.code yX10_layLevels cX10_layLevels 3 none) :: wsL_law) rm_X10_layLevels 0 0 0 := cwV 0 ht (GV wq_23_3 wq_23_4 wq_23_5 wq_1_5 wq_23_6) rfl rfl rfl ⟨rfl, hd_X10_layLevels⟩ hR
def p_X10_asItIs_L12 (fu : Nat) (c31 : Ob → Option (Ob)) : Nat → Ob → Int32 → Option (Ob)
  | 0, _, _ => none
  | n + 1, oz, v1 =>
    if (60 : Int32) < v1 then c31 oz else if inb v1 61 = true then p_X10_asItIs_L12 fu c31 n (oA oz 15 (upd (oz.1 15) v1.toNatClampNeg (0 : Int32))) (v1 + 1) else none
def p_X10_asItIs_L33 (fu : Nat) (c81 : Ob → Option (Ob)) : Nat → Ob → Int32 → Option (Ob)
  | 0, _, _ => none
  | n + 1, oz, v1 =>
    if inb (5 : Int32) 98 = true then if ((oz.1 1) (5 : Int32).toNatClampNeg) ≤ v1 then c81 oz else if inb ((58 + (2 * v1)) + 1) 98 = true then if inb ((oz.1 1) ((58 + (2 * v1)) + 1).toNatClampNeg) 61 = true then if inb (58 + (2 * v1)) 98 = true then if inb ((oz.1 1) ((58 + (2 * v1)) + 1).toNatClampNeg) 61 = true then p_X10_asItIs_L33 fu c81 n (oA oz 15 (upd (oz.1 15) (((oz.1 1) ((58 + (2 * v1)) + 1).toNatClampNeg).toNatClampNeg) (((oz.1 15) ((oz.1 1) ((58 + (2 * v1)) + 1).toNatClampNeg).toNatClampNeg) + ((oz.1 1) (58 + (2 * v1)).toNatClampNeg)))) (v1 + 1) else none else none else none else none else none
def p_X10_asItIs_L83 (fu : Nat) (c123 : Ob → Option (Ob)) : Nat → Ob → Int32 → Option (Ob)
  | 0, _, _ => none
  | n + 1, oz, v1 =>
    if inb (4 : Int32) 98 = true then if ((oz.1 1) (4 : Int32).toNatClampNeg) ≤ v1 then c123 oz else (p_X10_ofJoin fu oz v1 (2 : Int32)).bind fun r_101 => if inb v1 5 = true then (p_X10_ofJoin fu (oA oz 18 (upd (oz.1 18) v1.toNatClampNeg r_101)) v1 (3 : Int32)).bind fun r_113 => if inb v1 5 = true then p_X10_asItIs_L83 fu c123 n (oA (oA oz 18 (upd (oz.1 18) v1.toNatClampNeg r_101)) 19 (upd ((oA oz 18 (upd (oz.1 18) v1.toNatClampNeg r_101)).1 19) v1.toNatClampNeg r_113)) (v1 + 1) else none else none else none
def p_X10_asItIs_L125 (fu : Nat)  : Nat → Ob → Int32 → Option (Ob)
  | 0, _, _ => none
  | n + 1, oz, v1 =>
    if inb (6 : Int32) 98 = true then if ((oz.1 1) (6 : Int32).toNatClampNeg) ≤ v1 then (p_X10_layLevels fu oz).bind fun r_220 => some r_220 else if inb (68 + v1) 98 = true then if ((oz.1 1) (68 + v1).toNatClampNeg) < (100 : Int32) then if (2 : Int32) = 0 then none else if (((oz.1 1) (68 + v1).toNatClampNeg) - ((oz.1 1) (68 + v1).toNatClampNeg) / 2 * 2) = (1 : Int32) then if (2 : Int32) = 0 then none else p_X10_asItIs_L125 fu  n (oI oz 20 ((oz.1 20 0) ||| ((1 : Int32) <<< ((((oz.1 1) (68 + v1).toNatClampNeg) / 2) &&& 31)))) (v1 + 1) else if (2 : Int32) = 0 then none else p_X10_asItIs_L125 fu  n (oI oz 20 ((oz.1 20 0) &&& (((1 : Int32) <<< ((((oz.1 1) (68 + v1).toNatClampNeg) / 2) &&& 31)) ^^^ (-1)))) (v1 + 1) else if (100 : Int32) = 0 then none else if inb ((((oz.1 1) (68 + v1).toNatClampNeg) / 100) - 1) 61 = true then if (100 : Int32) = 0 then none else if inb ((((oz.1 1) (68 + v1).toNatClampNeg) / 100) - 1) 61 = true then p_X10_asItIs_L125 fu  n (oA oz 15 (upd (oz.1 15) (((((oz.1 1) (68 + v1).toNatClampNeg) / 100) - 1).toNatClampNeg) (((oz.1 15) ((((oz.1 1) (68 + v1).toNatClampNeg) / 100) - 1).toNatClampNeg) + (((oz.1 1) (68 + v1).toNatClampNeg) - ((oz.1 1) (68 + v1).toNatClampNeg) / 100 * 100)))) (v1 + 1) else none else none else none else none
def p_X10_asItIs (fu : Nat) (o : Ob) : Option (Ob) :=
  p_X10_asItIs_L12 fu (fun oz => p_X10_asItIs_L33 fu (fun oz => p_X10_asItIs_L83 fu (fun oz => p_X10_asItIs_L125 fu fu oz 0) fu oz 0) fu oz 0) fu (oI (oI o 20 (0 : Int32)) 21 (0 : Int32)) 0
abbrev rm_X10_asItIs : Room := { frames := 2, cells := 0, slots := 0, locals := 44 }
set_option maxHeartbeats 4000000 in
set_option maxRecDepth 100000 in
theorem b_X10_asItIs {p : Program} {l : Launch} {e : Env} {s : State} {m : MethodId} {args : Array Value} {below : List Frame} {meth : Method} {c : Code} {ls : Array Slot} {D : va_G} {ct : Nat → ClassId} {G : GT} (a : Nat → Nat) (fu : Nat) (o : Ob) {r : Ob} (hx : p.tables.exec = Jvm.exec) (hb : c.code = cX10_asItIs) (hr : meth.sig.returnType = none) (hml : c.maxLocals = 3) (hown : s.vm.findClass RX10 = some m.cls) (htl : ∀ w ∈ wsL_law, w.before args s = true) (hlocks : meth.locks = false) (hK : va_K D vwCl (tyl ct) s) (hN : ∀ w ∈ NW, va_Nw w s) (hX : SX G s s.heap) (hP0 : va_P D vwCl (cs10 ct a o) s.heap) (hf : p_X10_asItIs fu o = some r) (hD0 : va_D (GE G) (cs10 ct a o))  (hl : lv_has ls 3 [(0, .ref (a 0))]) : W p l e rm_X10_asItIs s m args below meth c s.heap [] 0 0 (MQ below (Qwr none (fun H => va_P D vwCl (cs10 ct a r) H) (wA (cs10 ct a o))) args s 0 0 (wA (cs10 ct a o))) (F0 m 0 ls []) := by
  generalize hQQ : MQ below (Qwr none (fun H => va_P D vwCl (cs10 ct a r) H) (wA (cs10 ct a o))) args s 0 0 (wA (cs10 ct a o)) = QQ
  have hDx : ∀ (oy : Ob), va_D (GE G) (cs10 ct a oy) := fun oy => D_cr hD0 rfl
  have hDW : ∀ (oy : Ob), va_D (wA (cs10 ct a o)) (cs10 ct a oy) := fun oy => D_cr (D_self hD0) rfl
  have hGE : ∀ q, wA (cs10 ct a o) q → GE G q := wA_GE hD0
  have hP := hP0
  have hS : va_S (wA (cs10 ct a o)) s.heap s.heap [] := va_S.rf
  have hL12 : ∀ (c31 : Ob → Option (Ob)) (n : Nat) (oz : Ob) (v1 : Int32), ∀ (H : Heap) (locs : List Loc) (ls : Array Slot), va_P D vwCl (cs10 ct a oz) H → va_S (wA (cs10 ct a o)) s.heap H locs → lv_has ls 3 [(0, .ref (a 0)), (1, .int v1)] → p_X10_asItIs_L12 fu c31 n oz v1 = some r → (∀ (oz : Ob), ∀ (H : Heap) (locs : List Loc) (ls : Array Slot), va_P D vwCl (cs10 ct a oz) H → va_S (wA (cs10 ct a o)) s.heap H locs → lv_has ls 3 [(0, .ref (a 0))] → c31 oz = some r → W p l e rm_X10_asItIs s m args below meth c H locs 0 0 QQ (F0 m 31 ls [])) → W p l e rm_X10_asItIs s m args below meth c H locs 0 0 QQ (F0 m 12 ls []) := by
    intro c31 n
    induction n with
    | zero =>
      intro oz v1 H locs ls hP hS hl hf k31
      rw [p_X10_asItIs_L12] at hf
      cases hf
    | succ n ih =>
      intro oz v1 H locs ls hP hS hl hf k31
      rw [p_X10_asItIs_L12] at hf
      refine lv_iload_n hx hb dX10_asItIs_12 rfl (lv_at hl 1 rfl) ?_
      refine lv_bipush (v := 60) hx hb dX10_asItIs_13 (by decide) ?_
      refine lv_icmp_gt (tgt := 31) hx hb dX10_asItIs_15 (by decide) (fun c_15 => ?_) (fun c_15 => ?_)
      · rw [if_pos c_15] at hf
        exact k31 oz _ _ _ hP hS (lv_sub hl [0] rfl) hf
      rw [if_neg c_15] at hf
      refine lv_aload_n hx hb dX10_asItIs_18 rfl (lv_at hl 0 rfl) ?_
      refine va_get (D := D) (ci := 10) (v := .ref (a 7)) (C := RX10) (T := TX10) (N := 42) hx hb htl inlX10 hown hK hP 0 rfl rfl 15 (by decide) (htl _ wq_7_9) (fun _ h9 => h9) rfl dX10_asItIs_19 ?_
      refine lv_iload_n hx hb dX10_asItIs_22 rfl (lv_at hl 1 rfl) ?_
      refine lv_iconst (v := 0) hx hb dX10_asItIs_23 (by decide) ?_
      obtain ⟨hi_24, hf⟩ := ob_in hf
      refine va_iast (D := D) (tys := tyl ct) hx hb hK hP (hDW oz) hS 7 0 rfl rfl hi_24 dX10_asItIs_24 (fun H_24 locs_24 hP _ hS => ?_)
      have hP : va_P D vwCl (cs10 ct a (oA oz 15 (upd (oz.1 15) v1.toNatClampNeg (0 : Int32)))) H_24 := sa10_15 hP
      refine lv_iinc (v := (v1 + 1)) (lv' := [(1, .int (v1 + 1)), (0, .ref (a 0))]) hx hb dX10_asItIs_25 hl (k := 1) rfl rfl (by decide) rfl (fun ls hl => ?_)
      refine lv_goto (tgt := 12) hx hb dX10_asItIs_28 (by decide) ?_
      exact ih (oA oz 15 (upd (oz.1 15) v1.toNatClampNeg (0 : Int32))) (v1 + 1) _ _ _ hP hS (lv_sub hl [1, 0] rfl) hf k31
  have hL33 : ∀ (c81 : Ob → Option (Ob)) (n : Nat) (oz : Ob) (v1 : Int32), ∀ (H : Heap) (locs : List Loc) (ls : Array Slot), va_P D vwCl (cs10 ct a oz) H → va_S (wA (cs10 ct a o)) s.heap H locs → lv_has ls 3 [(0, .ref (a 0)), (1, .int v1)] → p_X10_asItIs_L33 fu c81 n oz v1 = some r → (∀ (oz : Ob), ∀ (H : Heap) (locs : List Loc) (ls : Array Slot), va_P D vwCl (cs10 ct a oz) H → va_S (wA (cs10 ct a o)) s.heap H locs → lv_has ls 3 [(0, .ref (a 0))] → c81 oz = some r → W p l e rm_X10_asItIs s m args below meth c H locs 0 0 QQ (F0 m 81 ls [])) → W p l e rm_X10_asItIs s m args below meth c H locs 0 0 QQ (F0 m 33 ls []) := by
    intro c81 n
    induction n with
    | zero =>
      intro oz v1 H locs ls hP hS hl hf k81
      rw [p_X10_asItIs_L33] at hf
      cases hf
    | succ n ih =>
      intro oz v1 H locs ls hP hS hl hf k81
      rw [p_X10_asItIs_L33] at hf
      refine lv_iload_n hx hb dX10_asItIs_33 rfl (lv_at hl 1 rfl) ?_
      refine lv_aload_n hx hb dX10_asItIs_34 rfl (lv_at hl 0 rfl) ?_
      refine va_get (D := D) (ci := 10) (v := .ref (a 1)) (C := RX10) (T := TX10) (N := 42) hx hb htl inlX10 hown hK hP 0 rfl rfl 1 (by decide) (htl _ wq_7_0) (fun _ h9 => h9) rfl dX10_asItIs_35 ?_
      refine lv_iconst (v := 5) hx hb dX10_asItIs_38 (by decide) ?_
      obtain ⟨hi_39, hf⟩ := ob_in hf
      refine va_iald (D := D) (tys := tyl ct) hx hb hK hP 1 0 rfl rfl hi_39 dX10_asItIs_39 ?_
      refine lv_icmp_ge (tgt := 81) hx hb dX10_asItIs_40 (by decide) (fun c_40 => ?_) (fun c_40 => ?_)
      · rw [if_pos c_40] at hf
        exact k81 oz _ _ _ hP hS (lv_sub hl [0] rfl) hf
      rw [if_neg c_40] at hf
      refine lv_aload_n hx hb dX10_asItIs_43 rfl (lv_at hl 0 rfl) ?_
      refine va_get (D := D) (ci := 10) (v := .ref (a 7)) (C := RX10) (T := TX10) (N := 42) hx hb htl inlX10 hown hK hP 0 rfl rfl 15 (by decide) (htl _ wq_7_9) (fun _ h9 => h9) rfl dX10_asItIs_44 ?_
      refine lv_aload_n hx hb dX10_asItIs_47 rfl (lv_at hl 0 rfl) ?_
      refine va_get (D := D) (ci := 10) (v := .ref (a 1)) (C := RX10) (T := TX10) (N := 42) hx hb htl inlX10 hown hK hP 0 rfl rfl 1 (by decide) (htl _ wq_7_0) (fun _ h9 => h9) rfl dX10_asItIs_48 ?_
      refine lv_bipush (v := 58) hx hb dX10_asItIs_51 (by decide) ?_
      refine lv_iconst (v := 2) hx hb dX10_asItIs_53 (by decide) ?_
      refine lv_iload_n hx hb dX10_asItIs_54 rfl (lv_at hl 1 rfl) ?_
      refine lv_imul hx hb dX10_asItIs_55 ?_
      refine lv_iadd hx hb dX10_asItIs_56 ?_
      refine lv_iconst (v := 1) hx hb dX10_asItIs_57 (by decide) ?_
      refine lv_iadd hx hb dX10_asItIs_58 ?_
      obtain ⟨hi_59, hf⟩ := ob_in hf
      refine va_iald (D := D) (tys := tyl ct) hx hb hK hP 1 0 rfl rfl hi_59 dX10_asItIs_59 ?_
      refine lv_dup2_11 hx hb dX10_asItIs_60 rfl rfl ?_
      obtain ⟨hi_61, hf⟩ := ob_in hf
      refine va_iald (D := D) (tys := tyl ct) hx hb hK hP 7 0 rfl rfl hi_61 dX10_asItIs_61 ?_
      refine lv_aload_n hx hb dX10_asItIs_62 rfl (lv_at hl 0 rfl) ?_
      refine va_get (D := D) (ci := 10) (v := .ref (a 1)) (C := RX10) (T := TX10) (N := 42) hx hb htl inlX10 hown hK hP 0 rfl rfl 1 (by decide) (htl _ wq_7_0) (fun _ h9 => h9) rfl dX10_asItIs_63 ?_
      refine lv_bipush (v := 58) hx hb dX10_asItIs_66 (by decide) ?_
      refine lv_iconst (v := 2) hx hb dX10_asItIs_68 (by decide) ?_
      refine lv_iload_n hx hb dX10_asItIs_69 rfl (lv_at hl 1 rfl) ?_
      refine lv_imul hx hb dX10_asItIs_70 ?_
      refine lv_iadd hx hb dX10_asItIs_71 ?_
      obtain ⟨hi_72, hf⟩ := ob_in hf
      refine va_iald (D := D) (tys := tyl ct) hx hb hK hP 1 0 rfl rfl hi_72 dX10_asItIs_72 ?_
      refine lv_iadd hx hb dX10_asItIs_73 ?_
      obtain ⟨hi_74, hf⟩ := ob_in hf
      refine va_iast (D := D) (tys := tyl ct) hx hb hK hP (hDW oz) hS 7 0 rfl rfl hi_74 dX10_asItIs_74 (fun H_74 locs_74 hP _ hS => ?_)
      have hP : va_P D vwCl (cs10 ct a (oA oz 15 (upd (oz.1 15) (((oz.1 1) ((58 + (2 * v1)) + 1).toNatClampNeg).toNatClampNeg) (((oz.1 15) ((oz.1 1) ((58 + (2 * v1)) + 1).toNatClampNeg).toNatClampNeg) + ((oz.1 1) (58 + (2 * v1)).toNatClampNeg))))) H_74 := sa10_15 hP
      refine lv_iinc (v := (v1 + 1)) (lv' := [(1, .int (v1 + 1)), (0, .ref (a 0))]) hx hb dX10_asItIs_75 hl (k := 1) rfl rfl (by decide) rfl (fun ls hl => ?_)
      refine lv_goto (tgt := 33) hx hb dX10_asItIs_78 (by decide) ?_
      exact ih (oA oz 15 (upd (oz.1 15) (((oz.1 1) ((58 + (2 * v1)) + 1).toNatClampNeg).toNatClampNeg) (((oz.1 15) ((oz.1 1) ((58 + (2 * v1)) + 1).toNatClampNeg).toNatClampNeg) + ((oz.1 1) (58 + (2 * v1)).toNatClampNeg)))) (v1 + 1) _ _ _ hP hS (lv_sub hl [1, 0] rfl) hf k81
  have hL83 : ∀ (c123 : Ob → Option (Ob)) (n : Nat) (oz : Ob) (v1 : Int32), ∀ (H : Heap) (locs : List Loc) (ls : Array Slot), va_P D vwCl (cs10 ct a oz) H → va_S (wA (cs10 ct a o)) s.heap H locs → lv_has ls 3 [(0, .ref (a 0)), (1, .int v1)] → p_X10_asItIs_L83 fu c123 n oz v1 = some r → (∀ (oz : Ob), ∀ (H : Heap) (locs : List Loc) (ls : Array Slot), va_P D vwCl (cs10 ct a oz) H → va_S (wA (cs10 ct a o)) s.heap H locs → lv_has ls 3 [(0, .ref (a 0))] → c123 oz = some r → W p l e rm_X10_asItIs s m args below meth c H locs 0 0 QQ (F0 m 123 ls [])) → W p l e rm_X10_asItIs s m args below meth c H locs 0 0 QQ (F0 m 83 ls []) := by
    intro c123 n
    induction n with
    | zero =>
      intro oz v1 H locs ls hP hS hl hf k123
      rw [p_X10_asItIs_L83] at hf
      cases hf
    | succ n ih =>
      intro oz v1 H locs ls hP hS hl hf k123
      rw [p_X10_asItIs_L83] at hf
      refine lv_iload_n hx hb dX10_asItIs_83 rfl (lv_at hl 1 rfl) ?_
      refine lv_aload_n hx hb dX10_asItIs_84 rfl (lv_at hl 0 rfl) ?_
      refine va_get (D := D) (ci := 10) (v := .ref (a 1)) (C := RX10) (T := TX10) (N := 42) hx hb htl inlX10 hown hK hP 0 rfl rfl 1 (by decide) (htl _ wq_7_0) (fun _ h9 => h9) rfl dX10_asItIs_85 ?_
      refine lv_iconst (v := 4) hx hb dX10_asItIs_88 (by decide) ?_
      obtain ⟨hi_89, hf⟩ := ob_in hf
      refine va_iald (D := D) (tys := tyl ct) hx hb hK hP 1 0 rfl rfl hi_89 dX10_asItIs_89 ?_
      refine lv_icmp_ge (tgt := 123) hx hb dX10_asItIs_90 (by decide) (fun c_90 => ?_) (fun c_90 => ?_)
      · rw [if_pos c_90] at hf
        exact k123 oz _ _ _ hP hS (lv_sub hl [0] rfl) hf
      rw [if_neg c_90] at hf
      refine lv_aload_n hx hb dX10_asItIs_93 rfl (lv_at hl 0 rfl) ?_
      refine va_get (D := D) (ci := 10) (v := .ref (a 10)) (C := RX10) (T := TX10) (N := 42) hx hb htl inlX10 hown hK hP 0 rfl rfl 18 (by decide) (htl _ wq_7_12) (fun _ h9 => h9) rfl dX10_asItIs_94 ?_
      refine lv_iload_n hx hb dX10_asItIs_97 rfl (lv_at hl 1 rfl) ?_
      refine lv_aload_n hx hb dX10_asItIs_98 rfl (lv_at hl 0 rfl) ?_
      refine lv_iload_n hx hb dX10_asItIs_99 rfl (lv_at hl 1 rfl) ?_
      refine lv_iconst (v := 2) hx hb dX10_asItIs_100 (by decide) ?_
      obtain ⟨r_101, e_101, hf⟩ := ob_bind hf
      have hPX_101 : va_P D vwCl (cs10 ct a oz) H := hP
      refine ro_call1 (va_runV (As := [.int v1, .int 2]) (rest := [.int v1, .ref (a 10)]) ⟨hx, hb, hml, hown, htl⟩ (c_X10_ofJoin l D ct G a fu oz v1 (2 : Int32) e_101) (cw_X10_X10_ofJoin htl ⟨Nat.le_of_ble_eq_true rfl, Nat.le_of_ble_eq_true rfl⟩) ⟨Bx_blind, va_recv hK hPX_101 (ci := 10) (q0 := 0) rfl rfl, Bx_pre hPX_101 hK hN (hX.stay hS hGE)⟩ rfl rfl hl.1 rfl (lv_room (Nat.le_of_ble_eq_true rfl)) dX10_asItIs_101 ⟨Nat.zero_le _, Nat.zero_le _⟩) ?_
      obtain ⟨hi_104, hf⟩ := ob_in hf
      refine va_iast (D := D) (tys := tyl ct) hx hb hK hP (hDW oz) hS 10 0 rfl rfl hi_104 dX10_asItIs_104 (fun H_104 locs_104 hP _ hS => ?_)
      have hP : va_P D vwCl (cs10 ct a (oA oz 18 (upd (oz.1 18) v1.toNatClampNeg r_101))) H_104 := sa10_18 hP
      refine lv_aload_n hx hb dX10_asItIs_105 rfl (lv_at hl 0 rfl) ?_
      refine va_get (D := D) (ci := 10) (v := .ref (a 11)) (C := RX10) (T := TX10) (N := 42) hx hb htl inlX10 hown hK hP 0 rfl rfl 19 (by decide) (htl _ wq_7_13) (fun _ h9 => h9) rfl dX10_asItIs_106 ?_
      refine lv_iload_n hx hb dX10_asItIs_109 rfl (lv_at hl 1 rfl) ?_
      refine lv_aload_n hx hb dX10_asItIs_110 rfl (lv_at hl 0 rfl) ?_
      refine lv_iload_n hx hb dX10_asItIs_111 rfl (lv_at hl 1 rfl) ?_
      refine lv_iconst (v := 3) hx hb dX10_asItIs_112 (by decide) ?_
      obtain ⟨r_113, e_113, hf⟩ := ob_bind hf
      have hPX_113 : va_P D vwCl (cs10 ct a (oA oz 18 (upd (oz.1 18) v1.toNatClampNeg r_101))) H_104 := hP
      refine ro_call1 (va_runV (As := [.int v1, .int 3]) (rest := [.int v1, .ref (a 11)]) ⟨hx, hb, hml, hown, htl⟩ (c_X10_ofJoin l D ct G a fu (oA oz 18 (upd (oz.1 18) v1.toNatClampNeg r_101)) v1 (3 : Int32) e_113) (cw_X10_X10_ofJoin htl ⟨Nat.le_of_ble_eq_true rfl, Nat.le_of_ble_eq_true rfl⟩) ⟨Bx_blind, va_recv hK hPX_113 (ci := 10) (q0 := 0) rfl rfl, Bx_pre hPX_113 hK hN (hX.stay hS hGE)⟩ rfl rfl hl.1 rfl (lv_room (Nat.le_of_ble_eq_true rfl)) dX10_asItIs_113 ⟨Nat.zero_le _, Nat.zero_le _⟩) ?_
      obtain ⟨hi_116, hf⟩ := ob_in hf
      refine va_iast (D := D) (tys := tyl ct) hx hb hK hP (hDW (oA oz 18 (upd (oz.1 18) v1.toNatClampNeg r_101))) hS 11 0 rfl rfl hi_116 dX10_asItIs_116 (fun H_116 locs_116 hP _ hS => ?_)
      have hP : va_P D vwCl (cs10 ct a (oA (oA oz 18 (upd (oz.1 18) v1.toNatClampNeg r_101)) 19 (upd ((oA oz 18 (upd (oz.1 18) v1.toNatClampNeg r_101)).1 19) v1.toNatClampNeg r_113))) H_116 := sa10_19 hP
      refine lv_iinc (v := (v1 + 1)) (lv' := [(1, .int (v1 + 1)), (0, .ref (a 0))]) hx hb dX10_asItIs_117 hl (k := 1) rfl rfl (by decide) rfl (fun ls hl => ?_)
      refine lv_goto (tgt := 83) hx hb dX10_asItIs_120 (by decide) ?_
      exact ih (oA (oA oz 18 (upd (oz.1 18) v1.toNatClampNeg r_101)) 19 (upd ((oA oz 18 (upd (oz.1 18) v1.toNatClampNeg r_101)).1 19) v1.toNatClampNeg r_113)) (v1 + 1) _ _ _ hP hS (lv_sub hl [1, 0] rfl) hf k123
  have hL125 : ∀ (n : Nat) (oz : Ob) (v1 : Int32), ∀ (H : Heap) (locs : List Loc) (ls : Array Slot), va_P D vwCl (cs10 ct a oz) H → va_S (wA (cs10 ct a o)) s.heap H locs → lv_has ls 3 [(0, .ref (a 0)), (1, .int v1)] → p_X10_asItIs_L125 fu  n oz v1 = some r → W p l e rm_X10_asItIs s m args below meth c H locs 0 0 QQ (F0 m 125 ls []) := by
    intro  n
    induction n with
    | zero =>
      intro oz v1 H locs ls hP hS hl hf 
      rw [p_X10_asItIs_L125] at hf
      cases hf
    | succ n ih =>
      intro oz v1 H locs ls hP hS hl hf 
      rw [p_X10_asItIs_L125] at hf
      refine lv_iload_n hx hb dX10_asItIs_125 rfl (lv_at hl 1 rfl) ?_
      refine lv_aload_n hx hb dX10_asItIs_126 rfl (lv_at hl 0 rfl) ?_
      refine va_get (D := D) (ci := 10) (v := .ref (a 1)) (C := RX10) (T := TX10) (N := 42) hx hb htl inlX10 hown hK hP 0 rfl rfl 1 (by decide) (htl _ wq_7_0) (fun _ h9 => h9) rfl dX10_asItIs_127 ?_
      refine lv_bipush (v := 6) hx hb dX10_asItIs_130 (by decide) ?_
      obtain ⟨hi_132, hf⟩ := ob_in hf
      refine va_iald (D := D) (tys := tyl ct) hx hb hK hP 1 0 rfl rfl hi_132 dX10_asItIs_132 ?_
      refine lv_icmp_ge (tgt := 219) hx hb dX10_asItIs_133 (by decide) (fun c_133 => ?_) (fun c_133 => ?_)
      · rw [if_pos c_133] at hf
        refine lv_aload_n hx hb dX10_asItIs_219 rfl (lv_at hl 0 rfl) ?_
        obtain ⟨r_220, e_220, hf⟩ := ob_bind hf
        have hPX_220 : va_P D vwCl (cs10 ct a oz) H := hP
        refine wr_call0 (va_runV (As := []) (rest := []) ⟨hx, hb, hml, hown, htl⟩ (c_X10_layLevels l D ct G a fu oz e_220 (hDx oz)) (cw_X10_X10_layLevels htl ⟨Nat.le_of_ble_eq_true rfl, Nat.le_of_ble_eq_true rfl⟩) ⟨Bx_blind, va_recv hK hPX_220 (ci := 10) (q0 := 0) rfl rfl, Bx_pre hPX_220 hK hN (hX.stay hS hGE)⟩ rfl rfl hl.1 rfl (lv_room (Nat.le_of_ble_eq_true rfl)) dX10_asItIs_220 ⟨Nat.zero_le _, Nat.zero_le _⟩) hS (wA_cg rfl) (fun H_220 locs_220 hB_220 _ hk_220 hS => ?_)
        have hP : va_P D vwCl (cs10 ct a r_220) H_220 := hB_220
        rw [← hQQ]
        cases hf
        exact rw_v hx hb hr hlocks hP hS dX10_asItIs_223
      rw [if_neg c_133] at hf
      refine lv_aload_n hx hb dX10_asItIs_136 rfl (lv_at hl 0 rfl) ?_
      refine va_get (D := D) (ci := 10) (v := .ref (a 1)) (C := RX10) (T := TX10) (N := 42) hx hb htl inlX10 hown hK hP 0 rfl rfl 1 (by decide) (htl _ wq_7_0) (fun _ h9 => h9) rfl dX10_asItIs_137 ?_
      refine lv_bipush (v := 68) hx hb dX10_asItIs_140 (by decide) ?_
      refine lv_iload_n hx hb dX10_asItIs_142 rfl (lv_at hl 1 rfl) ?_
      refine lv_iadd hx hb dX10_asItIs_143 ?_
      obtain ⟨hi_144, hf⟩ := ob_in hf
      refine va_iald (D := D) (tys := tyl ct) hx hb hK hP 1 0 rfl rfl hi_144 dX10_asItIs_144 ?_
      refine lv_istore_n (lv' := [(2, .int ((oz.1 1) (68 + v1).toNatClampNeg)), (0, .ref (a 0)), (1, .int v1)]) hx hb dX10_asItIs_145 rfl hl (by decide) rfl (fun ls hl => ?_)
      refine lv_iload_n hx hb dX10_asItIs_146 rfl (lv_at hl 0 rfl) ?_
      refine lv_bipush (v := 100) hx hb dX10_asItIs_147 (by decide) ?_
      refine lv_icmp_lt (tgt := 173) hx hb dX10_asItIs_149 (by decide) (fun c_149 => ?_) (fun c_149 => ?_)
      rotate_left 1
      · rw [if_neg c_149] at hf
        refine lv_aload_n hx hb dX10_asItIs_152 rfl (lv_at hl 1 rfl) ?_
        refine va_get (D := D) (ci := 10) (v := .ref (a 7)) (C := RX10) (T := TX10) (N := 42) hx hb htl inlX10 hown hK hP 0 rfl rfl 15 (by decide) (htl _ wq_7_9) (fun _ h9 => h9) rfl dX10_asItIs_153 ?_
        refine lv_iload_n hx hb dX10_asItIs_156 rfl (lv_at hl 0 rfl) ?_
        refine lv_bipush (v := 100) hx hb dX10_asItIs_157 (by decide) ?_
        obtain ⟨hne_159, hf⟩ := ob_ne hf
        refine lv_idiv hx hb dX10_asItIs_159 hne_159 ?_
        refine lv_iconst (v := 1) hx hb dX10_asItIs_160 (by decide) ?_
        refine lv_isub hx hb dX10_asItIs_161 ?_
        refine lv_dup2_11 hx hb dX10_asItIs_162 rfl rfl ?_
        obtain ⟨hi_163, hf⟩ := ob_in hf
        refine va_iald (D := D) (tys := tyl ct) hx hb hK hP 7 0 rfl rfl hi_163 dX10_asItIs_163 ?_
        refine lv_iload_n hx hb dX10_asItIs_164 rfl (lv_at hl 0 rfl) ?_
        refine lv_bipush (v := 100) hx hb dX10_asItIs_165 (by decide) ?_
        obtain ⟨hne_167, hf⟩ := ob_ne hf
        refine lv_irem hx hb dX10_asItIs_167 hne_167 ?_
        refine lv_iadd hx hb dX10_asItIs_168 ?_
        obtain ⟨hi_169, hf⟩ := ob_in hf
        refine va_iast (D := D) (tys := tyl ct) hx hb hK hP (hDW oz) hS 7 0 rfl rfl hi_169 dX10_asItIs_169 (fun H_169 locs_169 hP _ hS => ?_)
        have hP : va_P D vwCl (cs10 ct a (oA oz 15 (upd (oz.1 15) (((((oz.1 1) (68 + v1).toNatClampNeg) / 100) - 1).toNatClampNeg) (((oz.1 15) ((((oz.1 1) (68 + v1).toNatClampNeg) / 100) - 1).toNatClampNeg) + (((oz.1 1) (68 + v1).toNatClampNeg) - ((oz.1 1) (68 + v1).toNatClampNeg) / 100 * 100))))) H_169 := sa10_15 hP
        refine lv_goto (tgt := 213) hx hb dX10_asItIs_170 (by decide) ?_
        refine lv_iinc (v := (v1 + 1)) (lv' := [(1, .int (v1 + 1)), (2, .int ((oz.1 1) (68 + v1).toNatClampNeg)), (0, .ref (a 0))]) hx hb dX10_asItIs_213 hl (k := 2) rfl rfl (by decide) rfl (fun ls hl => ?_)
        refine lv_goto (tgt := 125) hx hb dX10_asItIs_216 (by decide) ?_
        exact ih (oA oz 15 (upd (oz.1 15) (((((oz.1 1) (68 + v1).toNatClampNeg) / 100) - 1).toNatClampNeg) (((oz.1 15) ((((oz.1 1) (68 + v1).toNatClampNeg) / 100) - 1).toNatClampNeg) + (((oz.1 1) (68 + v1).toNatClampNeg) - ((oz.1 1) (68 + v1).toNatClampNeg) / 100 * 100)))) (v1 + 1) _ _ _ hP hS (lv_sub hl [2, 0] rfl) hf 
      rw [if_pos c_149] at hf
      refine lv_iload_n hx hb dX10_asItIs_173 rfl (lv_at hl 0 rfl) ?_
      refine lv_iconst (v := 2) hx hb dX10_asItIs_174 (by decide) ?_
      obtain ⟨hne_175, hf⟩ := ob_ne hf
      refine lv_irem hx hb dX10_asItIs_175 hne_175 ?_
      refine lv_iconst (v := 1) hx hb dX10_asItIs_176 (by decide) ?_
      refine lv_icmp_ne (tgt := 197) hx hb dX10_asItIs_177 (by decide) (fun c_177 => ?_) (fun c_177 => ?_)
      rotate_left 1
      · rw [if_pos c_177] at hf
        refine lv_aload_n hx hb dX10_asItIs_180 rfl (lv_at hl 1 rfl) ?_
        refine lv_dup hx hb dX10_asItIs_181 rfl ?_
        refine va_get (D := D) (ci := 10) (v := .int (oz.1 20 0)) (C := RX10) (T := TX10) (N := 42) hx hb htl inlX10 hown hK hP 0 rfl rfl 20 (by decide) (htl _ wq_23_1) (fun _ h9 => h9) rfl dX10_asItIs_182 ?_
        refine lv_iconst (v := 1) hx hb dX10_asItIs_185 (by decide) ?_
        refine lv_iload_n hx hb dX10_asItIs_186 rfl (lv_at hl 0 rfl) ?_
        refine lv_iconst (v := 2) hx hb dX10_asItIs_187 (by decide) ?_
        obtain ⟨hne_188, hf⟩ := ob_ne hf
        refine lv_idiv hx hb dX10_asItIs_188 hne_188 ?_
        refine lv_ishl hx hb dX10_asItIs_189 ?_
        refine lv_ior hx hb dX10_asItIs_190 ?_
        refine va_put (D := D) (ci := 10) (v := .int ((oz.1 20 0) ||| ((1 : Int32) <<< ((((oz.1 1) (68 + v1).toNatClampNeg) / 2) &&& 31)))) (ty := .int) (C := RX10) (T := TX10) (N := 42) hx hb htl inlX10 tyX10 tyX10_ok nmX10 hown hK hP (hDW oz) hS 0 rfl rfl 20 (by decide) (htl _ wq_23_1) (fun _ h9 => h9) rfl (tyX10_ok 20 (by decide)) rfl rfl (Nat.le_of_ble_eq_true rfl) dX10_asItIs_191 (fun H_191 locs_191 hP _ hS => ?_)
        have hP : va_P D vwCl (cs10 ct a (oI oz 20 ((oz.1 20 0) ||| ((1 : Int32) <<< ((((oz.1 1) (68 + v1).toNatClampNeg) / 2) &&& 31))))) H_191 := st10_20 hP
        refine lv_goto (tgt := 213) hx hb dX10_asItIs_194 (by decide) ?_
        refine lv_iinc (v := (v1 + 1)) (lv' := [(1, .int (v1 + 1)), (2, .int ((oz.1 1) (68 + v1).toNatClampNeg)), (0, .ref (a 0))]) hx hb dX10_asItIs_213 hl (k := 2) rfl rfl (by decide) rfl (fun ls hl => ?_)
        refine lv_goto (tgt := 125) hx hb dX10_asItIs_216 (by decide) ?_
        exact ih (oI oz 20 ((oz.1 20 0) ||| ((1 : Int32) <<< ((((oz.1 1) (68 + v1).toNatClampNeg) / 2) &&& 31)))) (v1 + 1) _ _ _ hP hS (lv_sub hl [2, 0] rfl) hf 
      rw [if_neg c_177] at hf
      refine lv_aload_n hx hb dX10_asItIs_197 rfl (lv_at hl 1 rfl) ?_
      refine lv_dup hx hb dX10_asItIs_198 rfl ?_
      refine va_get (D := D) (ci := 10) (v := .int (oz.1 20 0)) (C := RX10) (T := TX10) (N := 42) hx hb htl inlX10 hown hK hP 0 rfl rfl 20 (by decide) (htl _ wq_23_1) (fun _ h9 => h9) rfl dX10_asItIs_199 ?_
      refine lv_iconst (v := 1) hx hb dX10_asItIs_202 (by decide) ?_
      refine lv_iload_n hx hb dX10_asItIs_203 rfl (lv_at hl 0 rfl) ?_
      refine lv_iconst (v := 2) hx hb dX10_asItIs_204 (by decide) ?_
      obtain ⟨hne_205, hf⟩ := ob_ne hf
      refine lv_idiv hx hb dX10_asItIs_205 hne_205 ?_
      refine lv_ishl hx hb dX10_asItIs_206 ?_
      refine lv_iconst (v := (-1)) hx hb dX10_asItIs_207 (by decide) ?_
      refine lv_ixor hx hb dX10_asItIs_208 ?_
      refine lv_iand hx hb dX10_asItIs_209 ?_
      refine va_put (D := D) (ci := 10) (v := .int ((oz.1 20 0) &&& (((1 : Int32) <<< ((((oz.1 1) (68 + v1).toNatClampNeg) / 2) &&& 31)) ^^^ (-1)))) (ty := .int) (C := RX10) (T := TX10) (N := 42) hx hb htl inlX10 tyX10 tyX10_ok nmX10 hown hK hP (hDW oz) hS 0 rfl rfl 20 (by decide) (htl _ wq_23_1) (fun _ h9 => h9) rfl (tyX10_ok 20 (by decide)) rfl rfl (Nat.le_of_ble_eq_true rfl) dX10_asItIs_210 (fun H_210 locs_210 hP _ hS => ?_)
      have hP : va_P D vwCl (cs10 ct a (oI oz 20 ((oz.1 20 0) &&& (((1 : Int32) <<< ((((oz.1 1) (68 + v1).toNatClampNeg) / 2) &&& 31)) ^^^ (-1))))) H_210 := st10_20 hP
      refine lv_iinc (v := (v1 + 1)) (lv' := [(1, .int (v1 + 1)), (2, .int ((oz.1 1) (68 + v1).toNatClampNeg)), (0, .ref (a 0))]) hx hb dX10_asItIs_213 hl (k := 2) rfl rfl (by decide) rfl (fun ls hl => ?_)
      refine lv_goto (tgt := 125) hx hb dX10_asItIs_216 (by decide) ?_
      exact ih (oI oz 20 ((oz.1 20 0) &&& (((1 : Int32) <<< ((((oz.1 1) (68 + v1).toNatClampNeg) / 2) &&& 31)) ^^^ (-1)))) (v1 + 1) _ _ _ hP hS (lv_sub hl [2, 0] rfl) hf 
  rw [p_X10_asItIs] at hf
  refine lv_aload_n hx hb dX10_asItIs_0 rfl (lv_at hl 0 rfl) ?_
  refine lv_iconst (v := 0) hx hb dX10_asItIs_1 (by decide) ?_
  refine va_put (D := D) (ci := 10) (v := .int 0) (ty := .int) (C := RX10) (T := TX10) (N := 42) hx hb htl inlX10 tyX10 tyX10_ok nmX10 hown hK hP (hDW o) hS 0 rfl rfl 20 (by decide) (htl _ wq_23_1) (fun _ h9 => h9) rfl (tyX10_ok 20 (by decide)) rfl rfl (Nat.le_of_ble_eq_true rfl) dX10_asItIs_2 (fun H_2 locs_2 hP _ hS => ?_)
  have hP : va_P D vwCl (cs10 ct a (oI o 20 (0 : Int32))) H_2 := st10_20 hP
  refine lv_aload_n hx hb dX10_asItIs_5 rfl (lv_at hl 0 rfl) ?_
  refine lv_iconst (v := 0) hx hb dX10_asItIs_6 (by decide) ?_
  refine va_put (D := D) (ci := 10) (v := .int 0) (ty := .int) (C := RX10) (T := TX10) (N := 42) hx hb htl inlX10 tyX10 tyX10_ok nmX10 hown hK hP (hDW (oI o 20 (0 : Int32))) hS 0 rfl rfl 21 (by decide) (htl _ wq_23_2) (fun _ h9 => h9) rfl (tyX10_ok 21 (by decide)) rfl rfl (Nat.le_of_ble_eq_true rfl) dX10_asItIs_7 (fun H_7 locs_7 hP _ hS => ?_)
  have hP : va_P D vwCl (cs10 ct a (oI (oI o 20 (0 : Int32)) 21 (0 : Int32))) H_7 := st10_21 hP
  refine lv_iconst (v := 0) hx hb dX10_asItIs_10 (by decide) ?_
  refine lv_istore_n (lv' := [(1, .int 0), (0, .ref (a 0))]) hx hb dX10_asItIs_11 rfl hl (by decide) rfl (fun ls hl => ?_)
  refine hL12 _ fu (oI (oI o 20 (0 : Int32)) 21 (0 : Int32)) 0 _ _ _ hP hS (lv_sub hl [1, 0] rfl) hf (fun oz H locs ls hP hS hl hf => ?_)
  refine lv_iconst (v := 0) hx hb dX10_asItIs_31 (by decide) ?_
  refine lv_istore_n (lv' := [(1, .int 0), (0, .ref (a 0))]) hx hb dX10_asItIs_32 rfl hl (by decide) rfl (fun ls hl => ?_)
  refine hL33 _ fu oz 0 _ _ _ hP hS (lv_sub hl [1, 0] rfl) hf (fun oz H locs ls hP hS hl hf => ?_)
  refine lv_iconst (v := 0) hx hb dX10_asItIs_81 (by decide) ?_
  refine lv_istore_n (lv' := [(1, .int 0), (0, .ref (a 0))]) hx hb dX10_asItIs_82 rfl hl (by decide) rfl (fun ls hl => ?_)
  refine hL83 _ fu oz 0 _ _ _ hP hS (lv_sub hl [1, 0] rfl) hf (fun oz H locs ls hP hS hl hf => ?_)
  refine lv_iconst (v := 0) hx hb dX10_asItIs_123 (by decide) ?_
  refine lv_istore_n (lv' := [(1, .int 0), (0, .ref (a 0))]) hx hb dX10_asItIs_124 rfl hl (by decide) rfl (fun ls hl => ?_)
  exact hL125 fu oz 0 _ _ _ hP hS (lv_sub hl [1, 0] rfl) hf 
theorem c_X10_asItIs (l : Launch) (D : va_G) (ct : Nat → ClassId) (G : GT) (a : Nat → Nat) (fu : Nat) (o : Ob) {r : Ob} (hf : p_X10_asItIs fu o = some r)  (hD0 : va_D (GE G) (cs10 ct a o)) : Met l yX10_asItIs (.code yX10_asItIs cX10_asItIs 3 none :: wsL_law) rm_X10_asItIs (va_Pc [.ref (a 0)] (Bx D ct G (cs10 ct a o))) (Qwr none (fun H => va_P D vwCl (cs10 ct a r) H) (wA (cs10 ct a o))) 0 0 (wA (cs10 ct a o)) := by
  refine Met.ofW (cc := cX10_asItIs) (maxL := 3) (ret := none) (by decide) rfl ?_
  intro p e s m args below meth c s₁ B hml hv
  obtain ⟨rfl, hP, hK, hN, hX⟩ := hv
  have hts := atoms_spec (ws := .code yX10_asItIs cX10_asItIs 3 none :: wsL_law) B.pre
  rw [lg_entry_eq]
  exact b_X10_asItIs a fu o B.exec B.bytes B.returns hml (findClass_of_methodNamed B.named) (fun w h => hts w (List.mem_cons_of_mem _ h)) B.notSynchronized hK hN hX hP hf hD0  (lv_entry [.ref (a 0)] (n := 3) (Nat.le_of_ble_eq_true rfl))
theorem hd_X10_asItIs : yX10_asItIs.cls ≠ "java/lang/invoke/MethodHandle" ∧ yX10_asItIs.cls ≠ "java/lang/invoke/VarHandle" ∧ (parseMethodDescriptor yX10_asItIs.desc).map (fun d => d.parameters.length) = some 0 := by decide +kernel
theorem cw_X10_X10_asItIs {R : Room} {s : State} {args : Array Value} (ht : ∀ w ∈ wsL_law, w.before args s = true) (hR : rm_X10_asItIs.frames + 1 ≤ R.frames ∧ 8 + (3 + 11) + rm_X10_asItIs.locals ≤ R.locals) : CallW R s args RX10 RX10 247 yX10_asItIs cX10_asItIs 3 none ((.code yX10_asItIs cX10_asItIs 3 none) :: wsL_law) rm_X10_asItIs 0 0 0 := cwV 0 ht (GV wq_22_21 wq_22_22 wq_22_23 wq_1_5 wq_23_0) rfl rfl rfl ⟨rfl, hd_X10_asItIs⟩ hR
theorem hd_X10_isRivers : yX10_isRivers.cls ≠ "java/lang/invoke/MethodHandle" ∧ yX10_isRivers.cls ≠ "java/lang/invoke/VarHandle" ∧ (parseMethodDescriptor yX10_isRivers.desc).map (fun d => d.parameters.length) = some 0 := by decide +kernel
theorem cw_X10_X10_isRivers {R : Room} {s : State} {args : Array Value} (ht : ∀ w ∈ wsL_law, w.before args s = true) (hR : rm_X10_isRivers.frames + 1 ≤ R.frames ∧ 8 + (1 + 11) + rm_X10_isRivers.locals ≤ R.locals) : CallW R s args RX10 RX10 250 yX10_isRivers cX10_isRivers 1 (some .boolean) ((.code yX10_isRivers cX10_isRivers 1 (some .boolean)) :: wsL_law) rm_X10_isRivers 0 0 0 := cwV 0 ht (GV wq_23_8 wq_23_9 wq_23_10 wq_1_5 wq_23_11) rfl rfl rfl ⟨rfl, hd_X10_isRivers⟩ hR
def p_X10_asksRivers (fu : Nat) (o : Ob) : Option (Int32 × Ob) :=
  (p_X10_asItIs fu o).bind fun r_1 => (p_X10_isRivers fu r_1).bind fun r_5 => if r_5 = 0 ∨ r_5 = 1 then some (r_5, r_1) else none
abbrev rm_X10_asksRivers : Room := { frames := 3, cells := 0, slots := 0, locals := 66 }
set_option maxHeartbeats 4000000 in
set_option maxRecDepth 100000 in
theorem b_X10_asksRivers {p : Program} {l : Launch} {e : Env} {s : State} {m : MethodId} {args : Array Value} {below : List Frame} {meth : Method} {c : Code} {ls : Array Slot} {D : va_G} {ct : Nat → ClassId} {G : GT} (a : Nat → Nat) (fu : Nat) (o : Ob) {r : Int32 × Ob} (hx : p.tables.exec = Jvm.exec) (hb : c.code = cX10_asksRivers) (hr : meth.sig.returnType = (some .boolean)) (hml : c.maxLocals = 1) (hown : s.vm.findClass RX10 = some m.cls) (htl : ∀ w ∈ wsL_law, w.before args s = true) (hlocks : meth.locks = false) (hK : va_K D vwCl (tyl ct) s) (hN : ∀ w ∈ NW, va_Nw w s) (hX : SX G s s.heap) (hP0 : va_P D vwCl (cs10 ct a o) s.heap) (hf : p_X10_asksRivers fu o = some r) (hD0 : va_D (GE G) (cs10 ct a o))  (hl : lv_has ls 1 [(0, .ref (a 0))]) : W p l e rm_X10_asksRivers s m args below meth c s.heap [] 0 0 (MQ below (Qwr (some (.int r.1)) (fun H => va_P D vwCl (cs10 ct a r.2) H) (wA (cs10 ct a o))) args s 0 0 (wA (cs10 ct a o))) (F0 m 0 ls []) := by
  generalize hQQ : MQ below (Qwr (some (.int r.1)) (fun H => va_P D vwCl (cs10 ct a r.2) H) (wA (cs10 ct a o))) args s 0 0 (wA (cs10 ct a o)) = QQ
  have hDx : ∀ (oy : Ob), va_D (GE G) (cs10 ct a oy) := fun oy => D_cr hD0 rfl
  have hDW : ∀ (oy : Ob), va_D (wA (cs10 ct a o)) (cs10 ct a oy) := fun oy => D_cr (D_self hD0) rfl
  have hGE : ∀ q, wA (cs10 ct a o) q → GE G q := wA_GE hD0
  have hP := hP0
  have hS : va_S (wA (cs10 ct a o)) s.heap s.heap [] := va_S.rf
  rw [p_X10_asksRivers] at hf
  refine lv_aload_n hx hb dX10_asksRivers_0 rfl (lv_at hl 0 rfl) ?_
  obtain ⟨r_1, e_1, hf⟩ := ob_bind hf
  have hPX_1 : va_P D vwCl (cs10 ct a o) s.heap := hP
  refine wr_call0 (va_runV (As := []) (rest := []) ⟨hx, hb, hml, hown, htl⟩ (c_X10_asItIs l D ct G a fu o e_1 (hDx o)) (cw_X10_X10_asItIs htl ⟨Nat.le_of_ble_eq_true rfl, Nat.le_of_ble_eq_true rfl⟩) ⟨Bx_blind, va_recv hK hPX_1 (ci := 10) (q0 := 0) rfl rfl, Bx_pre hPX_1 hK hN (hX.stay hS hGE)⟩ rfl rfl hl.1 rfl (lv_room (Nat.le_of_ble_eq_true rfl)) dX10_asksRivers_1 ⟨Nat.zero_le _, Nat.zero_le _⟩) hS (wA_cg rfl) (fun H_1 locs_1 hB_1 _ hk_1 hS => ?_)
  have hP : va_P D vwCl (cs10 ct a r_1) H_1 := hB_1
  refine lv_aload_n hx hb dX10_asksRivers_4 rfl (lv_at hl 0 rfl) ?_
  obtain ⟨r_5, e_5, hf⟩ := ob_bind hf
  have hPX_5 : va_P D vwCl (cs10 ct a r_1) H_1 := hP
  refine ro_call1 (va_runV (As := []) (rest := []) ⟨hx, hb, hml, hown, htl⟩ (c_X10_isRivers l D ct G a fu r_1 e_5) (cw_X10_X10_isRivers htl ⟨Nat.le_of_ble_eq_true rfl, Nat.le_of_ble_eq_true rfl⟩) ⟨Bx_blind, va_recv hK hPX_5 (ci := 10) (q0 := 0) rfl rfl, Bx_pre hPX_5 hK hN (hX.stay hS hGE)⟩ rfl rfl hl.1 rfl (lv_room (Nat.le_of_ble_eq_true rfl)) dX10_asksRivers_5 ⟨Nat.zero_le _, Nat.zero_le _⟩) ?_
  obtain ⟨hz_8, hf⟩ := ob_z hf
  rw [← hQQ]
  cases hf
  exact rw_z hx hb hr hlocks hz_8.1 hP hS dX10_asksRivers_8
theorem c_X10_asksRivers (l : Launch) (D : va_G) (ct : Nat → ClassId) (G : GT) (a : Nat → Nat) (fu : Nat) (o : Ob) {r : Int32 × Ob} (hf : p_X10_asksRivers fu o = some r)  (hD0 : va_D (GE G) (cs10 ct a o)) : Met l yX10_asksRivers (.code yX10_asksRivers cX10_asksRivers 1 (some .boolean) :: wsL_law) rm_X10_asksRivers (va_Pc [.ref (a 0)] (Bx D ct G (cs10 ct a o))) (Qwr (some (.int r.1)) (fun H => va_P D vwCl (cs10 ct a r.2) H) (wA (cs10 ct a o))) 0 0 (wA (cs10 ct a o)) := by
  refine Met.ofW (cc := cX10_asksRivers) (maxL := 1) (ret := (some .boolean)) (by decide) rfl ?_
  intro p e s m args below meth c s₁ B hml hv
  obtain ⟨rfl, hP, hK, hN, hX⟩ := hv
  have hts := atoms_spec (ws := .code yX10_asksRivers cX10_asksRivers 1 (some .boolean) :: wsL_law) B.pre
  rw [lg_entry_eq]
  exact b_X10_asksRivers a fu o B.exec B.bytes B.returns hml (findClass_of_methodNamed B.named) (fun w h => hts w (List.mem_cons_of_mem _ h)) B.notSynchronized hK hN hX hP hf hD0  (lv_entry [.ref (a 0)] (n := 1) (Nat.le_of_ble_eq_true rfl))
def p_X10_asksReach (fu : Nat) (o : Ob) (v1 : Int32) : Option (Int32 × Ob) :=
  (p_X10_asItIs fu o).bind fun r_1 => (p_X10_isReach fu r_1 v1.toInt64).bind fun r_7 => if r_7 = 0 ∨ r_7 = 1 then some (r_7, r_1) else none
abbrev rm_X10_asksReach : Room := { frames := 3, cells := 0, slots := 0, locals := 66 }
set_option maxHeartbeats 4000000 in
set_option maxRecDepth 100000 in
theorem b_X10_asksReach {p : Program} {l : Launch} {e : Env} {s : State} {m : MethodId} {args : Array Value} {below : List Frame} {meth : Method} {c : Code} {ls : Array Slot} {D : va_G} {ct : Nat → ClassId} {G : GT} (a : Nat → Nat) (fu : Nat) (o : Ob) (v1 : Int32) {r : Int32 × Ob} (hx : p.tables.exec = Jvm.exec) (hb : c.code = cX10_asksReach) (hr : meth.sig.returnType = (some .boolean)) (hml : c.maxLocals = 2) (hown : s.vm.findClass RX10 = some m.cls) (htl : ∀ w ∈ wsL_law, w.before args s = true) (hlocks : meth.locks = false) (hK : va_K D vwCl (tyl ct) s) (hN : ∀ w ∈ NW, va_Nw w s) (hX : SX G s s.heap) (hP0 : va_P D vwCl (cs10 ct a o) s.heap) (hf : p_X10_asksReach fu o v1 = some r) (hD0 : va_D (GE G) (cs10 ct a o))  (hl : lv_has ls 2 [(0, .ref (a 0)), (1, .int v1)]) : W p l e rm_X10_asksReach s m args below meth c s.heap [] 0 0 (MQ below (Qwr (some (.int r.1)) (fun H => va_P D vwCl (cs10 ct a r.2) H) (wA (cs10 ct a o))) args s 0 0 (wA (cs10 ct a o))) (F0 m 0 ls []) := by
  generalize hQQ : MQ below (Qwr (some (.int r.1)) (fun H => va_P D vwCl (cs10 ct a r.2) H) (wA (cs10 ct a o))) args s 0 0 (wA (cs10 ct a o)) = QQ
  have hDx : ∀ (oy : Ob), va_D (GE G) (cs10 ct a oy) := fun oy => D_cr hD0 rfl
  have hDW : ∀ (oy : Ob), va_D (wA (cs10 ct a o)) (cs10 ct a oy) := fun oy => D_cr (D_self hD0) rfl
  have hGE : ∀ q, wA (cs10 ct a o) q → GE G q := wA_GE hD0
  have hP := hP0
  have hS : va_S (wA (cs10 ct a o)) s.heap s.heap [] := va_S.rf
  rw [p_X10_asksReach] at hf
  refine lv_aload_n hx hb dX10_asksReach_0 rfl (lv_at hl 0 rfl) ?_
  obtain ⟨r_1, e_1, hf⟩ := ob_bind hf
  have hPX_1 : va_P D vwCl (cs10 ct a o) s.heap := hP
  refine wr_call0 (va_runV (As := []) (rest := []) ⟨hx, hb, hml, hown, htl⟩ (c_X10_asItIs l D ct G a fu o e_1 (hDx o)) (cw_X10_X10_asItIs htl ⟨Nat.le_of_ble_eq_true rfl, Nat.le_of_ble_eq_true rfl⟩) ⟨Bx_blind, va_recv hK hPX_1 (ci := 10) (q0 := 0) rfl rfl, Bx_pre hPX_1 hK hN (hX.stay hS hGE)⟩ rfl rfl hl.1 rfl (lv_room (Nat.le_of_ble_eq_true rfl)) dX10_asksReach_1 ⟨Nat.zero_le _, Nat.zero_le _⟩) hS (wA_cg rfl) (fun H_1 locs_1 hB_1 _ hk_1 hS => ?_)
  have hP : va_P D vwCl (cs10 ct a r_1) H_1 := hB_1
  refine lv_aload_n hx hb dX10_asksReach_4 rfl (lv_at hl 0 rfl) ?_
  refine lv_iload_n hx hb dX10_asksReach_5 rfl (lv_at hl 1 rfl) ?_
  refine lv_i2l hx hb dX10_asksReach_6 rfl ?_
  obtain ⟨r_7, e_7, hf⟩ := ob_bind hf
  have hPX_7 : va_P D vwCl (cs10 ct a r_1) H_1 := hP
  refine ro_call1 (va_runV (As := [.long v1.toInt64]) (rest := []) ⟨hx, hb, hml, hown, htl⟩ (c_X10_isReach l D ct G a fu r_1 v1.toInt64 e_7) (cw_X10_X10_isReach htl ⟨Nat.le_of_ble_eq_true rfl, Nat.le_of_ble_eq_true rfl⟩) ⟨Bx_blind, va_recv hK hPX_7 (ci := 10) (q0 := 0) rfl rfl, Bx_pre hPX_7 hK hN (hX.stay hS hGE)⟩ rfl rfl hl.1 rfl (lv_room (Nat.le_of_ble_eq_true rfl)) dX10_asksReach_7 ⟨Nat.zero_le _, Nat.zero_le _⟩) ?_
  obtain ⟨hz_10, hf⟩ := ob_z hf
  rw [← hQQ]
  cases hf
  exact rw_z hx hb hr hlocks hz_10.1 hP hS dX10_asksReach_10
theorem c_X10_asksReach (l : Launch) (D : va_G) (ct : Nat → ClassId) (G : GT) (a : Nat → Nat) (fu : Nat) (o : Ob) (v1 : Int32) {r : Int32 × Ob} (hf : p_X10_asksReach fu o v1 = some r)  (hD0 : va_D (GE G) (cs10 ct a o)) : Met l yX10_asksReach (.code yX10_asksReach cX10_asksReach 2 (some .boolean) :: wsL_law) rm_X10_asksReach (va_Pc [.ref (a 0), .int v1] (Bx D ct G (cs10 ct a o))) (Qwr (some (.int r.1)) (fun H => va_P D vwCl (cs10 ct a r.2) H) (wA (cs10 ct a o))) 0 0 (wA (cs10 ct a o)) := by
  refine Met.ofW (cc := cX10_asksReach) (maxL := 2) (ret := (some .boolean)) (by decide) rfl ?_
  intro p e s m args below meth c s₁ B hml hv
  obtain ⟨rfl, hP, hK, hN, hX⟩ := hv
  have hts := atoms_spec (ws := .code yX10_asksReach cX10_asksReach 2 (some .boolean) :: wsL_law) B.pre
  rw [lg_entry_eq]
  exact b_X10_asksReach a fu o v1 B.exec B.bytes B.returns hml (findClass_of_methodNamed B.named) (fun w h => hts w (List.mem_cons_of_mem _ h)) B.notSynchronized hK hN hX hP hf hD0  (lv_entry [.ref (a 0), .int v1] (n := 2) (Nat.le_of_ble_eq_true rfl))
theorem hd_X10_asksRivers : yX10_asksRivers.cls ≠ "java/lang/invoke/MethodHandle" ∧ yX10_asksRivers.cls ≠ "java/lang/invoke/VarHandle" ∧ (parseMethodDescriptor yX10_asksRivers.desc).map (fun d => d.parameters.length) = some 0 := by decide +kernel
theorem cw_X10_X10_asksRivers {R : Room} {s : State} {args : Array Value} (ht : ∀ w ∈ wsL_law, w.before args s = true) (hR : rm_X10_asksRivers.frames + 1 ≤ R.frames ∧ 8 + (1 + 11) + rm_X10_asksRivers.locals ≤ R.locals) : CallW R s args RX10 RX10 253 yX10_asksRivers cX10_asksRivers 1 (some .boolean) ((.code yX10_asksRivers cX10_asksRivers 1 (some .boolean)) :: wsL_law) rm_X10_asksRivers 0 0 0 := cwV 0 ht (GV wq_22_17 wq_22_18 wq_22_19 wq_1_5 wq_22_20) rfl rfl rfl ⟨rfl, hd_X10_asksRivers⟩ hR
theorem hd_X10_isStep : yX10_isStep.cls ≠ "java/lang/invoke/MethodHandle" ∧ yX10_isStep.cls ≠ "java/lang/invoke/VarHandle" ∧ (parseMethodDescriptor yX10_isStep.desc).map (fun d => d.parameters.length) = some 1 := by decide +kernel
theorem cw_X10_X10_isStep {R : Room} {s : State} {args : Array Value} (ht : ∀ w ∈ wsL_law, w.before args s = true) (hR : rm_X10_isStep.frames + 1 ≤ R.frames ∧ 8 + (2 + 11) + rm_X10_isStep.locals ≤ R.locals) : CallB R s args RX10 256 yX10_isStep cX10_isStep 2 (some .boolean) ((.code yX10_isStep cX10_isStep 2 (some .boolean)) :: wsL_law) rm_X10_isStep 0 0 1 ∧ (Cond.static yX10_isStep).before args s = true := va_cwS 1 ht (GS wq_23_12 wq_23_13 wq_1_5 wq_23_14) rfl rfl rfl hd_X10_isStep hR
def p_X10_level (fu : Nat) (o : Ob) (v1 : Int32) : Option (Int32 × Ob) :=
  (p_X10_asksRivers fu o).bind fun r_1 => if r_1.1 = 0 then some (((-2) : Int32), r_1.2) else (p_X10_isStep fu v1.toInt64).bind fun r_9 => if r_9 = 0 then some (((-2) : Int32), r_1.2) else if inb v1 61 = true then some (((r_1.2.1 16) v1.toNatClampNeg), r_1.2) else none
abbrev rm_X10_level : Room := { frames := 4, cells := 0, slots := 0, locals := 86 }
set_option maxHeartbeats 4000000 in
set_option maxRecDepth 100000 in
theorem b_X10_level {p : Program} {l : Launch} {e : Env} {s : State} {m : MethodId} {args : Array Value} {below : List Frame} {meth : Method} {c : Code} {ls : Array Slot} {D : va_G} {ct : Nat → ClassId} {G : GT} (a : Nat → Nat) (fu : Nat) (o : Ob) (v1 : Int32) {r : Int32 × Ob} (hx : p.tables.exec = Jvm.exec) (hb : c.code = cX10_level) (hr : meth.sig.returnType = (some .int)) (hml : c.maxLocals = 2) (hown : s.vm.findClass RX10 = some m.cls) (htl : ∀ w ∈ wsL_law, w.before args s = true) (hlocks : meth.locks = false) (hK : va_K D vwCl (tyl ct) s) (hN : ∀ w ∈ NW, va_Nw w s) (hX : SX G s s.heap) (hP0 : va_P D vwCl (cs10 ct a o) s.heap) (hf : p_X10_level fu o v1 = some r) (hD0 : va_D (GE G) (cs10 ct a o))  (hl : lv_has ls 2 [(0, .ref (a 0)), (1, .int v1)]) : W p l e rm_X10_level s m args below meth c s.heap [] 0 0 (MQ below (Qwr (some (.int r.1)) (fun H => va_P D vwCl (cs10 ct a r.2) H) (wA (cs10 ct a o))) args s 0 0 (wA (cs10 ct a o))) (F0 m 0 ls []) := by
  generalize hQQ : MQ below (Qwr (some (.int r.1)) (fun H => va_P D vwCl (cs10 ct a r.2) H) (wA (cs10 ct a o))) args s 0 0 (wA (cs10 ct a o)) = QQ
  have hDx : ∀ (oy : Ob), va_D (GE G) (cs10 ct a oy) := fun oy => D_cr hD0 rfl
  have hDW : ∀ (oy : Ob), va_D (wA (cs10 ct a o)) (cs10 ct a oy) := fun oy => D_cr (D_self hD0) rfl
  have hGE : ∀ q, wA (cs10 ct a o) q → GE G q := wA_GE hD0
  have hP := hP0
  have hS : va_S (wA (cs10 ct a o)) s.heap s.heap [] := va_S.rf
  rw [p_X10_level] at hf
  refine lv_aload_n hx hb dX10_level_0 rfl (lv_at hl 0 rfl) ?_
  obtain ⟨r_1, e_1, hf⟩ := ob_bind hf
  have hPX_1 : va_P D vwCl (cs10 ct a o) s.heap := hP
  refine wr_call1 (va_runV (As := []) (rest := []) ⟨hx, hb, hml, hown, htl⟩ (c_X10_asksRivers l D ct G a fu o e_1 (hDx o)) (cw_X10_X10_asksRivers htl ⟨Nat.le_of_ble_eq_true rfl, Nat.le_of_ble_eq_true rfl⟩) ⟨Bx_blind, va_recv hK hPX_1 (ci := 10) (q0 := 0) rfl rfl, Bx_pre hPX_1 hK hN (hX.stay hS hGE)⟩ rfl rfl hl.1 rfl (lv_room (Nat.le_of_ble_eq_true rfl)) dX10_level_1 ⟨Nat.zero_le _, Nat.zero_le _⟩) hS (wA_cg rfl) (fun H_1 locs_1 hB_1 _ hk_1 hS => ?_)
  have hP : va_P D vwCl (cs10 ct a r_1.2) H_1 := hB_1
  refine lv_if_eq (tgt := 24) hx hb dX10_level_4 (by decide) (fun c_4 => ?_) (fun c_4 => ?_)
  · rw [if_pos c_4] at hf
    refine lv_bipush (v := (-2)) hx hb dX10_level_24 (by decide) ?_
    rw [← hQQ]
    cases hf
    exact rw_i hx hb hr hlocks hP hS dX10_level_26
  rw [if_neg c_4] at hf
  refine lv_iload_n hx hb dX10_level_7 rfl (lv_at hl 1 rfl) ?_
  refine lv_i2l hx hb dX10_level_8 rfl ?_
  obtain ⟨r_9, e_9, hf⟩ := ob_bind hf
  have hPX_9 : va_P D vwCl ([]) H_1 := P_nil
  refine ro_call1 (va_runS (As := [.long v1.toInt64]) (rest := []) ⟨hx, hb, hml, hown, htl⟩ (c_X10_isStep l D ct G fu v1.toInt64 e_9) (cw_X10_X10_isStep htl ⟨Nat.le_of_ble_eq_true rfl, Nat.le_of_ble_eq_true rfl⟩) ⟨Bx_blind, Bx_pre hPX_9 hK hN (hX.stay hS hGE)⟩ rfl rfl hl.1 rfl (lv_room (Nat.le_of_ble_eq_true rfl)) dX10_level_9 ⟨Nat.zero_le _, Nat.zero_le _⟩) ?_
  refine lv_if_eq (tgt := 24) hx hb dX10_level_12 (by decide) (fun c_12 => ?_) (fun c_12 => ?_)
  · rw [if_pos c_12] at hf
    refine lv_bipush (v := (-2)) hx hb dX10_level_24 (by decide) ?_
    rw [← hQQ]
    cases hf
    exact rw_i hx hb hr hlocks hP hS dX10_level_26
  rw [if_neg c_12] at hf
  refine lv_aload_n hx hb dX10_level_15 rfl (lv_at hl 0 rfl) ?_
  refine va_get (D := D) (ci := 10) (v := .ref (a 8)) (C := RX10) (T := TX10) (N := 42) hx hb htl inlX10 hown hK hP 0 rfl rfl 16 (by decide) (htl _ wq_7_10) (fun _ h9 => h9) rfl dX10_level_16 ?_
  refine lv_iload_n hx hb dX10_level_19 rfl (lv_at hl 1 rfl) ?_
  obtain ⟨hi_20, hf⟩ := ob_in hf
  refine va_iald (D := D) (tys := tyl ct) hx hb hK hP 8 0 rfl rfl hi_20 dX10_level_20 ?_
  refine lv_goto (tgt := 26) hx hb dX10_level_21 (by decide) ?_
  rw [← hQQ]
  cases hf
  exact rw_i hx hb hr hlocks hP hS dX10_level_26
theorem c_X10_level (l : Launch) (D : va_G) (ct : Nat → ClassId) (G : GT) (a : Nat → Nat) (fu : Nat) (o : Ob) (v1 : Int32) {r : Int32 × Ob} (hf : p_X10_level fu o v1 = some r)  (hD0 : va_D (GE G) (cs10 ct a o)) : Met l yX10_level (.code yX10_level cX10_level 2 (some .int) :: wsL_law) rm_X10_level (va_Pc [.ref (a 0), .int v1] (Bx D ct G (cs10 ct a o))) (Qwr (some (.int r.1)) (fun H => va_P D vwCl (cs10 ct a r.2) H) (wA (cs10 ct a o))) 0 0 (wA (cs10 ct a o)) := by
  refine Met.ofW (cc := cX10_level) (maxL := 2) (ret := (some .int)) (by decide) rfl ?_
  intro p e s m args below meth c s₁ B hml hv
  obtain ⟨rfl, hP, hK, hN, hX⟩ := hv
  have hts := atoms_spec (ws := .code yX10_level cX10_level 2 (some .int) :: wsL_law) B.pre
  rw [lg_entry_eq]
  exact b_X10_level a fu o v1 B.exec B.bytes B.returns hml (findClass_of_methodNamed B.named) (fun w h => hts w (List.mem_cons_of_mem _ h)) B.notSynchronized hK hN hX hP hf hD0  (lv_entry [.ref (a 0), .int v1] (n := 2) (Nat.le_of_ble_eq_true rfl))
def p_X10_stands (fu : Nat) (o : Ob) (v1 : Int32) : Option (Int32 × Ob) :=
  (p_X10_asksRivers fu o).bind fun r_1 => if r_1.1 = 0 then some (((-2) : Int32), r_1.2) else (p_X10_isStep fu v1.toInt64).bind fun r_9 => if r_9 = 0 then some (((-2) : Int32), r_1.2) else if inb v1 61 = true then some (((r_1.2.1 17) v1.toNatClampNeg), r_1.2) else none
abbrev rm_X10_stands : Room := { frames := 4, cells := 0, slots := 0, locals := 86 }
set_option maxHeartbeats 4000000 in
set_option maxRecDepth 100000 in
theorem b_X10_stands {p : Program} {l : Launch} {e : Env} {s : State} {m : MethodId} {args : Array Value} {below : List Frame} {meth : Method} {c : Code} {ls : Array Slot} {D : va_G} {ct : Nat → ClassId} {G : GT} (a : Nat → Nat) (fu : Nat) (o : Ob) (v1 : Int32) {r : Int32 × Ob} (hx : p.tables.exec = Jvm.exec) (hb : c.code = cX10_stands) (hr : meth.sig.returnType = (some .int)) (hml : c.maxLocals = 2) (hown : s.vm.findClass RX10 = some m.cls) (htl : ∀ w ∈ wsL_law, w.before args s = true) (hlocks : meth.locks = false) (hK : va_K D vwCl (tyl ct) s) (hN : ∀ w ∈ NW, va_Nw w s) (hX : SX G s s.heap) (hP0 : va_P D vwCl (cs10 ct a o) s.heap) (hf : p_X10_stands fu o v1 = some r) (hD0 : va_D (GE G) (cs10 ct a o))  (hl : lv_has ls 2 [(0, .ref (a 0)), (1, .int v1)]) : W p l e rm_X10_stands s m args below meth c s.heap [] 0 0 (MQ below (Qwr (some (.int r.1)) (fun H => va_P D vwCl (cs10 ct a r.2) H) (wA (cs10 ct a o))) args s 0 0 (wA (cs10 ct a o))) (F0 m 0 ls []) := by
  generalize hQQ : MQ below (Qwr (some (.int r.1)) (fun H => va_P D vwCl (cs10 ct a r.2) H) (wA (cs10 ct a o))) args s 0 0 (wA (cs10 ct a o)) = QQ
  have hDx : ∀ (oy : Ob), va_D (GE G) (cs10 ct a oy) := fun oy => D_cr hD0 rfl
  have hDW : ∀ (oy : Ob), va_D (wA (cs10 ct a o)) (cs10 ct a oy) := fun oy => D_cr (D_self hD0) rfl
  have hGE : ∀ q, wA (cs10 ct a o) q → GE G q := wA_GE hD0
  have hP := hP0
  have hS : va_S (wA (cs10 ct a o)) s.heap s.heap [] := va_S.rf
  rw [p_X10_stands] at hf
  refine lv_aload_n hx hb dX10_stands_0 rfl (lv_at hl 0 rfl) ?_
  obtain ⟨r_1, e_1, hf⟩ := ob_bind hf
  have hPX_1 : va_P D vwCl (cs10 ct a o) s.heap := hP
  refine wr_call1 (va_runV (As := []) (rest := []) ⟨hx, hb, hml, hown, htl⟩ (c_X10_asksRivers l D ct G a fu o e_1 (hDx o)) (cw_X10_X10_asksRivers htl ⟨Nat.le_of_ble_eq_true rfl, Nat.le_of_ble_eq_true rfl⟩) ⟨Bx_blind, va_recv hK hPX_1 (ci := 10) (q0 := 0) rfl rfl, Bx_pre hPX_1 hK hN (hX.stay hS hGE)⟩ rfl rfl hl.1 rfl (lv_room (Nat.le_of_ble_eq_true rfl)) dX10_stands_1 ⟨Nat.zero_le _, Nat.zero_le _⟩) hS (wA_cg rfl) (fun H_1 locs_1 hB_1 _ hk_1 hS => ?_)
  have hP : va_P D vwCl (cs10 ct a r_1.2) H_1 := hB_1
  refine lv_if_eq (tgt := 24) hx hb dX10_stands_4 (by decide) (fun c_4 => ?_) (fun c_4 => ?_)
  · rw [if_pos c_4] at hf
    refine lv_bipush (v := (-2)) hx hb dX10_stands_24 (by decide) ?_
    rw [← hQQ]
    cases hf
    exact rw_i hx hb hr hlocks hP hS dX10_stands_26
  rw [if_neg c_4] at hf
  refine lv_iload_n hx hb dX10_stands_7 rfl (lv_at hl 1 rfl) ?_
  refine lv_i2l hx hb dX10_stands_8 rfl ?_
  obtain ⟨r_9, e_9, hf⟩ := ob_bind hf
  have hPX_9 : va_P D vwCl ([]) H_1 := P_nil
  refine ro_call1 (va_runS (As := [.long v1.toInt64]) (rest := []) ⟨hx, hb, hml, hown, htl⟩ (c_X10_isStep l D ct G fu v1.toInt64 e_9) (cw_X10_X10_isStep htl ⟨Nat.le_of_ble_eq_true rfl, Nat.le_of_ble_eq_true rfl⟩) ⟨Bx_blind, Bx_pre hPX_9 hK hN (hX.stay hS hGE)⟩ rfl rfl hl.1 rfl (lv_room (Nat.le_of_ble_eq_true rfl)) dX10_stands_9 ⟨Nat.zero_le _, Nat.zero_le _⟩) ?_
  refine lv_if_eq (tgt := 24) hx hb dX10_stands_12 (by decide) (fun c_12 => ?_) (fun c_12 => ?_)
  · rw [if_pos c_12] at hf
    refine lv_bipush (v := (-2)) hx hb dX10_stands_24 (by decide) ?_
    rw [← hQQ]
    cases hf
    exact rw_i hx hb hr hlocks hP hS dX10_stands_26
  rw [if_neg c_12] at hf
  refine lv_aload_n hx hb dX10_stands_15 rfl (lv_at hl 0 rfl) ?_
  refine va_get (D := D) (ci := 10) (v := .ref (a 9)) (C := RX10) (T := TX10) (N := 42) hx hb htl inlX10 hown hK hP 0 rfl rfl 17 (by decide) (htl _ wq_7_11) (fun _ h9 => h9) rfl dX10_stands_16 ?_
  refine lv_iload_n hx hb dX10_stands_19 rfl (lv_at hl 1 rfl) ?_
  obtain ⟨hi_20, hf⟩ := ob_in hf
  refine va_iald (D := D) (tys := tyl ct) hx hb hK hP 9 0 rfl rfl hi_20 dX10_stands_20 ?_
  refine lv_goto (tgt := 26) hx hb dX10_stands_21 (by decide) ?_
  rw [← hQQ]
  cases hf
  exact rw_i hx hb hr hlocks hP hS dX10_stands_26
theorem c_X10_stands (l : Launch) (D : va_G) (ct : Nat → ClassId) (G : GT) (a : Nat → Nat) (fu : Nat) (o : Ob) (v1 : Int32) {r : Int32 × Ob} (hf : p_X10_stands fu o v1 = some r)  (hD0 : va_D (GE G) (cs10 ct a o)) : Met l yX10_stands (.code yX10_stands cX10_stands 2 (some .int) :: wsL_law) rm_X10_stands (va_Pc [.ref (a 0), .int v1] (Bx D ct G (cs10 ct a o))) (Qwr (some (.int r.1)) (fun H => va_P D vwCl (cs10 ct a r.2) H) (wA (cs10 ct a o))) 0 0 (wA (cs10 ct a o)) := by
  refine Met.ofW (cc := cX10_stands) (maxL := 2) (ret := (some .int)) (by decide) rfl ?_
  intro p e s m args below meth c s₁ B hml hv
  obtain ⟨rfl, hP, hK, hN, hX⟩ := hv
  have hts := atoms_spec (ws := .code yX10_stands cX10_stands 2 (some .int) :: wsL_law) B.pre
  rw [lg_entry_eq]
  exact b_X10_stands a fu o v1 B.exec B.bytes B.returns hml (findClass_of_methodNamed B.named) (fun w h => hts w (List.mem_cons_of_mem _ h)) B.notSynchronized hK hN hX hP hf hD0  (lv_entry [.ref (a 0), .int v1] (n := 2) (Nat.le_of_ble_eq_true rfl))
theorem hd_X10_asksReach : yX10_asksReach.cls ≠ "java/lang/invoke/MethodHandle" ∧ yX10_asksReach.cls ≠ "java/lang/invoke/VarHandle" ∧ (parseMethodDescriptor yX10_asksReach.desc).map (fun d => d.parameters.length) = some 1 := by decide +kernel
theorem cw_X10_X10_asksReach {R : Room} {s : State} {args : Array Value} (ht : ∀ w ∈ wsL_law, w.before args s = true) (hR : rm_X10_asksReach.frames + 1 ≤ R.frames ∧ 8 + (2 + 11) + rm_X10_asksReach.locals ≤ R.locals) : CallW R s args RX10 RX10 259 yX10_asksReach cX10_asksReach 2 (some .boolean) ((.code yX10_asksReach cX10_asksReach 2 (some .boolean)) :: wsL_law) rm_X10_asksReach 0 0 1 := cwV 1 ht (GV wq_24_17 wq_24_18 wq_24_19 wq_1_5 wq_24_20) rfl rfl rfl ⟨rfl, hd_X10_asksReach⟩ hR
theorem hd_X10_bit : yX10_bit.cls ≠ "java/lang/invoke/MethodHandle" ∧ yX10_bit.cls ≠ "java/lang/invoke/VarHandle" ∧ (parseMethodDescriptor yX10_bit.desc).map (fun d => d.parameters.length) = some 2 := by decide +kernel
theorem cw_X10_X10_bit {R : Room} {s : State} {args : Array Value} (ht : ∀ w ∈ wsL_law, w.before args s = true) (hR : rm_X10_bit.frames + 1 ≤ R.frames ∧ 8 + (2 + 11) + rm_X10_bit.locals ≤ R.locals) : CallB R s args RX10 262 yX10_bit cX10_bit 2 (some .int) ((.code yX10_bit cX10_bit 2 (some .int)) :: wsL_law) rm_X10_bit 0 0 2 ∧ (Cond.static yX10_bit).before args s = true := va_cwS 2 ht (GS wq_24_21 wq_24_22 wq_1_5 wq_24_23) rfl rfl rfl hd_X10_bit hR
def p_X10_dry_L13 (fu : Nat)  : Nat → Ob → Int32 → Int32 → Option (Int32 × Ob)
  | 0, _, _, _ => none
  | n + 1, oz, v1, v2 =>
    if (60 : Int32) < v2 then some (((-1) : Int32), oz) else if inb v2 61 = true then (p_X10_bit fu ((oz.1 17) v2.toNatClampNeg) v1).bind fun r_26 => if r_26 = (1 : Int32) then some (v2, oz) else p_X10_dry_L13 fu  n oz v1 (v2 + 1) else none
def p_X10_dry (fu : Nat) (o : Ob) (v1 : Int32) : Option (Int32 × Ob) :=
  (p_X10_asksReach fu o v1).bind fun r_2 => if r_2.1 = 0 then some (((-2) : Int32), r_2.2) else p_X10_dry_L13 fu fu r_2.2 v1 0
abbrev rm_X10_dry : Room := { frames := 4, cells := 0, slots := 0, locals := 87 }
set_option maxHeartbeats 4000000 in
set_option maxRecDepth 100000 in
theorem b_X10_dry {p : Program} {l : Launch} {e : Env} {s : State} {m : MethodId} {args : Array Value} {below : List Frame} {meth : Method} {c : Code} {ls : Array Slot} {D : va_G} {ct : Nat → ClassId} {G : GT} (a : Nat → Nat) (fu : Nat) (o : Ob) (v1 : Int32) {r : Int32 × Ob} (hx : p.tables.exec = Jvm.exec) (hb : c.code = cX10_dry) (hr : meth.sig.returnType = (some .int)) (hml : c.maxLocals = 3) (hown : s.vm.findClass RX10 = some m.cls) (htl : ∀ w ∈ wsL_law, w.before args s = true) (hlocks : meth.locks = false) (hK : va_K D vwCl (tyl ct) s) (hN : ∀ w ∈ NW, va_Nw w s) (hX : SX G s s.heap) (hP0 : va_P D vwCl (cs10 ct a o) s.heap) (hf : p_X10_dry fu o v1 = some r) (hD0 : va_D (GE G) (cs10 ct a o))  (hl : lv_has ls 3 [(0, .ref (a 0)), (1, .int v1)]) : W p l e rm_X10_dry s m args below meth c s.heap [] 0 0 (MQ below (Qwr (some (.int r.1)) (fun H => va_P D vwCl (cs10 ct a r.2) H) (wA (cs10 ct a o))) args s 0 0 (wA (cs10 ct a o))) (F0 m 0 ls []) := by
  generalize hQQ : MQ below (Qwr (some (.int r.1)) (fun H => va_P D vwCl (cs10 ct a r.2) H) (wA (cs10 ct a o))) args s 0 0 (wA (cs10 ct a o)) = QQ
  have hDx : ∀ (oy : Ob), va_D (GE G) (cs10 ct a oy) := fun oy => D_cr hD0 rfl
  have hDW : ∀ (oy : Ob), va_D (wA (cs10 ct a o)) (cs10 ct a oy) := fun oy => D_cr (D_self hD0) rfl
  have hGE : ∀ q, wA (cs10 ct a o) q → GE G q := wA_GE hD0
  have hP := hP0
  have hS : va_S (wA (cs10 ct a o)) s.heap s.heap [] := va_S.rf
  have hL13 : ∀ (n : Nat) (oz : Ob) (v1 : Int32) (v2 : Int32), ∀ (H : Heap) (locs : List Loc) (ls : Array Slot), va_P D vwCl (cs10 ct a oz) H → va_S (wA (cs10 ct a o)) s.heap H locs → lv_has ls 3 [(0, .ref (a 0)), (1, .int v1), (2, .int v2)] → p_X10_dry_L13 fu  n oz v1 v2 = some r → W p l e rm_X10_dry s m args below meth c H locs 0 0 QQ (F0 m 13 ls []) := by
    intro  n
    induction n with
    | zero =>
      intro oz v1 v2 H locs ls hP hS hl hf 
      rw [p_X10_dry_L13] at hf
      cases hf
    | succ n ih =>
      intro oz v1 v2 H locs ls hP hS hl hf 
      rw [p_X10_dry_L13] at hf
      refine lv_iload_n hx hb dX10_dry_13 rfl (lv_at hl 2 rfl) ?_
      refine lv_bipush (v := 60) hx hb dX10_dry_14 (by decide) ?_
      refine lv_icmp_gt (tgt := 41) hx hb dX10_dry_16 (by decide) (fun c_16 => ?_) (fun c_16 => ?_)
      · rw [if_pos c_16] at hf
        refine lv_iconst (v := (-1)) hx hb dX10_dry_41 (by decide) ?_
        rw [← hQQ]
        cases hf
        exact rw_i hx hb hr hlocks hP hS dX10_dry_42
      rw [if_neg c_16] at hf
      refine lv_aload_n hx hb dX10_dry_19 rfl (lv_at hl 0 rfl) ?_
      refine va_get (D := D) (ci := 10) (v := .ref (a 9)) (C := RX10) (T := TX10) (N := 42) hx hb htl inlX10 hown hK hP 0 rfl rfl 17 (by decide) (htl _ wq_7_11) (fun _ h9 => h9) rfl dX10_dry_20 ?_
      refine lv_iload_n hx hb dX10_dry_23 rfl (lv_at hl 2 rfl) ?_
      obtain ⟨hi_24, hf⟩ := ob_in hf
      refine va_iald (D := D) (tys := tyl ct) hx hb hK hP 9 0 rfl rfl hi_24 dX10_dry_24 ?_
      refine lv_iload_n hx hb dX10_dry_25 rfl (lv_at hl 1 rfl) ?_
      obtain ⟨r_26, e_26, hf⟩ := ob_bind hf
      have hPX_26 : va_P D vwCl ([]) H := P_nil
      refine ro_call1 (va_runS (As := [.int ((oz.1 17) v2.toNatClampNeg), .int v1]) (rest := []) ⟨hx, hb, hml, hown, htl⟩ (c_X10_bit l D ct G fu ((oz.1 17) v2.toNatClampNeg) v1 e_26) (cw_X10_X10_bit htl ⟨Nat.le_of_ble_eq_true rfl, Nat.le_of_ble_eq_true rfl⟩) ⟨Bx_blind, Bx_pre hPX_26 hK hN (hX.stay hS hGE)⟩ rfl rfl hl.1 rfl (lv_room (Nat.le_of_ble_eq_true rfl)) dX10_dry_26 ⟨Nat.zero_le _, Nat.zero_le _⟩) ?_
      refine lv_iconst (v := 1) hx hb dX10_dry_29 (by decide) ?_
      refine lv_icmp_ne (tgt := 35) hx hb dX10_dry_30 (by decide) (fun c_30 => ?_) (fun c_30 => ?_)
      · rw [if_neg c_30] at hf
        refine lv_iinc (v := (v2 + 1)) (lv' := [(2, .int (v2 + 1)), (0, .ref (a 0)), (1, .int v1)]) hx hb dX10_dry_35 hl (k := 2) rfl rfl (by decide) rfl (fun ls hl => ?_)
        refine lv_goto (tgt := 13) hx hb dX10_dry_38 (by decide) ?_
        exact ih oz v1 (v2 + 1) _ _ _ hP hS (lv_sub hl [1, 2, 0] rfl) hf 
      rw [if_pos c_30] at hf
      refine lv_iload_n hx hb dX10_dry_33 rfl (lv_at hl 2 rfl) ?_
      rw [← hQQ]
      cases hf
      exact rw_i hx hb hr hlocks hP hS dX10_dry_34
  rw [p_X10_dry] at hf
  refine lv_aload_n hx hb dX10_dry_0 rfl (lv_at hl 0 rfl) ?_
  refine lv_iload_n hx hb dX10_dry_1 rfl (lv_at hl 1 rfl) ?_
  obtain ⟨r_2, e_2, hf⟩ := ob_bind hf
  have hPX_2 : va_P D vwCl (cs10 ct a o) s.heap := hP
  refine wr_call1 (va_runV (As := [.int v1]) (rest := []) ⟨hx, hb, hml, hown, htl⟩ (c_X10_asksReach l D ct G a fu o v1 e_2 (hDx o)) (cw_X10_X10_asksReach htl ⟨Nat.le_of_ble_eq_true rfl, Nat.le_of_ble_eq_true rfl⟩) ⟨Bx_blind, va_recv hK hPX_2 (ci := 10) (q0 := 0) rfl rfl, Bx_pre hPX_2 hK hN (hX.stay hS hGE)⟩ rfl rfl hl.1 rfl (lv_room (Nat.le_of_ble_eq_true rfl)) dX10_dry_2 ⟨Nat.zero_le _, Nat.zero_le _⟩) hS (wA_cg rfl) (fun H_2 locs_2 hB_2 _ hk_2 hS => ?_)
  have hP : va_P D vwCl (cs10 ct a r_2.2) H_2 := hB_2
  refine lv_if_ne (tgt := 11) hx hb dX10_dry_5 (by decide) (fun c_5 => ?_) (fun c_5 => ?_)
  · rw [if_neg c_5] at hf
    refine lv_iconst (v := 0) hx hb dX10_dry_11 (by decide) ?_
    refine lv_istore_n (lv' := [(2, .int 0), (0, .ref (a 0)), (1, .int v1)]) hx hb dX10_dry_12 rfl hl (by decide) rfl (fun ls hl => ?_)
    exact hL13 fu r_2.2 v1 0 _ _ _ hP hS (lv_sub hl [1, 2, 0] rfl) hf 
  rw [if_pos c_5] at hf
  refine lv_bipush (v := (-2)) hx hb dX10_dry_8 (by decide) ?_
  rw [← hQQ]
  cases hf
  exact rw_i hx hb hr hlocks hP hS dX10_dry_10
theorem c_X10_dry (l : Launch) (D : va_G) (ct : Nat → ClassId) (G : GT) (a : Nat → Nat) (fu : Nat) (o : Ob) (v1 : Int32) {r : Int32 × Ob} (hf : p_X10_dry fu o v1 = some r)  (hD0 : va_D (GE G) (cs10 ct a o)) : Met l yX10_dry (.code yX10_dry cX10_dry 3 (some .int) :: wsL_law) rm_X10_dry (va_Pc [.ref (a 0), .int v1] (Bx D ct G (cs10 ct a o))) (Qwr (some (.int r.1)) (fun H => va_P D vwCl (cs10 ct a r.2) H) (wA (cs10 ct a o))) 0 0 (wA (cs10 ct a o)) := by
  refine Met.ofW (cc := cX10_dry) (maxL := 3) (ret := (some .int)) (by decide) rfl ?_
  intro p e s m args below meth c s₁ B hml hv
  obtain ⟨rfl, hP, hK, hN, hX⟩ := hv
  have hts := atoms_spec (ws := .code yX10_dry cX10_dry 3 (some .int) :: wsL_law) B.pre
  rw [lg_entry_eq]
  exact b_X10_dry a fu o v1 B.exec B.bytes B.returns hml (findClass_of_methodNamed B.named) (fun w h => hts w (List.mem_cons_of_mem _ h)) B.notSynchronized hK hN hX hP hf hD0  (lv_entry [.ref (a 0), .int v1] (n := 3) (Nat.le_of_ble_eq_true rfl))
def p_X10_drought_J47 (fu : Nat) (c18 : Ob → Int32 → Int32 → Int32 → Int32 → Option (Int32 × Ob)) (oz : Ob) (v1 : Int32) (v2 : Int32) (v4 : Int32) (s0 : Int32) : Option (Int32 × Ob) :=
    c18 oz v1 (if v2 < s0 then s0 else v2) s0 (v4 + 1)
def p_X10_drought_L18 (fu : Nat)  : Nat → Ob → Int32 → Int32 → Int32 → Int32 → Option (Int32 × Ob)
  | 0, _, _, _, _, _ => none
  | n + 1, oz, v1, v2, v3, v4 =>
    if (60 : Int32) < v4 then some (v2, oz) else if inb v4 61 = true then (p_X10_bit fu ((oz.1 17) v4.toNatClampNeg) v1).bind fun r_33 => if r_33 = (1 : Int32) then p_X10_drought_J47 fu (fun oz v1 v2 v3 v4 => p_X10_drought_L18 fu  n oz v1 v2 v3 v4) oz v1 v2 v4 (v3 + 1) else p_X10_drought_J47 fu (fun oz v1 v2 v3 v4 => p_X10_drought_L18 fu  n oz v1 v2 v3 v4) oz v1 v2 v4 0 else none
def p_X10_drought (fu : Nat) (o : Ob) (v1 : Int32) : Option (Int32 × Ob) :=
  (p_X10_asksReach fu o v1).bind fun r_2 => if r_2.1 = 0 then some (((-2) : Int32), r_2.2) else p_X10_drought_L18 fu fu r_2.2 v1 0 0 0
abbrev rm_X10_drought : Room := { frames := 4, cells := 0, slots := 0, locals := 87 }
set_option maxHeartbeats 4000000 in
set_option maxRecDepth 100000 in
theorem b_X10_drought {p : Program} {l : Launch} {e : Env} {s : State} {m : MethodId} {args : Array Value} {below : List Frame} {meth : Method} {c : Code} {ls : Array Slot} {D : va_G} {ct : Nat → ClassId} {G : GT} (a : Nat → Nat) (fu : Nat) (o : Ob) (v1 : Int32) {r : Int32 × Ob} (hx : p.tables.exec = Jvm.exec) (hb : c.code = cX10_drought) (hr : meth.sig.returnType = (some .int)) (hml : c.maxLocals = 5) (hown : s.vm.findClass RX10 = some m.cls) (htl : ∀ w ∈ wsL_law, w.before args s = true) (hlocks : meth.locks = false) (hK : va_K D vwCl (tyl ct) s) (hN : ∀ w ∈ NW, va_Nw w s) (hX : SX G s s.heap) (hP0 : va_P D vwCl (cs10 ct a o) s.heap) (hf : p_X10_drought fu o v1 = some r) (hD0 : va_D (GE G) (cs10 ct a o))  (hl : lv_has ls 5 [(0, .ref (a 0)), (1, .int v1)]) : W p l e rm_X10_drought s m args below meth c s.heap [] 0 0 (MQ below (Qwr (some (.int r.1)) (fun H => va_P D vwCl (cs10 ct a r.2) H) (wA (cs10 ct a o))) args s 0 0 (wA (cs10 ct a o))) (F0 m 0 ls []) := by
  generalize hQQ : MQ below (Qwr (some (.int r.1)) (fun H => va_P D vwCl (cs10 ct a r.2) H) (wA (cs10 ct a o))) args s 0 0 (wA (cs10 ct a o)) = QQ
  have hDx : ∀ (oy : Ob), va_D (GE G) (cs10 ct a oy) := fun oy => D_cr hD0 rfl
  have hDW : ∀ (oy : Ob), va_D (wA (cs10 ct a o)) (cs10 ct a oy) := fun oy => D_cr (D_self hD0) rfl
  have hGE : ∀ q, wA (cs10 ct a o) q → GE G q := wA_GE hD0
  have hP := hP0
  have hS : va_S (wA (cs10 ct a o)) s.heap s.heap [] := va_S.rf
  have hJ47 : ∀ (c18 : Ob → Int32 → Int32 → Int32 → Int32 → Option (Int32 × Ob)) (oz : Ob) (v1 : Int32) (v2 : Int32) (v4 : Int32) (s0 : Int32), ∀ (H : Heap) (locs : List Loc) (ls : Array Slot), va_P D vwCl (cs10 ct a oz) H → va_S (wA (cs10 ct a o)) s.heap H locs → lv_has ls 5 [(0, .ref (a 0)), (1, .int v1), (2, .int v2), (4, .int v4)] → p_X10_drought_J47 fu c18 oz v1 v2 v4 s0 = some r → (∀ (oz : Ob) (v1 : Int32) (v2 : Int32) (v3 : Int32) (v4 : Int32), ∀ (H : Heap) (locs : List Loc) (ls : Array Slot), va_P D vwCl (cs10 ct a oz) H → va_S (wA (cs10 ct a o)) s.heap H locs → lv_has ls 5 [(0, .ref (a 0)), (1, .int v1), (2, .int v2), (3, .int v3), (4, .int v4)] → c18 oz v1 v2 v3 v4 = some r → W p l e rm_X10_drought s m args below meth c H locs 0 0 QQ (F0 m 18 ls [])) → W p l e rm_X10_drought s m args below meth c H locs 0 0 QQ (F0 m 47 ls [.int s0]) := by
    intro c18 oz v1 v2 v4 s0 H locs ls hP hS hl hf k18
    rw [p_X10_drought_J47] at hf
    refine lv_istore_n (lv' := [(3, .int s0), (0, .ref (a 0)), (1, .int v1), (2, .int v2), (4, .int v4)]) hx hb dX10_drought_47 rfl hl (by decide) rfl (fun ls hl => ?_)
    refine lv_iload_n hx hb dX10_drought_48 rfl (lv_at hl 3 rfl) ?_
    refine lv_iload_n hx hb dX10_drought_49 rfl (lv_at hl 0 rfl) ?_
    refine va_mmax hx hb (hml.trans hl.1.symm) hown (htl _ wq_23_7) (htl _ wq_15_21) (htl _ wq_12_23) (htl _ wq_15_22) (Nat.le_of_ble_eq_true rfl) (Nat.le_of_ble_eq_true rfl) (Nat.zero_le _) (Nat.zero_le _) dX10_drought_50 ?_
    refine lv_istore_n (lv' := [(2, .int (if v2 < s0 then s0 else v2)), (3, .int s0), (0, .ref (a 0)), (1, .int v1), (4, .int v4)]) hx hb dX10_drought_53 rfl hl (by decide) rfl (fun ls hl => ?_)
    refine lv_iinc (v := (v4 + 1)) (lv' := [(4, .int (v4 + 1)), (2, .int (if v2 < s0 then s0 else v2)), (3, .int s0), (0, .ref (a 0)), (1, .int v1)]) hx hb dX10_drought_54 hl (k := 4) rfl rfl (by decide) rfl (fun ls hl => ?_)
    refine lv_goto (tgt := 18) hx hb dX10_drought_57 (by decide) ?_
    exact k18 oz v1 (if v2 < s0 then s0 else v2) s0 (v4 + 1) _ _ _ hP hS (lv_sub hl [3, 4, 1, 2, 0] rfl) hf
  have hL18 : ∀ (n : Nat) (oz : Ob) (v1 : Int32) (v2 : Int32) (v3 : Int32) (v4 : Int32), ∀ (H : Heap) (locs : List Loc) (ls : Array Slot), va_P D vwCl (cs10 ct a oz) H → va_S (wA (cs10 ct a o)) s.heap H locs → lv_has ls 5 [(0, .ref (a 0)), (1, .int v1), (2, .int v2), (3, .int v3), (4, .int v4)] → p_X10_drought_L18 fu  n oz v1 v2 v3 v4 = some r → W p l e rm_X10_drought s m args below meth c H locs 0 0 QQ (F0 m 18 ls []) := by
    intro  n
    induction n with
    | zero =>
      intro oz v1 v2 v3 v4 H locs ls hP hS hl hf 
      rw [p_X10_drought_L18] at hf
      cases hf
    | succ n ih =>
      intro oz v1 v2 v3 v4 H locs ls hP hS hl hf 
      rw [p_X10_drought_L18] at hf
      refine lv_iload hx hb dX10_drought_18 (lv_at hl 4 rfl) ?_
      refine lv_bipush (v := 60) hx hb dX10_drought_20 (by decide) ?_
      refine lv_icmp_gt (tgt := 60) hx hb dX10_drought_22 (by decide) (fun c_22 => ?_) (fun c_22 => ?_)
      · rw [if_pos c_22] at hf
        refine lv_iload_n hx hb dX10_drought_60 rfl (lv_at hl 2 rfl) ?_
        rw [← hQQ]
        cases hf
        exact rw_i hx hb hr hlocks hP hS dX10_drought_61
      rw [if_neg c_22] at hf
      refine lv_aload_n hx hb dX10_drought_25 rfl (lv_at hl 0 rfl) ?_
      refine va_get (D := D) (ci := 10) (v := .ref (a 9)) (C := RX10) (T := TX10) (N := 42) hx hb htl inlX10 hown hK hP 0 rfl rfl 17 (by decide) (htl _ wq_7_11) (fun _ h9 => h9) rfl dX10_drought_26 ?_
      refine lv_iload hx hb dX10_drought_29 (lv_at hl 4 rfl) ?_
      obtain ⟨hi_31, hf⟩ := ob_in hf
      refine va_iald (D := D) (tys := tyl ct) hx hb hK hP 9 0 rfl rfl hi_31 dX10_drought_31 ?_
      refine lv_iload_n hx hb dX10_drought_32 rfl (lv_at hl 1 rfl) ?_
      obtain ⟨r_33, e_33, hf⟩ := ob_bind hf
      have hPX_33 : va_P D vwCl ([]) H := P_nil
      refine ro_call1 (va_runS (As := [.int ((oz.1 17) v4.toNatClampNeg), .int v1]) (rest := []) ⟨hx, hb, hml, hown, htl⟩ (c_X10_bit l D ct G fu ((oz.1 17) v4.toNatClampNeg) v1 e_33) (cw_X10_X10_bit htl ⟨Nat.le_of_ble_eq_true rfl, Nat.le_of_ble_eq_true rfl⟩) ⟨Bx_blind, Bx_pre hPX_33 hK hN (hX.stay hS hGE)⟩ rfl rfl hl.1 rfl (lv_room (Nat.le_of_ble_eq_true rfl)) dX10_drought_33 ⟨Nat.zero_le _, Nat.zero_le _⟩) ?_
      refine lv_iconst (v := 1) hx hb dX10_drought_36 (by decide) ?_
      refine lv_icmp_ne (tgt := 46) hx hb dX10_drought_37 (by decide) (fun c_37 => ?_) (fun c_37 => ?_)
      · rw [if_neg c_37] at hf
        refine lv_iconst (v := 0) hx hb dX10_drought_46 (by decide) ?_
        exact hJ47 _ oz v1 v2 v4 0 _ _ _ hP hS (lv_sub hl [0, 1, 2, 4] rfl) hf (fun oz v1 v2 v3 v4 H locs ls hP hS hl hf => ih oz v1 v2 v3 v4 H locs ls hP hS hl hf )
      rw [if_pos c_37] at hf
      refine lv_iload_n hx hb dX10_drought_40 rfl (lv_at hl 3 rfl) ?_
      refine lv_iconst (v := 1) hx hb dX10_drought_41 (by decide) ?_
      refine lv_iadd hx hb dX10_drought_42 ?_
      refine lv_goto (tgt := 47) hx hb dX10_drought_43 (by decide) ?_
      exact hJ47 _ oz v1 v2 v4 (v3 + 1) _ _ _ hP hS (lv_sub hl [0, 1, 2, 4] rfl) hf (fun oz v1 v2 v3 v4 H locs ls hP hS hl hf => ih oz v1 v2 v3 v4 H locs ls hP hS hl hf )
  rw [p_X10_drought] at hf
  refine lv_aload_n hx hb dX10_drought_0 rfl (lv_at hl 0 rfl) ?_
  refine lv_iload_n hx hb dX10_drought_1 rfl (lv_at hl 1 rfl) ?_
  obtain ⟨r_2, e_2, hf⟩ := ob_bind hf
  have hPX_2 : va_P D vwCl (cs10 ct a o) s.heap := hP
  refine wr_call1 (va_runV (As := [.int v1]) (rest := []) ⟨hx, hb, hml, hown, htl⟩ (c_X10_asksReach l D ct G a fu o v1 e_2 (hDx o)) (cw_X10_X10_asksReach htl ⟨Nat.le_of_ble_eq_true rfl, Nat.le_of_ble_eq_true rfl⟩) ⟨Bx_blind, va_recv hK hPX_2 (ci := 10) (q0 := 0) rfl rfl, Bx_pre hPX_2 hK hN (hX.stay hS hGE)⟩ rfl rfl hl.1 rfl (lv_room (Nat.le_of_ble_eq_true rfl)) dX10_drought_2 ⟨Nat.zero_le _, Nat.zero_le _⟩) hS (wA_cg rfl) (fun H_2 locs_2 hB_2 _ hk_2 hS => ?_)
  have hP : va_P D vwCl (cs10 ct a r_2.2) H_2 := hB_2
  refine lv_if_ne (tgt := 11) hx hb dX10_drought_5 (by decide) (fun c_5 => ?_) (fun c_5 => ?_)
  rotate_left 1
  · rw [if_pos c_5] at hf
    refine lv_bipush (v := (-2)) hx hb dX10_drought_8 (by decide) ?_
    rw [← hQQ]
    cases hf
    exact rw_i hx hb hr hlocks hP hS dX10_drought_10
  rw [if_neg c_5] at hf
  refine lv_iconst (v := 0) hx hb dX10_drought_11 (by decide) ?_
  refine lv_istore_n (lv' := [(2, .int 0), (0, .ref (a 0)), (1, .int v1)]) hx hb dX10_drought_12 rfl hl (by decide) rfl (fun ls hl => ?_)
  refine lv_iconst (v := 0) hx hb dX10_drought_13 (by decide) ?_
  refine lv_istore_n (lv' := [(3, .int 0), (2, .int 0), (0, .ref (a 0)), (1, .int v1)]) hx hb dX10_drought_14 rfl hl (by decide) rfl (fun ls hl => ?_)
  refine lv_iconst (v := 0) hx hb dX10_drought_15 (by decide) ?_
  refine lv_istore (lv' := [(4, .int 0), (3, .int 0), (2, .int 0), (0, .ref (a 0)), (1, .int v1)]) hx hb dX10_drought_16 hl (by decide) rfl (fun ls hl => ?_)
  exact hL18 fu r_2.2 v1 0 0 0 _ _ _ hP hS (lv_sub hl [3, 4, 2, 1, 0] rfl) hf 
theorem c_X10_drought (l : Launch) (D : va_G) (ct : Nat → ClassId) (G : GT) (a : Nat → Nat) (fu : Nat) (o : Ob) (v1 : Int32) {r : Int32 × Ob} (hf : p_X10_drought fu o v1 = some r)  (hD0 : va_D (GE G) (cs10 ct a o)) : Met l yX10_drought (.code yX10_drought cX10_drought 5 (some .int) :: wsL_law) rm_X10_drought (va_Pc [.ref (a 0), .int v1] (Bx D ct G (cs10 ct a o))) (Qwr (some (.int r.1)) (fun H => va_P D vwCl (cs10 ct a r.2) H) (wA (cs10 ct a o))) 0 0 (wA (cs10 ct a o)) := by
  refine Met.ofW (cc := cX10_drought) (maxL := 5) (ret := (some .int)) (by decide) rfl ?_
  intro p e s m args below meth c s₁ B hml hv
  obtain ⟨rfl, hP, hK, hN, hX⟩ := hv
  have hts := atoms_spec (ws := .code yX10_drought cX10_drought 5 (some .int) :: wsL_law) B.pre
  rw [lg_entry_eq]
  exact b_X10_drought a fu o v1 B.exec B.bytes B.returns hml (findClass_of_methodNamed B.named) (fun w h => hts w (List.mem_cons_of_mem _ h)) B.notSynchronized hK hN hX hP hf hD0  (lv_entry [.ref (a 0), .int v1] (n := 5) (Nat.le_of_ble_eq_true rfl))
def p_X10_flows (fu : Nat) (o : Ob) (v1 : Int32) : Option (Int32 × Ob) :=
  (p_X10_asksRivers fu o).bind fun r_1 => if r_1.1 = 0 then some (((-2) : Int32), r_1.2) else (p_X10_isStep fu v1.toInt64).bind fun r_9 => if r_9 = 0 then some (((-2) : Int32), r_1.2) else if inb (3 : Int32) 98 = true then if inb v1 61 = true then some (((((1 : Int32) <<< (((r_1.2.1 1) (3 : Int32).toNatClampNeg) &&& 31)) - 1) &&& (((r_1.2.1 17) v1.toNatClampNeg) ^^^ (-1))), r_1.2) else none else none
abbrev rm_X10_flows : Room := { frames := 4, cells := 0, slots := 0, locals := 86 }
set_option maxHeartbeats 4000000 in
set_option maxRecDepth 100000 in
theorem b_X10_flows {p : Program} {l : Launch} {e : Env} {s : State} {m : MethodId} {args : Array Value} {below : List Frame} {meth : Method} {c : Code} {ls : Array Slot} {D : va_G} {ct : Nat → ClassId} {G : GT} (a : Nat → Nat) (fu : Nat) (o : Ob) (v1 : Int32) {r : Int32 × Ob} (hx : p.tables.exec = Jvm.exec) (hb : c.code = cX10_flows) (hr : meth.sig.returnType = (some .int)) (hml : c.maxLocals = 2) (hown : s.vm.findClass RX10 = some m.cls) (htl : ∀ w ∈ wsL_law, w.before args s = true) (hlocks : meth.locks = false) (hK : va_K D vwCl (tyl ct) s) (hN : ∀ w ∈ NW, va_Nw w s) (hX : SX G s s.heap) (hP0 : va_P D vwCl (cs10 ct a o) s.heap) (hf : p_X10_flows fu o v1 = some r) (hD0 : va_D (GE G) (cs10 ct a o))  (hl : lv_has ls 2 [(0, .ref (a 0)), (1, .int v1)]) : W p l e rm_X10_flows s m args below meth c s.heap [] 0 0 (MQ below (Qwr (some (.int r.1)) (fun H => va_P D vwCl (cs10 ct a r.2) H) (wA (cs10 ct a o))) args s 0 0 (wA (cs10 ct a o))) (F0 m 0 ls []) := by
  generalize hQQ : MQ below (Qwr (some (.int r.1)) (fun H => va_P D vwCl (cs10 ct a r.2) H) (wA (cs10 ct a o))) args s 0 0 (wA (cs10 ct a o)) = QQ
  have hDx : ∀ (oy : Ob), va_D (GE G) (cs10 ct a oy) := fun oy => D_cr hD0 rfl
  have hDW : ∀ (oy : Ob), va_D (wA (cs10 ct a o)) (cs10 ct a oy) := fun oy => D_cr (D_self hD0) rfl
  have hGE : ∀ q, wA (cs10 ct a o) q → GE G q := wA_GE hD0
  have hP := hP0
  have hS : va_S (wA (cs10 ct a o)) s.heap s.heap [] := va_S.rf
  rw [p_X10_flows] at hf
  refine lv_aload_n hx hb dX10_flows_0 rfl (lv_at hl 0 rfl) ?_
  obtain ⟨r_1, e_1, hf⟩ := ob_bind hf
  have hPX_1 : va_P D vwCl (cs10 ct a o) s.heap := hP
  refine wr_call1 (va_runV (As := []) (rest := []) ⟨hx, hb, hml, hown, htl⟩ (c_X10_asksRivers l D ct G a fu o e_1 (hDx o)) (cw_X10_X10_asksRivers htl ⟨Nat.le_of_ble_eq_true rfl, Nat.le_of_ble_eq_true rfl⟩) ⟨Bx_blind, va_recv hK hPX_1 (ci := 10) (q0 := 0) rfl rfl, Bx_pre hPX_1 hK hN (hX.stay hS hGE)⟩ rfl rfl hl.1 rfl (lv_room (Nat.le_of_ble_eq_true rfl)) dX10_flows_1 ⟨Nat.zero_le _, Nat.zero_le _⟩) hS (wA_cg rfl) (fun H_1 locs_1 hB_1 _ hk_1 hS => ?_)
  have hP : va_P D vwCl (cs10 ct a r_1.2) H_1 := hB_1
  refine lv_if_eq (tgt := 37) hx hb dX10_flows_4 (by decide) (fun c_4 => ?_) (fun c_4 => ?_)
  · rw [if_pos c_4] at hf
    refine lv_bipush (v := (-2)) hx hb dX10_flows_37 (by decide) ?_
    rw [← hQQ]
    cases hf
    exact rw_i hx hb hr hlocks hP hS dX10_flows_39
  rw [if_neg c_4] at hf
  refine lv_iload_n hx hb dX10_flows_7 rfl (lv_at hl 1 rfl) ?_
  refine lv_i2l hx hb dX10_flows_8 rfl ?_
  obtain ⟨r_9, e_9, hf⟩ := ob_bind hf
  have hPX_9 : va_P D vwCl ([]) H_1 := P_nil
  refine ro_call1 (va_runS (As := [.long v1.toInt64]) (rest := []) ⟨hx, hb, hml, hown, htl⟩ (c_X10_isStep l D ct G fu v1.toInt64 e_9) (cw_X10_X10_isStep htl ⟨Nat.le_of_ble_eq_true rfl, Nat.le_of_ble_eq_true rfl⟩) ⟨Bx_blind, Bx_pre hPX_9 hK hN (hX.stay hS hGE)⟩ rfl rfl hl.1 rfl (lv_room (Nat.le_of_ble_eq_true rfl)) dX10_flows_9 ⟨Nat.zero_le _, Nat.zero_le _⟩) ?_
  refine lv_if_eq (tgt := 37) hx hb dX10_flows_12 (by decide) (fun c_12 => ?_) (fun c_12 => ?_)
  · rw [if_pos c_12] at hf
    refine lv_bipush (v := (-2)) hx hb dX10_flows_37 (by decide) ?_
    rw [← hQQ]
    cases hf
    exact rw_i hx hb hr hlocks hP hS dX10_flows_39
  rw [if_neg c_12] at hf
  refine lv_iconst (v := 1) hx hb dX10_flows_15 (by decide) ?_
  refine lv_aload_n hx hb dX10_flows_16 rfl (lv_at hl 0 rfl) ?_
  refine va_get (D := D) (ci := 10) (v := .ref (a 1)) (C := RX10) (T := TX10) (N := 42) hx hb htl inlX10 hown hK hP 0 rfl rfl 1 (by decide) (htl _ wq_7_0) (fun _ h9 => h9) rfl dX10_flows_17 ?_
  refine lv_iconst (v := 3) hx hb dX10_flows_20 (by decide) ?_
  obtain ⟨hi_21, hf⟩ := ob_in hf
  refine va_iald (D := D) (tys := tyl ct) hx hb hK hP 1 0 rfl rfl hi_21 dX10_flows_21 ?_
  refine lv_ishl hx hb dX10_flows_22 ?_
  refine lv_iconst (v := 1) hx hb dX10_flows_23 (by decide) ?_
  refine lv_isub hx hb dX10_flows_24 ?_
  refine lv_aload_n hx hb dX10_flows_25 rfl (lv_at hl 0 rfl) ?_
  refine va_get (D := D) (ci := 10) (v := .ref (a 9)) (C := RX10) (T := TX10) (N := 42) hx hb htl inlX10 hown hK hP 0 rfl rfl 17 (by decide) (htl _ wq_7_11) (fun _ h9 => h9) rfl dX10_flows_26 ?_
  refine lv_iload_n hx hb dX10_flows_29 rfl (lv_at hl 1 rfl) ?_
  obtain ⟨hi_30, hf⟩ := ob_in hf
  refine va_iald (D := D) (tys := tyl ct) hx hb hK hP 9 0 rfl rfl hi_30 dX10_flows_30 ?_
  refine lv_iconst (v := (-1)) hx hb dX10_flows_31 (by decide) ?_
  refine lv_ixor hx hb dX10_flows_32 ?_
  refine lv_iand hx hb dX10_flows_33 ?_
  refine lv_goto (tgt := 39) hx hb dX10_flows_34 (by decide) ?_
  rw [← hQQ]
  cases hf
  exact rw_i hx hb hr hlocks hP hS dX10_flows_39
theorem c_X10_flows (l : Launch) (D : va_G) (ct : Nat → ClassId) (G : GT) (a : Nat → Nat) (fu : Nat) (o : Ob) (v1 : Int32) {r : Int32 × Ob} (hf : p_X10_flows fu o v1 = some r)  (hD0 : va_D (GE G) (cs10 ct a o)) : Met l yX10_flows (.code yX10_flows cX10_flows 2 (some .int) :: wsL_law) rm_X10_flows (va_Pc [.ref (a 0), .int v1] (Bx D ct G (cs10 ct a o))) (Qwr (some (.int r.1)) (fun H => va_P D vwCl (cs10 ct a r.2) H) (wA (cs10 ct a o))) 0 0 (wA (cs10 ct a o)) := by
  refine Met.ofW (cc := cX10_flows) (maxL := 2) (ret := (some .int)) (by decide) rfl ?_
  intro p e s m args below meth c s₁ B hml hv
  obtain ⟨rfl, hP, hK, hN, hX⟩ := hv
  have hts := atoms_spec (ws := .code yX10_flows cX10_flows 2 (some .int) :: wsL_law) B.pre
  rw [lg_entry_eq]
  exact b_X10_flows a fu o v1 B.exec B.bytes B.returns hml (findClass_of_methodNamed B.named) (fun w h => hts w (List.mem_cons_of_mem _ h)) B.notSynchronized hK hN hX hP hf hD0  (lv_entry [.ref (a 0), .int v1] (n := 2) (Nat.le_of_ble_eq_true rfl))
def p_X10_idle_L15 (fu : Nat)  : Nat → Ob → Int32 → Int32 → Int32 → Option (Int32 × Ob)
  | 0, _, _, _, _ => none
  | n + 1, oz, v1, v2, v3 =>
    if (60 : Int32) < v3 then some (v2, oz) else if inb v3 61 = true then (p_X10_bit fu ((oz.1 17) v3.toNatClampNeg) v1).bind fun r_29 => p_X10_idle_L15 fu  n oz v1 (v2 + r_29) (v3 + 1) else none
def p_X10_idle (fu : Nat) (o : Ob) (v1 : Int32) : Option (Int32 × Ob) :=
  (p_X10_asksReach fu o v1).bind fun r_2 => if r_2.1 = 0 then some (((-2) : Int32), r_2.2) else p_X10_idle_L15 fu fu r_2.2 v1 0 0
abbrev rm_X10_idle : Room := { frames := 4, cells := 0, slots := 0, locals := 87 }
set_option maxHeartbeats 4000000 in
set_option maxRecDepth 100000 in
theorem b_X10_idle {p : Program} {l : Launch} {e : Env} {s : State} {m : MethodId} {args : Array Value} {below : List Frame} {meth : Method} {c : Code} {ls : Array Slot} {D : va_G} {ct : Nat → ClassId} {G : GT} (a : Nat → Nat) (fu : Nat) (o : Ob) (v1 : Int32) {r : Int32 × Ob} (hx : p.tables.exec = Jvm.exec) (hb : c.code = cX10_idle) (hr : meth.sig.returnType = (some .int)) (hml : c.maxLocals = 4) (hown : s.vm.findClass RX10 = some m.cls) (htl : ∀ w ∈ wsL_law, w.before args s = true) (hlocks : meth.locks = false) (hK : va_K D vwCl (tyl ct) s) (hN : ∀ w ∈ NW, va_Nw w s) (hX : SX G s s.heap) (hP0 : va_P D vwCl (cs10 ct a o) s.heap) (hf : p_X10_idle fu o v1 = some r) (hD0 : va_D (GE G) (cs10 ct a o))  (hl : lv_has ls 4 [(0, .ref (a 0)), (1, .int v1)]) : W p l e rm_X10_idle s m args below meth c s.heap [] 0 0 (MQ below (Qwr (some (.int r.1)) (fun H => va_P D vwCl (cs10 ct a r.2) H) (wA (cs10 ct a o))) args s 0 0 (wA (cs10 ct a o))) (F0 m 0 ls []) := by
  generalize hQQ : MQ below (Qwr (some (.int r.1)) (fun H => va_P D vwCl (cs10 ct a r.2) H) (wA (cs10 ct a o))) args s 0 0 (wA (cs10 ct a o)) = QQ
  have hDx : ∀ (oy : Ob), va_D (GE G) (cs10 ct a oy) := fun oy => D_cr hD0 rfl
  have hDW : ∀ (oy : Ob), va_D (wA (cs10 ct a o)) (cs10 ct a oy) := fun oy => D_cr (D_self hD0) rfl
  have hGE : ∀ q, wA (cs10 ct a o) q → GE G q := wA_GE hD0
  have hP := hP0
  have hS : va_S (wA (cs10 ct a o)) s.heap s.heap [] := va_S.rf
  have hL15 : ∀ (n : Nat) (oz : Ob) (v1 : Int32) (v2 : Int32) (v3 : Int32), ∀ (H : Heap) (locs : List Loc) (ls : Array Slot), va_P D vwCl (cs10 ct a oz) H → va_S (wA (cs10 ct a o)) s.heap H locs → lv_has ls 4 [(0, .ref (a 0)), (1, .int v1), (2, .int v2), (3, .int v3)] → p_X10_idle_L15 fu  n oz v1 v2 v3 = some r → W p l e rm_X10_idle s m args below meth c H locs 0 0 QQ (F0 m 15 ls []) := by
    intro  n
    induction n with
    | zero =>
      intro oz v1 v2 v3 H locs ls hP hS hl hf 
      rw [p_X10_idle_L15] at hf
      cases hf
    | succ n ih =>
      intro oz v1 v2 v3 H locs ls hP hS hl hf 
      rw [p_X10_idle_L15] at hf
      refine lv_iload_n hx hb dX10_idle_15 rfl (lv_at hl 3 rfl) ?_
      refine lv_bipush (v := 60) hx hb dX10_idle_16 (by decide) ?_
      refine lv_icmp_gt (tgt := 40) hx hb dX10_idle_18 (by decide) (fun c_18 => ?_) (fun c_18 => ?_)
      · rw [if_pos c_18] at hf
        refine lv_iload_n hx hb dX10_idle_40 rfl (lv_at hl 2 rfl) ?_
        rw [← hQQ]
        cases hf
        exact rw_i hx hb hr hlocks hP hS dX10_idle_41
      rw [if_neg c_18] at hf
      refine lv_iload_n hx hb dX10_idle_21 rfl (lv_at hl 2 rfl) ?_
      refine lv_aload_n hx hb dX10_idle_22 rfl (lv_at hl 0 rfl) ?_
      refine va_get (D := D) (ci := 10) (v := .ref (a 9)) (C := RX10) (T := TX10) (N := 42) hx hb htl inlX10 hown hK hP 0 rfl rfl 17 (by decide) (htl _ wq_7_11) (fun _ h9 => h9) rfl dX10_idle_23 ?_
      refine lv_iload_n hx hb dX10_idle_26 rfl (lv_at hl 3 rfl) ?_
      obtain ⟨hi_27, hf⟩ := ob_in hf
      refine va_iald (D := D) (tys := tyl ct) hx hb hK hP 9 0 rfl rfl hi_27 dX10_idle_27 ?_
      refine lv_iload_n hx hb dX10_idle_28 rfl (lv_at hl 1 rfl) ?_
      obtain ⟨r_29, e_29, hf⟩ := ob_bind hf
      have hPX_29 : va_P D vwCl ([]) H := P_nil
      refine ro_call1 (va_runS (As := [.int ((oz.1 17) v3.toNatClampNeg), .int v1]) (rest := [.int v2]) ⟨hx, hb, hml, hown, htl⟩ (c_X10_bit l D ct G fu ((oz.1 17) v3.toNatClampNeg) v1 e_29) (cw_X10_X10_bit htl ⟨Nat.le_of_ble_eq_true rfl, Nat.le_of_ble_eq_true rfl⟩) ⟨Bx_blind, Bx_pre hPX_29 hK hN (hX.stay hS hGE)⟩ rfl rfl hl.1 rfl (lv_room (Nat.le_of_ble_eq_true rfl)) dX10_idle_29 ⟨Nat.zero_le _, Nat.zero_le _⟩) ?_
      refine lv_iadd hx hb dX10_idle_32 ?_
      refine lv_istore_n (lv' := [(2, .int (v2 + r_29)), (0, .ref (a 0)), (1, .int v1), (3, .int v3)]) hx hb dX10_idle_33 rfl hl (by decide) rfl (fun ls hl => ?_)
      refine lv_iinc (v := (v3 + 1)) (lv' := [(3, .int (v3 + 1)), (2, .int (v2 + r_29)), (0, .ref (a 0)), (1, .int v1)]) hx hb dX10_idle_34 hl (k := 3) rfl rfl (by decide) rfl (fun ls hl => ?_)
      refine lv_goto (tgt := 15) hx hb dX10_idle_37 (by decide) ?_
      exact ih oz v1 (v2 + r_29) (v3 + 1) _ _ _ hP hS (lv_sub hl [2, 3, 1, 0] rfl) hf 
  rw [p_X10_idle] at hf
  refine lv_aload_n hx hb dX10_idle_0 rfl (lv_at hl 0 rfl) ?_
  refine lv_iload_n hx hb dX10_idle_1 rfl (lv_at hl 1 rfl) ?_
  obtain ⟨r_2, e_2, hf⟩ := ob_bind hf
  have hPX_2 : va_P D vwCl (cs10 ct a o) s.heap := hP
  refine wr_call1 (va_runV (As := [.int v1]) (rest := []) ⟨hx, hb, hml, hown, htl⟩ (c_X10_asksReach l D ct G a fu o v1 e_2 (hDx o)) (cw_X10_X10_asksReach htl ⟨Nat.le_of_ble_eq_true rfl, Nat.le_of_ble_eq_true rfl⟩) ⟨Bx_blind, va_recv hK hPX_2 (ci := 10) (q0 := 0) rfl rfl, Bx_pre hPX_2 hK hN (hX.stay hS hGE)⟩ rfl rfl hl.1 rfl (lv_room (Nat.le_of_ble_eq_true rfl)) dX10_idle_2 ⟨Nat.zero_le _, Nat.zero_le _⟩) hS (wA_cg rfl) (fun H_2 locs_2 hB_2 _ hk_2 hS => ?_)
  have hP : va_P D vwCl (cs10 ct a r_2.2) H_2 := hB_2
  refine lv_if_ne (tgt := 11) hx hb dX10_idle_5 (by decide) (fun c_5 => ?_) (fun c_5 => ?_)
  rotate_left 1
  · rw [if_pos c_5] at hf
    refine lv_bipush (v := (-2)) hx hb dX10_idle_8 (by decide) ?_
    rw [← hQQ]
    cases hf
    exact rw_i hx hb hr hlocks hP hS dX10_idle_10
  rw [if_neg c_5] at hf
  refine lv_iconst (v := 0) hx hb dX10_idle_11 (by decide) ?_
  refine lv_istore_n (lv' := [(2, .int 0), (0, .ref (a 0)), (1, .int v1)]) hx hb dX10_idle_12 rfl hl (by decide) rfl (fun ls hl => ?_)
  refine lv_iconst (v := 0) hx hb dX10_idle_13 (by decide) ?_
  refine lv_istore_n (lv' := [(3, .int 0), (2, .int 0), (0, .ref (a 0)), (1, .int v1)]) hx hb dX10_idle_14 rfl hl (by decide) rfl (fun ls hl => ?_)
  exact hL15 fu r_2.2 v1 0 0 _ _ _ hP hS (lv_sub hl [2, 3, 1, 0] rfl) hf 
theorem c_X10_idle (l : Launch) (D : va_G) (ct : Nat → ClassId) (G : GT) (a : Nat → Nat) (fu : Nat) (o : Ob) (v1 : Int32) {r : Int32 × Ob} (hf : p_X10_idle fu o v1 = some r)  (hD0 : va_D (GE G) (cs10 ct a o)) : Met l yX10_idle (.code yX10_idle cX10_idle 4 (some .int) :: wsL_law) rm_X10_idle (va_Pc [.ref (a 0), .int v1] (Bx D ct G (cs10 ct a o))) (Qwr (some (.int r.1)) (fun H => va_P D vwCl (cs10 ct a r.2) H) (wA (cs10 ct a o))) 0 0 (wA (cs10 ct a o)) := by
  refine Met.ofW (cc := cX10_idle) (maxL := 4) (ret := (some .int)) (by decide) rfl ?_
  intro p e s m args below meth c s₁ B hml hv
  obtain ⟨rfl, hP, hK, hN, hX⟩ := hv
  have hts := atoms_spec (ws := .code yX10_idle cX10_idle 4 (some .int) :: wsL_law) B.pre
  rw [lg_entry_eq]
  exact b_X10_idle a fu o v1 B.exec B.bytes B.returns hml (findClass_of_methodNamed B.named) (fun w h => hts w (List.mem_cons_of_mem _ h)) B.notSynchronized hK hN hX hP hf hD0  (lv_entry [.ref (a 0), .int v1] (n := 4) (Nat.le_of_ble_eq_true rfl))
def p_X10_rained_L22 (fu : Nat)  : Nat → Ob → Int32 → Int32 → Int32 → Option (Int32 × Ob)
  | 0, _, _, _, _ => none
  | n + 1, oz, v1, v2, v3 =>
    if v1 < v3 then some (v2, oz) else if inb v3 61 = true then p_X10_rained_L22 fu  n oz v1 (v2 + ((oz.1 15) v3.toNatClampNeg)) (v3 + 1) else none
def p_X10_rained (fu : Nat) (o : Ob) (v1 : Int32) : Option (Int32 × Ob) :=
  (p_X10_asksRivers fu o).bind fun r_1 => if r_1.1 = 0 then some (((-2) : Int32), r_1.2) else (p_X10_isStep fu v1.toInt64).bind fun r_9 => if r_9 = 0 then some (((-2) : Int32), r_1.2) else p_X10_rained_L22 fu fu r_1.2 v1 0 0
abbrev rm_X10_rained : Room := { frames := 4, cells := 0, slots := 0, locals := 86 }
set_option maxHeartbeats 4000000 in
set_option maxRecDepth 100000 in
theorem b_X10_rained {p : Program} {l : Launch} {e : Env} {s : State} {m : MethodId} {args : Array Value} {below : List Frame} {meth : Method} {c : Code} {ls : Array Slot} {D : va_G} {ct : Nat → ClassId} {G : GT} (a : Nat → Nat) (fu : Nat) (o : Ob) (v1 : Int32) {r : Int32 × Ob} (hx : p.tables.exec = Jvm.exec) (hb : c.code = cX10_rained) (hr : meth.sig.returnType = (some .int)) (hml : c.maxLocals = 4) (hown : s.vm.findClass RX10 = some m.cls) (htl : ∀ w ∈ wsL_law, w.before args s = true) (hlocks : meth.locks = false) (hK : va_K D vwCl (tyl ct) s) (hN : ∀ w ∈ NW, va_Nw w s) (hX : SX G s s.heap) (hP0 : va_P D vwCl (cs10 ct a o) s.heap) (hf : p_X10_rained fu o v1 = some r) (hD0 : va_D (GE G) (cs10 ct a o))  (hl : lv_has ls 4 [(0, .ref (a 0)), (1, .int v1)]) : W p l e rm_X10_rained s m args below meth c s.heap [] 0 0 (MQ below (Qwr (some (.int r.1)) (fun H => va_P D vwCl (cs10 ct a r.2) H) (wA (cs10 ct a o))) args s 0 0 (wA (cs10 ct a o))) (F0 m 0 ls []) := by
  generalize hQQ : MQ below (Qwr (some (.int r.1)) (fun H => va_P D vwCl (cs10 ct a r.2) H) (wA (cs10 ct a o))) args s 0 0 (wA (cs10 ct a o)) = QQ
  have hDx : ∀ (oy : Ob), va_D (GE G) (cs10 ct a oy) := fun oy => D_cr hD0 rfl
  have hDW : ∀ (oy : Ob), va_D (wA (cs10 ct a o)) (cs10 ct a oy) := fun oy => D_cr (D_self hD0) rfl
  have hGE : ∀ q, wA (cs10 ct a o) q → GE G q := wA_GE hD0
  have hP := hP0
  have hS : va_S (wA (cs10 ct a o)) s.heap s.heap [] := va_S.rf
  have hL22 : ∀ (n : Nat) (oz : Ob) (v1 : Int32) (v2 : Int32) (v3 : Int32), ∀ (H : Heap) (locs : List Loc) (ls : Array Slot), va_P D vwCl (cs10 ct a oz) H → va_S (wA (cs10 ct a o)) s.heap H locs → lv_has ls 4 [(0, .ref (a 0)), (1, .int v1), (2, .int v2), (3, .int v3)] → p_X10_rained_L22 fu  n oz v1 v2 v3 = some r → W p l e rm_X10_rained s m args below meth c H locs 0 0 QQ (F0 m 22 ls []) := by
    intro  n
    induction n with
    | zero =>
      intro oz v1 v2 v3 H locs ls hP hS hl hf 
      rw [p_X10_rained_L22] at hf
      cases hf
    | succ n ih =>
      intro oz v1 v2 v3 H locs ls hP hS hl hf 
      rw [p_X10_rained_L22] at hf
      refine lv_iload_n hx hb dX10_rained_22 rfl (lv_at hl 3 rfl) ?_
      refine lv_iload_n hx hb dX10_rained_23 rfl (lv_at hl 1 rfl) ?_
      refine lv_icmp_gt (tgt := 42) hx hb dX10_rained_24 (by decide) (fun c_24 => ?_) (fun c_24 => ?_)
      · rw [if_pos c_24] at hf
        refine lv_iload_n hx hb dX10_rained_42 rfl (lv_at hl 2 rfl) ?_
        rw [← hQQ]
        cases hf
        exact rw_i hx hb hr hlocks hP hS dX10_rained_43
      rw [if_neg c_24] at hf
      refine lv_iload_n hx hb dX10_rained_27 rfl (lv_at hl 2 rfl) ?_
      refine lv_aload_n hx hb dX10_rained_28 rfl (lv_at hl 0 rfl) ?_
      refine va_get (D := D) (ci := 10) (v := .ref (a 7)) (C := RX10) (T := TX10) (N := 42) hx hb htl inlX10 hown hK hP 0 rfl rfl 15 (by decide) (htl _ wq_7_9) (fun _ h9 => h9) rfl dX10_rained_29 ?_
      refine lv_iload_n hx hb dX10_rained_32 rfl (lv_at hl 3 rfl) ?_
      obtain ⟨hi_33, hf⟩ := ob_in hf
      refine va_iald (D := D) (tys := tyl ct) hx hb hK hP 7 0 rfl rfl hi_33 dX10_rained_33 ?_
      refine lv_iadd hx hb dX10_rained_34 ?_
      refine lv_istore_n (lv' := [(2, .int (v2 + ((oz.1 15) v3.toNatClampNeg))), (0, .ref (a 0)), (1, .int v1), (3, .int v3)]) hx hb dX10_rained_35 rfl hl (by decide) rfl (fun ls hl => ?_)
      refine lv_iinc (v := (v3 + 1)) (lv' := [(3, .int (v3 + 1)), (2, .int (v2 + ((oz.1 15) v3.toNatClampNeg))), (0, .ref (a 0)), (1, .int v1)]) hx hb dX10_rained_36 hl (k := 3) rfl rfl (by decide) rfl (fun ls hl => ?_)
      refine lv_goto (tgt := 22) hx hb dX10_rained_39 (by decide) ?_
      exact ih oz v1 (v2 + ((oz.1 15) v3.toNatClampNeg)) (v3 + 1) _ _ _ hP hS (lv_sub hl [2, 3, 1, 0] rfl) hf 
  rw [p_X10_rained] at hf
  refine lv_aload_n hx hb dX10_rained_0 rfl (lv_at hl 0 rfl) ?_
  obtain ⟨r_1, e_1, hf⟩ := ob_bind hf
  have hPX_1 : va_P D vwCl (cs10 ct a o) s.heap := hP
  refine wr_call1 (va_runV (As := []) (rest := []) ⟨hx, hb, hml, hown, htl⟩ (c_X10_asksRivers l D ct G a fu o e_1 (hDx o)) (cw_X10_X10_asksRivers htl ⟨Nat.le_of_ble_eq_true rfl, Nat.le_of_ble_eq_true rfl⟩) ⟨Bx_blind, va_recv hK hPX_1 (ci := 10) (q0 := 0) rfl rfl, Bx_pre hPX_1 hK hN (hX.stay hS hGE)⟩ rfl rfl hl.1 rfl (lv_room (Nat.le_of_ble_eq_true rfl)) dX10_rained_1 ⟨Nat.zero_le _, Nat.zero_le _⟩) hS (wA_cg rfl) (fun H_1 locs_1 hB_1 _ hk_1 hS => ?_)
  have hP : va_P D vwCl (cs10 ct a r_1.2) H_1 := hB_1
  refine lv_if_eq (tgt := 15) hx hb dX10_rained_4 (by decide) (fun c_4 => ?_) (fun c_4 => ?_)
  · rw [if_pos c_4] at hf
    refine lv_bipush (v := (-2)) hx hb dX10_rained_15 (by decide) ?_
    rw [← hQQ]
    cases hf
    exact rw_i hx hb hr hlocks hP hS dX10_rained_17
  rw [if_neg c_4] at hf
  refine lv_iload_n hx hb dX10_rained_7 rfl (lv_at hl 1 rfl) ?_
  refine lv_i2l hx hb dX10_rained_8 rfl ?_
  obtain ⟨r_9, e_9, hf⟩ := ob_bind hf
  have hPX_9 : va_P D vwCl ([]) H_1 := P_nil
  refine ro_call1 (va_runS (As := [.long v1.toInt64]) (rest := []) ⟨hx, hb, hml, hown, htl⟩ (c_X10_isStep l D ct G fu v1.toInt64 e_9) (cw_X10_X10_isStep htl ⟨Nat.le_of_ble_eq_true rfl, Nat.le_of_ble_eq_true rfl⟩) ⟨Bx_blind, Bx_pre hPX_9 hK hN (hX.stay hS hGE)⟩ rfl rfl hl.1 rfl (lv_room (Nat.le_of_ble_eq_true rfl)) dX10_rained_9 ⟨Nat.zero_le _, Nat.zero_le _⟩) ?_
  refine lv_if_ne (tgt := 18) hx hb dX10_rained_12 (by decide) (fun c_12 => ?_) (fun c_12 => ?_)
  rotate_left 1
  · rw [if_pos c_12] at hf
    refine lv_bipush (v := (-2)) hx hb dX10_rained_15 (by decide) ?_
    rw [← hQQ]
    cases hf
    exact rw_i hx hb hr hlocks hP hS dX10_rained_17
  rw [if_neg c_12] at hf
  refine lv_iconst (v := 0) hx hb dX10_rained_18 (by decide) ?_
  refine lv_istore_n (lv' := [(2, .int 0), (0, .ref (a 0)), (1, .int v1)]) hx hb dX10_rained_19 rfl hl (by decide) rfl (fun ls hl => ?_)
  refine lv_iconst (v := 0) hx hb dX10_rained_20 (by decide) ?_
  refine lv_istore_n (lv' := [(3, .int 0), (2, .int 0), (0, .ref (a 0)), (1, .int v1)]) hx hb dX10_rained_21 rfl hl (by decide) rfl (fun ls hl => ?_)
  exact hL22 fu r_1.2 v1 0 0 _ _ _ hP hS (lv_sub hl [2, 3, 1, 0] rfl) hf 
theorem c_X10_rained (l : Launch) (D : va_G) (ct : Nat → ClassId) (G : GT) (a : Nat → Nat) (fu : Nat) (o : Ob) (v1 : Int32) {r : Int32 × Ob} (hf : p_X10_rained fu o v1 = some r)  (hD0 : va_D (GE G) (cs10 ct a o)) : Met l yX10_rained (.code yX10_rained cX10_rained 4 (some .int) :: wsL_law) rm_X10_rained (va_Pc [.ref (a 0), .int v1] (Bx D ct G (cs10 ct a o))) (Qwr (some (.int r.1)) (fun H => va_P D vwCl (cs10 ct a r.2) H) (wA (cs10 ct a o))) 0 0 (wA (cs10 ct a o)) := by
  refine Met.ofW (cc := cX10_rained) (maxL := 4) (ret := (some .int)) (by decide) rfl ?_
  intro p e s m args below meth c s₁ B hml hv
  obtain ⟨rfl, hP, hK, hN, hX⟩ := hv
  have hts := atoms_spec (ws := .code yX10_rained cX10_rained 4 (some .int) :: wsL_law) B.pre
  rw [lg_entry_eq]
  exact b_X10_rained a fu o v1 B.exec B.bytes B.returns hml (findClass_of_methodNamed B.named) (fun w h => hts w (List.mem_cons_of_mem _ h)) B.notSynchronized hK hN hX hP hf hD0  (lv_entry [.ref (a 0), .int v1] (n := 4) (Nat.le_of_ble_eq_true rfl))
def p_X10_lowestOf_L4 (fu : Nat) (o : Ob)  : Nat → Int32 → Int32 → Option (Int32)
  | 0, _, _ => none
  | n + 1, v1, v2 =>
    if (60 : Int32) < v2 then some v1 else if inb v2 61 = true then if inb v1 61 = true then if ((o.1 16) v1.toNatClampNeg) ≤ ((o.1 16) v2.toNatClampNeg) then p_X10_lowestOf_L4 fu o  n v1 (v2 + 1) else p_X10_lowestOf_L4 fu o  n v2 (v2 + 1) else none else none
def p_X10_lowestOf (fu : Nat) (o : Ob) : Option (Int32) :=
  p_X10_lowestOf_L4 fu o fu 0 1
abbrev rm_X10_lowestOf : Room := { frames := 0, cells := 0, slots := 0, locals := 0 }
set_option maxHeartbeats 4000000 in
set_option maxRecDepth 100000 in
theorem b_X10_lowestOf {p : Program} {l : Launch} {e : Env} {s : State} {m : MethodId} {args : Array Value} {below : List Frame} {meth : Method} {c : Code} {ls : Array Slot} {D : va_G} {ct : Nat → ClassId} {G : GT} (a : Nat → Nat) (fu : Nat) (o : Ob) {r : Int32} (hx : p.tables.exec = Jvm.exec) (hb : c.code = cX10_lowestOf) (hr : meth.sig.returnType = (some .int)) (hml : c.maxLocals = 3) (hown : s.vm.findClass RX10 = some m.cls) (htl : ∀ w ∈ wsL_law, w.before args s = true) (hlocks : meth.locks = false) (hK : va_K D vwCl (tyl ct) s) (hN : ∀ w ∈ NW, va_Nw w s) (hX : SX G s s.heap) (hP0 : va_P D vwCl (cs10 ct a o) s.heap) (hf : p_X10_lowestOf fu o = some r)  (hl : lv_has ls 3 [(0, .ref (a 0))]) : W p l e rm_X10_lowestOf s m args below meth c s.heap [] 0 0 (MQ below (Qro (some (.int r))) args s 0 0 (fun _ => False)) (F0 m 0 ls []) := by
  generalize hQQ : MQ below (Qro (some (.int r))) args s 0 0 (fun _ => False) = QQ
  have hP := hP0
  have hL4 : ∀ (n : Nat) (v1 : Int32) (v2 : Int32), ∀ (ls : Array Slot), lv_has ls 3 [(0, .ref (a 0)), (1, .int v1), (2, .int v2)] → p_X10_lowestOf_L4 fu o  n v1 v2 = some r → W p l e rm_X10_lowestOf s m args below meth c s.heap [] 0 0 QQ (F0 m 4 ls []) := by
    intro  n
    induction n with
    | zero =>
      intro v1 v2 ls hl hf 
      rw [p_X10_lowestOf_L4] at hf
      cases hf
    | succ n ih =>
      intro v1 v2 ls hl hf 
      rw [p_X10_lowestOf_L4] at hf
      refine lv_iload_n hx hb dX10_lowestOf_4 rfl (lv_at hl 2 rfl) ?_
      refine lv_bipush (v := 60) hx hb dX10_lowestOf_5 (by decide) ?_
      refine lv_icmp_gt (tgt := 37) hx hb dX10_lowestOf_7 (by decide) (fun c_7 => ?_) (fun c_7 => ?_)
      · rw [if_pos c_7] at hf
        refine lv_iload_n hx hb dX10_lowestOf_37 rfl (lv_at hl 1 rfl) ?_
        rw [← hQQ]
        exact rf_i hx hb hr hlocks hf dX10_lowestOf_38
      rw [if_neg c_7] at hf
      refine lv_aload_n hx hb dX10_lowestOf_10 rfl (lv_at hl 0 rfl) ?_
      refine va_get (D := D) (ci := 10) (v := .ref (a 8)) (C := RX10) (T := TX10) (N := 42) hx hb htl inlX10 hown hK hP 0 rfl rfl 16 (by decide) (htl _ wq_7_10) (fun _ h9 => h9) rfl dX10_lowestOf_11 ?_
      refine lv_iload_n hx hb dX10_lowestOf_14 rfl (lv_at hl 2 rfl) ?_
      obtain ⟨hi_15, hf⟩ := ob_in hf
      refine va_iald (D := D) (tys := tyl ct) hx hb hK hP 8 0 rfl rfl hi_15 dX10_lowestOf_15 ?_
      refine lv_aload_n hx hb dX10_lowestOf_16 rfl (lv_at hl 0 rfl) ?_
      refine va_get (D := D) (ci := 10) (v := .ref (a 8)) (C := RX10) (T := TX10) (N := 42) hx hb htl inlX10 hown hK hP 0 rfl rfl 16 (by decide) (htl _ wq_7_10) (fun _ h9 => h9) rfl dX10_lowestOf_17 ?_
      refine lv_iload_n hx hb dX10_lowestOf_20 rfl (lv_at hl 1 rfl) ?_
      obtain ⟨hi_21, hf⟩ := ob_in hf
      refine va_iald (D := D) (tys := tyl ct) hx hb hK hP 8 0 rfl rfl hi_21 dX10_lowestOf_21 ?_
      refine lv_icmp_ge (tgt := 29) hx hb dX10_lowestOf_22 (by decide) (fun c_22 => ?_) (fun c_22 => ?_)
      · rw [if_pos c_22] at hf
        refine lv_iload_n hx hb dX10_lowestOf_29 rfl (lv_at hl 1 rfl) ?_
        refine lv_istore_n (lv' := [(1, .int v1), (0, .ref (a 0)), (2, .int v2)]) hx hb dX10_lowestOf_30 rfl hl (by decide) rfl (fun ls hl => ?_)
        refine lv_iinc (v := (v2 + 1)) (lv' := [(2, .int (v2 + 1)), (1, .int v1), (0, .ref (a 0))]) hx hb dX10_lowestOf_31 hl (k := 2) rfl rfl (by decide) rfl (fun ls hl => ?_)
        refine lv_goto (tgt := 4) hx hb dX10_lowestOf_34 (by decide) ?_
        exact ih v1 (v2 + 1) _ (lv_sub hl [2, 1, 0] rfl) hf 
      rw [if_neg c_22] at hf
      refine lv_iload_n hx hb dX10_lowestOf_25 rfl (lv_at hl 2 rfl) ?_
      refine lv_goto (tgt := 30) hx hb dX10_lowestOf_26 (by decide) ?_
      refine lv_istore_n (lv' := [(1, .int v2), (0, .ref (a 0)), (2, .int v2)]) hx hb dX10_lowestOf_30 rfl hl (by decide) rfl (fun ls hl => ?_)
      refine lv_iinc (v := (v2 + 1)) (lv' := [(2, .int (v2 + 1)), (1, .int v2), (0, .ref (a 0))]) hx hb dX10_lowestOf_31 hl (k := 2) rfl rfl (by decide) rfl (fun ls hl => ?_)
      refine lv_goto (tgt := 4) hx hb dX10_lowestOf_34 (by decide) ?_
      exact ih v2 (v2 + 1) _ (lv_sub hl [2, 1, 0] rfl) hf 
  rw [p_X10_lowestOf] at hf
  refine lv_iconst (v := 0) hx hb dX10_lowestOf_0 (by decide) ?_
  refine lv_istore_n (lv' := [(1, .int 0), (0, .ref (a 0))]) hx hb dX10_lowestOf_1 rfl hl (by decide) rfl (fun ls hl => ?_)
  refine lv_iconst (v := 1) hx hb dX10_lowestOf_2 (by decide) ?_
  refine lv_istore_n (lv' := [(2, .int 1), (1, .int 0), (0, .ref (a 0))]) hx hb dX10_lowestOf_3 rfl hl (by decide) rfl (fun ls hl => ?_)
  exact hL4 fu 0 1 _ (lv_sub hl [2, 1, 0] rfl) hf 
theorem c_X10_lowestOf (l : Launch) (D : va_G) (ct : Nat → ClassId) (G : GT) (a : Nat → Nat) (fu : Nat) (o : Ob) {r : Int32} (hf : p_X10_lowestOf fu o = some r)  : Met l yX10_lowestOf (.code yX10_lowestOf cX10_lowestOf 3 (some .int) :: wsL_law) rm_X10_lowestOf (va_Pc [.ref (a 0)] (Bx D ct G (cs10 ct a o))) (Qro (some (.int r))) 0 0 (fun _ => False) := by
  refine Met.ofW (cc := cX10_lowestOf) (maxL := 3) (ret := (some .int)) (by decide) rfl ?_
  intro p e s m args below meth c s₁ B hml hv
  obtain ⟨rfl, hP, hK, hN, hX⟩ := hv
  have hts := atoms_spec (ws := .code yX10_lowestOf cX10_lowestOf 3 (some .int) :: wsL_law) B.pre
  rw [lg_entry_eq]
  exact b_X10_lowestOf a fu o B.exec B.bytes B.returns hml (findClass_of_methodNamed B.named) (fun w h => hts w (List.mem_cons_of_mem _ h)) B.notSynchronized hK hN hX hP hf   (lv_entry [.ref (a 0)] (n := 3) (Nat.le_of_ble_eq_true rfl))
theorem hd_X10_lowestOf : yX10_lowestOf.cls ≠ "java/lang/invoke/MethodHandle" ∧ yX10_lowestOf.cls ≠ "java/lang/invoke/VarHandle" ∧ (parseMethodDescriptor yX10_lowestOf.desc).map (fun d => d.parameters.length) = some 0 := by decide +kernel
theorem cw_X10_X10_lowestOf {R : Room} {s : State} {args : Array Value} (ht : ∀ w ∈ wsL_law, w.before args s = true) (hR : rm_X10_lowestOf.frames + 1 ≤ R.frames ∧ 8 + (3 + 11) + rm_X10_lowestOf.locals ≤ R.locals) : CallW R s args RX10 RX10 265 yX10_lowestOf cX10_lowestOf 3 (some .int) ((.code yX10_lowestOf cX10_lowestOf 3 (some .int)) :: wsL_law) rm_X10_lowestOf 0 0 0 := cwV 0 ht (GV wq_35_6 wq_35_7 wq_35_8 wq_1_5 wq_35_9) rfl rfl rfl ⟨rfl, hd_X10_lowestOf⟩ hR
def p_X10_lowest (fu : Nat) (o : Ob) : Option (Int32 × Ob) :=
  (p_X10_asksRivers fu o).bind fun r_1 => if r_1.1 = 0 then some (((-2) : Int32), r_1.2) else (p_X10_lowestOf fu r_1.2).bind fun r_8 => some (r_8, r_1.2)
abbrev rm_X10_lowest : Room := { frames := 4, cells := 0, slots := 0, locals := 86 }
set_option maxHeartbeats 4000000 in
set_option maxRecDepth 100000 in
theorem b_X10_lowest {p : Program} {l : Launch} {e : Env} {s : State} {m : MethodId} {args : Array Value} {below : List Frame} {meth : Method} {c : Code} {ls : Array Slot} {D : va_G} {ct : Nat → ClassId} {G : GT} (a : Nat → Nat) (fu : Nat) (o : Ob) {r : Int32 × Ob} (hx : p.tables.exec = Jvm.exec) (hb : c.code = cX10_lowest) (hr : meth.sig.returnType = (some .int)) (hml : c.maxLocals = 1) (hown : s.vm.findClass RX10 = some m.cls) (htl : ∀ w ∈ wsL_law, w.before args s = true) (hlocks : meth.locks = false) (hK : va_K D vwCl (tyl ct) s) (hN : ∀ w ∈ NW, va_Nw w s) (hX : SX G s s.heap) (hP0 : va_P D vwCl (cs10 ct a o) s.heap) (hf : p_X10_lowest fu o = some r) (hD0 : va_D (GE G) (cs10 ct a o))  (hl : lv_has ls 1 [(0, .ref (a 0))]) : W p l e rm_X10_lowest s m args below meth c s.heap [] 0 0 (MQ below (Qwr (some (.int r.1)) (fun H => va_P D vwCl (cs10 ct a r.2) H) (wA (cs10 ct a o))) args s 0 0 (wA (cs10 ct a o))) (F0 m 0 ls []) := by
  generalize hQQ : MQ below (Qwr (some (.int r.1)) (fun H => va_P D vwCl (cs10 ct a r.2) H) (wA (cs10 ct a o))) args s 0 0 (wA (cs10 ct a o)) = QQ
  have hDx : ∀ (oy : Ob), va_D (GE G) (cs10 ct a oy) := fun oy => D_cr hD0 rfl
  have hDW : ∀ (oy : Ob), va_D (wA (cs10 ct a o)) (cs10 ct a oy) := fun oy => D_cr (D_self hD0) rfl
  have hGE : ∀ q, wA (cs10 ct a o) q → GE G q := wA_GE hD0
  have hP := hP0
  have hS : va_S (wA (cs10 ct a o)) s.heap s.heap [] := va_S.rf
  rw [p_X10_lowest] at hf
  refine lv_aload_n hx hb dX10_lowest_0 rfl (lv_at hl 0 rfl) ?_
  obtain ⟨r_1, e_1, hf⟩ := ob_bind hf
  have hPX_1 : va_P D vwCl (cs10 ct a o) s.heap := hP
  refine wr_call1 (va_runV (As := []) (rest := []) ⟨hx, hb, hml, hown, htl⟩ (c_X10_asksRivers l D ct G a fu o e_1 (hDx o)) (cw_X10_X10_asksRivers htl ⟨Nat.le_of_ble_eq_true rfl, Nat.le_of_ble_eq_true rfl⟩) ⟨Bx_blind, va_recv hK hPX_1 (ci := 10) (q0 := 0) rfl rfl, Bx_pre hPX_1 hK hN (hX.stay hS hGE)⟩ rfl rfl hl.1 rfl (lv_room (Nat.le_of_ble_eq_true rfl)) dX10_lowest_1 ⟨Nat.zero_le _, Nat.zero_le _⟩) hS (wA_cg rfl) (fun H_1 locs_1 hB_1 _ hk_1 hS => ?_)
  have hP : va_P D vwCl (cs10 ct a r_1.2) H_1 := hB_1
  refine lv_if_eq (tgt := 14) hx hb dX10_lowest_4 (by decide) (fun c_4 => ?_) (fun c_4 => ?_)
  · rw [if_pos c_4] at hf
    refine lv_bipush (v := (-2)) hx hb dX10_lowest_14 (by decide) ?_
    rw [← hQQ]
    cases hf
    exact rw_i hx hb hr hlocks hP hS dX10_lowest_16
  rw [if_neg c_4] at hf
  refine lv_aload_n hx hb dX10_lowest_7 rfl (lv_at hl 0 rfl) ?_
  obtain ⟨r_8, e_8, hf⟩ := ob_bind hf
  have hPX_8 : va_P D vwCl (cs10 ct a r_1.2) H_1 := hP
  refine ro_call1 (va_runV (As := []) (rest := []) ⟨hx, hb, hml, hown, htl⟩ (c_X10_lowestOf l D ct G a fu r_1.2 e_8) (cw_X10_X10_lowestOf htl ⟨Nat.le_of_ble_eq_true rfl, Nat.le_of_ble_eq_true rfl⟩) ⟨Bx_blind, va_recv hK hPX_8 (ci := 10) (q0 := 0) rfl rfl, Bx_pre hPX_8 hK hN (hX.stay hS hGE)⟩ rfl rfl hl.1 rfl (lv_room (Nat.le_of_ble_eq_true rfl)) dX10_lowest_8 ⟨Nat.zero_le _, Nat.zero_le _⟩) ?_
  refine lv_goto (tgt := 16) hx hb dX10_lowest_11 (by decide) ?_
  rw [← hQQ]
  cases hf
  exact rw_i hx hb hr hlocks hP hS dX10_lowest_16
theorem c_X10_lowest (l : Launch) (D : va_G) (ct : Nat → ClassId) (G : GT) (a : Nat → Nat) (fu : Nat) (o : Ob) {r : Int32 × Ob} (hf : p_X10_lowest fu o = some r)  (hD0 : va_D (GE G) (cs10 ct a o)) : Met l yX10_lowest (.code yX10_lowest cX10_lowest 1 (some .int) :: wsL_law) rm_X10_lowest (va_Pc [.ref (a 0)] (Bx D ct G (cs10 ct a o))) (Qwr (some (.int r.1)) (fun H => va_P D vwCl (cs10 ct a r.2) H) (wA (cs10 ct a o))) 0 0 (wA (cs10 ct a o)) := by
  refine Met.ofW (cc := cX10_lowest) (maxL := 1) (ret := (some .int)) (by decide) rfl ?_
  intro p e s m args below meth c s₁ B hml hv
  obtain ⟨rfl, hP, hK, hN, hX⟩ := hv
  have hts := atoms_spec (ws := .code yX10_lowest cX10_lowest 1 (some .int) :: wsL_law) B.pre
  rw [lg_entry_eq]
  exact b_X10_lowest a fu o B.exec B.bytes B.returns hml (findClass_of_methodNamed B.named) (fun w h => hts w (List.mem_cons_of_mem _ h)) B.notSynchronized hK hN hX hP hf hD0  (lv_entry [.ref (a 0)] (n := 1) (Nat.le_of_ble_eq_true rfl))
def p_X10_deeper (fu : Nat) (o : Ob) : Option (Int32 × Ob) :=
  (p_X10_asksRivers fu o).bind fun r_1 => if r_1.1 = 0 then some (((-2) : Int32), r_1.2) else (p_X10_lowestOf fu r_1.2).bind fun r_14 => if inb r_14 61 = true then some ((if ((r_1.2.1 16) r_14.toNatClampNeg) < (20 : Int32) then ((r_1.2.1 16) r_14.toNatClampNeg) else (20 : Int32)), r_1.2) else none
abbrev rm_X10_deeper : Room := { frames := 4, cells := 0, slots := 0, locals := 86 }
set_option maxHeartbeats 4000000 in
set_option maxRecDepth 100000 in
theorem b_X10_deeper {p : Program} {l : Launch} {e : Env} {s : State} {m : MethodId} {args : Array Value} {below : List Frame} {meth : Method} {c : Code} {ls : Array Slot} {D : va_G} {ct : Nat → ClassId} {G : GT} (a : Nat → Nat) (fu : Nat) (o : Ob) {r : Int32 × Ob} (hx : p.tables.exec = Jvm.exec) (hb : c.code = cX10_deeper) (hr : meth.sig.returnType = (some .int)) (hml : c.maxLocals = 1) (hown : s.vm.findClass RX10 = some m.cls) (htl : ∀ w ∈ wsL_law, w.before args s = true) (hlocks : meth.locks = false) (hK : va_K D vwCl (tyl ct) s) (hN : ∀ w ∈ NW, va_Nw w s) (hX : SX G s s.heap) (hP0 : va_P D vwCl (cs10 ct a o) s.heap) (hf : p_X10_deeper fu o = some r) (hD0 : va_D (GE G) (cs10 ct a o))  (hl : lv_has ls 1 [(0, .ref (a 0))]) : W p l e rm_X10_deeper s m args below meth c s.heap [] 0 0 (MQ below (Qwr (some (.int r.1)) (fun H => va_P D vwCl (cs10 ct a r.2) H) (wA (cs10 ct a o))) args s 0 0 (wA (cs10 ct a o))) (F0 m 0 ls []) := by
  generalize hQQ : MQ below (Qwr (some (.int r.1)) (fun H => va_P D vwCl (cs10 ct a r.2) H) (wA (cs10 ct a o))) args s 0 0 (wA (cs10 ct a o)) = QQ
  have hDx : ∀ (oy : Ob), va_D (GE G) (cs10 ct a oy) := fun oy => D_cr hD0 rfl
  have hDW : ∀ (oy : Ob), va_D (wA (cs10 ct a o)) (cs10 ct a oy) := fun oy => D_cr (D_self hD0) rfl
  have hGE : ∀ q, wA (cs10 ct a o) q → GE G q := wA_GE hD0
  have hP := hP0
  have hS : va_S (wA (cs10 ct a o)) s.heap s.heap [] := va_S.rf
  rw [p_X10_deeper] at hf
  refine lv_aload_n hx hb dX10_deeper_0 rfl (lv_at hl 0 rfl) ?_
  obtain ⟨r_1, e_1, hf⟩ := ob_bind hf
  have hPX_1 : va_P D vwCl (cs10 ct a o) s.heap := hP
  refine wr_call1 (va_runV (As := []) (rest := []) ⟨hx, hb, hml, hown, htl⟩ (c_X10_asksRivers l D ct G a fu o e_1 (hDx o)) (cw_X10_X10_asksRivers htl ⟨Nat.le_of_ble_eq_true rfl, Nat.le_of_ble_eq_true rfl⟩) ⟨Bx_blind, va_recv hK hPX_1 (ci := 10) (q0 := 0) rfl rfl, Bx_pre hPX_1 hK hN (hX.stay hS hGE)⟩ rfl rfl hl.1 rfl (lv_room (Nat.le_of_ble_eq_true rfl)) dX10_deeper_1 ⟨Nat.zero_le _, Nat.zero_le _⟩) hS (wA_cg rfl) (fun H_1 locs_1 hB_1 _ hk_1 hS => ?_)
  have hP : va_P D vwCl (cs10 ct a r_1.2) H_1 := hB_1
  refine lv_if_eq (tgt := 24) hx hb dX10_deeper_4 (by decide) (fun c_4 => ?_) (fun c_4 => ?_)
  · rw [if_pos c_4] at hf
    refine lv_bipush (v := (-2)) hx hb dX10_deeper_24 (by decide) ?_
    rw [← hQQ]
    cases hf
    exact rw_i hx hb hr hlocks hP hS dX10_deeper_26
  rw [if_neg c_4] at hf
  refine lv_bipush (v := 20) hx hb dX10_deeper_7 (by decide) ?_
  refine lv_aload_n hx hb dX10_deeper_9 rfl (lv_at hl 0 rfl) ?_
  refine va_get (D := D) (ci := 10) (v := .ref (a 8)) (C := RX10) (T := TX10) (N := 42) hx hb htl inlX10 hown hK hP 0 rfl rfl 16 (by decide) (htl _ wq_7_10) (fun _ h9 => h9) rfl dX10_deeper_10 ?_
  refine lv_aload_n hx hb dX10_deeper_13 rfl (lv_at hl 0 rfl) ?_
  obtain ⟨r_14, e_14, hf⟩ := ob_bind hf
  have hPX_14 : va_P D vwCl (cs10 ct a r_1.2) H_1 := hP
  refine ro_call1 (va_runV (As := []) (rest := [.ref (a 8), .int 20]) ⟨hx, hb, hml, hown, htl⟩ (c_X10_lowestOf l D ct G a fu r_1.2 e_14) (cw_X10_X10_lowestOf htl ⟨Nat.le_of_ble_eq_true rfl, Nat.le_of_ble_eq_true rfl⟩) ⟨Bx_blind, va_recv hK hPX_14 (ci := 10) (q0 := 0) rfl rfl, Bx_pre hPX_14 hK hN (hX.stay hS hGE)⟩ rfl rfl hl.1 rfl (lv_room (Nat.le_of_ble_eq_true rfl)) dX10_deeper_14 ⟨Nat.zero_le _, Nat.zero_le _⟩) ?_
  obtain ⟨hi_17, hf⟩ := ob_in hf
  refine va_iald (D := D) (tys := tyl ct) hx hb hK hP 8 0 rfl rfl hi_17 dX10_deeper_17 ?_
  refine va_mmin hx hb (hml.trans hl.1.symm) hown (htl _ wq_17_1) (htl _ wq_12_22) (htl _ wq_12_23) (htl _ wq_13_0) (Nat.le_of_ble_eq_true rfl) (Nat.le_of_ble_eq_true rfl) (Nat.zero_le _) (Nat.zero_le _) dX10_deeper_18 ?_
  refine lv_goto (tgt := 26) hx hb dX10_deeper_21 (by decide) ?_
  rw [← hQQ]
  cases hf
  exact rw_i hx hb hr hlocks hP hS dX10_deeper_26
theorem c_X10_deeper (l : Launch) (D : va_G) (ct : Nat → ClassId) (G : GT) (a : Nat → Nat) (fu : Nat) (o : Ob) {r : Int32 × Ob} (hf : p_X10_deeper fu o = some r)  (hD0 : va_D (GE G) (cs10 ct a o)) : Met l yX10_deeper (.code yX10_deeper cX10_deeper 1 (some .int) :: wsL_law) rm_X10_deeper (va_Pc [.ref (a 0)] (Bx D ct G (cs10 ct a o))) (Qwr (some (.int r.1)) (fun H => va_P D vwCl (cs10 ct a r.2) H) (wA (cs10 ct a o))) 0 0 (wA (cs10 ct a o)) := by
  refine Met.ofW (cc := cX10_deeper) (maxL := 1) (ret := (some .int)) (by decide) rfl ?_
  intro p e s m args below meth c s₁ B hml hv
  obtain ⟨rfl, hP, hK, hN, hX⟩ := hv
  have hts := atoms_spec (ws := .code yX10_deeper cX10_deeper 1 (some .int) :: wsL_law) B.pre
  rw [lg_entry_eq]
  exact b_X10_deeper a fu o B.exec B.bytes B.returns hml (findClass_of_methodNamed B.named) (fun w h => hts w (List.mem_cons_of_mem _ h)) B.notSynchronized hK hN hX hP hf hD0  (lv_entry [.ref (a 0)] (n := 1) (Nat.le_of_ble_eq_true rfl))
def p_X10_mouths_L14 (fu : Nat) (o : Ob)  : Nat → Int32 → Int32 → Option (Int32)
  | 0, _, _ => none
  | n + 1, v1, v2 =>
    if inb (3 : Int32) 98 = true then if ((o.1 1) (3 : Int32).toNatClampNeg) ≤ v2 then some v1 else (p_X10_of fu o v2 (0 : Int32)).bind fun r_28 => if r_28 = ((-1) : Int32) then p_X10_mouths_L14 fu o  n (v1 ||| ((1 : Int32) <<< (v2 &&& 31))) (v2 + 1) else p_X10_mouths_L14 fu o  n (v1 ||| 0) (v2 + 1) else none
def p_X10_mouths (fu : Nat) (o : Ob) : Option (Int32) :=
  (p_X10_isRivers fu o).bind fun r_1 => if r_1 = 0 then some ((-2) : Int32) else p_X10_mouths_L14 fu o fu 0 0
abbrev rm_X10_mouths : Room := { frames := 1, cells := 0, slots := 0, locals := 22 }
set_option maxHeartbeats 4000000 in
set_option maxRecDepth 100000 in
theorem b_X10_mouths {p : Program} {l : Launch} {e : Env} {s : State} {m : MethodId} {args : Array Value} {below : List Frame} {meth : Method} {c : Code} {ls : Array Slot} {D : va_G} {ct : Nat → ClassId} {G : GT} (a : Nat → Nat) (fu : Nat) (o : Ob) {r : Int32} (hx : p.tables.exec = Jvm.exec) (hb : c.code = cX10_mouths) (hr : meth.sig.returnType = (some .int)) (hml : c.maxLocals = 3) (hown : s.vm.findClass RX10 = some m.cls) (htl : ∀ w ∈ wsL_law, w.before args s = true) (hlocks : meth.locks = false) (hK : va_K D vwCl (tyl ct) s) (hN : ∀ w ∈ NW, va_Nw w s) (hX : SX G s s.heap) (hP0 : va_P D vwCl (cs10 ct a o) s.heap) (hf : p_X10_mouths fu o = some r)  (hl : lv_has ls 3 [(0, .ref (a 0))]) : W p l e rm_X10_mouths s m args below meth c s.heap [] 0 0 (MQ below (Qro (some (.int r))) args s 0 0 (fun _ => False)) (F0 m 0 ls []) := by
  generalize hQQ : MQ below (Qro (some (.int r))) args s 0 0 (fun _ => False) = QQ
  have hP := hP0
  have hL14 : ∀ (n : Nat) (v1 : Int32) (v2 : Int32), ∀ (ls : Array Slot), lv_has ls 3 [(0, .ref (a 0)), (1, .int v1), (2, .int v2)] → p_X10_mouths_L14 fu o  n v1 v2 = some r → W p l e rm_X10_mouths s m args below meth c s.heap [] 0 0 QQ (F0 m 14 ls []) := by
    intro  n
    induction n with
    | zero =>
      intro v1 v2 ls hl hf 
      rw [p_X10_mouths_L14] at hf
      cases hf
    | succ n ih =>
      intro v1 v2 ls hl hf 
      rw [p_X10_mouths_L14] at hf
      refine lv_iload_n hx hb dX10_mouths_14 rfl (lv_at hl 2 rfl) ?_
      refine lv_aload_n hx hb dX10_mouths_15 rfl (lv_at hl 0 rfl) ?_
      refine va_get (D := D) (ci := 10) (v := .ref (a 1)) (C := RX10) (T := TX10) (N := 42) hx hb htl inlX10 hown hK hP 0 rfl rfl 1 (by decide) (htl _ wq_7_0) (fun _ h9 => h9) rfl dX10_mouths_16 ?_
      refine lv_iconst (v := 3) hx hb dX10_mouths_19 (by decide) ?_
      obtain ⟨hi_20, hf⟩ := ob_in hf
      refine va_iald (D := D) (tys := tyl ct) hx hb hK hP 1 0 rfl rfl hi_20 dX10_mouths_20 ?_
      refine lv_icmp_ge (tgt := 50) hx hb dX10_mouths_21 (by decide) (fun c_21 => ?_) (fun c_21 => ?_)
      · rw [if_pos c_21] at hf
        refine lv_iload_n hx hb dX10_mouths_50 rfl (lv_at hl 1 rfl) ?_
        rw [← hQQ]
        exact rf_i hx hb hr hlocks hf dX10_mouths_51
      rw [if_neg c_21] at hf
      refine lv_iload_n hx hb dX10_mouths_24 rfl (lv_at hl 1 rfl) ?_
      refine lv_aload_n hx hb dX10_mouths_25 rfl (lv_at hl 0 rfl) ?_
      refine lv_iload_n hx hb dX10_mouths_26 rfl (lv_at hl 2 rfl) ?_
      refine lv_iconst (v := 0) hx hb dX10_mouths_27 (by decide) ?_
      obtain ⟨r_28, e_28, hf⟩ := ob_bind hf
      have hPX_28 : va_P D vwCl (cs10 ct a o) s.heap := hP
      refine ro_call1 (va_runV (As := [.int v2, .int 0]) (rest := [.int v1]) ⟨hx, hb, hml, hown, htl⟩ (c_X10_of l D ct G a fu o v2 (0 : Int32) e_28) (cw_X10_X10_of htl ⟨Nat.le_of_ble_eq_true rfl, Nat.le_of_ble_eq_true rfl⟩) ⟨Bx_blind, va_recv hK hPX_28 (ci := 10) (q0 := 0) rfl rfl, Bx_pre hPX_28 hK hN hX⟩ rfl rfl hl.1 rfl (lv_room (Nat.le_of_ble_eq_true rfl)) dX10_mouths_28 ⟨Nat.zero_le _, Nat.zero_le _⟩) ?_
      refine lv_iconst (v := (-1)) hx hb dX10_mouths_31 (by decide) ?_
      refine lv_icmp_ne (tgt := 41) hx hb dX10_mouths_32 (by decide) (fun c_32 => ?_) (fun c_32 => ?_)
      · rw [if_neg c_32] at hf
        refine lv_iconst (v := 0) hx hb dX10_mouths_41 (by decide) ?_
        refine lv_ior hx hb dX10_mouths_42 ?_
        refine lv_istore_n (lv' := [(1, .int (v1 ||| 0)), (0, .ref (a 0)), (2, .int v2)]) hx hb dX10_mouths_43 rfl hl (by decide) rfl (fun ls hl => ?_)
        refine lv_iinc (v := (v2 + 1)) (lv' := [(2, .int (v2 + 1)), (1, .int (v1 ||| 0)), (0, .ref (a 0))]) hx hb dX10_mouths_44 hl (k := 2) rfl rfl (by decide) rfl (fun ls hl => ?_)
        refine lv_goto (tgt := 14) hx hb dX10_mouths_47 (by decide) ?_
        exact ih (v1 ||| 0) (v2 + 1) _ (lv_sub hl [2, 1, 0] rfl) hf 
      rw [if_pos c_32] at hf
      refine lv_iconst (v := 1) hx hb dX10_mouths_35 (by decide) ?_
      refine lv_iload_n hx hb dX10_mouths_36 rfl (lv_at hl 2 rfl) ?_
      refine lv_ishl hx hb dX10_mouths_37 ?_
      refine lv_goto (tgt := 42) hx hb dX10_mouths_38 (by decide) ?_
      refine lv_ior hx hb dX10_mouths_42 ?_
      refine lv_istore_n (lv' := [(1, .int (v1 ||| ((1 : Int32) <<< (v2 &&& 31)))), (0, .ref (a 0)), (2, .int v2)]) hx hb dX10_mouths_43 rfl hl (by decide) rfl (fun ls hl => ?_)
      refine lv_iinc (v := (v2 + 1)) (lv' := [(2, .int (v2 + 1)), (1, .int (v1 ||| ((1 : Int32) <<< (v2 &&& 31)))), (0, .ref (a 0))]) hx hb dX10_mouths_44 hl (k := 2) rfl rfl (by decide) rfl (fun ls hl => ?_)
      refine lv_goto (tgt := 14) hx hb dX10_mouths_47 (by decide) ?_
      exact ih (v1 ||| ((1 : Int32) <<< (v2 &&& 31))) (v2 + 1) _ (lv_sub hl [2, 1, 0] rfl) hf 
  rw [p_X10_mouths] at hf
  refine lv_aload_n hx hb dX10_mouths_0 rfl (lv_at hl 0 rfl) ?_
  obtain ⟨r_1, e_1, hf⟩ := ob_bind hf
  have hPX_1 : va_P D vwCl (cs10 ct a o) s.heap := hP
  refine ro_call1 (va_runV (As := []) (rest := []) ⟨hx, hb, hml, hown, htl⟩ (c_X10_isRivers l D ct G a fu o e_1) (cw_X10_X10_isRivers htl ⟨Nat.le_of_ble_eq_true rfl, Nat.le_of_ble_eq_true rfl⟩) ⟨Bx_blind, va_recv hK hPX_1 (ci := 10) (q0 := 0) rfl rfl, Bx_pre hPX_1 hK hN hX⟩ rfl rfl hl.1 rfl (lv_room (Nat.le_of_ble_eq_true rfl)) dX10_mouths_1 ⟨Nat.zero_le _, Nat.zero_le _⟩) ?_
  refine lv_if_ne (tgt := 10) hx hb dX10_mouths_4 (by decide) (fun c_4 => ?_) (fun c_4 => ?_)
  rotate_left 1
  · rw [if_pos c_4] at hf
    refine lv_bipush (v := (-2)) hx hb dX10_mouths_7 (by decide) ?_
    rw [← hQQ]
    exact rf_i hx hb hr hlocks hf dX10_mouths_9
  rw [if_neg c_4] at hf
  refine lv_iconst (v := 0) hx hb dX10_mouths_10 (by decide) ?_
  refine lv_istore_n (lv' := [(1, .int 0), (0, .ref (a 0))]) hx hb dX10_mouths_11 rfl hl (by decide) rfl (fun ls hl => ?_)
  refine lv_iconst (v := 0) hx hb dX10_mouths_12 (by decide) ?_
  refine lv_istore_n (lv' := [(2, .int 0), (1, .int 0), (0, .ref (a 0))]) hx hb dX10_mouths_13 rfl hl (by decide) rfl (fun ls hl => ?_)
  exact hL14 fu 0 0 _ (lv_sub hl [2, 1, 0] rfl) hf 
theorem c_X10_mouths (l : Launch) (D : va_G) (ct : Nat → ClassId) (G : GT) (a : Nat → Nat) (fu : Nat) (o : Ob) {r : Int32} (hf : p_X10_mouths fu o = some r)  : Met l yX10_mouths (.code yX10_mouths cX10_mouths 3 (some .int) :: wsL_law) rm_X10_mouths (va_Pc [.ref (a 0)] (Bx D ct G (cs10 ct a o))) (Qro (some (.int r))) 0 0 (fun _ => False) := by
  refine Met.ofW (cc := cX10_mouths) (maxL := 3) (ret := (some .int)) (by decide) rfl ?_
  intro p e s m args below meth c s₁ B hml hv
  obtain ⟨rfl, hP, hK, hN, hX⟩ := hv
  have hts := atoms_spec (ws := .code yX10_mouths cX10_mouths 3 (some .int) :: wsL_law) B.pre
  rw [lg_entry_eq]
  exact b_X10_mouths a fu o B.exec B.bytes B.returns hml (findClass_of_methodNamed B.named) (fun w h => hts w (List.mem_cons_of_mem _ h)) B.notSynchronized hK hN hX hP hf   (lv_entry [.ref (a 0)] (n := 3) (Nat.le_of_ble_eq_true rfl))
def p_X10_springs_L14 (fu : Nat) (o : Ob) (c55 : Int32 → Option (Int32)) : Nat → Int32 → Int32 → Option (Int32)
  | 0, _, _ => none
  | n + 1, v1, v2 =>
    if inb (3 : Int32) 98 = true then if ((o.1 1) (3 : Int32).toNatClampNeg) ≤ v2 then c55 v1 else (p_X10_of fu o v2 (0 : Int32)).bind fun r_28 => if r_28 = ((-1) : Int32) then p_X10_springs_L14 fu o c55 n (v1 ||| 0) (v2 + 1) else (p_X10_of fu o v2 (0 : Int32)).bind fun r_43 => p_X10_springs_L14 fu o c55 n (v1 ||| ((1 : Int32) <<< (r_43 &&& 31))) (v2 + 1) else none
def p_X10_springs_L57 (fu : Nat) (o : Ob) (c84 : Int32 → Option (Int32)) : Nat → Int32 → Int32 → Option (Int32)
  | 0, _, _ => none
  | n + 1, v1, v2 =>
    if inb (4 : Int32) 98 = true then if ((o.1 1) (4 : Int32).toNatClampNeg) ≤ v2 then c84 v1 else (p_X10_ofJoin fu o v2 (1 : Int32)).bind fun r_72 => p_X10_springs_L57 fu o c84 n (v1 ||| ((1 : Int32) <<< (r_72 &&& 31))) (v2 + 1) else none
def p_X10_springs (fu : Nat) (o : Ob) : Option (Int32) :=
  (p_X10_isRivers fu o).bind fun r_1 => if r_1 = 0 then some ((-2) : Int32) else p_X10_springs_L14 fu o (fun v1 => p_X10_springs_L57 fu o (fun v1 => if inb (3 : Int32) 98 = true then some ((((1 : Int32) <<< (((o.1 1) (3 : Int32).toNatClampNeg) &&& 31)) - 1) &&& (v1 ^^^ (-1))) else none) fu v1 0) fu 0 0
abbrev rm_X10_springs : Room := { frames := 1, cells := 0, slots := 0, locals := 22 }
set_option maxHeartbeats 4000000 in
set_option maxRecDepth 100000 in
theorem b_X10_springs {p : Program} {l : Launch} {e : Env} {s : State} {m : MethodId} {args : Array Value} {below : List Frame} {meth : Method} {c : Code} {ls : Array Slot} {D : va_G} {ct : Nat → ClassId} {G : GT} (a : Nat → Nat) (fu : Nat) (o : Ob) {r : Int32} (hx : p.tables.exec = Jvm.exec) (hb : c.code = cX10_springs) (hr : meth.sig.returnType = (some .int)) (hml : c.maxLocals = 3) (hown : s.vm.findClass RX10 = some m.cls) (htl : ∀ w ∈ wsL_law, w.before args s = true) (hlocks : meth.locks = false) (hK : va_K D vwCl (tyl ct) s) (hN : ∀ w ∈ NW, va_Nw w s) (hX : SX G s s.heap) (hP0 : va_P D vwCl (cs10 ct a o) s.heap) (hf : p_X10_springs fu o = some r)  (hl : lv_has ls 3 [(0, .ref (a 0))]) : W p l e rm_X10_springs s m args below meth c s.heap [] 0 0 (MQ below (Qro (some (.int r))) args s 0 0 (fun _ => False)) (F0 m 0 ls []) := by
  generalize hQQ : MQ below (Qro (some (.int r))) args s 0 0 (fun _ => False) = QQ
  have hP := hP0
  have hL14 : ∀ (c55 : Int32 → Option (Int32)) (n : Nat) (v1 : Int32) (v2 : Int32), ∀ (ls : Array Slot), lv_has ls 3 [(0, .ref (a 0)), (1, .int v1), (2, .int v2)] → p_X10_springs_L14 fu o c55 n v1 v2 = some r → (∀ (v1 : Int32), ∀ (ls : Array Slot), lv_has ls 3 [(0, .ref (a 0)), (1, .int v1)] → c55 v1 = some r → W p l e rm_X10_springs s m args below meth c s.heap [] 0 0 QQ (F0 m 55 ls [])) → W p l e rm_X10_springs s m args below meth c s.heap [] 0 0 QQ (F0 m 14 ls []) := by
    intro c55 n
    induction n with
    | zero =>
      intro v1 v2 ls hl hf k55
      rw [p_X10_springs_L14] at hf
      cases hf
    | succ n ih =>
      intro v1 v2 ls hl hf k55
      rw [p_X10_springs_L14] at hf
      refine lv_iload_n hx hb dX10_springs_14 rfl (lv_at hl 2 rfl) ?_
      refine lv_aload_n hx hb dX10_springs_15 rfl (lv_at hl 0 rfl) ?_
      refine va_get (D := D) (ci := 10) (v := .ref (a 1)) (C := RX10) (T := TX10) (N := 42) hx hb htl inlX10 hown hK hP 0 rfl rfl 1 (by decide) (htl _ wq_7_0) (fun _ h9 => h9) rfl dX10_springs_16 ?_
      refine lv_iconst (v := 3) hx hb dX10_springs_19 (by decide) ?_
      obtain ⟨hi_20, hf⟩ := ob_in hf
      refine va_iald (D := D) (tys := tyl ct) hx hb hK hP 1 0 rfl rfl hi_20 dX10_springs_20 ?_
      refine lv_icmp_ge (tgt := 55) hx hb dX10_springs_21 (by decide) (fun c_21 => ?_) (fun c_21 => ?_)
      · rw [if_pos c_21] at hf
        exact k55 v1 _ (lv_sub hl [0, 1] rfl) hf
      rw [if_neg c_21] at hf
      refine lv_iload_n hx hb dX10_springs_24 rfl (lv_at hl 1 rfl) ?_
      refine lv_aload_n hx hb dX10_springs_25 rfl (lv_at hl 0 rfl) ?_
      refine lv_iload_n hx hb dX10_springs_26 rfl (lv_at hl 2 rfl) ?_
      refine lv_iconst (v := 0) hx hb dX10_springs_27 (by decide) ?_
      obtain ⟨r_28, e_28, hf⟩ := ob_bind hf
      have hPX_28 : va_P D vwCl (cs10 ct a o) s.heap := hP
      refine ro_call1 (va_runV (As := [.int v2, .int 0]) (rest := [.int v1]) ⟨hx, hb, hml, hown, htl⟩ (c_X10_of l D ct G a fu o v2 (0 : Int32) e_28) (cw_X10_X10_of htl ⟨Nat.le_of_ble_eq_true rfl, Nat.le_of_ble_eq_true rfl⟩) ⟨Bx_blind, va_recv hK hPX_28 (ci := 10) (q0 := 0) rfl rfl, Bx_pre hPX_28 hK hN hX⟩ rfl rfl hl.1 rfl (lv_room (Nat.le_of_ble_eq_true rfl)) dX10_springs_28 ⟨Nat.zero_le _, Nat.zero_le _⟩) ?_
      refine lv_iconst (v := (-1)) hx hb dX10_springs_31 (by decide) ?_
      refine lv_icmp_ne (tgt := 39) hx hb dX10_springs_32 (by decide) (fun c_32 => ?_) (fun c_32 => ?_)
      rotate_left 1
      · rw [if_pos c_32] at hf
        refine lv_iconst (v := 0) hx hb dX10_springs_35 (by decide) ?_
        refine lv_goto (tgt := 47) hx hb dX10_springs_36 (by decide) ?_
        refine lv_ior hx hb dX10_springs_47 ?_
        refine lv_istore_n (lv' := [(1, .int (v1 ||| 0)), (0, .ref (a 0)), (2, .int v2)]) hx hb dX10_springs_48 rfl hl (by decide) rfl (fun ls hl => ?_)
        refine lv_iinc (v := (v2 + 1)) (lv' := [(2, .int (v2 + 1)), (1, .int (v1 ||| 0)), (0, .ref (a 0))]) hx hb dX10_springs_49 hl (k := 2) rfl rfl (by decide) rfl (fun ls hl => ?_)
        refine lv_goto (tgt := 14) hx hb dX10_springs_52 (by decide) ?_
        exact ih (v1 ||| 0) (v2 + 1) _ (lv_sub hl [2, 1, 0] rfl) hf k55
      rw [if_neg c_32] at hf
      refine lv_iconst (v := 1) hx hb dX10_springs_39 (by decide) ?_
      refine lv_aload_n hx hb dX10_springs_40 rfl (lv_at hl 0 rfl) ?_
      refine lv_iload_n hx hb dX10_springs_41 rfl (lv_at hl 2 rfl) ?_
      refine lv_iconst (v := 0) hx hb dX10_springs_42 (by decide) ?_
      obtain ⟨r_43, e_43, hf⟩ := ob_bind hf
      have hPX_43 : va_P D vwCl (cs10 ct a o) s.heap := hP
      refine ro_call1 (va_runV (As := [.int v2, .int 0]) (rest := [.int 1, .int v1]) ⟨hx, hb, hml, hown, htl⟩ (c_X10_of l D ct G a fu o v2 (0 : Int32) e_43) (cw_X10_X10_of htl ⟨Nat.le_of_ble_eq_true rfl, Nat.le_of_ble_eq_true rfl⟩) ⟨Bx_blind, va_recv hK hPX_43 (ci := 10) (q0 := 0) rfl rfl, Bx_pre hPX_43 hK hN hX⟩ rfl rfl hl.1 rfl (lv_room (Nat.le_of_ble_eq_true rfl)) dX10_springs_43 ⟨Nat.zero_le _, Nat.zero_le _⟩) ?_
      refine lv_ishl hx hb dX10_springs_46 ?_
      refine lv_ior hx hb dX10_springs_47 ?_
      refine lv_istore_n (lv' := [(1, .int (v1 ||| ((1 : Int32) <<< (r_43 &&& 31)))), (0, .ref (a 0)), (2, .int v2)]) hx hb dX10_springs_48 rfl hl (by decide) rfl (fun ls hl => ?_)
      refine lv_iinc (v := (v2 + 1)) (lv' := [(2, .int (v2 + 1)), (1, .int (v1 ||| ((1 : Int32) <<< (r_43 &&& 31)))), (0, .ref (a 0))]) hx hb dX10_springs_49 hl (k := 2) rfl rfl (by decide) rfl (fun ls hl => ?_)
      refine lv_goto (tgt := 14) hx hb dX10_springs_52 (by decide) ?_
      exact ih (v1 ||| ((1 : Int32) <<< (r_43 &&& 31))) (v2 + 1) _ (lv_sub hl [2, 1, 0] rfl) hf k55
  have hL57 : ∀ (c84 : Int32 → Option (Int32)) (n : Nat) (v1 : Int32) (v2 : Int32), ∀ (ls : Array Slot), lv_has ls 3 [(0, .ref (a 0)), (1, .int v1), (2, .int v2)] → p_X10_springs_L57 fu o c84 n v1 v2 = some r → (∀ (v1 : Int32), ∀ (ls : Array Slot), lv_has ls 3 [(0, .ref (a 0)), (1, .int v1)] → c84 v1 = some r → W p l e rm_X10_springs s m args below meth c s.heap [] 0 0 QQ (F0 m 84 ls [])) → W p l e rm_X10_springs s m args below meth c s.heap [] 0 0 QQ (F0 m 57 ls []) := by
    intro c84 n
    induction n with
    | zero =>
      intro v1 v2 ls hl hf k84
      rw [p_X10_springs_L57] at hf
      cases hf
    | succ n ih =>
      intro v1 v2 ls hl hf k84
      rw [p_X10_springs_L57] at hf
      refine lv_iload_n hx hb dX10_springs_57 rfl (lv_at hl 2 rfl) ?_
      refine lv_aload_n hx hb dX10_springs_58 rfl (lv_at hl 0 rfl) ?_
      refine va_get (D := D) (ci := 10) (v := .ref (a 1)) (C := RX10) (T := TX10) (N := 42) hx hb htl inlX10 hown hK hP 0 rfl rfl 1 (by decide) (htl _ wq_7_0) (fun _ h9 => h9) rfl dX10_springs_59 ?_
      refine lv_iconst (v := 4) hx hb dX10_springs_62 (by decide) ?_
      obtain ⟨hi_63, hf⟩ := ob_in hf
      refine va_iald (D := D) (tys := tyl ct) hx hb hK hP 1 0 rfl rfl hi_63 dX10_springs_63 ?_
      refine lv_icmp_ge (tgt := 84) hx hb dX10_springs_64 (by decide) (fun c_64 => ?_) (fun c_64 => ?_)
      · rw [if_pos c_64] at hf
        exact k84 v1 _ (lv_sub hl [0, 1] rfl) hf
      rw [if_neg c_64] at hf
      refine lv_iload_n hx hb dX10_springs_67 rfl (lv_at hl 1 rfl) ?_
      refine lv_iconst (v := 1) hx hb dX10_springs_68 (by decide) ?_
      refine lv_aload_n hx hb dX10_springs_69 rfl (lv_at hl 0 rfl) ?_
      refine lv_iload_n hx hb dX10_springs_70 rfl (lv_at hl 2 rfl) ?_
      refine lv_iconst (v := 1) hx hb dX10_springs_71 (by decide) ?_
      obtain ⟨r_72, e_72, hf⟩ := ob_bind hf
      have hPX_72 : va_P D vwCl (cs10 ct a o) s.heap := hP
      refine ro_call1 (va_runV (As := [.int v2, .int 1]) (rest := [.int 1, .int v1]) ⟨hx, hb, hml, hown, htl⟩ (c_X10_ofJoin l D ct G a fu o v2 (1 : Int32) e_72) (cw_X10_X10_ofJoin htl ⟨Nat.le_of_ble_eq_true rfl, Nat.le_of_ble_eq_true rfl⟩) ⟨Bx_blind, va_recv hK hPX_72 (ci := 10) (q0 := 0) rfl rfl, Bx_pre hPX_72 hK hN hX⟩ rfl rfl hl.1 rfl (lv_room (Nat.le_of_ble_eq_true rfl)) dX10_springs_72 ⟨Nat.zero_le _, Nat.zero_le _⟩) ?_
      refine lv_ishl hx hb dX10_springs_75 ?_
      refine lv_ior hx hb dX10_springs_76 ?_
      refine lv_istore_n (lv' := [(1, .int (v1 ||| ((1 : Int32) <<< (r_72 &&& 31)))), (0, .ref (a 0)), (2, .int v2)]) hx hb dX10_springs_77 rfl hl (by decide) rfl (fun ls hl => ?_)
      refine lv_iinc (v := (v2 + 1)) (lv' := [(2, .int (v2 + 1)), (1, .int (v1 ||| ((1 : Int32) <<< (r_72 &&& 31)))), (0, .ref (a 0))]) hx hb dX10_springs_78 hl (k := 2) rfl rfl (by decide) rfl (fun ls hl => ?_)
      refine lv_goto (tgt := 57) hx hb dX10_springs_81 (by decide) ?_
      exact ih (v1 ||| ((1 : Int32) <<< (r_72 &&& 31))) (v2 + 1) _ (lv_sub hl [2, 1, 0] rfl) hf k84
  rw [p_X10_springs] at hf
  refine lv_aload_n hx hb dX10_springs_0 rfl (lv_at hl 0 rfl) ?_
  obtain ⟨r_1, e_1, hf⟩ := ob_bind hf
  have hPX_1 : va_P D vwCl (cs10 ct a o) s.heap := hP
  refine ro_call1 (va_runV (As := []) (rest := []) ⟨hx, hb, hml, hown, htl⟩ (c_X10_isRivers l D ct G a fu o e_1) (cw_X10_X10_isRivers htl ⟨Nat.le_of_ble_eq_true rfl, Nat.le_of_ble_eq_true rfl⟩) ⟨Bx_blind, va_recv hK hPX_1 (ci := 10) (q0 := 0) rfl rfl, Bx_pre hPX_1 hK hN hX⟩ rfl rfl hl.1 rfl (lv_room (Nat.le_of_ble_eq_true rfl)) dX10_springs_1 ⟨Nat.zero_le _, Nat.zero_le _⟩) ?_
  refine lv_if_ne (tgt := 10) hx hb dX10_springs_4 (by decide) (fun c_4 => ?_) (fun c_4 => ?_)
  rotate_left 1
  · rw [if_pos c_4] at hf
    refine lv_bipush (v := (-2)) hx hb dX10_springs_7 (by decide) ?_
    rw [← hQQ]
    exact rf_i hx hb hr hlocks hf dX10_springs_9
  rw [if_neg c_4] at hf
  refine lv_iconst (v := 0) hx hb dX10_springs_10 (by decide) ?_
  refine lv_istore_n (lv' := [(1, .int 0), (0, .ref (a 0))]) hx hb dX10_springs_11 rfl hl (by decide) rfl (fun ls hl => ?_)
  refine lv_iconst (v := 0) hx hb dX10_springs_12 (by decide) ?_
  refine lv_istore_n (lv' := [(2, .int 0), (1, .int 0), (0, .ref (a 0))]) hx hb dX10_springs_13 rfl hl (by decide) rfl (fun ls hl => ?_)
  refine hL14 _ fu 0 0 _ (lv_sub hl [2, 1, 0] rfl) hf (fun v1 ls hl hf => ?_)
  refine lv_iconst (v := 0) hx hb dX10_springs_55 (by decide) ?_
  refine lv_istore_n (lv' := [(2, .int 0), (0, .ref (a 0)), (1, .int v1)]) hx hb dX10_springs_56 rfl hl (by decide) rfl (fun ls hl => ?_)
  refine hL57 _ fu v1 0 _ (lv_sub hl [1, 2, 0] rfl) hf (fun v1 ls hl hf => ?_)
  refine lv_iconst (v := 1) hx hb dX10_springs_84 (by decide) ?_
  refine lv_aload_n hx hb dX10_springs_85 rfl (lv_at hl 0 rfl) ?_
  refine va_get (D := D) (ci := 10) (v := .ref (a 1)) (C := RX10) (T := TX10) (N := 42) hx hb htl inlX10 hown hK hP 0 rfl rfl 1 (by decide) (htl _ wq_7_0) (fun _ h9 => h9) rfl dX10_springs_86 ?_
  refine lv_iconst (v := 3) hx hb dX10_springs_89 (by decide) ?_
  obtain ⟨hi_90, hf⟩ := ob_in hf
  refine va_iald (D := D) (tys := tyl ct) hx hb hK hP 1 0 rfl rfl hi_90 dX10_springs_90 ?_
  refine lv_ishl hx hb dX10_springs_91 ?_
  refine lv_iconst (v := 1) hx hb dX10_springs_92 (by decide) ?_
  refine lv_isub hx hb dX10_springs_93 ?_
  refine lv_iload_n hx hb dX10_springs_94 rfl (lv_at hl 1 rfl) ?_
  refine lv_iconst (v := (-1)) hx hb dX10_springs_95 (by decide) ?_
  refine lv_ixor hx hb dX10_springs_96 ?_
  refine lv_iand hx hb dX10_springs_97 ?_
  rw [← hQQ]
  exact rf_i hx hb hr hlocks hf dX10_springs_98
theorem c_X10_springs (l : Launch) (D : va_G) (ct : Nat → ClassId) (G : GT) (a : Nat → Nat) (fu : Nat) (o : Ob) {r : Int32} (hf : p_X10_springs fu o = some r)  : Met l yX10_springs (.code yX10_springs cX10_springs 3 (some .int) :: wsL_law) rm_X10_springs (va_Pc [.ref (a 0)] (Bx D ct G (cs10 ct a o))) (Qro (some (.int r))) 0 0 (fun _ => False) := by
  refine Met.ofW (cc := cX10_springs) (maxL := 3) (ret := (some .int)) (by decide) rfl ?_
  intro p e s m args below meth c s₁ B hml hv
  obtain ⟨rfl, hP, hK, hN, hX⟩ := hv
  have hts := atoms_spec (ws := .code yX10_springs cX10_springs 3 (some .int) :: wsL_law) B.pre
  rw [lg_entry_eq]
  exact b_X10_springs a fu o B.exec B.bytes B.returns hml (findClass_of_methodNamed B.named) (fun w h => hts w (List.mem_cons_of_mem _ h)) B.notSynchronized hK hN hX hP hf   (lv_entry [.ref (a 0)] (n := 3) (Nat.le_of_ble_eq_true rfl))
def p_X10_depth_L16 (fu : Nat) (o : Ob)  : Nat → Int32 → Int32 → Option (Int32)
  | 0, _, _ => none
  | n + 1, v2, v3 =>
    if (10 : Int32) < v3 then some ((-1) : Int32) else (p_X10_of fu o v2 (0 : Int32)).bind fun r_25 => if r_25 = ((-1) : Int32) then some v3 else p_X10_depth_L16 fu o  n r_25 (v3 + 1)
def p_X10_depth (fu : Nat) (o : Ob) (v1 : Int32) : Option (Int32) :=
  (p_X10_isReach fu o v1.toInt64).bind fun r_3 => if r_3 = 0 then some ((-2) : Int32) else p_X10_depth_L16 fu o fu v1 1
abbrev rm_X10_depth : Room := { frames := 2, cells := 0, slots := 0, locals := 47 }
set_option maxHeartbeats 4000000 in
set_option maxRecDepth 100000 in
theorem b_X10_depth {p : Program} {l : Launch} {e : Env} {s : State} {m : MethodId} {args : Array Value} {below : List Frame} {meth : Method} {c : Code} {ls : Array Slot} {D : va_G} {ct : Nat → ClassId} {G : GT} (a : Nat → Nat) (fu : Nat) (o : Ob) (v1 : Int32) {r : Int32} (hx : p.tables.exec = Jvm.exec) (hb : c.code = cX10_depth) (hr : meth.sig.returnType = (some .int)) (hml : c.maxLocals = 4) (hown : s.vm.findClass RX10 = some m.cls) (htl : ∀ w ∈ wsL_law, w.before args s = true) (hlocks : meth.locks = false) (hK : va_K D vwCl (tyl ct) s) (hN : ∀ w ∈ NW, va_Nw w s) (hX : SX G s s.heap) (hP0 : va_P D vwCl (cs10 ct a o) s.heap) (hf : p_X10_depth fu o v1 = some r)  (hl : lv_has ls 4 [(0, .ref (a 0)), (1, .int v1)]) : W p l e rm_X10_depth s m args below meth c s.heap [] 0 0 (MQ below (Qro (some (.int r))) args s 0 0 (fun _ => False)) (F0 m 0 ls []) := by
  generalize hQQ : MQ below (Qro (some (.int r))) args s 0 0 (fun _ => False) = QQ
  have hP := hP0
  have hL16 : ∀ (n : Nat) (v2 : Int32) (v3 : Int32), ∀ (ls : Array Slot), lv_has ls 4 [(0, .ref (a 0)), (2, .int v2), (3, .int v3)] → p_X10_depth_L16 fu o  n v2 v3 = some r → W p l e rm_X10_depth s m args below meth c s.heap [] 0 0 QQ (F0 m 16 ls []) := by
    intro  n
    induction n with
    | zero =>
      intro v2 v3 ls hl hf 
      rw [p_X10_depth_L16] at hf
      cases hf
    | succ n ih =>
      intro v2 v3 ls hl hf 
      rw [p_X10_depth_L16] at hf
      refine lv_iload_n hx hb dX10_depth_16 rfl (lv_at hl 2 rfl) ?_
      refine lv_bipush (v := 10) hx hb dX10_depth_17 (by decide) ?_
      refine lv_icmp_gt (tgt := 42) hx hb dX10_depth_19 (by decide) (fun c_19 => ?_) (fun c_19 => ?_)
      · rw [if_pos c_19] at hf
        refine lv_iconst (v := (-1)) hx hb dX10_depth_42 (by decide) ?_
        rw [← hQQ]
        exact rf_i hx hb hr hlocks hf dX10_depth_43
      rw [if_neg c_19] at hf
      refine lv_aload_n hx hb dX10_depth_22 rfl (lv_at hl 0 rfl) ?_
      refine lv_iload_n hx hb dX10_depth_23 rfl (lv_at hl 1 rfl) ?_
      refine lv_iconst (v := 0) hx hb dX10_depth_24 (by decide) ?_
      obtain ⟨r_25, e_25, hf⟩ := ob_bind hf
      have hPX_25 : va_P D vwCl (cs10 ct a o) s.heap := hP
      refine ro_call1 (va_runV (As := [.int v2, .int 0]) (rest := []) ⟨hx, hb, hml, hown, htl⟩ (c_X10_of l D ct G a fu o v2 (0 : Int32) e_25) (cw_X10_X10_of htl ⟨Nat.le_of_ble_eq_true rfl, Nat.le_of_ble_eq_true rfl⟩) ⟨Bx_blind, va_recv hK hPX_25 (ci := 10) (q0 := 0) rfl rfl, Bx_pre hPX_25 hK hN hX⟩ rfl rfl hl.1 rfl (lv_room (Nat.le_of_ble_eq_true rfl)) dX10_depth_25 ⟨Nat.zero_le _, Nat.zero_le _⟩) ?_
      refine lv_istore_n (lv' := [(2, .int r_25), (0, .ref (a 0)), (3, .int v3)]) hx hb dX10_depth_28 rfl hl (by decide) rfl (fun ls hl => ?_)
      refine lv_iload_n hx hb dX10_depth_29 rfl (lv_at hl 0 rfl) ?_
      refine lv_iconst (v := (-1)) hx hb dX10_depth_30 (by decide) ?_
      refine lv_icmp_ne (tgt := 36) hx hb dX10_depth_31 (by decide) (fun c_31 => ?_) (fun c_31 => ?_)
      · rw [if_neg c_31] at hf
        refine lv_iinc (v := (v3 + 1)) (lv' := [(3, .int (v3 + 1)), (2, .int r_25), (0, .ref (a 0))]) hx hb dX10_depth_36 hl (k := 2) rfl rfl (by decide) rfl (fun ls hl => ?_)
        refine lv_goto (tgt := 16) hx hb dX10_depth_39 (by decide) ?_
        exact ih r_25 (v3 + 1) _ (lv_sub hl [2, 1, 0] rfl) hf 
      rw [if_pos c_31] at hf
      refine lv_iload_n hx hb dX10_depth_34 rfl (lv_at hl 2 rfl) ?_
      rw [← hQQ]
      exact rf_i hx hb hr hlocks hf dX10_depth_35
  rw [p_X10_depth] at hf
  refine lv_aload_n hx hb dX10_depth_0 rfl (lv_at hl 0 rfl) ?_
  refine lv_iload_n hx hb dX10_depth_1 rfl (lv_at hl 1 rfl) ?_
  refine lv_i2l hx hb dX10_depth_2 rfl ?_
  obtain ⟨r_3, e_3, hf⟩ := ob_bind hf
  have hPX_3 : va_P D vwCl (cs10 ct a o) s.heap := hP
  refine ro_call1 (va_runV (As := [.long v1.toInt64]) (rest := []) ⟨hx, hb, hml, hown, htl⟩ (c_X10_isReach l D ct G a fu o v1.toInt64 e_3) (cw_X10_X10_isReach htl ⟨Nat.le_of_ble_eq_true rfl, Nat.le_of_ble_eq_true rfl⟩) ⟨Bx_blind, va_recv hK hPX_3 (ci := 10) (q0 := 0) rfl rfl, Bx_pre hPX_3 hK hN hX⟩ rfl rfl hl.1 rfl (lv_room (Nat.le_of_ble_eq_true rfl)) dX10_depth_3 ⟨Nat.zero_le _, Nat.zero_le _⟩) ?_
  refine lv_if_ne (tgt := 12) hx hb dX10_depth_6 (by decide) (fun c_6 => ?_) (fun c_6 => ?_)
  rotate_left 1
  · rw [if_pos c_6] at hf
    refine lv_bipush (v := (-2)) hx hb dX10_depth_9 (by decide) ?_
    rw [← hQQ]
    exact rf_i hx hb hr hlocks hf dX10_depth_11
  rw [if_neg c_6] at hf
  refine lv_iload_n hx hb dX10_depth_12 rfl (lv_at hl 1 rfl) ?_
  refine lv_istore_n (lv' := [(2, .int v1), (0, .ref (a 0)), (1, .int v1)]) hx hb dX10_depth_13 rfl hl (by decide) rfl (fun ls hl => ?_)
  refine lv_iconst (v := 1) hx hb dX10_depth_14 (by decide) ?_
  refine lv_istore_n (lv' := [(3, .int 1), (2, .int v1), (0, .ref (a 0)), (1, .int v1)]) hx hb dX10_depth_15 rfl hl (by decide) rfl (fun ls hl => ?_)
  exact hL16 fu v1 1 _ (lv_sub hl [2, 1, 0] rfl) hf 
theorem c_X10_depth (l : Launch) (D : va_G) (ct : Nat → ClassId) (G : GT) (a : Nat → Nat) (fu : Nat) (o : Ob) (v1 : Int32) {r : Int32} (hf : p_X10_depth fu o v1 = some r)  : Met l yX10_depth (.code yX10_depth cX10_depth 4 (some .int) :: wsL_law) rm_X10_depth (va_Pc [.ref (a 0), .int v1] (Bx D ct G (cs10 ct a o))) (Qro (some (.int r))) 0 0 (fun _ => False) := by
  refine Met.ofW (cc := cX10_depth) (maxL := 4) (ret := (some .int)) (by decide) rfl ?_
  intro p e s m args below meth c s₁ B hml hv
  obtain ⟨rfl, hP, hK, hN, hX⟩ := hv
  have hts := atoms_spec (ws := .code yX10_depth cX10_depth 4 (some .int) :: wsL_law) B.pre
  rw [lg_entry_eq]
  exact b_X10_depth a fu o v1 B.exec B.bytes B.returns hml (findClass_of_methodNamed B.named) (fun w h => hts w (List.mem_cons_of_mem _ h)) B.notSynchronized hK hN hX hP hf   (lv_entry [.ref (a 0), .int v1] (n := 4) (Nat.le_of_ble_eq_true rfl))
def p_X10_rings_L34 (fu : Nat) (o : Ob) (c64 : Int32 → Int32 → Int32 → Option (Int32)) : Nat → Int32 → Int32 → Int32 → Int32 → Option (Int32)
  | 0, _, _, _, _ => none
  | n + 1, v1, v2, v3, v4 =>
    if (10 : Int32) ≤ v4 then c64 v1 v2 v3 else if v3 = ((-1) : Int32) then c64 v1 v2 v3 else if v3 = v2 then c64 v1 v2 v3 else (p_X10_of fu o v3 (0 : Int32)).bind fun r_54 => p_X10_rings_L34 fu o c64 n v1 v2 r_54 (v4 + 1)
def p_X10_rings_L14 (fu : Nat) (o : Ob)  : Nat → Int32 → Int32 → Option (Int32)
  | 0, _, _ => none
  | n + 1, v1, v2 =>
    if inb (3 : Int32) 98 = true then if ((o.1 1) (3 : Int32).toNatClampNeg) ≤ v2 then some v1 else (p_X10_of fu o v2 (0 : Int32)).bind fun r_27 => p_X10_rings_L34 fu o (fun v1 v2 v3 => if v3 = v2 then p_X10_rings_L14 fu o  n (v1 ||| ((1 : Int32) <<< (v2 &&& 31))) (v2 + 1) else p_X10_rings_L14 fu o  n (v1 ||| 0) (v2 + 1)) fu v1 v2 r_27 1 else none
def p_X10_rings (fu : Nat) (o : Ob) : Option (Int32) :=
  (p_X10_isRivers fu o).bind fun r_1 => if r_1 = 0 then some ((-2) : Int32) else p_X10_rings_L14 fu o fu 0 0
abbrev rm_X10_rings : Room := { frames := 1, cells := 0, slots := 0, locals := 22 }
set_option maxHeartbeats 4000000 in
set_option maxRecDepth 100000 in
theorem b_X10_rings {p : Program} {l : Launch} {e : Env} {s : State} {m : MethodId} {args : Array Value} {below : List Frame} {meth : Method} {c : Code} {ls : Array Slot} {D : va_G} {ct : Nat → ClassId} {G : GT} (a : Nat → Nat) (fu : Nat) (o : Ob) {r : Int32} (hx : p.tables.exec = Jvm.exec) (hb : c.code = cX10_rings) (hr : meth.sig.returnType = (some .int)) (hml : c.maxLocals = 5) (hown : s.vm.findClass RX10 = some m.cls) (htl : ∀ w ∈ wsL_law, w.before args s = true) (hlocks : meth.locks = false) (hK : va_K D vwCl (tyl ct) s) (hN : ∀ w ∈ NW, va_Nw w s) (hX : SX G s s.heap) (hP0 : va_P D vwCl (cs10 ct a o) s.heap) (hf : p_X10_rings fu o = some r)  (hl : lv_has ls 5 [(0, .ref (a 0))]) : W p l e rm_X10_rings s m args below meth c s.heap [] 0 0 (MQ below (Qro (some (.int r))) args s 0 0 (fun _ => False)) (F0 m 0 ls []) := by
  generalize hQQ : MQ below (Qro (some (.int r))) args s 0 0 (fun _ => False) = QQ
  have hP := hP0
  have hL34 : ∀ (c64 : Int32 → Int32 → Int32 → Option (Int32)) (n : Nat) (v1 : Int32) (v2 : Int32) (v3 : Int32) (v4 : Int32), ∀ (ls : Array Slot), lv_has ls 5 [(0, .ref (a 0)), (1, .int v1), (2, .int v2), (3, .int v3), (4, .int v4)] → p_X10_rings_L34 fu o c64 n v1 v2 v3 v4 = some r → (∀ (v1 : Int32) (v2 : Int32) (v3 : Int32), ∀ (ls : Array Slot), lv_has ls 5 [(0, .ref (a 0)), (1, .int v1), (2, .int v2), (3, .int v3)] → c64 v1 v2 v3 = some r → W p l e rm_X10_rings s m args below meth c s.heap [] 0 0 QQ (F0 m 64 ls [])) → W p l e rm_X10_rings s m args below meth c s.heap [] 0 0 QQ (F0 m 34 ls []) := by
    intro c64 n
    induction n with
    | zero =>
      intro v1 v2 v3 v4 ls hl hf k64
      rw [p_X10_rings_L34] at hf
      cases hf
    | succ n ih =>
      intro v1 v2 v3 v4 ls hl hf k64
      rw [p_X10_rings_L34] at hf
      refine lv_iload hx hb dX10_rings_34 (lv_at hl 4 rfl) ?_
      refine lv_bipush (v := 10) hx hb dX10_rings_36 (by decide) ?_
      refine lv_icmp_ge (tgt := 64) hx hb dX10_rings_38 (by decide) (fun c_38 => ?_) (fun c_38 => ?_)
      · rw [if_pos c_38] at hf
        exact k64 v1 v2 v3 _ (lv_sub hl [0, 1, 2, 3] rfl) hf
      rw [if_neg c_38] at hf
      refine lv_iload_n hx hb dX10_rings_41 rfl (lv_at hl 3 rfl) ?_
      refine lv_iconst (v := (-1)) hx hb dX10_rings_42 (by decide) ?_
      refine lv_icmp_eq (tgt := 64) hx hb dX10_rings_43 (by decide) (fun c_43 => ?_) (fun c_43 => ?_)
      · rw [if_pos c_43] at hf
        exact k64 v1 v2 v3 _ (lv_sub hl [0, 1, 2, 3] rfl) hf
      rw [if_neg c_43] at hf
      refine lv_iload_n hx hb dX10_rings_46 rfl (lv_at hl 3 rfl) ?_
      refine lv_iload_n hx hb dX10_rings_47 rfl (lv_at hl 2 rfl) ?_
      refine lv_icmp_eq (tgt := 64) hx hb dX10_rings_48 (by decide) (fun c_48 => ?_) (fun c_48 => ?_)
      · rw [if_pos c_48] at hf
        exact k64 v1 v2 v3 _ (lv_sub hl [0, 1, 2, 3] rfl) hf
      rw [if_neg c_48] at hf
      refine lv_aload_n hx hb dX10_rings_51 rfl (lv_at hl 0 rfl) ?_
      refine lv_iload_n hx hb dX10_rings_52 rfl (lv_at hl 3 rfl) ?_
      refine lv_iconst (v := 0) hx hb dX10_rings_53 (by decide) ?_
      obtain ⟨r_54, e_54, hf⟩ := ob_bind hf
      have hPX_54 : va_P D vwCl (cs10 ct a o) s.heap := hP
      refine ro_call1 (va_runV (As := [.int v3, .int 0]) (rest := []) ⟨hx, hb, hml, hown, htl⟩ (c_X10_of l D ct G a fu o v3 (0 : Int32) e_54) (cw_X10_X10_of htl ⟨Nat.le_of_ble_eq_true rfl, Nat.le_of_ble_eq_true rfl⟩) ⟨Bx_blind, va_recv hK hPX_54 (ci := 10) (q0 := 0) rfl rfl, Bx_pre hPX_54 hK hN hX⟩ rfl rfl hl.1 rfl (lv_room (Nat.le_of_ble_eq_true rfl)) dX10_rings_54 ⟨Nat.zero_le _, Nat.zero_le _⟩) ?_
      refine lv_istore_n (lv' := [(3, .int r_54), (0, .ref (a 0)), (1, .int v1), (2, .int v2), (4, .int v4)]) hx hb dX10_rings_57 rfl hl (by decide) rfl (fun ls hl => ?_)
      refine lv_iinc (v := (v4 + 1)) (lv' := [(4, .int (v4 + 1)), (3, .int r_54), (0, .ref (a 0)), (1, .int v1), (2, .int v2)]) hx hb dX10_rings_58 hl (k := 4) rfl rfl (by decide) rfl (fun ls hl => ?_)
      refine lv_goto (tgt := 34) hx hb dX10_rings_61 (by decide) ?_
      exact ih v1 v2 r_54 (v4 + 1) _ (lv_sub hl [2, 3, 4, 1, 0] rfl) hf k64
  have hL14 : ∀ (n : Nat) (v1 : Int32) (v2 : Int32), ∀ (ls : Array Slot), lv_has ls 5 [(0, .ref (a 0)), (1, .int v1), (2, .int v2)] → p_X10_rings_L14 fu o  n v1 v2 = some r → W p l e rm_X10_rings s m args below meth c s.heap [] 0 0 QQ (F0 m 14 ls []) := by
    intro  n
    induction n with
    | zero =>
      intro v1 v2 ls hl hf 
      rw [p_X10_rings_L14] at hf
      cases hf
    | succ n ih =>
      intro v1 v2 ls hl hf 
      rw [p_X10_rings_L14] at hf
      refine lv_iload_n hx hb dX10_rings_14 rfl (lv_at hl 2 rfl) ?_
      refine lv_aload_n hx hb dX10_rings_15 rfl (lv_at hl 0 rfl) ?_
      refine va_get (D := D) (ci := 10) (v := .ref (a 1)) (C := RX10) (T := TX10) (N := 42) hx hb htl inlX10 hown hK hP 0 rfl rfl 1 (by decide) (htl _ wq_7_0) (fun _ h9 => h9) rfl dX10_rings_16 ?_
      refine lv_iconst (v := 3) hx hb dX10_rings_19 (by decide) ?_
      obtain ⟨hi_20, hf⟩ := ob_in hf
      refine va_iald (D := D) (tys := tyl ct) hx hb hK hP 1 0 rfl rfl hi_20 dX10_rings_20 ?_
      refine lv_icmp_ge (tgt := 85) hx hb dX10_rings_21 (by decide) (fun c_21 => ?_) (fun c_21 => ?_)
      · rw [if_pos c_21] at hf
        refine lv_iload_n hx hb dX10_rings_85 rfl (lv_at hl 1 rfl) ?_
        rw [← hQQ]
        exact rf_i hx hb hr hlocks hf dX10_rings_86
      rw [if_neg c_21] at hf
      refine lv_aload_n hx hb dX10_rings_24 rfl (lv_at hl 0 rfl) ?_
      refine lv_iload_n hx hb dX10_rings_25 rfl (lv_at hl 2 rfl) ?_
      refine lv_iconst (v := 0) hx hb dX10_rings_26 (by decide) ?_
      obtain ⟨r_27, e_27, hf⟩ := ob_bind hf
      have hPX_27 : va_P D vwCl (cs10 ct a o) s.heap := hP
      refine ro_call1 (va_runV (As := [.int v2, .int 0]) (rest := []) ⟨hx, hb, hml, hown, htl⟩ (c_X10_of l D ct G a fu o v2 (0 : Int32) e_27) (cw_X10_X10_of htl ⟨Nat.le_of_ble_eq_true rfl, Nat.le_of_ble_eq_true rfl⟩) ⟨Bx_blind, va_recv hK hPX_27 (ci := 10) (q0 := 0) rfl rfl, Bx_pre hPX_27 hK hN hX⟩ rfl rfl hl.1 rfl (lv_room (Nat.le_of_ble_eq_true rfl)) dX10_rings_27 ⟨Nat.zero_le _, Nat.zero_le _⟩) ?_
      refine lv_istore_n (lv' := [(3, .int r_27), (0, .ref (a 0)), (1, .int v1), (2, .int v2)]) hx hb dX10_rings_30 rfl hl (by decide) rfl (fun ls hl => ?_)
      refine lv_iconst (v := 1) hx hb dX10_rings_31 (by decide) ?_
      refine lv_istore (lv' := [(4, .int 1), (3, .int r_27), (0, .ref (a 0)), (1, .int v1), (2, .int v2)]) hx hb dX10_rings_32 hl (by decide) rfl (fun ls hl => ?_)
      refine hL34 _ fu v1 v2 r_27 1 _ (lv_sub hl [2, 3, 4, 1, 0] rfl) hf (fun v1 v2 v3 ls hl hf => ?_)
      refine lv_iload_n hx hb dX10_rings_64 rfl (lv_at hl 1 rfl) ?_
      refine lv_iload_n hx hb dX10_rings_65 rfl (lv_at hl 3 rfl) ?_
      refine lv_iload_n hx hb dX10_rings_66 rfl (lv_at hl 2 rfl) ?_
      refine lv_icmp_ne (tgt := 76) hx hb dX10_rings_67 (by decide) (fun c_67 => ?_) (fun c_67 => ?_)
      · rw [if_neg c_67] at hf
        refine lv_iconst (v := 0) hx hb dX10_rings_76 (by decide) ?_
        refine lv_ior hx hb dX10_rings_77 ?_
        refine lv_istore_n (lv' := [(1, .int (v1 ||| 0)), (0, .ref (a 0)), (2, .int v2), (3, .int v3)]) hx hb dX10_rings_78 rfl hl (by decide) rfl (fun ls hl => ?_)
        refine lv_iinc (v := (v2 + 1)) (lv' := [(2, .int (v2 + 1)), (1, .int (v1 ||| 0)), (0, .ref (a 0)), (3, .int v3)]) hx hb dX10_rings_79 hl (k := 2) rfl rfl (by decide) rfl (fun ls hl => ?_)
        refine lv_goto (tgt := 14) hx hb dX10_rings_82 (by decide) ?_
        exact ih (v1 ||| 0) (v2 + 1) _ (lv_sub hl [2, 1, 0] rfl) hf 
      rw [if_pos c_67] at hf
      refine lv_iconst (v := 1) hx hb dX10_rings_70 (by decide) ?_
      refine lv_iload_n hx hb dX10_rings_71 rfl (lv_at hl 2 rfl) ?_
      refine lv_ishl hx hb dX10_rings_72 ?_
      refine lv_goto (tgt := 77) hx hb dX10_rings_73 (by decide) ?_
      refine lv_ior hx hb dX10_rings_77 ?_
      refine lv_istore_n (lv' := [(1, .int (v1 ||| ((1 : Int32) <<< (v2 &&& 31)))), (0, .ref (a 0)), (2, .int v2), (3, .int v3)]) hx hb dX10_rings_78 rfl hl (by decide) rfl (fun ls hl => ?_)
      refine lv_iinc (v := (v2 + 1)) (lv' := [(2, .int (v2 + 1)), (1, .int (v1 ||| ((1 : Int32) <<< (v2 &&& 31)))), (0, .ref (a 0)), (3, .int v3)]) hx hb dX10_rings_79 hl (k := 2) rfl rfl (by decide) rfl (fun ls hl => ?_)
      refine lv_goto (tgt := 14) hx hb dX10_rings_82 (by decide) ?_
      exact ih (v1 ||| ((1 : Int32) <<< (v2 &&& 31))) (v2 + 1) _ (lv_sub hl [2, 1, 0] rfl) hf 
  rw [p_X10_rings] at hf
  refine lv_aload_n hx hb dX10_rings_0 rfl (lv_at hl 0 rfl) ?_
  obtain ⟨r_1, e_1, hf⟩ := ob_bind hf
  have hPX_1 : va_P D vwCl (cs10 ct a o) s.heap := hP
  refine ro_call1 (va_runV (As := []) (rest := []) ⟨hx, hb, hml, hown, htl⟩ (c_X10_isRivers l D ct G a fu o e_1) (cw_X10_X10_isRivers htl ⟨Nat.le_of_ble_eq_true rfl, Nat.le_of_ble_eq_true rfl⟩) ⟨Bx_blind, va_recv hK hPX_1 (ci := 10) (q0 := 0) rfl rfl, Bx_pre hPX_1 hK hN hX⟩ rfl rfl hl.1 rfl (lv_room (Nat.le_of_ble_eq_true rfl)) dX10_rings_1 ⟨Nat.zero_le _, Nat.zero_le _⟩) ?_
  refine lv_if_ne (tgt := 10) hx hb dX10_rings_4 (by decide) (fun c_4 => ?_) (fun c_4 => ?_)
  rotate_left 1
  · rw [if_pos c_4] at hf
    refine lv_bipush (v := (-2)) hx hb dX10_rings_7 (by decide) ?_
    rw [← hQQ]
    exact rf_i hx hb hr hlocks hf dX10_rings_9
  rw [if_neg c_4] at hf
  refine lv_iconst (v := 0) hx hb dX10_rings_10 (by decide) ?_
  refine lv_istore_n (lv' := [(1, .int 0), (0, .ref (a 0))]) hx hb dX10_rings_11 rfl hl (by decide) rfl (fun ls hl => ?_)
  refine lv_iconst (v := 0) hx hb dX10_rings_12 (by decide) ?_
  refine lv_istore_n (lv' := [(2, .int 0), (1, .int 0), (0, .ref (a 0))]) hx hb dX10_rings_13 rfl hl (by decide) rfl (fun ls hl => ?_)
  exact hL14 fu 0 0 _ (lv_sub hl [2, 1, 0] rfl) hf 
theorem c_X10_rings (l : Launch) (D : va_G) (ct : Nat → ClassId) (G : GT) (a : Nat → Nat) (fu : Nat) (o : Ob) {r : Int32} (hf : p_X10_rings fu o = some r)  : Met l yX10_rings (.code yX10_rings cX10_rings 5 (some .int) :: wsL_law) rm_X10_rings (va_Pc [.ref (a 0)] (Bx D ct G (cs10 ct a o))) (Qro (some (.int r))) 0 0 (fun _ => False) := by
  refine Met.ofW (cc := cX10_rings) (maxL := 5) (ret := (some .int)) (by decide) rfl ?_
  intro p e s m args below meth c s₁ B hml hv
  obtain ⟨rfl, hP, hK, hN, hX⟩ := hv
  have hts := atoms_spec (ws := .code yX10_rings cX10_rings 5 (some .int) :: wsL_law) B.pre
  rw [lg_entry_eq]
  exact b_X10_rings a fu o B.exec B.bytes B.returns hml (findClass_of_methodNamed B.named) (fun w h => hts w (List.mem_cons_of_mem _ h)) B.notSynchronized hK hN hX hP hf   (lv_entry [.ref (a 0)] (n := 5) (Nat.le_of_ble_eq_true rfl))
def p_X10_goes (fu : Nat) (o : Ob) (v1 : Int32) (v2 : Int32) : Option (Int32 × Ob) :=
  (p_X10_asItIs fu o).bind fun r_1 => (p_X10_isJoin fu r_1 v1).bind fun r_6 => if r_6 = 0 then some (((-2) : Int32), r_1) else (p_X10_isStep fu v2.toInt64).bind fun r_14 => if r_14 = 0 then some (((-2) : Int32), r_1) else (p_X10_bit fu (r_1.1 20 0) v1).bind fun r_28 => if r_28 = 0 then if inb v1 5 = true then if ((r_1.1 18) v1.toNatClampNeg) = 0 then none else if inb v1 5 = true then if (v2 - v2 / ((r_1.1 18) v1.toNatClampNeg) * ((r_1.1 18) v1.toNatClampNeg)) = ((r_1.1 19) v1.toNatClampNeg) then some ((1 : Int32), r_1) else some ((0 : Int32), r_1) else none else none else some ((0 : Int32), r_1)
abbrev rm_X10_goes : Room := { frames := 3, cells := 0, slots := 0, locals := 66 }
set_option maxHeartbeats 4000000 in
set_option maxRecDepth 100000 in
theorem b_X10_goes {p : Program} {l : Launch} {e : Env} {s : State} {m : MethodId} {args : Array Value} {below : List Frame} {meth : Method} {c : Code} {ls : Array Slot} {D : va_G} {ct : Nat → ClassId} {G : GT} (a : Nat → Nat) (fu : Nat) (o : Ob) (v1 : Int32) (v2 : Int32) {r : Int32 × Ob} (hx : p.tables.exec = Jvm.exec) (hb : c.code = cX10_goes) (hr : meth.sig.returnType = (some .int)) (hml : c.maxLocals = 3) (hown : s.vm.findClass RX10 = some m.cls) (htl : ∀ w ∈ wsL_law, w.before args s = true) (hlocks : meth.locks = false) (hK : va_K D vwCl (tyl ct) s) (hN : ∀ w ∈ NW, va_Nw w s) (hX : SX G s s.heap) (hP0 : va_P D vwCl (cs10 ct a o) s.heap) (hf : p_X10_goes fu o v1 v2 = some r) (hD0 : va_D (GE G) (cs10 ct a o))  (hl : lv_has ls 3 [(0, .ref (a 0)), (1, .int v1), (2, .int v2)]) : W p l e rm_X10_goes s m args below meth c s.heap [] 0 0 (MQ below (Qwr (some (.int r.1)) (fun H => va_P D vwCl (cs10 ct a r.2) H) (wA (cs10 ct a o))) args s 0 0 (wA (cs10 ct a o))) (F0 m 0 ls []) := by
  generalize hQQ : MQ below (Qwr (some (.int r.1)) (fun H => va_P D vwCl (cs10 ct a r.2) H) (wA (cs10 ct a o))) args s 0 0 (wA (cs10 ct a o)) = QQ
  have hDx : ∀ (oy : Ob), va_D (GE G) (cs10 ct a oy) := fun oy => D_cr hD0 rfl
  have hDW : ∀ (oy : Ob), va_D (wA (cs10 ct a o)) (cs10 ct a oy) := fun oy => D_cr (D_self hD0) rfl
  have hGE : ∀ q, wA (cs10 ct a o) q → GE G q := wA_GE hD0
  have hP := hP0
  have hS : va_S (wA (cs10 ct a o)) s.heap s.heap [] := va_S.rf
  rw [p_X10_goes] at hf
  refine lv_aload_n hx hb dX10_goes_0 rfl (lv_at hl 0 rfl) ?_
  obtain ⟨r_1, e_1, hf⟩ := ob_bind hf
  have hPX_1 : va_P D vwCl (cs10 ct a o) s.heap := hP
  refine wr_call0 (va_runV (As := []) (rest := []) ⟨hx, hb, hml, hown, htl⟩ (c_X10_asItIs l D ct G a fu o e_1 (hDx o)) (cw_X10_X10_asItIs htl ⟨Nat.le_of_ble_eq_true rfl, Nat.le_of_ble_eq_true rfl⟩) ⟨Bx_blind, va_recv hK hPX_1 (ci := 10) (q0 := 0) rfl rfl, Bx_pre hPX_1 hK hN (hX.stay hS hGE)⟩ rfl rfl hl.1 rfl (lv_room (Nat.le_of_ble_eq_true rfl)) dX10_goes_1 ⟨Nat.zero_le _, Nat.zero_le _⟩) hS (wA_cg rfl) (fun H_1 locs_1 hB_1 _ hk_1 hS => ?_)
  have hP : va_P D vwCl (cs10 ct a r_1) H_1 := hB_1
  refine lv_aload_n hx hb dX10_goes_4 rfl (lv_at hl 0 rfl) ?_
  refine lv_iload_n hx hb dX10_goes_5 rfl (lv_at hl 1 rfl) ?_
  obtain ⟨r_6, e_6, hf⟩ := ob_bind hf
  have hPX_6 : va_P D vwCl (cs10 ct a r_1) H_1 := hP
  refine ro_call1 (va_runV (As := [.int v1]) (rest := []) ⟨hx, hb, hml, hown, htl⟩ (c_X10_isJoin l D ct G a fu r_1 v1 e_6) (cw_X10_X10_isJoin htl ⟨Nat.le_of_ble_eq_true rfl, Nat.le_of_ble_eq_true rfl⟩) ⟨Bx_blind, va_recv hK hPX_6 (ci := 10) (q0 := 0) rfl rfl, Bx_pre hPX_6 hK hN (hX.stay hS hGE)⟩ rfl rfl hl.1 rfl (lv_room (Nat.le_of_ble_eq_true rfl)) dX10_goes_6 ⟨Nat.zero_le _, Nat.zero_le _⟩) ?_
  refine lv_if_eq (tgt := 20) hx hb dX10_goes_9 (by decide) (fun c_9 => ?_) (fun c_9 => ?_)
  · rw [if_pos c_9] at hf
    refine lv_bipush (v := (-2)) hx hb dX10_goes_20 (by decide) ?_
    rw [← hQQ]
    cases hf
    exact rw_i hx hb hr hlocks hP hS dX10_goes_22
  rw [if_neg c_9] at hf
  refine lv_iload_n hx hb dX10_goes_12 rfl (lv_at hl 2 rfl) ?_
  refine lv_i2l hx hb dX10_goes_13 rfl ?_
  obtain ⟨r_14, e_14, hf⟩ := ob_bind hf
  have hPX_14 : va_P D vwCl ([]) H_1 := P_nil
  refine ro_call1 (va_runS (As := [.long v2.toInt64]) (rest := []) ⟨hx, hb, hml, hown, htl⟩ (c_X10_isStep l D ct G fu v2.toInt64 e_14) (cw_X10_X10_isStep htl ⟨Nat.le_of_ble_eq_true rfl, Nat.le_of_ble_eq_true rfl⟩) ⟨Bx_blind, Bx_pre hPX_14 hK hN (hX.stay hS hGE)⟩ rfl rfl hl.1 rfl (lv_room (Nat.le_of_ble_eq_true rfl)) dX10_goes_14 ⟨Nat.zero_le _, Nat.zero_le _⟩) ?_
  refine lv_if_ne (tgt := 23) hx hb dX10_goes_17 (by decide) (fun c_17 => ?_) (fun c_17 => ?_)
  rotate_left 1
  · rw [if_pos c_17] at hf
    refine lv_bipush (v := (-2)) hx hb dX10_goes_20 (by decide) ?_
    rw [← hQQ]
    cases hf
    exact rw_i hx hb hr hlocks hP hS dX10_goes_22
  rw [if_neg c_17] at hf
  refine lv_aload_n hx hb dX10_goes_23 rfl (lv_at hl 0 rfl) ?_
  refine va_get (D := D) (ci := 10) (v := .int (r_1.1 20 0)) (C := RX10) (T := TX10) (N := 42) hx hb htl inlX10 hown hK hP 0 rfl rfl 20 (by decide) (htl _ wq_23_1) (fun _ h9 => h9) rfl dX10_goes_24 ?_
  refine lv_iload_n hx hb dX10_goes_27 rfl (lv_at hl 1 rfl) ?_
  obtain ⟨r_28, e_28, hf⟩ := ob_bind hf
  have hPX_28 : va_P D vwCl ([]) H_1 := P_nil
  refine ro_call1 (va_runS (As := [.int (r_1.1 20 0), .int v1]) (rest := []) ⟨hx, hb, hml, hown, htl⟩ (c_X10_bit l D ct G fu (r_1.1 20 0) v1 e_28) (cw_X10_X10_bit htl ⟨Nat.le_of_ble_eq_true rfl, Nat.le_of_ble_eq_true rfl⟩) ⟨Bx_blind, Bx_pre hPX_28 hK hN (hX.stay hS hGE)⟩ rfl rfl hl.1 rfl (lv_room (Nat.le_of_ble_eq_true rfl)) dX10_goes_28 ⟨Nat.zero_le _, Nat.zero_le _⟩) ?_
  refine lv_if_ne (tgt := 55) hx hb dX10_goes_31 (by decide) (fun c_31 => ?_) (fun c_31 => ?_)
  · rw [if_neg c_31] at hf
    refine lv_iconst (v := 0) hx hb dX10_goes_55 (by decide) ?_
    rw [← hQQ]
    cases hf
    exact rw_i hx hb hr hlocks hP hS dX10_goes_56
  rw [if_pos c_31] at hf
  refine lv_iload_n hx hb dX10_goes_34 rfl (lv_at hl 2 rfl) ?_
  refine lv_aload_n hx hb dX10_goes_35 rfl (lv_at hl 0 rfl) ?_
  refine va_get (D := D) (ci := 10) (v := .ref (a 10)) (C := RX10) (T := TX10) (N := 42) hx hb htl inlX10 hown hK hP 0 rfl rfl 18 (by decide) (htl _ wq_7_12) (fun _ h9 => h9) rfl dX10_goes_36 ?_
  refine lv_iload_n hx hb dX10_goes_39 rfl (lv_at hl 1 rfl) ?_
  obtain ⟨hi_40, hf⟩ := ob_in hf
  refine va_iald (D := D) (tys := tyl ct) hx hb hK hP 10 0 rfl rfl hi_40 dX10_goes_40 ?_
  obtain ⟨hne_41, hf⟩ := ob_ne hf
  refine lv_irem hx hb dX10_goes_41 hne_41 ?_
  refine lv_aload_n hx hb dX10_goes_42 rfl (lv_at hl 0 rfl) ?_
  refine va_get (D := D) (ci := 10) (v := .ref (a 11)) (C := RX10) (T := TX10) (N := 42) hx hb htl inlX10 hown hK hP 0 rfl rfl 19 (by decide) (htl _ wq_7_13) (fun _ h9 => h9) rfl dX10_goes_43 ?_
  refine lv_iload_n hx hb dX10_goes_46 rfl (lv_at hl 1 rfl) ?_
  obtain ⟨hi_47, hf⟩ := ob_in hf
  refine va_iald (D := D) (tys := tyl ct) hx hb hK hP 11 0 rfl rfl hi_47 dX10_goes_47 ?_
  refine lv_icmp_ne (tgt := 55) hx hb dX10_goes_48 (by decide) (fun c_48 => ?_) (fun c_48 => ?_)
  · rw [if_neg c_48] at hf
    refine lv_iconst (v := 0) hx hb dX10_goes_55 (by decide) ?_
    rw [← hQQ]
    cases hf
    exact rw_i hx hb hr hlocks hP hS dX10_goes_56
  rw [if_pos c_48] at hf
  refine lv_iconst (v := 1) hx hb dX10_goes_51 (by decide) ?_
  refine lv_goto (tgt := 56) hx hb dX10_goes_52 (by decide) ?_
  rw [← hQQ]
  cases hf
  exact rw_i hx hb hr hlocks hP hS dX10_goes_56
theorem c_X10_goes (l : Launch) (D : va_G) (ct : Nat → ClassId) (G : GT) (a : Nat → Nat) (fu : Nat) (o : Ob) (v1 : Int32) (v2 : Int32) {r : Int32 × Ob} (hf : p_X10_goes fu o v1 v2 = some r)  (hD0 : va_D (GE G) (cs10 ct a o)) : Met l yX10_goes (.code yX10_goes cX10_goes 3 (some .int) :: wsL_law) rm_X10_goes (va_Pc [.ref (a 0), .int v1, .int v2] (Bx D ct G (cs10 ct a o))) (Qwr (some (.int r.1)) (fun H => va_P D vwCl (cs10 ct a r.2) H) (wA (cs10 ct a o))) 0 0 (wA (cs10 ct a o)) := by
  refine Met.ofW (cc := cX10_goes) (maxL := 3) (ret := (some .int)) (by decide) rfl ?_
  intro p e s m args below meth c s₁ B hml hv
  obtain ⟨rfl, hP, hK, hN, hX⟩ := hv
  have hts := atoms_spec (ws := .code yX10_goes cX10_goes 3 (some .int) :: wsL_law) B.pre
  rw [lg_entry_eq]
  exact b_X10_goes a fu o v1 v2 B.exec B.bytes B.returns hml (findClass_of_methodNamed B.named) (fun w h => hts w (List.mem_cons_of_mem _ h)) B.notSynchronized hK hN hX hP hf hD0  (lv_entry [.ref (a 0), .int v1, .int v2] (n := 3) (Nat.le_of_ble_eq_true rfl))
def p_X10_joinFrom_L2 (fu : Nat) (o : Ob)  : Nat → Int32 → Int32 → Int32 → Option (Int32)
  | 0, _, _, _ => none
  | n + 1, v1, v2, v3 =>
    if inb (4 : Int32) 98 = true then if ((o.1 1) (4 : Int32).toNatClampNeg) ≤ v3 then some ((-1) : Int32) else (p_X10_ofJoin fu o v3 (0 : Int32)).bind fun r_15 => if r_15 = v1 then (p_X10_bit fu (o.1 20 0) v3).bind fun r_27 => if r_27 = 0 then if inb v3 5 = true then if ((o.1 18) v3.toNatClampNeg) = 0 then none else if inb v3 5 = true then if (v2 - v2 / ((o.1 18) v3.toNatClampNeg) * ((o.1 18) v3.toNatClampNeg)) = ((o.1 19) v3.toNatClampNeg) then some v3 else p_X10_joinFrom_L2 fu o  n v1 v2 (v3 + 1) else none else none else p_X10_joinFrom_L2 fu o  n v1 v2 (v3 + 1) else p_X10_joinFrom_L2 fu o  n v1 v2 (v3 + 1) else none
def p_X10_joinFrom (fu : Nat) (o : Ob) (v1 : Int32) (v2 : Int32) : Option (Int32) :=
  p_X10_joinFrom_L2 fu o fu v1 v2 0
abbrev rm_X10_joinFrom : Room := { frames := 1, cells := 0, slots := 0, locals := 22 }
set_option maxHeartbeats 4000000 in
set_option maxRecDepth 100000 in
theorem b_X10_joinFrom {p : Program} {l : Launch} {e : Env} {s : State} {m : MethodId} {args : Array Value} {below : List Frame} {meth : Method} {c : Code} {ls : Array Slot} {D : va_G} {ct : Nat → ClassId} {G : GT} (a : Nat → Nat) (fu : Nat) (o : Ob) (v1 : Int32) (v2 : Int32) {r : Int32} (hx : p.tables.exec = Jvm.exec) (hb : c.code = cX10_joinFrom) (hr : meth.sig.returnType = (some .int)) (hml : c.maxLocals = 4) (hown : s.vm.findClass RX10 = some m.cls) (htl : ∀ w ∈ wsL_law, w.before args s = true) (hlocks : meth.locks = false) (hK : va_K D vwCl (tyl ct) s) (hN : ∀ w ∈ NW, va_Nw w s) (hX : SX G s s.heap) (hP0 : va_P D vwCl (cs10 ct a o) s.heap) (hf : p_X10_joinFrom fu o v1 v2 = some r)  (hl : lv_has ls 4 [(0, .ref (a 0)), (1, .int v1), (2, .int v2)]) : W p l e rm_X10_joinFrom s m args below meth c s.heap [] 0 0 (MQ below (Qro (some (.int r))) args s 0 0 (fun _ => False)) (F0 m 0 ls []) := by
  generalize hQQ : MQ below (Qro (some (.int r))) args s 0 0 (fun _ => False) = QQ
  have hP := hP0
  have hL2 : ∀ (n : Nat) (v1 : Int32) (v2 : Int32) (v3 : Int32), ∀ (ls : Array Slot), lv_has ls 4 [(0, .ref (a 0)), (1, .int v1), (2, .int v2), (3, .int v3)] → p_X10_joinFrom_L2 fu o  n v1 v2 v3 = some r → W p l e rm_X10_joinFrom s m args below meth c s.heap [] 0 0 QQ (F0 m 2 ls []) := by
    intro  n
    induction n with
    | zero =>
      intro v1 v2 v3 ls hl hf 
      rw [p_X10_joinFrom_L2] at hf
      cases hf
    | succ n ih =>
      intro v1 v2 v3 ls hl hf 
      rw [p_X10_joinFrom_L2] at hf
      refine lv_iload_n hx hb dX10_joinFrom_2 rfl (lv_at hl 3 rfl) ?_
      refine lv_aload_n hx hb dX10_joinFrom_3 rfl (lv_at hl 0 rfl) ?_
      refine va_get (D := D) (ci := 10) (v := .ref (a 1)) (C := RX10) (T := TX10) (N := 42) hx hb htl inlX10 hown hK hP 0 rfl rfl 1 (by decide) (htl _ wq_7_0) (fun _ h9 => h9) rfl dX10_joinFrom_4 ?_
      refine lv_iconst (v := 4) hx hb dX10_joinFrom_7 (by decide) ?_
      obtain ⟨hi_8, hf⟩ := ob_in hf
      refine va_iald (D := D) (tys := tyl ct) hx hb hK hP 1 0 rfl rfl hi_8 dX10_joinFrom_8 ?_
      refine lv_icmp_ge (tgt := 58) hx hb dX10_joinFrom_9 (by decide) (fun c_9 => ?_) (fun c_9 => ?_)
      · rw [if_pos c_9] at hf
        refine lv_iconst (v := (-1)) hx hb dX10_joinFrom_58 (by decide) ?_
        rw [← hQQ]
        exact rf_i hx hb hr hlocks hf dX10_joinFrom_59
      rw [if_neg c_9] at hf
      refine lv_aload_n hx hb dX10_joinFrom_12 rfl (lv_at hl 0 rfl) ?_
      refine lv_iload_n hx hb dX10_joinFrom_13 rfl (lv_at hl 3 rfl) ?_
      refine lv_iconst (v := 0) hx hb dX10_joinFrom_14 (by decide) ?_
      obtain ⟨r_15, e_15, hf⟩ := ob_bind hf
      have hPX_15 : va_P D vwCl (cs10 ct a o) s.heap := hP
      refine ro_call1 (va_runV (As := [.int v3, .int 0]) (rest := []) ⟨hx, hb, hml, hown, htl⟩ (c_X10_ofJoin l D ct G a fu o v3 (0 : Int32) e_15) (cw_X10_X10_ofJoin htl ⟨Nat.le_of_ble_eq_true rfl, Nat.le_of_ble_eq_true rfl⟩) ⟨Bx_blind, va_recv hK hPX_15 (ci := 10) (q0 := 0) rfl rfl, Bx_pre hPX_15 hK hN hX⟩ rfl rfl hl.1 rfl (lv_room (Nat.le_of_ble_eq_true rfl)) dX10_joinFrom_15 ⟨Nat.zero_le _, Nat.zero_le _⟩) ?_
      refine lv_iload_n hx hb dX10_joinFrom_18 rfl (lv_at hl 1 rfl) ?_
      refine lv_icmp_ne (tgt := 52) hx hb dX10_joinFrom_19 (by decide) (fun c_19 => ?_) (fun c_19 => ?_)
      · rw [if_neg c_19] at hf
        refine lv_iinc (v := (v3 + 1)) (lv' := [(3, .int (v3 + 1)), (0, .ref (a 0)), (1, .int v1), (2, .int v2)]) hx hb dX10_joinFrom_52 hl (k := 3) rfl rfl (by decide) rfl (fun ls hl => ?_)
        refine lv_goto (tgt := 2) hx hb dX10_joinFrom_55 (by decide) ?_
        exact ih v1 v2 (v3 + 1) _ (lv_sub hl [1, 2, 3, 0] rfl) hf 
      rw [if_pos c_19] at hf
      refine lv_aload_n hx hb dX10_joinFrom_22 rfl (lv_at hl 0 rfl) ?_
      refine va_get (D := D) (ci := 10) (v := .int (o.1 20 0)) (C := RX10) (T := TX10) (N := 42) hx hb htl inlX10 hown hK hP 0 rfl rfl 20 (by decide) (htl _ wq_23_1) (fun _ h9 => h9) rfl dX10_joinFrom_23 ?_
      refine lv_iload_n hx hb dX10_joinFrom_26 rfl (lv_at hl 3 rfl) ?_
      obtain ⟨r_27, e_27, hf⟩ := ob_bind hf
      have hPX_27 : va_P D vwCl ([]) s.heap := P_nil
      refine ro_call1 (va_runS (As := [.int (o.1 20 0), .int v3]) (rest := []) ⟨hx, hb, hml, hown, htl⟩ (c_X10_bit l D ct G fu (o.1 20 0) v3 e_27) (cw_X10_X10_bit htl ⟨Nat.le_of_ble_eq_true rfl, Nat.le_of_ble_eq_true rfl⟩) ⟨Bx_blind, Bx_pre hPX_27 hK hN hX⟩ rfl rfl hl.1 rfl (lv_room (Nat.le_of_ble_eq_true rfl)) dX10_joinFrom_27 ⟨Nat.zero_le _, Nat.zero_le _⟩) ?_
      refine lv_if_ne (tgt := 52) hx hb dX10_joinFrom_30 (by decide) (fun c_30 => ?_) (fun c_30 => ?_)
      · rw [if_neg c_30] at hf
        refine lv_iinc (v := (v3 + 1)) (lv' := [(3, .int (v3 + 1)), (0, .ref (a 0)), (1, .int v1), (2, .int v2)]) hx hb dX10_joinFrom_52 hl (k := 3) rfl rfl (by decide) rfl (fun ls hl => ?_)
        refine lv_goto (tgt := 2) hx hb dX10_joinFrom_55 (by decide) ?_
        exact ih v1 v2 (v3 + 1) _ (lv_sub hl [1, 2, 3, 0] rfl) hf 
      rw [if_pos c_30] at hf
      refine lv_iload_n hx hb dX10_joinFrom_33 rfl (lv_at hl 2 rfl) ?_
      refine lv_aload_n hx hb dX10_joinFrom_34 rfl (lv_at hl 0 rfl) ?_
      refine va_get (D := D) (ci := 10) (v := .ref (a 10)) (C := RX10) (T := TX10) (N := 42) hx hb htl inlX10 hown hK hP 0 rfl rfl 18 (by decide) (htl _ wq_7_12) (fun _ h9 => h9) rfl dX10_joinFrom_35 ?_
      refine lv_iload_n hx hb dX10_joinFrom_38 rfl (lv_at hl 3 rfl) ?_
      obtain ⟨hi_39, hf⟩ := ob_in hf
      refine va_iald (D := D) (tys := tyl ct) hx hb hK hP 10 0 rfl rfl hi_39 dX10_joinFrom_39 ?_
      obtain ⟨hne_40, hf⟩ := ob_ne hf
      refine lv_irem hx hb dX10_joinFrom_40 hne_40 ?_
      refine lv_aload_n hx hb dX10_joinFrom_41 rfl (lv_at hl 0 rfl) ?_
      refine va_get (D := D) (ci := 10) (v := .ref (a 11)) (C := RX10) (T := TX10) (N := 42) hx hb htl inlX10 hown hK hP 0 rfl rfl 19 (by decide) (htl _ wq_7_13) (fun _ h9 => h9) rfl dX10_joinFrom_42 ?_
      refine lv_iload_n hx hb dX10_joinFrom_45 rfl (lv_at hl 3 rfl) ?_
      obtain ⟨hi_46, hf⟩ := ob_in hf
      refine va_iald (D := D) (tys := tyl ct) hx hb hK hP 11 0 rfl rfl hi_46 dX10_joinFrom_46 ?_
      refine lv_icmp_ne (tgt := 52) hx hb dX10_joinFrom_47 (by decide) (fun c_47 => ?_) (fun c_47 => ?_)
      · rw [if_neg c_47] at hf
        refine lv_iinc (v := (v3 + 1)) (lv' := [(3, .int (v3 + 1)), (0, .ref (a 0)), (1, .int v1), (2, .int v2)]) hx hb dX10_joinFrom_52 hl (k := 3) rfl rfl (by decide) rfl (fun ls hl => ?_)
        refine lv_goto (tgt := 2) hx hb dX10_joinFrom_55 (by decide) ?_
        exact ih v1 v2 (v3 + 1) _ (lv_sub hl [1, 2, 3, 0] rfl) hf 
      rw [if_pos c_47] at hf
      refine lv_iload_n hx hb dX10_joinFrom_50 rfl (lv_at hl 3 rfl) ?_
      rw [← hQQ]
      exact rf_i hx hb hr hlocks hf dX10_joinFrom_51
  rw [p_X10_joinFrom] at hf
  refine lv_iconst (v := 0) hx hb dX10_joinFrom_0 (by decide) ?_
  refine lv_istore_n (lv' := [(3, .int 0), (0, .ref (a 0)), (1, .int v1), (2, .int v2)]) hx hb dX10_joinFrom_1 rfl hl (by decide) rfl (fun ls hl => ?_)
  exact hL2 fu v1 v2 0 _ (lv_sub hl [1, 2, 3, 0] rfl) hf 
theorem c_X10_joinFrom (l : Launch) (D : va_G) (ct : Nat → ClassId) (G : GT) (a : Nat → Nat) (fu : Nat) (o : Ob) (v1 : Int32) (v2 : Int32) {r : Int32} (hf : p_X10_joinFrom fu o v1 v2 = some r)  : Met l yX10_joinFrom (.code yX10_joinFrom cX10_joinFrom 4 (some .int) :: wsL_law) rm_X10_joinFrom (va_Pc [.ref (a 0), .int v1, .int v2] (Bx D ct G (cs10 ct a o))) (Qro (some (.int r))) 0 0 (fun _ => False) := by
  refine Met.ofW (cc := cX10_joinFrom) (maxL := 4) (ret := (some .int)) (by decide) rfl ?_
  intro p e s m args below meth c s₁ B hml hv
  obtain ⟨rfl, hP, hK, hN, hX⟩ := hv
  have hts := atoms_spec (ws := .code yX10_joinFrom cX10_joinFrom 4 (some .int) :: wsL_law) B.pre
  rw [lg_entry_eq]
  exact b_X10_joinFrom a fu o v1 v2 B.exec B.bytes B.returns hml (findClass_of_methodNamed B.named) (fun w h => hts w (List.mem_cons_of_mem _ h)) B.notSynchronized hK hN hX hP hf   (lv_entry [.ref (a 0), .int v1, .int v2] (n := 4) (Nat.le_of_ble_eq_true rfl))
theorem hd_X10_joinFrom : yX10_joinFrom.cls ≠ "java/lang/invoke/MethodHandle" ∧ yX10_joinFrom.cls ≠ "java/lang/invoke/VarHandle" ∧ (parseMethodDescriptor yX10_joinFrom.desc).map (fun d => d.parameters.length) = some 2 := by decide +kernel
theorem cw_X10_X10_joinFrom {R : Room} {s : State} {args : Array Value} (ht : ∀ w ∈ wsL_law, w.before args s = true) (hR : rm_X10_joinFrom.frames + 1 ≤ R.frames ∧ 8 + (4 + 11) + rm_X10_joinFrom.locals ≤ R.locals) : CallW R s args RX10 RX10 277 yX10_joinFrom cX10_joinFrom 4 (some .int) ((.code yX10_joinFrom cX10_joinFrom 4 (some .int)) :: wsL_law) rm_X10_joinFrom 0 0 2 := cwV 2 ht (GV wq_27_5 wq_27_6 wq_27_7 wq_1_5 wq_27_8) rfl rfl rfl ⟨rfl, hd_X10_joinFrom⟩ hR
def p_X10_goStick_L40 (fu : Nat) (c61 : Ob → Int32 → Int32 → Int32 → Option (Ob)) : Nat → Ob → Int32 → Int32 → Int32 → Int32 → Option (Ob)
  | 0, _, _, _, _, _ => none
  | n + 1, oz, v2, v3, v4, v5 =>
    if (60 : Int32) < v5 then c61 oz v2 v3 v4 else if inb v5 61 = true then p_X10_goStick_L40 fu c61 n (oA oz 23 (upd (oz.1 23) v5.toNatClampNeg (vp_nar .boolean (0 : Int32)))) v2 v3 v4 (v5 + 1) else none
def p_X10_goStick_L64 (fu : Nat) (c85 : Ob → Int32 → Int32 → Int32 → Option (Ob)) : Nat → Ob → Int32 → Int32 → Int32 → Int32 → Option (Ob)
  | 0, _, _, _, _, _ => none
  | n + 1, oz, v2, v3, v4, v5 =>
    if v2 ≤ v5 then c85 oz v2 v3 v4 else if inb v5 61 = true then p_X10_goStick_L64 fu c85 n (oA oz 22 (upd (oz.1 22) v5.toNatClampNeg ((-4) : Int32))) v2 v3 v4 (v5 + 1) else none
def p_X10_goStick_J224 (fu : Nat) (c88 : Ob → Int32 → Int32 → Int32 → Option (Ob)) (oz : Ob) (v5 : Int32) (v7 : Int32) (s1 : Int32) (s2 : Int32) : Option (Ob) :=
    if v5 = (60 : Int32) then some (oI oz 26 (s1 ||| s2)) else if inb (v5 + 1) 61 = true then if v7 = ((-1) : Int32) then c88 (oA (oI oz 26 (s1 ||| s2)) 23 (upd ((oI oz 26 (s1 ||| s2)).1 23) ((v5 + 1).toNatClampNeg) (vp_nar .boolean (1 : Int32)))) v7 0 (v5 + 1) else (p_X10_bit fu ((oA (oI oz 26 (s1 ||| s2)) 23 (upd ((oI oz 26 (s1 ||| s2)).1 23) ((v5 + 1).toNatClampNeg) (vp_nar .boolean (1 : Int32)))).1 21 0) v7).bind fun r_261 => if r_261 = (1 : Int32) then c88 (oA (oI oz 26 (s1 ||| s2)) 23 (upd ((oI oz 26 (s1 ||| s2)).1 23) ((v5 + 1).toNatClampNeg) (vp_nar .boolean (1 : Int32)))) (-3) 0 (v5 + 1) else c88 (oA (oI oz 26 (s1 ||| s2)) 23 (upd ((oI oz 26 (s1 ||| s2)).1 23) ((v5 + 1).toNatClampNeg) (vp_nar .boolean (1 : Int32)))) v7 0 (v5 + 1) else none
def p_X10_goStick_J201 (fu : Nat) (c88 : Ob → Int32 → Int32 → Int32 → Option (Ob)) (oz : Ob) (v5 : Int32) (v6 : Int32) (v7 : Int32) (s1 : Int32) (s2 : Int32) : Option (Ob) :=
    if v6 = ((-1) : Int32) then p_X10_goStick_J224 fu c88 (oI oz 25 (s1 + s2)) v5 v7 ((oI oz 25 (s1 + s2)).1 26 0) 0 else p_X10_goStick_J224 fu c88 (oI oz 25 (s1 + s2)) v5 v7 ((oI oz 25 (s1 + s2)).1 26 0) ((1 : Int32) <<< (v6 &&& 31))
def p_X10_goStick_J173 (fu : Nat) (c88 : Ob → Int32 → Int32 → Int32 → Option (Ob)) (oz : Ob) (v5 : Int32) (v6 : Int32) (s0 : Int32) : Option (Ob) :=
    if v6 = ((-1) : Int32) then p_X10_goStick_J201 fu c88 (oI oz 24 ((oz.1 24 0) + 1)) v5 v6 s0 ((oI oz 24 ((oz.1 24 0) + 1)).1 25 0) 0 else p_X10_goStick_J201 fu c88 (oI oz 24 ((oz.1 24 0) + 1)) v5 v6 s0 ((oI oz 24 ((oz.1 24 0) + 1)).1 25 0) 1
def p_X10_goStick_L88 (fu : Nat)  : Nat → Ob → Int32 → Int32 → Int32 → Option (Ob)
  | 0, _, _, _, _ => none
  | n + 1, oz, v3, v4, v5 =>
    if (60 : Int32) < v5 then some oz else if inb v5 61 = true then if v3 < 0 then p_X10_goStick_L88 fu  n (oA oz 22 (upd (oz.1 22) v5.toNatClampNeg v3)) v3 v4 (v5 + 1) else if inb v5 61 = true then (p_X10_bit fu (((oA oz 22 (upd (oz.1 22) v5.toNatClampNeg v3)).1 17) v5.toNatClampNeg) v3).bind fun r_115 => if r_115 = (1 : Int32) then p_X10_goStick_L88 fu  n (oA oz 22 (upd (oz.1 22) v5.toNatClampNeg v3)) v3 v4 (v5 + 1) else (p_X10_of fu (oA oz 22 (upd (oz.1 22) v5.toNatClampNeg v3)) v3 (1 : Int32)).bind fun r_133 => if r_133 ≤ (v4 + 1) then (p_X10_joinFrom fu (oA oz 22 (upd (oz.1 22) v5.toNatClampNeg v3)) v3 v5).bind fun r_146 => if r_146 = ((-1) : Int32) then (p_X10_of fu (oA oz 22 (upd (oz.1 22) v5.toNatClampNeg v3)) v3 (0 : Int32)).bind fun r_160 => p_X10_goStick_J173 fu (fun oz v3 v4 v5 => p_X10_goStick_L88 fu  n oz v3 v4 v5) (oA oz 22 (upd (oz.1 22) v5.toNatClampNeg v3)) v5 r_146 r_160 else (p_X10_ofJoin fu (oA oz 22 (upd (oz.1 22) v5.toNatClampNeg v3)) r_146 (1 : Int32)).bind fun r_170 => p_X10_goStick_J173 fu (fun oz v3 v4 v5 => p_X10_goStick_L88 fu  n oz v3 v4 v5) (oA oz 22 (upd (oz.1 22) v5.toNatClampNeg v3)) v5 r_146 r_170 else p_X10_goStick_L88 fu  n (oA oz 22 (upd (oz.1 22) v5.toNatClampNeg v3)) v3 (v4 + 1) (v5 + 1) else none else none
def p_X10_goStick_J18 (fu : Nat)  (oz : Ob) (v2 : Int32) (s0 : Int32) : Option (Ob) :=
    p_X10_goStick_L40 fu (fun oz v2 v3 v4 => p_X10_goStick_L64 fu (fun oz v2 v3 v4 => p_X10_goStick_L88 fu fu oz v3 v4 v2) fu oz v2 v3 v4 0) fu (oI (oI (oI oz 24 (0 : Int32)) 25 (0 : Int32)) 26 (0 : Int32)) v2 s0 0 0
def p_X10_goStick (fu : Nat) (o : Ob) (v1 : Int32) (v2 : Int32) : Option (Ob) :=
  (p_X10_bit fu (o.1 21 0) v1).bind fun r_5 => if r_5 = (1 : Int32) then p_X10_goStick_J18 fu o v2 (-3) else p_X10_goStick_J18 fu o v2 v1
abbrev rm_X10_goStick : Room := { frames := 2, cells := 0, slots := 0, locals := 45 }
set_option maxHeartbeats 4000000 in
set_option maxRecDepth 100000 in
theorem b_X10_goStick {p : Program} {l : Launch} {e : Env} {s : State} {m : MethodId} {args : Array Value} {below : List Frame} {meth : Method} {c : Code} {ls : Array Slot} {D : va_G} {ct : Nat → ClassId} {G : GT} (a : Nat → Nat) (fu : Nat) (o : Ob) (v1 : Int32) (v2 : Int32) {r : Ob} (hx : p.tables.exec = Jvm.exec) (hb : c.code = cX10_goStick) (hr : meth.sig.returnType = none) (hml : c.maxLocals = 8) (hown : s.vm.findClass RX10 = some m.cls) (htl : ∀ w ∈ wsL_law, w.before args s = true) (hlocks : meth.locks = false) (hK : va_K D vwCl (tyl ct) s) (hN : ∀ w ∈ NW, va_Nw w s) (hX : SX G s s.heap) (hP0 : va_P D vwCl (cs10 ct a o) s.heap) (hf : p_X10_goStick fu o v1 v2 = some r) (hD0 : va_D (GE G) (cs10 ct a o))  (hl : lv_has ls 8 [(0, .ref (a 0)), (1, .int v1), (2, .int v2)]) : W p l e rm_X10_goStick s m args below meth c s.heap [] 0 0 (MQ below (Qwr none (fun H => va_P D vwCl (cs10 ct a r) H) (wA (cs10 ct a o))) args s 0 0 (wA (cs10 ct a o))) (F0 m 0 ls []) := by
  generalize hQQ : MQ below (Qwr none (fun H => va_P D vwCl (cs10 ct a r) H) (wA (cs10 ct a o))) args s 0 0 (wA (cs10 ct a o)) = QQ
  have hDx : ∀ (oy : Ob), va_D (GE G) (cs10 ct a oy) := fun oy => D_cr hD0 rfl
  have hDW : ∀ (oy : Ob), va_D (wA (cs10 ct a o)) (cs10 ct a oy) := fun oy => D_cr (D_self hD0) rfl
  have hGE : ∀ q, wA (cs10 ct a o) q → GE G q := wA_GE hD0
  have hP := hP0
  have hS : va_S (wA (cs10 ct a o)) s.heap s.heap [] := va_S.rf
  have hL40 : ∀ (c61 : Ob → Int32 → Int32 → Int32 → Option (Ob)) (n : Nat) (oz : Ob) (v2 : Int32) (v3 : Int32) (v4 : Int32) (v5 : Int32), ∀ (H : Heap) (locs : List Loc) (ls : Array Slot), va_P D vwCl (cs10 ct a oz) H → va_S (wA (cs10 ct a o)) s.heap H locs → lv_has ls 8 [(0, .ref (a 0)), (2, .int v2), (3, .int v3), (4, .int v4), (5, .int v5)] → p_X10_goStick_L40 fu c61 n oz v2 v3 v4 v5 = some r → (∀ (oz : Ob) (v2 : Int32) (v3 : Int32) (v4 : Int32), ∀ (H : Heap) (locs : List Loc) (ls : Array Slot), va_P D vwCl (cs10 ct a oz) H → va_S (wA (cs10 ct a o)) s.heap H locs → lv_has ls 8 [(0, .ref (a 0)), (2, .int v2), (3, .int v3), (4, .int v4)] → c61 oz v2 v3 v4 = some r → W p l e rm_X10_goStick s m args below meth c H locs 0 0 QQ (F0 m 61 ls [])) → W p l e rm_X10_goStick s m args below meth c H locs 0 0 QQ (F0 m 40 ls []) := by
    intro c61 n
    induction n with
    | zero =>
      intro oz v2 v3 v4 v5 H locs ls hP hS hl hf k61
      rw [p_X10_goStick_L40] at hf
      cases hf
    | succ n ih =>
      intro oz v2 v3 v4 v5 H locs ls hP hS hl hf k61
      rw [p_X10_goStick_L40] at hf
      refine lv_iload hx hb dX10_goStick_40 (lv_at hl 4 rfl) ?_
      refine lv_bipush (v := 60) hx hb dX10_goStick_42 (by decide) ?_
      refine lv_icmp_gt (tgt := 61) hx hb dX10_goStick_44 (by decide) (fun c_44 => ?_) (fun c_44 => ?_)
      · rw [if_pos c_44] at hf
        exact k61 oz v2 v3 v4 _ _ _ hP hS (lv_sub hl [0, 1, 2, 3] rfl) hf
      rw [if_neg c_44] at hf
      refine lv_aload_n hx hb dX10_goStick_47 rfl (lv_at hl 0 rfl) ?_
      refine va_get (D := D) (ci := 10) (v := .ref (a 13)) (C := RX10) (T := TX10) (N := 42) hx hb htl inlX10 hown hK hP 0 rfl rfl 23 (by decide) (htl _ wq_7_15) (fun _ h9 => h9) rfl dX10_goStick_48 ?_
      refine lv_iload hx hb dX10_goStick_51 (lv_at hl 4 rfl) ?_
      refine lv_iconst (v := 0) hx hb dX10_goStick_53 (by decide) ?_
      obtain ⟨hi_54, hf⟩ := ob_in hf
      refine va_zast (D := D) (tys := tyl ct) hx hb hK hP (hDW oz) hS 13 3 rfl rfl hi_54 dX10_goStick_54 (fun H_54 locs_54 hP _ hS => ?_)
      have hP : va_P D vwCl (cs10 ct a (oA oz 23 (upd (oz.1 23) v5.toNatClampNeg (vp_nar .boolean (0 : Int32))))) H_54 := sa10_23 hP
      refine lv_iinc (v := (v5 + 1)) (lv' := [(5, .int (v5 + 1)), (0, .ref (a 0)), (2, .int v2), (3, .int v3), (4, .int v4)]) hx hb dX10_goStick_55 hl (k := 4) rfl rfl (by decide) rfl (fun ls hl => ?_)
      refine lv_goto (tgt := 40) hx hb dX10_goStick_58 (by decide) ?_
      exact ih (oA oz 23 (upd (oz.1 23) v5.toNatClampNeg (vp_nar .boolean (0 : Int32)))) v2 v3 v4 (v5 + 1) _ _ _ hP hS (lv_sub hl [1, 2, 3, 4, 0] rfl) hf k61
  have hL64 : ∀ (c85 : Ob → Int32 → Int32 → Int32 → Option (Ob)) (n : Nat) (oz : Ob) (v2 : Int32) (v3 : Int32) (v4 : Int32) (v5 : Int32), ∀ (H : Heap) (locs : List Loc) (ls : Array Slot), va_P D vwCl (cs10 ct a oz) H → va_S (wA (cs10 ct a o)) s.heap H locs → lv_has ls 8 [(0, .ref (a 0)), (2, .int v2), (3, .int v3), (4, .int v4), (5, .int v5)] → p_X10_goStick_L64 fu c85 n oz v2 v3 v4 v5 = some r → (∀ (oz : Ob) (v2 : Int32) (v3 : Int32) (v4 : Int32), ∀ (H : Heap) (locs : List Loc) (ls : Array Slot), va_P D vwCl (cs10 ct a oz) H → va_S (wA (cs10 ct a o)) s.heap H locs → lv_has ls 8 [(0, .ref (a 0)), (2, .int v2), (3, .int v3), (4, .int v4)] → c85 oz v2 v3 v4 = some r → W p l e rm_X10_goStick s m args below meth c H locs 0 0 QQ (F0 m 85 ls [])) → W p l e rm_X10_goStick s m args below meth c H locs 0 0 QQ (F0 m 64 ls []) := by
    intro c85 n
    induction n with
    | zero =>
      intro oz v2 v3 v4 v5 H locs ls hP hS hl hf k85
      rw [p_X10_goStick_L64] at hf
      cases hf
    | succ n ih =>
      intro oz v2 v3 v4 v5 H locs ls hP hS hl hf k85
      rw [p_X10_goStick_L64] at hf
      refine lv_iload hx hb dX10_goStick_64 (lv_at hl 4 rfl) ?_
      refine lv_iload_n hx hb dX10_goStick_66 rfl (lv_at hl 1 rfl) ?_
      refine lv_icmp_ge (tgt := 85) hx hb dX10_goStick_67 (by decide) (fun c_67 => ?_) (fun c_67 => ?_)
      · rw [if_pos c_67] at hf
        exact k85 oz v2 v3 v4 _ _ _ hP hS (lv_sub hl [0, 1, 2, 3] rfl) hf
      rw [if_neg c_67] at hf
      refine lv_aload_n hx hb dX10_goStick_70 rfl (lv_at hl 0 rfl) ?_
      refine va_get (D := D) (ci := 10) (v := .ref (a 12)) (C := RX10) (T := TX10) (N := 42) hx hb htl inlX10 hown hK hP 0 rfl rfl 22 (by decide) (htl _ wq_7_14) (fun _ h9 => h9) rfl dX10_goStick_71 ?_
      refine lv_iload hx hb dX10_goStick_74 (lv_at hl 4 rfl) ?_
      refine lv_bipush (v := (-4)) hx hb dX10_goStick_76 (by decide) ?_
      obtain ⟨hi_78, hf⟩ := ob_in hf
      refine va_iast (D := D) (tys := tyl ct) hx hb hK hP (hDW oz) hS 12 0 rfl rfl hi_78 dX10_goStick_78 (fun H_78 locs_78 hP _ hS => ?_)
      have hP : va_P D vwCl (cs10 ct a (oA oz 22 (upd (oz.1 22) v5.toNatClampNeg ((-4) : Int32)))) H_78 := sa10_22 hP
      refine lv_iinc (v := (v5 + 1)) (lv' := [(5, .int (v5 + 1)), (0, .ref (a 0)), (2, .int v2), (3, .int v3), (4, .int v4)]) hx hb dX10_goStick_79 hl (k := 4) rfl rfl (by decide) rfl (fun ls hl => ?_)
      refine lv_goto (tgt := 64) hx hb dX10_goStick_82 (by decide) ?_
      exact ih (oA oz 22 (upd (oz.1 22) v5.toNatClampNeg ((-4) : Int32))) v2 v3 v4 (v5 + 1) _ _ _ hP hS (lv_sub hl [1, 2, 3, 4, 0] rfl) hf k85
  have hJ224 : ∀ (c88 : Ob → Int32 → Int32 → Int32 → Option (Ob)) (oz : Ob) (v5 : Int32) (v7 : Int32) (s1 : Int32) (s2 : Int32), ∀ (H : Heap) (locs : List Loc) (ls : Array Slot), va_P D vwCl (cs10 ct a oz) H → va_S (wA (cs10 ct a o)) s.heap H locs → lv_has ls 8 [(0, .ref (a 0)), (5, .int v5), (7, .int v7)] → p_X10_goStick_J224 fu c88 oz v5 v7 s1 s2 = some r → (∀ (oz : Ob) (v3 : Int32) (v4 : Int32) (v5 : Int32), ∀ (H : Heap) (locs : List Loc) (ls : Array Slot), va_P D vwCl (cs10 ct a oz) H → va_S (wA (cs10 ct a o)) s.heap H locs → lv_has ls 8 [(0, .ref (a 0)), (3, .int v3), (4, .int v4), (5, .int v5)] → c88 oz v3 v4 v5 = some r → W p l e rm_X10_goStick s m args below meth c H locs 0 0 QQ (F0 m 88 ls [])) → W p l e rm_X10_goStick s m args below meth c H locs 0 0 QQ (F0 m 224 ls [.int s2, .int s1, .ref (a 0)]) := by
    intro c88 oz v5 v7 s1 s2 H locs ls hP hS hl hf k88
    rw [p_X10_goStick_J224] at hf
    refine lv_ior hx hb dX10_goStick_224 ?_
    refine va_put (D := D) (ci := 10) (v := .int (s1 ||| s2)) (ty := .int) (C := RX10) (T := TX10) (N := 42) hx hb htl inlX10 tyX10 tyX10_ok nmX10 hown hK hP (hDW oz) hS 0 rfl rfl 26 (by decide) (htl _ wq_27_4) (fun _ h9 => h9) rfl (tyX10_ok 26 (by decide)) rfl rfl (Nat.le_of_ble_eq_true rfl) dX10_goStick_225 (fun H_225 locs_225 hP _ hS => ?_)
    have hP : va_P D vwCl (cs10 ct a (oI oz 26 (s1 ||| s2))) H_225 := st10_26 hP
    refine lv_iload hx hb dX10_goStick_228 (lv_at hl 1 rfl) ?_
    refine lv_bipush (v := 60) hx hb dX10_goStick_230 (by decide) ?_
    refine lv_icmp_ne (tgt := 236) hx hb dX10_goStick_232 (by decide) (fun c_232 => ?_) (fun c_232 => ?_)
    rotate_left 1
    · rw [if_pos c_232] at hf
      rw [← hQQ]
      cases hf
      exact rw_v hx hb hr hlocks hP hS dX10_goStick_235
    rw [if_neg c_232] at hf
    refine lv_iconst (v := 0) hx hb dX10_goStick_236 (by decide) ?_
    refine lv_istore (lv' := [(4, .int 0), (0, .ref (a 0)), (5, .int v5), (7, .int v7)]) hx hb dX10_goStick_237 hl (by decide) rfl (fun ls hl => ?_)
    refine lv_aload_n hx hb dX10_goStick_239 rfl (lv_at hl 1 rfl) ?_
    refine va_get (D := D) (ci := 10) (v := .ref (a 13)) (C := RX10) (T := TX10) (N := 42) hx hb htl inlX10 hown hK hP 0 rfl rfl 23 (by decide) (htl _ wq_7_15) (fun _ h9 => h9) rfl dX10_goStick_240 ?_
    refine lv_iload hx hb dX10_goStick_243 (lv_at hl 2 rfl) ?_
    refine lv_iconst (v := 1) hx hb dX10_goStick_245 (by decide) ?_
    refine lv_iadd hx hb dX10_goStick_246 ?_
    refine lv_iconst (v := 1) hx hb dX10_goStick_247 (by decide) ?_
    obtain ⟨hi_248, hf⟩ := ob_in hf
    refine va_zast (D := D) (tys := tyl ct) hx hb hK hP (hDW (oI oz 26 (s1 ||| s2))) hS 13 3 rfl rfl hi_248 dX10_goStick_248 (fun H_248 locs_248 hP _ hS => ?_)
    have hP : va_P D vwCl (cs10 ct a (oA (oI oz 26 (s1 ||| s2)) 23 (upd ((oI oz 26 (s1 ||| s2)).1 23) ((v5 + 1).toNatClampNeg) (vp_nar .boolean (1 : Int32))))) H_248 := sa10_23 hP
    refine lv_iload hx hb dX10_goStick_249 (lv_at hl 3 rfl) ?_
    refine lv_iconst (v := (-1)) hx hb dX10_goStick_251 (by decide) ?_
    refine lv_icmp_eq (tgt := 273) hx hb dX10_goStick_252 (by decide) (fun c_252 => ?_) (fun c_252 => ?_)
    · rw [if_pos c_252] at hf
      refine lv_iload hx hb dX10_goStick_273 (lv_at hl 3 rfl) ?_
      refine lv_istore_n (lv' := [(3, .int v7), (4, .int 0), (0, .ref (a 0)), (5, .int v5), (7, .int v7)]) hx hb dX10_goStick_275 rfl hl (by decide) rfl (fun ls hl => ?_)
      refine lv_iinc (v := (v5 + 1)) (lv' := [(5, .int (v5 + 1)), (3, .int v7), (4, .int 0), (0, .ref (a 0)), (7, .int v7)]) hx hb dX10_goStick_276 hl (k := 3) rfl rfl (by decide) rfl (fun ls hl => ?_)
      refine lv_goto (tgt := 88) hx hb dX10_goStick_279 (by decide) ?_
      exact k88 (oA (oI oz 26 (s1 ||| s2)) 23 (upd ((oI oz 26 (s1 ||| s2)).1 23) ((v5 + 1).toNatClampNeg) (vp_nar .boolean (1 : Int32)))) v7 0 (v5 + 1) _ _ _ hP hS (lv_sub hl [3, 1, 2, 0] rfl) hf
    rw [if_neg c_252] at hf
    refine lv_aload_n hx hb dX10_goStick_255 rfl (lv_at hl 1 rfl) ?_
    refine va_get (D := D) (ci := 10) (v := .int ((oA (oI oz 26 (s1 ||| s2)) 23 (upd ((oI oz 26 (s1 ||| s2)).1 23) ((v5 + 1).toNatClampNeg) (vp_nar .boolean (1 : Int32)))).1 21 0)) (C := RX10) (T := TX10) (N := 42) hx hb htl inlX10 hown hK hP 0 rfl rfl 21 (by decide) (htl _ wq_23_2) (fun _ h9 => h9) rfl dX10_goStick_256 ?_
    refine lv_iload hx hb dX10_goStick_259 (lv_at hl 3 rfl) ?_
    obtain ⟨r_261, e_261, hf⟩ := ob_bind hf
    have hPX_261 : va_P D vwCl ([]) H_248 := P_nil
    refine ro_call1 (va_runS (As := [.int ((oA (oI oz 26 (s1 ||| s2)) 23 (upd ((oI oz 26 (s1 ||| s2)).1 23) ((v5 + 1).toNatClampNeg) (vp_nar .boolean (1 : Int32)))).1 21 0), .int v7]) (rest := []) ⟨hx, hb, hml, hown, htl⟩ (c_X10_bit l D ct G fu ((oA (oI oz 26 (s1 ||| s2)) 23 (upd ((oI oz 26 (s1 ||| s2)).1 23) ((v5 + 1).toNatClampNeg) (vp_nar .boolean (1 : Int32)))).1 21 0) v7 e_261) (cw_X10_X10_bit htl ⟨Nat.le_of_ble_eq_true rfl, Nat.le_of_ble_eq_true rfl⟩) ⟨Bx_blind, Bx_pre hPX_261 hK hN (hX.stay hS hGE)⟩ rfl rfl hl.1 rfl (lv_room (Nat.le_of_ble_eq_true rfl)) dX10_goStick_261 ⟨Nat.zero_le _, Nat.zero_le _⟩) ?_
    refine lv_iconst (v := 1) hx hb dX10_goStick_264 (by decide) ?_
    refine lv_icmp_ne (tgt := 273) hx hb dX10_goStick_265 (by decide) (fun c_265 => ?_) (fun c_265 => ?_)
    · rw [if_neg c_265] at hf
      refine lv_iload hx hb dX10_goStick_273 (lv_at hl 3 rfl) ?_
      refine lv_istore_n (lv' := [(3, .int v7), (4, .int 0), (0, .ref (a 0)), (5, .int v5), (7, .int v7)]) hx hb dX10_goStick_275 rfl hl (by decide) rfl (fun ls hl => ?_)
      refine lv_iinc (v := (v5 + 1)) (lv' := [(5, .int (v5 + 1)), (3, .int v7), (4, .int 0), (0, .ref (a 0)), (7, .int v7)]) hx hb dX10_goStick_276 hl (k := 3) rfl rfl (by decide) rfl (fun ls hl => ?_)
      refine lv_goto (tgt := 88) hx hb dX10_goStick_279 (by decide) ?_
      exact k88 (oA (oI oz 26 (s1 ||| s2)) 23 (upd ((oI oz 26 (s1 ||| s2)).1 23) ((v5 + 1).toNatClampNeg) (vp_nar .boolean (1 : Int32)))) v7 0 (v5 + 1) _ _ _ hP hS (lv_sub hl [3, 1, 2, 0] rfl) hf
    rw [if_pos c_265] at hf
    refine lv_bipush (v := (-3)) hx hb dX10_goStick_268 (by decide) ?_
    refine lv_goto (tgt := 275) hx hb dX10_goStick_270 (by decide) ?_
    refine lv_istore_n (lv' := [(3, .int (-3)), (4, .int 0), (0, .ref (a 0)), (5, .int v5), (7, .int v7)]) hx hb dX10_goStick_275 rfl hl (by decide) rfl (fun ls hl => ?_)
    refine lv_iinc (v := (v5 + 1)) (lv' := [(5, .int (v5 + 1)), (3, .int (-3)), (4, .int 0), (0, .ref (a 0)), (7, .int v7)]) hx hb dX10_goStick_276 hl (k := 3) rfl rfl (by decide) rfl (fun ls hl => ?_)
    refine lv_goto (tgt := 88) hx hb dX10_goStick_279 (by decide) ?_
    exact k88 (oA (oI oz 26 (s1 ||| s2)) 23 (upd ((oI oz 26 (s1 ||| s2)).1 23) ((v5 + 1).toNatClampNeg) (vp_nar .boolean (1 : Int32)))) (-3) 0 (v5 + 1) _ _ _ hP hS (lv_sub hl [3, 1, 2, 0] rfl) hf
  have hJ201 : ∀ (c88 : Ob → Int32 → Int32 → Int32 → Option (Ob)) (oz : Ob) (v5 : Int32) (v6 : Int32) (v7 : Int32) (s1 : Int32) (s2 : Int32), ∀ (H : Heap) (locs : List Loc) (ls : Array Slot), va_P D vwCl (cs10 ct a oz) H → va_S (wA (cs10 ct a o)) s.heap H locs → lv_has ls 8 [(0, .ref (a 0)), (5, .int v5), (6, .int v6), (7, .int v7)] → p_X10_goStick_J201 fu c88 oz v5 v6 v7 s1 s2 = some r → (∀ (oz : Ob) (v3 : Int32) (v4 : Int32) (v5 : Int32), ∀ (H : Heap) (locs : List Loc) (ls : Array Slot), va_P D vwCl (cs10 ct a oz) H → va_S (wA (cs10 ct a o)) s.heap H locs → lv_has ls 8 [(0, .ref (a 0)), (3, .int v3), (4, .int v4), (5, .int v5)] → c88 oz v3 v4 v5 = some r → W p l e rm_X10_goStick s m args below meth c H locs 0 0 QQ (F0 m 88 ls [])) → W p l e rm_X10_goStick s m args below meth c H locs 0 0 QQ (F0 m 201 ls [.int s2, .int s1, .ref (a 0)]) := by
    intro c88 oz v5 v6 v7 s1 s2 H locs ls hP hS hl hf k88
    rw [p_X10_goStick_J201] at hf
    refine lv_iadd hx hb dX10_goStick_201 ?_
    refine va_put (D := D) (ci := 10) (v := .int (s1 + s2)) (ty := .int) (C := RX10) (T := TX10) (N := 42) hx hb htl inlX10 tyX10 tyX10_ok nmX10 hown hK hP (hDW oz) hS 0 rfl rfl 25 (by decide) (htl _ wq_27_3) (fun _ h9 => h9) rfl (tyX10_ok 25 (by decide)) rfl rfl (Nat.le_of_ble_eq_true rfl) dX10_goStick_202 (fun H_202 locs_202 hP _ hS => ?_)
    have hP : va_P D vwCl (cs10 ct a (oI oz 25 (s1 + s2))) H_202 := st10_25 hP
    refine lv_aload_n hx hb dX10_goStick_205 rfl (lv_at hl 0 rfl) ?_
    refine lv_dup hx hb dX10_goStick_206 rfl ?_
    refine va_get (D := D) (ci := 10) (v := .int ((oI oz 25 (s1 + s2)).1 26 0)) (C := RX10) (T := TX10) (N := 42) hx hb htl inlX10 hown hK hP 0 rfl rfl 26 (by decide) (htl _ wq_27_4) (fun _ h9 => h9) rfl dX10_goStick_207 ?_
    refine lv_iload hx hb dX10_goStick_210 (lv_at hl 2 rfl) ?_
    refine lv_iconst (v := (-1)) hx hb dX10_goStick_212 (by decide) ?_
    refine lv_icmp_ne (tgt := 220) hx hb dX10_goStick_213 (by decide) (fun c_213 => ?_) (fun c_213 => ?_)
    rotate_left 1
    · rw [if_pos c_213] at hf
      refine lv_iconst (v := 0) hx hb dX10_goStick_216 (by decide) ?_
      refine lv_goto (tgt := 224) hx hb dX10_goStick_217 (by decide) ?_
      exact hJ224 _ (oI oz 25 (s1 + s2)) v5 v7 ((oI oz 25 (s1 + s2)).1 26 0) 0 _ _ _ hP hS (lv_sub hl [0, 1, 3] rfl) hf k88
    rw [if_neg c_213] at hf
    refine lv_iconst (v := 1) hx hb dX10_goStick_220 (by decide) ?_
    refine lv_iload hx hb dX10_goStick_221 (lv_at hl 2 rfl) ?_
    refine lv_ishl hx hb dX10_goStick_223 ?_
    exact hJ224 _ (oI oz 25 (s1 + s2)) v5 v7 ((oI oz 25 (s1 + s2)).1 26 0) ((1 : Int32) <<< (v6 &&& 31)) _ _ _ hP hS (lv_sub hl [0, 1, 3] rfl) hf k88
  have hJ173 : ∀ (c88 : Ob → Int32 → Int32 → Int32 → Option (Ob)) (oz : Ob) (v5 : Int32) (v6 : Int32) (s0 : Int32), ∀ (H : Heap) (locs : List Loc) (ls : Array Slot), va_P D vwCl (cs10 ct a oz) H → va_S (wA (cs10 ct a o)) s.heap H locs → lv_has ls 8 [(0, .ref (a 0)), (5, .int v5), (6, .int v6)] → p_X10_goStick_J173 fu c88 oz v5 v6 s0 = some r → (∀ (oz : Ob) (v3 : Int32) (v4 : Int32) (v5 : Int32), ∀ (H : Heap) (locs : List Loc) (ls : Array Slot), va_P D vwCl (cs10 ct a oz) H → va_S (wA (cs10 ct a o)) s.heap H locs → lv_has ls 8 [(0, .ref (a 0)), (3, .int v3), (4, .int v4), (5, .int v5)] → c88 oz v3 v4 v5 = some r → W p l e rm_X10_goStick s m args below meth c H locs 0 0 QQ (F0 m 88 ls [])) → W p l e rm_X10_goStick s m args below meth c H locs 0 0 QQ (F0 m 173 ls [.int s0]) := by
    intro c88 oz v5 v6 s0 H locs ls hP hS hl hf k88
    rw [p_X10_goStick_J173] at hf
    refine lv_istore (lv' := [(7, .int s0), (0, .ref (a 0)), (5, .int v5), (6, .int v6)]) hx hb dX10_goStick_173 hl (by decide) rfl (fun ls hl => ?_)
    refine lv_aload_n hx hb dX10_goStick_175 rfl (lv_at hl 1 rfl) ?_
    refine lv_dup hx hb dX10_goStick_176 rfl ?_
    refine va_get (D := D) (ci := 10) (v := .int (oz.1 24 0)) (C := RX10) (T := TX10) (N := 42) hx hb htl inlX10 hown hK hP 0 rfl rfl 24 (by decide) (htl _ wq_27_2) (fun _ h9 => h9) rfl dX10_goStick_177 ?_
    refine lv_iconst (v := 1) hx hb dX10_goStick_180 (by decide) ?_
    refine lv_iadd hx hb dX10_goStick_181 ?_
    refine va_put (D := D) (ci := 10) (v := .int ((oz.1 24 0) + 1)) (ty := .int) (C := RX10) (T := TX10) (N := 42) hx hb htl inlX10 tyX10 tyX10_ok nmX10 hown hK hP (hDW oz) hS 0 rfl rfl 24 (by decide) (htl _ wq_27_2) (fun _ h9 => h9) rfl (tyX10_ok 24 (by decide)) rfl rfl (Nat.le_of_ble_eq_true rfl) dX10_goStick_182 (fun H_182 locs_182 hP _ hS => ?_)
    have hP : va_P D vwCl (cs10 ct a (oI oz 24 ((oz.1 24 0) + 1))) H_182 := st10_24 hP
    refine lv_aload_n hx hb dX10_goStick_185 rfl (lv_at hl 1 rfl) ?_
    refine lv_dup hx hb dX10_goStick_186 rfl ?_
    refine va_get (D := D) (ci := 10) (v := .int ((oI oz 24 ((oz.1 24 0) + 1)).1 25 0)) (C := RX10) (T := TX10) (N := 42) hx hb htl inlX10 hown hK hP 0 rfl rfl 25 (by decide) (htl _ wq_27_3) (fun _ h9 => h9) rfl dX10_goStick_187 ?_
    refine lv_iload hx hb dX10_goStick_190 (lv_at hl 3 rfl) ?_
    refine lv_iconst (v := (-1)) hx hb dX10_goStick_192 (by decide) ?_
    refine lv_icmp_ne (tgt := 200) hx hb dX10_goStick_193 (by decide) (fun c_193 => ?_) (fun c_193 => ?_)
    · rw [if_neg c_193] at hf
      refine lv_iconst (v := 1) hx hb dX10_goStick_200 (by decide) ?_
      exact hJ201 _ (oI oz 24 ((oz.1 24 0) + 1)) v5 v6 s0 ((oI oz 24 ((oz.1 24 0) + 1)).1 25 0) 1 _ _ _ hP hS (lv_sub hl [1, 2, 3, 0] rfl) hf k88
    rw [if_pos c_193] at hf
    refine lv_iconst (v := 0) hx hb dX10_goStick_196 (by decide) ?_
    refine lv_goto (tgt := 201) hx hb dX10_goStick_197 (by decide) ?_
    exact hJ201 _ (oI oz 24 ((oz.1 24 0) + 1)) v5 v6 s0 ((oI oz 24 ((oz.1 24 0) + 1)).1 25 0) 0 _ _ _ hP hS (lv_sub hl [1, 2, 3, 0] rfl) hf k88
  have hL88 : ∀ (n : Nat) (oz : Ob) (v3 : Int32) (v4 : Int32) (v5 : Int32), ∀ (H : Heap) (locs : List Loc) (ls : Array Slot), va_P D vwCl (cs10 ct a oz) H → va_S (wA (cs10 ct a o)) s.heap H locs → lv_has ls 8 [(0, .ref (a 0)), (3, .int v3), (4, .int v4), (5, .int v5)] → p_X10_goStick_L88 fu  n oz v3 v4 v5 = some r → W p l e rm_X10_goStick s m args below meth c H locs 0 0 QQ (F0 m 88 ls []) := by
    intro  n
    induction n with
    | zero =>
      intro oz v3 v4 v5 H locs ls hP hS hl hf 
      rw [p_X10_goStick_L88] at hf
      cases hf
    | succ n ih =>
      intro oz v3 v4 v5 H locs ls hP hS hl hf 
      rw [p_X10_goStick_L88] at hf
      refine lv_iload hx hb dX10_goStick_88 (lv_at hl 3 rfl) ?_
      refine lv_bipush (v := 60) hx hb dX10_goStick_90 (by decide) ?_
      refine lv_icmp_gt (tgt := 282) hx hb dX10_goStick_92 (by decide) (fun c_92 => ?_) (fun c_92 => ?_)
      · rw [if_pos c_92] at hf
        rw [← hQQ]
        cases hf
        exact rw_v hx hb hr hlocks hP hS dX10_goStick_282
      rw [if_neg c_92] at hf
      refine lv_aload_n hx hb dX10_goStick_95 rfl (lv_at hl 0 rfl) ?_
      refine va_get (D := D) (ci := 10) (v := .ref (a 12)) (C := RX10) (T := TX10) (N := 42) hx hb htl inlX10 hown hK hP 0 rfl rfl 22 (by decide) (htl _ wq_7_14) (fun _ h9 => h9) rfl dX10_goStick_96 ?_
      refine lv_iload hx hb dX10_goStick_99 (lv_at hl 3 rfl) ?_
      refine lv_iload_n hx hb dX10_goStick_101 rfl (lv_at hl 1 rfl) ?_
      obtain ⟨hi_102, hf⟩ := ob_in hf
      refine va_iast (D := D) (tys := tyl ct) hx hb hK hP (hDW oz) hS 12 0 rfl rfl hi_102 dX10_goStick_102 (fun H_102 locs_102 hP _ hS => ?_)
      have hP : va_P D vwCl (cs10 ct a (oA oz 22 (upd (oz.1 22) v5.toNatClampNeg v3))) H_102 := sa10_22 hP
      refine lv_iload_n hx hb dX10_goStick_103 rfl (lv_at hl 1 rfl) ?_
      refine lv_if_lt (tgt := 276) hx hb dX10_goStick_104 (by decide) (fun c_104 => ?_) (fun c_104 => ?_)
      · rw [if_pos c_104] at hf
        refine lv_iinc (v := (v5 + 1)) (lv' := [(5, .int (v5 + 1)), (0, .ref (a 0)), (3, .int v3), (4, .int v4)]) hx hb dX10_goStick_276 hl (k := 3) rfl rfl (by decide) rfl (fun ls hl => ?_)
        refine lv_goto (tgt := 88) hx hb dX10_goStick_279 (by decide) ?_
        exact ih (oA oz 22 (upd (oz.1 22) v5.toNatClampNeg v3)) v3 v4 (v5 + 1) _ _ _ hP hS (lv_sub hl [1, 2, 3, 0] rfl) hf 
      rw [if_neg c_104] at hf
      refine lv_aload_n hx hb dX10_goStick_107 rfl (lv_at hl 0 rfl) ?_
      refine va_get (D := D) (ci := 10) (v := .ref (a 9)) (C := RX10) (T := TX10) (N := 42) hx hb htl inlX10 hown hK hP 0 rfl rfl 17 (by decide) (htl _ wq_7_11) (fun _ h9 => h9) rfl dX10_goStick_108 ?_
      refine lv_iload hx hb dX10_goStick_111 (lv_at hl 3 rfl) ?_
      obtain ⟨hi_113, hf⟩ := ob_in hf
      refine va_iald (D := D) (tys := tyl ct) hx hb hK hP 9 0 rfl rfl hi_113 dX10_goStick_113 ?_
      refine lv_iload_n hx hb dX10_goStick_114 rfl (lv_at hl 1 rfl) ?_
      obtain ⟨r_115, e_115, hf⟩ := ob_bind hf
      have hPX_115 : va_P D vwCl ([]) H_102 := P_nil
      refine ro_call1 (va_runS (As := [.int (((oA oz 22 (upd (oz.1 22) v5.toNatClampNeg v3)).1 17) v5.toNatClampNeg), .int v3]) (rest := []) ⟨hx, hb, hml, hown, htl⟩ (c_X10_bit l D ct G fu (((oA oz 22 (upd (oz.1 22) v5.toNatClampNeg v3)).1 17) v5.toNatClampNeg) v3 e_115) (cw_X10_X10_bit htl ⟨Nat.le_of_ble_eq_true rfl, Nat.le_of_ble_eq_true rfl⟩) ⟨Bx_blind, Bx_pre hPX_115 hK hN (hX.stay hS hGE)⟩ rfl rfl hl.1 rfl (lv_room (Nat.le_of_ble_eq_true rfl)) dX10_goStick_115 ⟨Nat.zero_le _, Nat.zero_le _⟩) ?_
      refine lv_iconst (v := 1) hx hb dX10_goStick_118 (by decide) ?_
      refine lv_icmp_ne (tgt := 125) hx hb dX10_goStick_119 (by decide) (fun c_119 => ?_) (fun c_119 => ?_)
      rotate_left 1
      · rw [if_pos c_119] at hf
        refine lv_goto (tgt := 276) hx hb dX10_goStick_122 (by decide) ?_
        refine lv_iinc (v := (v5 + 1)) (lv' := [(5, .int (v5 + 1)), (0, .ref (a 0)), (3, .int v3), (4, .int v4)]) hx hb dX10_goStick_276 hl (k := 3) rfl rfl (by decide) rfl (fun ls hl => ?_)
        refine lv_goto (tgt := 88) hx hb dX10_goStick_279 (by decide) ?_
        exact ih (oA oz 22 (upd (oz.1 22) v5.toNatClampNeg v3)) v3 v4 (v5 + 1) _ _ _ hP hS (lv_sub hl [1, 2, 3, 0] rfl) hf 
      rw [if_neg c_119] at hf
      refine lv_iinc (v := (v4 + 1)) (lv' := [(4, .int (v4 + 1)), (0, .ref (a 0)), (3, .int v3), (5, .int v5)]) hx hb dX10_goStick_125 hl (k := 2) rfl rfl (by decide) rfl (fun ls hl => ?_)
      refine lv_iload hx hb dX10_goStick_128 (lv_at hl 0 rfl) ?_
      refine lv_aload_n hx hb dX10_goStick_130 rfl (lv_at hl 1 rfl) ?_
      refine lv_iload_n hx hb dX10_goStick_131 rfl (lv_at hl 2 rfl) ?_
      refine lv_iconst (v := 1) hx hb dX10_goStick_132 (by decide) ?_
      obtain ⟨r_133, e_133, hf⟩ := ob_bind hf
      have hPX_133 : va_P D vwCl (cs10 ct a (oA oz 22 (upd (oz.1 22) v5.toNatClampNeg v3))) H_102 := hP
      refine ro_call1 (va_runV (As := [.int v3, .int 1]) (rest := [.int (v4 + 1)]) ⟨hx, hb, hml, hown, htl⟩ (c_X10_of l D ct G a fu (oA oz 22 (upd (oz.1 22) v5.toNatClampNeg v3)) v3 (1 : Int32) e_133) (cw_X10_X10_of htl ⟨Nat.le_of_ble_eq_true rfl, Nat.le_of_ble_eq_true rfl⟩) ⟨Bx_blind, va_recv hK hPX_133 (ci := 10) (q0 := 0) rfl rfl, Bx_pre hPX_133 hK hN (hX.stay hS hGE)⟩ rfl rfl hl.1 rfl (lv_room (Nat.le_of_ble_eq_true rfl)) dX10_goStick_133 ⟨Nat.zero_le _, Nat.zero_le _⟩) ?_
      refine lv_icmp_ge (tgt := 142) hx hb dX10_goStick_136 (by decide) (fun c_136 => ?_) (fun c_136 => ?_)
      rotate_left 1
      · rw [if_neg c_136] at hf
        refine lv_goto (tgt := 276) hx hb dX10_goStick_139 (by decide) ?_
        refine lv_iinc (v := (v5 + 1)) (lv' := [(5, .int (v5 + 1)), (4, .int (v4 + 1)), (0, .ref (a 0)), (3, .int v3)]) hx hb dX10_goStick_276 hl (k := 3) rfl rfl (by decide) rfl (fun ls hl => ?_)
        refine lv_goto (tgt := 88) hx hb dX10_goStick_279 (by decide) ?_
        exact ih (oA oz 22 (upd (oz.1 22) v5.toNatClampNeg v3)) v3 (v4 + 1) (v5 + 1) _ _ _ hP hS (lv_sub hl [2, 3, 1, 0] rfl) hf 
      rw [if_pos c_136] at hf
      refine lv_aload_n hx hb dX10_goStick_142 rfl (lv_at hl 1 rfl) ?_
      refine lv_iload_n hx hb dX10_goStick_143 rfl (lv_at hl 2 rfl) ?_
      refine lv_iload hx hb dX10_goStick_144 (lv_at hl 3 rfl) ?_
      obtain ⟨r_146, e_146, hf⟩ := ob_bind hf
      have hPX_146 : va_P D vwCl (cs10 ct a (oA oz 22 (upd (oz.1 22) v5.toNatClampNeg v3))) H_102 := hP
      refine ro_call1 (va_runV (As := [.int v3, .int v5]) (rest := []) ⟨hx, hb, hml, hown, htl⟩ (c_X10_joinFrom l D ct G a fu (oA oz 22 (upd (oz.1 22) v5.toNatClampNeg v3)) v3 v5 e_146) (cw_X10_X10_joinFrom htl ⟨Nat.le_of_ble_eq_true rfl, Nat.le_of_ble_eq_true rfl⟩) ⟨Bx_blind, va_recv hK hPX_146 (ci := 10) (q0 := 0) rfl rfl, Bx_pre hPX_146 hK hN (hX.stay hS hGE)⟩ rfl rfl hl.1 rfl (lv_room (Nat.le_of_ble_eq_true rfl)) dX10_goStick_146 ⟨Nat.zero_le _, Nat.zero_le _⟩) ?_
      refine lv_istore (lv' := [(6, .int r_146), (4, .int (v4 + 1)), (0, .ref (a 0)), (3, .int v3), (5, .int v5)]) hx hb dX10_goStick_149 hl (by decide) rfl (fun ls hl => ?_)
      refine lv_iload hx hb dX10_goStick_151 (lv_at hl 0 rfl) ?_
      refine lv_iconst (v := (-1)) hx hb dX10_goStick_153 (by decide) ?_
      refine lv_icmp_ne (tgt := 166) hx hb dX10_goStick_154 (by decide) (fun c_154 => ?_) (fun c_154 => ?_)
      · rw [if_neg c_154] at hf
        refine lv_aload_n hx hb dX10_goStick_166 rfl (lv_at hl 2 rfl) ?_
        refine lv_iload hx hb dX10_goStick_167 (lv_at hl 0 rfl) ?_
        refine lv_iconst (v := 1) hx hb dX10_goStick_169 (by decide) ?_
        obtain ⟨r_170, e_170, hf⟩ := ob_bind hf
        have hPX_170 : va_P D vwCl (cs10 ct a (oA oz 22 (upd (oz.1 22) v5.toNatClampNeg v3))) H_102 := hP
        refine ro_call1 (va_runV (As := [.int r_146, .int 1]) (rest := []) ⟨hx, hb, hml, hown, htl⟩ (c_X10_ofJoin l D ct G a fu (oA oz 22 (upd (oz.1 22) v5.toNatClampNeg v3)) r_146 (1 : Int32) e_170) (cw_X10_X10_ofJoin htl ⟨Nat.le_of_ble_eq_true rfl, Nat.le_of_ble_eq_true rfl⟩) ⟨Bx_blind, va_recv hK hPX_170 (ci := 10) (q0 := 0) rfl rfl, Bx_pre hPX_170 hK hN (hX.stay hS hGE)⟩ rfl rfl hl.1 rfl (lv_room (Nat.le_of_ble_eq_true rfl)) dX10_goStick_170 ⟨Nat.zero_le _, Nat.zero_le _⟩) ?_
        exact hJ173 _ (oA oz 22 (upd (oz.1 22) v5.toNatClampNeg v3)) v5 r_146 r_170 _ _ _ hP hS (lv_sub hl [2, 4, 0] rfl) hf (fun oz v3 v4 v5 H locs ls hP hS hl hf => ih oz v3 v4 v5 H locs ls hP hS hl hf )
      rw [if_pos c_154] at hf
      refine lv_aload_n hx hb dX10_goStick_157 rfl (lv_at hl 2 rfl) ?_
      refine lv_iload_n hx hb dX10_goStick_158 rfl (lv_at hl 3 rfl) ?_
      refine lv_iconst (v := 0) hx hb dX10_goStick_159 (by decide) ?_
      obtain ⟨r_160, e_160, hf⟩ := ob_bind hf
      have hPX_160 : va_P D vwCl (cs10 ct a (oA oz 22 (upd (oz.1 22) v5.toNatClampNeg v3))) H_102 := hP
      refine ro_call1 (va_runV (As := [.int v3, .int 0]) (rest := []) ⟨hx, hb, hml, hown, htl⟩ (c_X10_of l D ct G a fu (oA oz 22 (upd (oz.1 22) v5.toNatClampNeg v3)) v3 (0 : Int32) e_160) (cw_X10_X10_of htl ⟨Nat.le_of_ble_eq_true rfl, Nat.le_of_ble_eq_true rfl⟩) ⟨Bx_blind, va_recv hK hPX_160 (ci := 10) (q0 := 0) rfl rfl, Bx_pre hPX_160 hK hN (hX.stay hS hGE)⟩ rfl rfl hl.1 rfl (lv_room (Nat.le_of_ble_eq_true rfl)) dX10_goStick_160 ⟨Nat.zero_le _, Nat.zero_le _⟩) ?_
      refine lv_goto (tgt := 173) hx hb dX10_goStick_163 (by decide) ?_
      exact hJ173 _ (oA oz 22 (upd (oz.1 22) v5.toNatClampNeg v3)) v5 r_146 r_160 _ _ _ hP hS (lv_sub hl [2, 4, 0] rfl) hf (fun oz v3 v4 v5 H locs ls hP hS hl hf => ih oz v3 v4 v5 H locs ls hP hS hl hf )
  have hJ18 : ∀ (oz : Ob) (v2 : Int32) (s0 : Int32), ∀ (H : Heap) (locs : List Loc) (ls : Array Slot), va_P D vwCl (cs10 ct a oz) H → va_S (wA (cs10 ct a o)) s.heap H locs → lv_has ls 8 [(0, .ref (a 0)), (2, .int v2)] → p_X10_goStick_J18 fu  oz v2 s0 = some r → W p l e rm_X10_goStick s m args below meth c H locs 0 0 QQ (F0 m 18 ls [.int s0]) := by
    intro  oz v2 s0 H locs ls hP hS hl hf 
    rw [p_X10_goStick_J18] at hf
    refine lv_istore_n (lv' := [(3, .int s0), (0, .ref (a 0)), (2, .int v2)]) hx hb dX10_goStick_18 rfl hl (by decide) rfl (fun ls hl => ?_)
    refine lv_iconst (v := 0) hx hb dX10_goStick_19 (by decide) ?_
    refine lv_istore (lv' := [(4, .int 0), (3, .int s0), (0, .ref (a 0)), (2, .int v2)]) hx hb dX10_goStick_20 hl (by decide) rfl (fun ls hl => ?_)
    refine lv_aload_n hx hb dX10_goStick_22 rfl (lv_at hl 2 rfl) ?_
    refine lv_iconst (v := 0) hx hb dX10_goStick_23 (by decide) ?_
    refine va_put (D := D) (ci := 10) (v := .int 0) (ty := .int) (C := RX10) (T := TX10) (N := 42) hx hb htl inlX10 tyX10 tyX10_ok nmX10 hown hK hP (hDW oz) hS 0 rfl rfl 24 (by decide) (htl _ wq_27_2) (fun _ h9 => h9) rfl (tyX10_ok 24 (by decide)) rfl rfl (Nat.le_of_ble_eq_true rfl) dX10_goStick_24 (fun H_24 locs_24 hP _ hS => ?_)
    have hP : va_P D vwCl (cs10 ct a (oI oz 24 (0 : Int32))) H_24 := st10_24 hP
    refine lv_aload_n hx hb dX10_goStick_27 rfl (lv_at hl 2 rfl) ?_
    refine lv_iconst (v := 0) hx hb dX10_goStick_28 (by decide) ?_
    refine va_put (D := D) (ci := 10) (v := .int 0) (ty := .int) (C := RX10) (T := TX10) (N := 42) hx hb htl inlX10 tyX10 tyX10_ok nmX10 hown hK hP (hDW (oI oz 24 (0 : Int32))) hS 0 rfl rfl 25 (by decide) (htl _ wq_27_3) (fun _ h9 => h9) rfl (tyX10_ok 25 (by decide)) rfl rfl (Nat.le_of_ble_eq_true rfl) dX10_goStick_29 (fun H_29 locs_29 hP _ hS => ?_)
    have hP : va_P D vwCl (cs10 ct a (oI (oI oz 24 (0 : Int32)) 25 (0 : Int32))) H_29 := st10_25 hP
    refine lv_aload_n hx hb dX10_goStick_32 rfl (lv_at hl 2 rfl) ?_
    refine lv_iconst (v := 0) hx hb dX10_goStick_33 (by decide) ?_
    refine va_put (D := D) (ci := 10) (v := .int 0) (ty := .int) (C := RX10) (T := TX10) (N := 42) hx hb htl inlX10 tyX10 tyX10_ok nmX10 hown hK hP (hDW (oI (oI oz 24 (0 : Int32)) 25 (0 : Int32))) hS 0 rfl rfl 26 (by decide) (htl _ wq_27_4) (fun _ h9 => h9) rfl (tyX10_ok 26 (by decide)) rfl rfl (Nat.le_of_ble_eq_true rfl) dX10_goStick_34 (fun H_34 locs_34 hP _ hS => ?_)
    have hP : va_P D vwCl (cs10 ct a (oI (oI (oI oz 24 (0 : Int32)) 25 (0 : Int32)) 26 (0 : Int32))) H_34 := st10_26 hP
    refine lv_iconst (v := 0) hx hb dX10_goStick_37 (by decide) ?_
    refine lv_istore (lv' := [(5, .int 0), (4, .int 0), (3, .int s0), (0, .ref (a 0)), (2, .int v2)]) hx hb dX10_goStick_38 hl (by decide) rfl (fun ls hl => ?_)
    refine hL40 _ fu (oI (oI (oI oz 24 (0 : Int32)) 25 (0 : Int32)) 26 (0 : Int32)) v2 s0 0 0 _ _ _ hP hS (lv_sub hl [3, 4, 2, 1, 0] rfl) hf (fun oz v2 v3 v4 H locs ls hP hS hl hf => ?_)
    refine lv_iconst (v := 0) hx hb dX10_goStick_61 (by decide) ?_
    refine lv_istore (lv' := [(5, .int 0), (0, .ref (a 0)), (2, .int v2), (3, .int v3), (4, .int v4)]) hx hb dX10_goStick_62 hl (by decide) rfl (fun ls hl => ?_)
    refine hL64 _ fu oz v2 v3 v4 0 _ _ _ hP hS (lv_sub hl [1, 2, 3, 4, 0] rfl) hf (fun oz v2 v3 v4 H locs ls hP hS hl hf => ?_)
    refine lv_iload_n hx hb dX10_goStick_85 rfl (lv_at hl 1 rfl) ?_
    refine lv_istore (lv' := [(5, .int v2), (0, .ref (a 0)), (2, .int v2), (3, .int v3), (4, .int v4)]) hx hb dX10_goStick_86 hl (by decide) rfl (fun ls hl => ?_)
    exact hL88 fu oz v3 v4 v2 _ _ _ hP hS (lv_sub hl [1, 3, 4, 0] rfl) hf 
  rw [p_X10_goStick] at hf
  refine lv_aload_n hx hb dX10_goStick_0 rfl (lv_at hl 0 rfl) ?_
  refine va_get (D := D) (ci := 10) (v := .int (o.1 21 0)) (C := RX10) (T := TX10) (N := 42) hx hb htl inlX10 hown hK hP 0 rfl rfl 21 (by decide) (htl _ wq_23_2) (fun _ h9 => h9) rfl dX10_goStick_1 ?_
  refine lv_iload_n hx hb dX10_goStick_4 rfl (lv_at hl 1 rfl) ?_
  obtain ⟨r_5, e_5, hf⟩ := ob_bind hf
  have hPX_5 : va_P D vwCl ([]) s.heap := P_nil
  refine ro_call1 (va_runS (As := [.int (o.1 21 0), .int v1]) (rest := []) ⟨hx, hb, hml, hown, htl⟩ (c_X10_bit l D ct G fu (o.1 21 0) v1 e_5) (cw_X10_X10_bit htl ⟨Nat.le_of_ble_eq_true rfl, Nat.le_of_ble_eq_true rfl⟩) ⟨Bx_blind, Bx_pre hPX_5 hK hN (hX.stay hS hGE)⟩ rfl rfl hl.1 rfl (lv_room (Nat.le_of_ble_eq_true rfl)) dX10_goStick_5 ⟨Nat.zero_le _, Nat.zero_le _⟩) ?_
  refine lv_iconst (v := 1) hx hb dX10_goStick_8 (by decide) ?_
  refine lv_icmp_ne (tgt := 17) hx hb dX10_goStick_9 (by decide) (fun c_9 => ?_) (fun c_9 => ?_)
  · rw [if_neg c_9] at hf
    refine lv_iload_n hx hb dX10_goStick_17 rfl (lv_at hl 1 rfl) ?_
    exact hJ18 o v2 v1 _ _ _ hP hS (lv_sub hl [0, 2] rfl) hf 
  rw [if_pos c_9] at hf
  refine lv_bipush (v := (-3)) hx hb dX10_goStick_12 (by decide) ?_
  refine lv_goto (tgt := 18) hx hb dX10_goStick_14 (by decide) ?_
  exact hJ18 o v2 (-3) _ _ _ hP hS (lv_sub hl [0, 2] rfl) hf 
theorem c_X10_goStick (l : Launch) (D : va_G) (ct : Nat → ClassId) (G : GT) (a : Nat → Nat) (fu : Nat) (o : Ob) (v1 : Int32) (v2 : Int32) {r : Ob} (hf : p_X10_goStick fu o v1 v2 = some r)  (hD0 : va_D (GE G) (cs10 ct a o)) : Met l yX10_goStick (.code yX10_goStick cX10_goStick 8 none :: wsL_law) rm_X10_goStick (va_Pc [.ref (a 0), .int v1, .int v2] (Bx D ct G (cs10 ct a o))) (Qwr none (fun H => va_P D vwCl (cs10 ct a r) H) (wA (cs10 ct a o))) 0 0 (wA (cs10 ct a o)) := by
  refine Met.ofW (cc := cX10_goStick) (maxL := 8) (ret := none) (by decide) rfl ?_
  intro p e s m args below meth c s₁ B hml hv
  obtain ⟨rfl, hP, hK, hN, hX⟩ := hv
  have hts := atoms_spec (ws := .code yX10_goStick cX10_goStick 8 none :: wsL_law) B.pre
  rw [lg_entry_eq]
  exact b_X10_goStick a fu o v1 v2 B.exec B.bytes B.returns hml (findClass_of_methodNamed B.named) (fun w h => hts w (List.mem_cons_of_mem _ h)) B.notSynchronized hK hN hX hP hf hD0  (lv_entry [.ref (a 0), .int v1, .int v2] (n := 8) (Nat.le_of_ble_eq_true rfl))
def p_X10_comesOf_L2 (fu : Nat) (o : Ob)  : Nat → Int32 → Int32 → Option (Int32)
  | 0, _, _ => none
  | n + 1, v2, v3 =>
    if (60 : Int32) < v3 then some ((-1) : Int32) else if inb v3 61 = true then if ((o.1 22) v3.toNatClampNeg) = v2 then some v3 else p_X10_comesOf_L2 fu o  n v2 (v3 + 1) else none
def p_X10_comesOf (fu : Nat) (o : Ob) (v1 : Int32) (v2 : Int32) : Option (Int32) :=
  p_X10_comesOf_L2 fu o fu v2 v1
abbrev rm_X10_comesOf : Room := { frames := 0, cells := 0, slots := 0, locals := 0 }
set_option maxHeartbeats 4000000 in
set_option maxRecDepth 100000 in
theorem b_X10_comesOf {p : Program} {l : Launch} {e : Env} {s : State} {m : MethodId} {args : Array Value} {below : List Frame} {meth : Method} {c : Code} {ls : Array Slot} {D : va_G} {ct : Nat → ClassId} {G : GT} (a : Nat → Nat) (fu : Nat) (o : Ob) (v1 : Int32) (v2 : Int32) {r : Int32} (hx : p.tables.exec = Jvm.exec) (hb : c.code = cX10_comesOf) (hr : meth.sig.returnType = (some .int)) (hml : c.maxLocals = 4) (hown : s.vm.findClass RX10 = some m.cls) (htl : ∀ w ∈ wsL_law, w.before args s = true) (hlocks : meth.locks = false) (hK : va_K D vwCl (tyl ct) s) (hN : ∀ w ∈ NW, va_Nw w s) (hX : SX G s s.heap) (hP0 : va_P D vwCl (cs10 ct a o) s.heap) (hf : p_X10_comesOf fu o v1 v2 = some r)  (hl : lv_has ls 4 [(0, .ref (a 0)), (1, .int v1), (2, .int v2)]) : W p l e rm_X10_comesOf s m args below meth c s.heap [] 0 0 (MQ below (Qro (some (.int r))) args s 0 0 (fun _ => False)) (F0 m 0 ls []) := by
  generalize hQQ : MQ below (Qro (some (.int r))) args s 0 0 (fun _ => False) = QQ
  have hP := hP0
  have hL2 : ∀ (n : Nat) (v2 : Int32) (v3 : Int32), ∀ (ls : Array Slot), lv_has ls 4 [(0, .ref (a 0)), (2, .int v2), (3, .int v3)] → p_X10_comesOf_L2 fu o  n v2 v3 = some r → W p l e rm_X10_comesOf s m args below meth c s.heap [] 0 0 QQ (F0 m 2 ls []) := by
    intro  n
    induction n with
    | zero =>
      intro v2 v3 ls hl hf 
      rw [p_X10_comesOf_L2] at hf
      cases hf
    | succ n ih =>
      intro v2 v3 ls hl hf 
      rw [p_X10_comesOf_L2] at hf
      refine lv_iload_n hx hb dX10_comesOf_2 rfl (lv_at hl 2 rfl) ?_
      refine lv_bipush (v := 60) hx hb dX10_comesOf_3 (by decide) ?_
      refine lv_icmp_gt (tgt := 26) hx hb dX10_comesOf_5 (by decide) (fun c_5 => ?_) (fun c_5 => ?_)
      · rw [if_pos c_5] at hf
        refine lv_iconst (v := (-1)) hx hb dX10_comesOf_26 (by decide) ?_
        rw [← hQQ]
        exact rf_i hx hb hr hlocks hf dX10_comesOf_27
      rw [if_neg c_5] at hf
      refine lv_aload_n hx hb dX10_comesOf_8 rfl (lv_at hl 0 rfl) ?_
      refine va_get (D := D) (ci := 10) (v := .ref (a 12)) (C := RX10) (T := TX10) (N := 42) hx hb htl inlX10 hown hK hP 0 rfl rfl 22 (by decide) (htl _ wq_7_14) (fun _ h9 => h9) rfl dX10_comesOf_9 ?_
      refine lv_iload_n hx hb dX10_comesOf_12 rfl (lv_at hl 2 rfl) ?_
      obtain ⟨hi_13, hf⟩ := ob_in hf
      refine va_iald (D := D) (tys := tyl ct) hx hb hK hP 12 0 rfl rfl hi_13 dX10_comesOf_13 ?_
      refine lv_iload_n hx hb dX10_comesOf_14 rfl (lv_at hl 1 rfl) ?_
      refine lv_icmp_ne (tgt := 20) hx hb dX10_comesOf_15 (by decide) (fun c_15 => ?_) (fun c_15 => ?_)
      · rw [if_neg c_15] at hf
        refine lv_iinc (v := (v3 + 1)) (lv' := [(3, .int (v3 + 1)), (0, .ref (a 0)), (2, .int v2)]) hx hb dX10_comesOf_20 hl (k := 2) rfl rfl (by decide) rfl (fun ls hl => ?_)
        refine lv_goto (tgt := 2) hx hb dX10_comesOf_23 (by decide) ?_
        exact ih v2 (v3 + 1) _ (lv_sub hl [1, 2, 0] rfl) hf 
      rw [if_pos c_15] at hf
      refine lv_iload_n hx hb dX10_comesOf_18 rfl (lv_at hl 2 rfl) ?_
      rw [← hQQ]
      exact rf_i hx hb hr hlocks hf dX10_comesOf_19
  rw [p_X10_comesOf] at hf
  refine lv_iload_n hx hb dX10_comesOf_0 rfl (lv_at hl 1 rfl) ?_
  refine lv_istore_n (lv' := [(3, .int v1), (0, .ref (a 0)), (1, .int v1), (2, .int v2)]) hx hb dX10_comesOf_1 rfl hl (by decide) rfl (fun ls hl => ?_)
  exact hL2 fu v2 v1 _ (lv_sub hl [1, 3, 0] rfl) hf 
theorem c_X10_comesOf (l : Launch) (D : va_G) (ct : Nat → ClassId) (G : GT) (a : Nat → Nat) (fu : Nat) (o : Ob) (v1 : Int32) (v2 : Int32) {r : Int32} (hf : p_X10_comesOf fu o v1 v2 = some r)  : Met l yX10_comesOf (.code yX10_comesOf cX10_comesOf 4 (some .int) :: wsL_law) rm_X10_comesOf (va_Pc [.ref (a 0), .int v1, .int v2] (Bx D ct G (cs10 ct a o))) (Qro (some (.int r))) 0 0 (fun _ => False) := by
  refine Met.ofW (cc := cX10_comesOf) (maxL := 4) (ret := (some .int)) (by decide) rfl ?_
  intro p e s m args below meth c s₁ B hml hv
  obtain ⟨rfl, hP, hK, hN, hX⟩ := hv
  have hts := atoms_spec (ws := .code yX10_comesOf cX10_comesOf 4 (some .int) :: wsL_law) B.pre
  rw [lg_entry_eq]
  exact b_X10_comesOf a fu o v1 v2 B.exec B.bytes B.returns hml (findClass_of_methodNamed B.named) (fun w h => hts w (List.mem_cons_of_mem _ h)) B.notSynchronized hK hN hX hP hf   (lv_entry [.ref (a 0), .int v1, .int v2] (n := 4) (Nat.le_of_ble_eq_true rfl))
theorem hd_X10_goStick : yX10_goStick.cls ≠ "java/lang/invoke/MethodHandle" ∧ yX10_goStick.cls ≠ "java/lang/invoke/VarHandle" ∧ (parseMethodDescriptor yX10_goStick.desc).map (fun d => d.parameters.length) = some 2 := by decide +kernel
theorem cw_X10_X10_goStick {R : Room} {s : State} {args : Array Value} (ht : ∀ w ∈ wsL_law, w.before args s = true) (hR : rm_X10_goStick.frames + 1 ≤ R.frames ∧ 8 + (8 + 11) + rm_X10_goStick.locals ≤ R.locals) : CallW R s args RX10 RX10 280 yX10_goStick cX10_goStick 8 none ((.code yX10_goStick cX10_goStick 8 none) :: wsL_law) rm_X10_goStick 0 0 2 := cwV 2 ht (GV wq_26_22 wq_26_23 wq_27_0 wq_1_5 wq_27_1) rfl rfl rfl ⟨rfl, hd_X10_goStick⟩ hR
def p_X10_putsIn (fu : Nat) (o : Ob) (v1 : Int32) (v2 : Int32) : Option (Int32 × Ob) :=
  (p_X10_asksReach fu o v1).bind fun r_2 => if r_2.1 = 0 then some ((0 : Int32), r_2.2) else (p_X10_isStep fu v2.toInt64).bind fun r_10 => if r_10 = 0 then some ((0 : Int32), r_2.2) else (p_X10_goStick fu r_2.2 v1 v2).bind fun r_21 => some ((1 : Int32), r_21)
abbrev rm_X10_putsIn : Room := { frames := 4, cells := 0, slots := 0, locals := 87 }
set_option maxHeartbeats 4000000 in
set_option maxRecDepth 100000 in
theorem b_X10_putsIn {p : Program} {l : Launch} {e : Env} {s : State} {m : MethodId} {args : Array Value} {below : List Frame} {meth : Method} {c : Code} {ls : Array Slot} {D : va_G} {ct : Nat → ClassId} {G : GT} (a : Nat → Nat) (fu : Nat) (o : Ob) (v1 : Int32) (v2 : Int32) {r : Int32 × Ob} (hx : p.tables.exec = Jvm.exec) (hb : c.code = cX10_putsIn) (hr : meth.sig.returnType = (some .boolean)) (hml : c.maxLocals = 3) (hown : s.vm.findClass RX10 = some m.cls) (htl : ∀ w ∈ wsL_law, w.before args s = true) (hlocks : meth.locks = false) (hK : va_K D vwCl (tyl ct) s) (hN : ∀ w ∈ NW, va_Nw w s) (hX : SX G s s.heap) (hP0 : va_P D vwCl (cs10 ct a o) s.heap) (hf : p_X10_putsIn fu o v1 v2 = some r) (hD0 : va_D (GE G) (cs10 ct a o))  (hl : lv_has ls 3 [(0, .ref (a 0)), (1, .int v1), (2, .int v2)]) : W p l e rm_X10_putsIn s m args below meth c s.heap [] 0 0 (MQ below (Qwr (some (.int r.1)) (fun H => va_P D vwCl (cs10 ct a r.2) H) (wA (cs10 ct a o))) args s 0 0 (wA (cs10 ct a o))) (F0 m 0 ls []) := by
  generalize hQQ : MQ below (Qwr (some (.int r.1)) (fun H => va_P D vwCl (cs10 ct a r.2) H) (wA (cs10 ct a o))) args s 0 0 (wA (cs10 ct a o)) = QQ
  have hDx : ∀ (oy : Ob), va_D (GE G) (cs10 ct a oy) := fun oy => D_cr hD0 rfl
  have hDW : ∀ (oy : Ob), va_D (wA (cs10 ct a o)) (cs10 ct a oy) := fun oy => D_cr (D_self hD0) rfl
  have hGE : ∀ q, wA (cs10 ct a o) q → GE G q := wA_GE hD0
  have hP := hP0
  have hS : va_S (wA (cs10 ct a o)) s.heap s.heap [] := va_S.rf
  rw [p_X10_putsIn] at hf
  refine lv_aload_n hx hb dX10_putsIn_0 rfl (lv_at hl 0 rfl) ?_
  refine lv_iload_n hx hb dX10_putsIn_1 rfl (lv_at hl 1 rfl) ?_
  obtain ⟨r_2, e_2, hf⟩ := ob_bind hf
  have hPX_2 : va_P D vwCl (cs10 ct a o) s.heap := hP
  refine wr_call1 (va_runV (As := [.int v1]) (rest := []) ⟨hx, hb, hml, hown, htl⟩ (c_X10_asksReach l D ct G a fu o v1 e_2 (hDx o)) (cw_X10_X10_asksReach htl ⟨Nat.le_of_ble_eq_true rfl, Nat.le_of_ble_eq_true rfl⟩) ⟨Bx_blind, va_recv hK hPX_2 (ci := 10) (q0 := 0) rfl rfl, Bx_pre hPX_2 hK hN (hX.stay hS hGE)⟩ rfl rfl hl.1 rfl (lv_room (Nat.le_of_ble_eq_true rfl)) dX10_putsIn_2 ⟨Nat.zero_le _, Nat.zero_le _⟩) hS (wA_cg rfl) (fun H_2 locs_2 hB_2 _ hk_2 hS => ?_)
  have hP : va_P D vwCl (cs10 ct a r_2.2) H_2 := hB_2
  refine lv_if_eq (tgt := 16) hx hb dX10_putsIn_5 (by decide) (fun c_5 => ?_) (fun c_5 => ?_)
  · rw [if_pos c_5] at hf
    refine lv_iconst (v := 0) hx hb dX10_putsIn_16 (by decide) ?_
    rw [← hQQ]
    cases hf
    exact rw_z hx hb hr hlocks (show narrow .boolean (.int 0) = .int 0 from rfl) hP hS dX10_putsIn_17
  rw [if_neg c_5] at hf
  refine lv_iload_n hx hb dX10_putsIn_8 rfl (lv_at hl 2 rfl) ?_
  refine lv_i2l hx hb dX10_putsIn_9 rfl ?_
  obtain ⟨r_10, e_10, hf⟩ := ob_bind hf
  have hPX_10 : va_P D vwCl ([]) H_2 := P_nil
  refine ro_call1 (va_runS (As := [.long v2.toInt64]) (rest := []) ⟨hx, hb, hml, hown, htl⟩ (c_X10_isStep l D ct G fu v2.toInt64 e_10) (cw_X10_X10_isStep htl ⟨Nat.le_of_ble_eq_true rfl, Nat.le_of_ble_eq_true rfl⟩) ⟨Bx_blind, Bx_pre hPX_10 hK hN (hX.stay hS hGE)⟩ rfl rfl hl.1 rfl (lv_room (Nat.le_of_ble_eq_true rfl)) dX10_putsIn_10 ⟨Nat.zero_le _, Nat.zero_le _⟩) ?_
  refine lv_if_ne (tgt := 18) hx hb dX10_putsIn_13 (by decide) (fun c_13 => ?_) (fun c_13 => ?_)
  rotate_left 1
  · rw [if_pos c_13] at hf
    refine lv_iconst (v := 0) hx hb dX10_putsIn_16 (by decide) ?_
    rw [← hQQ]
    cases hf
    exact rw_z hx hb hr hlocks (show narrow .boolean (.int 0) = .int 0 from rfl) hP hS dX10_putsIn_17
  rw [if_neg c_13] at hf
  refine lv_aload_n hx hb dX10_putsIn_18 rfl (lv_at hl 0 rfl) ?_
  refine lv_iload_n hx hb dX10_putsIn_19 rfl (lv_at hl 1 rfl) ?_
  refine lv_iload_n hx hb dX10_putsIn_20 rfl (lv_at hl 2 rfl) ?_
  obtain ⟨r_21, e_21, hf⟩ := ob_bind hf
  have hPX_21 : va_P D vwCl (cs10 ct a r_2.2) H_2 := hP
  refine wr_call0 (va_runV (As := [.int v1, .int v2]) (rest := []) ⟨hx, hb, hml, hown, htl⟩ (c_X10_goStick l D ct G a fu r_2.2 v1 v2 e_21 (hDx r_2.2)) (cw_X10_X10_goStick htl ⟨Nat.le_of_ble_eq_true rfl, Nat.le_of_ble_eq_true rfl⟩) ⟨Bx_blind, va_recv hK hPX_21 (ci := 10) (q0 := 0) rfl rfl, Bx_pre hPX_21 hK hN (hX.stay hS hGE)⟩ rfl rfl hl.1 rfl (lv_room (Nat.le_of_ble_eq_true rfl)) dX10_putsIn_21 ⟨Nat.zero_le _, Nat.zero_le _⟩) hS (wA_cg rfl) (fun H_21 locs_21 hB_21 _ hk_21 hS => ?_)
  have hP : va_P D vwCl (cs10 ct a r_21) H_21 := hB_21
  refine lv_iconst (v := 1) hx hb dX10_putsIn_24 (by decide) ?_
  rw [← hQQ]
  cases hf
  exact rw_z hx hb hr hlocks (show narrow .boolean (.int 1) = .int 1 from rfl) hP hS dX10_putsIn_25
theorem c_X10_putsIn (l : Launch) (D : va_G) (ct : Nat → ClassId) (G : GT) (a : Nat → Nat) (fu : Nat) (o : Ob) (v1 : Int32) (v2 : Int32) {r : Int32 × Ob} (hf : p_X10_putsIn fu o v1 v2 = some r)  (hD0 : va_D (GE G) (cs10 ct a o)) : Met l yX10_putsIn (.code yX10_putsIn cX10_putsIn 3 (some .boolean) :: wsL_law) rm_X10_putsIn (va_Pc [.ref (a 0), .int v1, .int v2] (Bx D ct G (cs10 ct a o))) (Qwr (some (.int r.1)) (fun H => va_P D vwCl (cs10 ct a r.2) H) (wA (cs10 ct a o))) 0 0 (wA (cs10 ct a o)) := by
  refine Met.ofW (cc := cX10_putsIn) (maxL := 3) (ret := (some .boolean)) (by decide) rfl ?_
  intro p e s m args below meth c s₁ B hml hv
  obtain ⟨rfl, hP, hK, hN, hX⟩ := hv
  have hts := atoms_spec (ws := .code yX10_putsIn cX10_putsIn 3 (some .boolean) :: wsL_law) B.pre
  rw [lg_entry_eq]
  exact b_X10_putsIn a fu o v1 v2 B.exec B.bytes B.returns hml (findClass_of_methodNamed B.named) (fun w h => hts w (List.mem_cons_of_mem _ h)) B.notSynchronized hK hN hX hP hf hD0  (lv_entry [.ref (a 0), .int v1, .int v2] (n := 3) (Nat.le_of_ble_eq_true rfl))
theorem hd_X10_putsIn : yX10_putsIn.cls ≠ "java/lang/invoke/MethodHandle" ∧ yX10_putsIn.cls ≠ "java/lang/invoke/VarHandle" ∧ (parseMethodDescriptor yX10_putsIn.desc).map (fun d => d.parameters.length) = some 2 := by decide +kernel
theorem cw_X10_X10_putsIn {R : Room} {s : State} {args : Array Value} (ht : ∀ w ∈ wsL_law, w.before args s = true) (hR : rm_X10_putsIn.frames + 1 ≤ R.frames ∧ 8 + (3 + 11) + rm_X10_putsIn.locals ≤ R.locals) : CallW R s args RX10 RX10 284 yX10_putsIn cX10_putsIn 3 (some .boolean) ((.code yX10_putsIn cX10_putsIn 3 (some .boolean)) :: wsL_law) rm_X10_putsIn 0 0 2 := cwV 2 ht (GV wq_26_18 wq_26_19 wq_26_20 wq_1_5 wq_26_21) rfl rfl rfl ⟨rfl, hd_X10_putsIn⟩ hR
def p_X10_where (fu : Nat) (o : Ob) (v1 : Int32) (v2 : Int32) (v3 : Int32) : Option (Int32 × Ob) :=
  (p_X10_putsIn fu o v1 v2).bind fun r_3 => if r_3.1 = 0 then some (((-2) : Int32), r_3.2) else (p_X10_in fu v3.toInt64 v2.toInt64 (60 : Int64)).bind fun r_16 => if r_16 = 0 then some (((-2) : Int32), r_3.2) else if inb v3 61 = true then some (((r_3.2.1 22) v3.toNatClampNeg), r_3.2) else none
abbrev rm_X10_where : Room := { frames := 5, cells := 0, slots := 0, locals := 109 }
set_option maxHeartbeats 4000000 in
set_option maxRecDepth 100000 in
theorem b_X10_where {p : Program} {l : Launch} {e : Env} {s : State} {m : MethodId} {args : Array Value} {below : List Frame} {meth : Method} {c : Code} {ls : Array Slot} {D : va_G} {ct : Nat → ClassId} {G : GT} (a : Nat → Nat) (fu : Nat) (o : Ob) (v1 : Int32) (v2 : Int32) (v3 : Int32) {r : Int32 × Ob} (hx : p.tables.exec = Jvm.exec) (hb : c.code = cX10_where) (hr : meth.sig.returnType = (some .int)) (hml : c.maxLocals = 4) (hown : s.vm.findClass RX10 = some m.cls) (htl : ∀ w ∈ wsL_law, w.before args s = true) (hlocks : meth.locks = false) (hK : va_K D vwCl (tyl ct) s) (hN : ∀ w ∈ NW, va_Nw w s) (hX : SX G s s.heap) (hP0 : va_P D vwCl (cs10 ct a o) s.heap) (hf : p_X10_where fu o v1 v2 v3 = some r) (hD0 : va_D (GE G) (cs10 ct a o))  (hl : lv_has ls 4 [(0, .ref (a 0)), (1, .int v1), (2, .int v2), (3, .int v3)]) : W p l e rm_X10_where s m args below meth c s.heap [] 0 0 (MQ below (Qwr (some (.int r.1)) (fun H => va_P D vwCl (cs10 ct a r.2) H) (wA (cs10 ct a o))) args s 0 0 (wA (cs10 ct a o))) (F0 m 0 ls []) := by
  generalize hQQ : MQ below (Qwr (some (.int r.1)) (fun H => va_P D vwCl (cs10 ct a r.2) H) (wA (cs10 ct a o))) args s 0 0 (wA (cs10 ct a o)) = QQ
  have hDx : ∀ (oy : Ob), va_D (GE G) (cs10 ct a oy) := fun oy => D_cr hD0 rfl
  have hDW : ∀ (oy : Ob), va_D (wA (cs10 ct a o)) (cs10 ct a oy) := fun oy => D_cr (D_self hD0) rfl
  have hGE : ∀ q, wA (cs10 ct a o) q → GE G q := wA_GE hD0
  have hP := hP0
  have hS : va_S (wA (cs10 ct a o)) s.heap s.heap [] := va_S.rf
  rw [p_X10_where] at hf
  refine lv_aload_n hx hb dX10_where_0 rfl (lv_at hl 0 rfl) ?_
  refine lv_iload_n hx hb dX10_where_1 rfl (lv_at hl 1 rfl) ?_
  refine lv_iload_n hx hb dX10_where_2 rfl (lv_at hl 2 rfl) ?_
  obtain ⟨r_3, e_3, hf⟩ := ob_bind hf
  have hPX_3 : va_P D vwCl (cs10 ct a o) s.heap := hP
  refine wr_call1 (va_runV (As := [.int v1, .int v2]) (rest := []) ⟨hx, hb, hml, hown, htl⟩ (c_X10_putsIn l D ct G a fu o v1 v2 e_3 (hDx o)) (cw_X10_X10_putsIn htl ⟨Nat.le_of_ble_eq_true rfl, Nat.le_of_ble_eq_true rfl⟩) ⟨Bx_blind, va_recv hK hPX_3 (ci := 10) (q0 := 0) rfl rfl, Bx_pre hPX_3 hK hN (hX.stay hS hGE)⟩ rfl rfl hl.1 rfl (lv_room (Nat.le_of_ble_eq_true rfl)) dX10_where_3 ⟨Nat.zero_le _, Nat.zero_le _⟩) hS (wA_cg rfl) (fun H_3 locs_3 hB_3 _ hk_3 hS => ?_)
  have hP : va_P D vwCl (cs10 ct a r_3.2) H_3 := hB_3
  refine lv_if_eq (tgt := 31) hx hb dX10_where_6 (by decide) (fun c_6 => ?_) (fun c_6 => ?_)
  · rw [if_pos c_6] at hf
    refine lv_bipush (v := (-2)) hx hb dX10_where_31 (by decide) ?_
    rw [← hQQ]
    cases hf
    exact rw_i hx hb hr hlocks hP hS dX10_where_33
  rw [if_neg c_6] at hf
  refine lv_iload_n hx hb dX10_where_9 rfl (lv_at hl 3 rfl) ?_
  refine lv_i2l hx hb dX10_where_10 rfl ?_
  refine lv_iload_n hx hb dX10_where_11 rfl (lv_at hl 2 rfl) ?_
  refine lv_i2l hx hb dX10_where_12 rfl ?_
  refine lv_ldc2 (v := 60) hx hb hown (htl _ wq_23_15) dX10_where_13 ?_
  obtain ⟨r_16, e_16, hf⟩ := ob_bind hf
  have hPX_16 : va_P D vwCl ([]) H_3 := P_nil
  refine ro_call1 (va_runS (As := [.long v3.toInt64, .long v2.toInt64, .long 60]) (rest := []) ⟨hx, hb, hml, hown, htl⟩ (c_X10_in l D ct G fu v3.toInt64 v2.toInt64 (60 : Int64) e_16) (cw_X10_X10_in htl ⟨Nat.le_of_ble_eq_true rfl, Nat.le_of_ble_eq_true rfl⟩) ⟨Bx_blind, Bx_pre hPX_16 hK hN (hX.stay hS hGE)⟩ rfl rfl hl.1 rfl (lv_room (Nat.le_of_ble_eq_true rfl)) dX10_where_16 ⟨Nat.zero_le _, Nat.zero_le _⟩) ?_
  refine lv_if_eq (tgt := 31) hx hb dX10_where_19 (by decide) (fun c_19 => ?_) (fun c_19 => ?_)
  · rw [if_pos c_19] at hf
    refine lv_bipush (v := (-2)) hx hb dX10_where_31 (by decide) ?_
    rw [← hQQ]
    cases hf
    exact rw_i hx hb hr hlocks hP hS dX10_where_33
  rw [if_neg c_19] at hf
  refine lv_aload_n hx hb dX10_where_22 rfl (lv_at hl 0 rfl) ?_
  refine va_get (D := D) (ci := 10) (v := .ref (a 12)) (C := RX10) (T := TX10) (N := 42) hx hb htl inlX10 hown hK hP 0 rfl rfl 22 (by decide) (htl _ wq_7_14) (fun _ h9 => h9) rfl dX10_where_23 ?_
  refine lv_iload_n hx hb dX10_where_26 rfl (lv_at hl 3 rfl) ?_
  obtain ⟨hi_27, hf⟩ := ob_in hf
  refine va_iald (D := D) (tys := tyl ct) hx hb hK hP 12 0 rfl rfl hi_27 dX10_where_27 ?_
  refine lv_goto (tgt := 33) hx hb dX10_where_28 (by decide) ?_
  rw [← hQQ]
  cases hf
  exact rw_i hx hb hr hlocks hP hS dX10_where_33
theorem c_X10_where (l : Launch) (D : va_G) (ct : Nat → ClassId) (G : GT) (a : Nat → Nat) (fu : Nat) (o : Ob) (v1 : Int32) (v2 : Int32) (v3 : Int32) {r : Int32 × Ob} (hf : p_X10_where fu o v1 v2 v3 = some r)  (hD0 : va_D (GE G) (cs10 ct a o)) : Met l yX10_where (.code yX10_where cX10_where 4 (some .int) :: wsL_law) rm_X10_where (va_Pc [.ref (a 0), .int v1, .int v2, .int v3] (Bx D ct G (cs10 ct a o))) (Qwr (some (.int r.1)) (fun H => va_P D vwCl (cs10 ct a r.2) H) (wA (cs10 ct a o))) 0 0 (wA (cs10 ct a o)) := by
  refine Met.ofW (cc := cX10_where) (maxL := 4) (ret := (some .int)) (by decide) rfl ?_
  intro p e s m args below meth c s₁ B hml hv
  obtain ⟨rfl, hP, hK, hN, hX⟩ := hv
  have hts := atoms_spec (ws := .code yX10_where cX10_where 4 (some .int) :: wsL_law) B.pre
  rw [lg_entry_eq]
  exact b_X10_where a fu o v1 v2 v3 B.exec B.bytes B.returns hml (findClass_of_methodNamed B.named) (fun w h => hts w (List.mem_cons_of_mem _ h)) B.notSynchronized hK hN hX hP hf hD0  (lv_entry [.ref (a 0), .int v1, .int v2, .int v3] (n := 4) (Nat.le_of_ble_eq_true rfl))
theorem hd_X10_comesOf : yX10_comesOf.cls ≠ "java/lang/invoke/MethodHandle" ∧ yX10_comesOf.cls ≠ "java/lang/invoke/VarHandle" ∧ (parseMethodDescriptor yX10_comesOf.desc).map (fun d => d.parameters.length) = some 2 := by decide +kernel
theorem cw_X10_X10_comesOf {R : Room} {s : State} {args : Array Value} (ht : ∀ w ∈ wsL_law, w.before args s = true) (hR : rm_X10_comesOf.frames + 1 ≤ R.frames ∧ 8 + (4 + 11) + rm_X10_comesOf.locals ≤ R.locals) : CallW R s args RX10 RX10 288 yX10_comesOf cX10_comesOf 4 (some .int) ((.code yX10_comesOf cX10_comesOf 4 (some .int)) :: wsL_law) rm_X10_comesOf 0 0 2 := cwV 2 ht (GV wq_27_17 wq_27_18 wq_27_19 wq_1_5 wq_27_20) rfl rfl rfl ⟨rfl, hd_X10_comesOf⟩ hR
def p_X10_sea (fu : Nat) (o : Ob) (v1 : Int32) (v2 : Int32) : Option (Int32 × Ob) :=
  (p_X10_putsIn fu o v1 v2).bind fun r_3 => if r_3.1 = 0 then some (((-2) : Int32), r_3.2) else (p_X10_comesOf fu r_3.2 v2 ((-1) : Int32)).bind fun r_12 => some (r_12, r_3.2)
abbrev rm_X10_sea : Room := { frames := 5, cells := 0, slots := 0, locals := 109 }
set_option maxHeartbeats 4000000 in
set_option maxRecDepth 100000 in
theorem b_X10_sea {p : Program} {l : Launch} {e : Env} {s : State} {m : MethodId} {args : Array Value} {below : List Frame} {meth : Method} {c : Code} {ls : Array Slot} {D : va_G} {ct : Nat → ClassId} {G : GT} (a : Nat → Nat) (fu : Nat) (o : Ob) (v1 : Int32) (v2 : Int32) {r : Int32 × Ob} (hx : p.tables.exec = Jvm.exec) (hb : c.code = cX10_sea) (hr : meth.sig.returnType = (some .int)) (hml : c.maxLocals = 3) (hown : s.vm.findClass RX10 = some m.cls) (htl : ∀ w ∈ wsL_law, w.before args s = true) (hlocks : meth.locks = false) (hK : va_K D vwCl (tyl ct) s) (hN : ∀ w ∈ NW, va_Nw w s) (hX : SX G s s.heap) (hP0 : va_P D vwCl (cs10 ct a o) s.heap) (hf : p_X10_sea fu o v1 v2 = some r) (hD0 : va_D (GE G) (cs10 ct a o))  (hl : lv_has ls 3 [(0, .ref (a 0)), (1, .int v1), (2, .int v2)]) : W p l e rm_X10_sea s m args below meth c s.heap [] 0 0 (MQ below (Qwr (some (.int r.1)) (fun H => va_P D vwCl (cs10 ct a r.2) H) (wA (cs10 ct a o))) args s 0 0 (wA (cs10 ct a o))) (F0 m 0 ls []) := by
  generalize hQQ : MQ below (Qwr (some (.int r.1)) (fun H => va_P D vwCl (cs10 ct a r.2) H) (wA (cs10 ct a o))) args s 0 0 (wA (cs10 ct a o)) = QQ
  have hDx : ∀ (oy : Ob), va_D (GE G) (cs10 ct a oy) := fun oy => D_cr hD0 rfl
  have hDW : ∀ (oy : Ob), va_D (wA (cs10 ct a o)) (cs10 ct a oy) := fun oy => D_cr (D_self hD0) rfl
  have hGE : ∀ q, wA (cs10 ct a o) q → GE G q := wA_GE hD0
  have hP := hP0
  have hS : va_S (wA (cs10 ct a o)) s.heap s.heap [] := va_S.rf
  rw [p_X10_sea] at hf
  refine lv_aload_n hx hb dX10_sea_0 rfl (lv_at hl 0 rfl) ?_
  refine lv_iload_n hx hb dX10_sea_1 rfl (lv_at hl 1 rfl) ?_
  refine lv_iload_n hx hb dX10_sea_2 rfl (lv_at hl 2 rfl) ?_
  obtain ⟨r_3, e_3, hf⟩ := ob_bind hf
  have hPX_3 : va_P D vwCl (cs10 ct a o) s.heap := hP
  refine wr_call1 (va_runV (As := [.int v1, .int v2]) (rest := []) ⟨hx, hb, hml, hown, htl⟩ (c_X10_putsIn l D ct G a fu o v1 v2 e_3 (hDx o)) (cw_X10_X10_putsIn htl ⟨Nat.le_of_ble_eq_true rfl, Nat.le_of_ble_eq_true rfl⟩) ⟨Bx_blind, va_recv hK hPX_3 (ci := 10) (q0 := 0) rfl rfl, Bx_pre hPX_3 hK hN (hX.stay hS hGE)⟩ rfl rfl hl.1 rfl (lv_room (Nat.le_of_ble_eq_true rfl)) dX10_sea_3 ⟨Nat.zero_le _, Nat.zero_le _⟩) hS (wA_cg rfl) (fun H_3 locs_3 hB_3 _ hk_3 hS => ?_)
  have hP : va_P D vwCl (cs10 ct a r_3.2) H_3 := hB_3
  refine lv_if_eq (tgt := 18) hx hb dX10_sea_6 (by decide) (fun c_6 => ?_) (fun c_6 => ?_)
  · rw [if_pos c_6] at hf
    refine lv_bipush (v := (-2)) hx hb dX10_sea_18 (by decide) ?_
    rw [← hQQ]
    cases hf
    exact rw_i hx hb hr hlocks hP hS dX10_sea_20
  rw [if_neg c_6] at hf
  refine lv_aload_n hx hb dX10_sea_9 rfl (lv_at hl 0 rfl) ?_
  refine lv_iload_n hx hb dX10_sea_10 rfl (lv_at hl 2 rfl) ?_
  refine lv_iconst (v := (-1)) hx hb dX10_sea_11 (by decide) ?_
  obtain ⟨r_12, e_12, hf⟩ := ob_bind hf
  have hPX_12 : va_P D vwCl (cs10 ct a r_3.2) H_3 := hP
  refine ro_call1 (va_runV (As := [.int v2, .int (-1)]) (rest := []) ⟨hx, hb, hml, hown, htl⟩ (c_X10_comesOf l D ct G a fu r_3.2 v2 ((-1) : Int32) e_12) (cw_X10_X10_comesOf htl ⟨Nat.le_of_ble_eq_true rfl, Nat.le_of_ble_eq_true rfl⟩) ⟨Bx_blind, va_recv hK hPX_12 (ci := 10) (q0 := 0) rfl rfl, Bx_pre hPX_12 hK hN (hX.stay hS hGE)⟩ rfl rfl hl.1 rfl (lv_room (Nat.le_of_ble_eq_true rfl)) dX10_sea_12 ⟨Nat.zero_le _, Nat.zero_le _⟩) ?_
  refine lv_goto (tgt := 20) hx hb dX10_sea_15 (by decide) ?_
  rw [← hQQ]
  cases hf
  exact rw_i hx hb hr hlocks hP hS dX10_sea_20
theorem c_X10_sea (l : Launch) (D : va_G) (ct : Nat → ClassId) (G : GT) (a : Nat → Nat) (fu : Nat) (o : Ob) (v1 : Int32) (v2 : Int32) {r : Int32 × Ob} (hf : p_X10_sea fu o v1 v2 = some r)  (hD0 : va_D (GE G) (cs10 ct a o)) : Met l yX10_sea (.code yX10_sea cX10_sea 3 (some .int) :: wsL_law) rm_X10_sea (va_Pc [.ref (a 0), .int v1, .int v2] (Bx D ct G (cs10 ct a o))) (Qwr (some (.int r.1)) (fun H => va_P D vwCl (cs10 ct a r.2) H) (wA (cs10 ct a o))) 0 0 (wA (cs10 ct a o)) := by
  refine Met.ofW (cc := cX10_sea) (maxL := 3) (ret := (some .int)) (by decide) rfl ?_
  intro p e s m args below meth c s₁ B hml hv
  obtain ⟨rfl, hP, hK, hN, hX⟩ := hv
  have hts := atoms_spec (ws := .code yX10_sea cX10_sea 3 (some .int) :: wsL_law) B.pre
  rw [lg_entry_eq]
  exact b_X10_sea a fu o v1 v2 B.exec B.bytes B.returns hml (findClass_of_methodNamed B.named) (fun w h => hts w (List.mem_cons_of_mem _ h)) B.notSynchronized hK hN hX hP hf hD0  (lv_entry [.ref (a 0), .int v1, .int v2] (n := 3) (Nat.le_of_ble_eq_true rfl))
def p_X10_comes (fu : Nat) (o : Ob) (v1 : Int32) (v2 : Int32) (v3 : Int32) : Option (Int32 × Ob) :=
  (p_X10_isReach fu o v3.toInt64).bind fun r_3 => if r_3 = 0 then some (((-2) : Int32), o) else (p_X10_putsIn fu o v1 v2).bind fun r_12 => if r_12.1 = 0 then some (((-2) : Int32), r_12.2) else (p_X10_comesOf fu r_12.2 v2 v3).bind fun r_21 => some (r_21, r_12.2)
abbrev rm_X10_comes : Room := { frames := 5, cells := 0, slots := 0, locals := 109 }
set_option maxHeartbeats 4000000 in
set_option maxRecDepth 100000 in
theorem b_X10_comes {p : Program} {l : Launch} {e : Env} {s : State} {m : MethodId} {args : Array Value} {below : List Frame} {meth : Method} {c : Code} {ls : Array Slot} {D : va_G} {ct : Nat → ClassId} {G : GT} (a : Nat → Nat) (fu : Nat) (o : Ob) (v1 : Int32) (v2 : Int32) (v3 : Int32) {r : Int32 × Ob} (hx : p.tables.exec = Jvm.exec) (hb : c.code = cX10_comes) (hr : meth.sig.returnType = (some .int)) (hml : c.maxLocals = 4) (hown : s.vm.findClass RX10 = some m.cls) (htl : ∀ w ∈ wsL_law, w.before args s = true) (hlocks : meth.locks = false) (hK : va_K D vwCl (tyl ct) s) (hN : ∀ w ∈ NW, va_Nw w s) (hX : SX G s s.heap) (hP0 : va_P D vwCl (cs10 ct a o) s.heap) (hf : p_X10_comes fu o v1 v2 v3 = some r) (hD0 : va_D (GE G) (cs10 ct a o))  (hl : lv_has ls 4 [(0, .ref (a 0)), (1, .int v1), (2, .int v2), (3, .int v3)]) : W p l e rm_X10_comes s m args below meth c s.heap [] 0 0 (MQ below (Qwr (some (.int r.1)) (fun H => va_P D vwCl (cs10 ct a r.2) H) (wA (cs10 ct a o))) args s 0 0 (wA (cs10 ct a o))) (F0 m 0 ls []) := by
  generalize hQQ : MQ below (Qwr (some (.int r.1)) (fun H => va_P D vwCl (cs10 ct a r.2) H) (wA (cs10 ct a o))) args s 0 0 (wA (cs10 ct a o)) = QQ
  have hDx : ∀ (oy : Ob), va_D (GE G) (cs10 ct a oy) := fun oy => D_cr hD0 rfl
  have hDW : ∀ (oy : Ob), va_D (wA (cs10 ct a o)) (cs10 ct a oy) := fun oy => D_cr (D_self hD0) rfl
  have hGE : ∀ q, wA (cs10 ct a o) q → GE G q := wA_GE hD0
  have hP := hP0
  have hS : va_S (wA (cs10 ct a o)) s.heap s.heap [] := va_S.rf
  rw [p_X10_comes] at hf
  refine lv_aload_n hx hb dX10_comes_0 rfl (lv_at hl 0 rfl) ?_
  refine lv_iload_n hx hb dX10_comes_1 rfl (lv_at hl 3 rfl) ?_
  refine lv_i2l hx hb dX10_comes_2 rfl ?_
  obtain ⟨r_3, e_3, hf⟩ := ob_bind hf
  have hPX_3 : va_P D vwCl (cs10 ct a o) s.heap := hP
  refine ro_call1 (va_runV (As := [.long v3.toInt64]) (rest := []) ⟨hx, hb, hml, hown, htl⟩ (c_X10_isReach l D ct G a fu o v3.toInt64 e_3) (cw_X10_X10_isReach htl ⟨Nat.le_of_ble_eq_true rfl, Nat.le_of_ble_eq_true rfl⟩) ⟨Bx_blind, va_recv hK hPX_3 (ci := 10) (q0 := 0) rfl rfl, Bx_pre hPX_3 hK hN (hX.stay hS hGE)⟩ rfl rfl hl.1 rfl (lv_room (Nat.le_of_ble_eq_true rfl)) dX10_comes_3 ⟨Nat.zero_le _, Nat.zero_le _⟩) ?_
  refine lv_if_eq (tgt := 27) hx hb dX10_comes_6 (by decide) (fun c_6 => ?_) (fun c_6 => ?_)
  · rw [if_pos c_6] at hf
    refine lv_bipush (v := (-2)) hx hb dX10_comes_27 (by decide) ?_
    rw [← hQQ]
    cases hf
    exact rw_i hx hb hr hlocks hP hS dX10_comes_29
  rw [if_neg c_6] at hf
  refine lv_aload_n hx hb dX10_comes_9 rfl (lv_at hl 0 rfl) ?_
  refine lv_iload_n hx hb dX10_comes_10 rfl (lv_at hl 1 rfl) ?_
  refine lv_iload_n hx hb dX10_comes_11 rfl (lv_at hl 2 rfl) ?_
  obtain ⟨r_12, e_12, hf⟩ := ob_bind hf
  have hPX_12 : va_P D vwCl (cs10 ct a o) s.heap := hP
  refine wr_call1 (va_runV (As := [.int v1, .int v2]) (rest := []) ⟨hx, hb, hml, hown, htl⟩ (c_X10_putsIn l D ct G a fu o v1 v2 e_12 (hDx o)) (cw_X10_X10_putsIn htl ⟨Nat.le_of_ble_eq_true rfl, Nat.le_of_ble_eq_true rfl⟩) ⟨Bx_blind, va_recv hK hPX_12 (ci := 10) (q0 := 0) rfl rfl, Bx_pre hPX_12 hK hN (hX.stay hS hGE)⟩ rfl rfl hl.1 rfl (lv_room (Nat.le_of_ble_eq_true rfl)) dX10_comes_12 ⟨Nat.zero_le _, Nat.zero_le _⟩) hS (wA_cg rfl) (fun H_12 locs_12 hB_12 _ hk_12 hS => ?_)
  have hP : va_P D vwCl (cs10 ct a r_12.2) H_12 := hB_12
  refine lv_if_eq (tgt := 27) hx hb dX10_comes_15 (by decide) (fun c_15 => ?_) (fun c_15 => ?_)
  · rw [if_pos c_15] at hf
    refine lv_bipush (v := (-2)) hx hb dX10_comes_27 (by decide) ?_
    rw [← hQQ]
    cases hf
    exact rw_i hx hb hr hlocks hP hS dX10_comes_29
  rw [if_neg c_15] at hf
  refine lv_aload_n hx hb dX10_comes_18 rfl (lv_at hl 0 rfl) ?_
  refine lv_iload_n hx hb dX10_comes_19 rfl (lv_at hl 2 rfl) ?_
  refine lv_iload_n hx hb dX10_comes_20 rfl (lv_at hl 3 rfl) ?_
  obtain ⟨r_21, e_21, hf⟩ := ob_bind hf
  have hPX_21 : va_P D vwCl (cs10 ct a r_12.2) H_12 := hP
  refine ro_call1 (va_runV (As := [.int v2, .int v3]) (rest := []) ⟨hx, hb, hml, hown, htl⟩ (c_X10_comesOf l D ct G a fu r_12.2 v2 v3 e_21) (cw_X10_X10_comesOf htl ⟨Nat.le_of_ble_eq_true rfl, Nat.le_of_ble_eq_true rfl⟩) ⟨Bx_blind, va_recv hK hPX_21 (ci := 10) (q0 := 0) rfl rfl, Bx_pre hPX_21 hK hN (hX.stay hS hGE)⟩ rfl rfl hl.1 rfl (lv_room (Nat.le_of_ble_eq_true rfl)) dX10_comes_21 ⟨Nat.zero_le _, Nat.zero_le _⟩) ?_
  refine lv_goto (tgt := 29) hx hb dX10_comes_24 (by decide) ?_
  rw [← hQQ]
  cases hf
  exact rw_i hx hb hr hlocks hP hS dX10_comes_29
theorem c_X10_comes (l : Launch) (D : va_G) (ct : Nat → ClassId) (G : GT) (a : Nat → Nat) (fu : Nat) (o : Ob) (v1 : Int32) (v2 : Int32) (v3 : Int32) {r : Int32 × Ob} (hf : p_X10_comes fu o v1 v2 v3 = some r)  (hD0 : va_D (GE G) (cs10 ct a o)) : Met l yX10_comes (.code yX10_comes cX10_comes 4 (some .int) :: wsL_law) rm_X10_comes (va_Pc [.ref (a 0), .int v1, .int v2, .int v3] (Bx D ct G (cs10 ct a o))) (Qwr (some (.int r.1)) (fun H => va_P D vwCl (cs10 ct a r.2) H) (wA (cs10 ct a o))) 0 0 (wA (cs10 ct a o)) := by
  refine Met.ofW (cc := cX10_comes) (maxL := 4) (ret := (some .int)) (by decide) rfl ?_
  intro p e s m args below meth c s₁ B hml hv
  obtain ⟨rfl, hP, hK, hN, hX⟩ := hv
  have hts := atoms_spec (ws := .code yX10_comes cX10_comes 4 (some .int) :: wsL_law) B.pre
  rw [lg_entry_eq]
  exact b_X10_comes a fu o v1 v2 v3 B.exec B.bytes B.returns hml (findClass_of_methodNamed B.named) (fun w h => hts w (List.mem_cons_of_mem _ h)) B.notSynchronized hK hN hX hP hf hD0  (lv_entry [.ref (a 0), .int v1, .int v2, .int v3] (n := 4) (Nat.le_of_ble_eq_true rfl))
def p_X10_way_L17 (fu : Nat)  : Nat → Ob → Int32 → Int32 → Option (Int32 × Ob)
  | 0, _, _, _ => none
  | n + 1, oz, v3, v4 =>
    if (60 : Int32) < v4 then some (v3, oz) else if inb v4 61 = true then if (0 : Int32) ≤ ((oz.1 22) v4.toNatClampNeg) then if inb v4 61 = true then p_X10_way_L17 fu  n oz (v3 ||| ((1 : Int32) <<< (((oz.1 22) v4.toNatClampNeg) &&& 31))) (v4 + 1) else none else p_X10_way_L17 fu  n oz (v3 ||| 0) (v4 + 1) else none
def p_X10_way (fu : Nat) (o : Ob) (v1 : Int32) (v2 : Int32) : Option (Int32 × Ob) :=
  (p_X10_putsIn fu o v1 v2).bind fun r_3 => if r_3.1 = 0 then some (((-2) : Int32), r_3.2) else p_X10_way_L17 fu fu r_3.2 0 v2
abbrev rm_X10_way : Room := { frames := 5, cells := 0, slots := 0, locals := 109 }
set_option maxHeartbeats 4000000 in
set_option maxRecDepth 100000 in
theorem b_X10_way {p : Program} {l : Launch} {e : Env} {s : State} {m : MethodId} {args : Array Value} {below : List Frame} {meth : Method} {c : Code} {ls : Array Slot} {D : va_G} {ct : Nat → ClassId} {G : GT} (a : Nat → Nat) (fu : Nat) (o : Ob) (v1 : Int32) (v2 : Int32) {r : Int32 × Ob} (hx : p.tables.exec = Jvm.exec) (hb : c.code = cX10_way) (hr : meth.sig.returnType = (some .int)) (hml : c.maxLocals = 5) (hown : s.vm.findClass RX10 = some m.cls) (htl : ∀ w ∈ wsL_law, w.before args s = true) (hlocks : meth.locks = false) (hK : va_K D vwCl (tyl ct) s) (hN : ∀ w ∈ NW, va_Nw w s) (hX : SX G s s.heap) (hP0 : va_P D vwCl (cs10 ct a o) s.heap) (hf : p_X10_way fu o v1 v2 = some r) (hD0 : va_D (GE G) (cs10 ct a o))  (hl : lv_has ls 5 [(0, .ref (a 0)), (1, .int v1), (2, .int v2)]) : W p l e rm_X10_way s m args below meth c s.heap [] 0 0 (MQ below (Qwr (some (.int r.1)) (fun H => va_P D vwCl (cs10 ct a r.2) H) (wA (cs10 ct a o))) args s 0 0 (wA (cs10 ct a o))) (F0 m 0 ls []) := by
  generalize hQQ : MQ below (Qwr (some (.int r.1)) (fun H => va_P D vwCl (cs10 ct a r.2) H) (wA (cs10 ct a o))) args s 0 0 (wA (cs10 ct a o)) = QQ
  have hDx : ∀ (oy : Ob), va_D (GE G) (cs10 ct a oy) := fun oy => D_cr hD0 rfl
  have hDW : ∀ (oy : Ob), va_D (wA (cs10 ct a o)) (cs10 ct a oy) := fun oy => D_cr (D_self hD0) rfl
  have hGE : ∀ q, wA (cs10 ct a o) q → GE G q := wA_GE hD0
  have hP := hP0
  have hS : va_S (wA (cs10 ct a o)) s.heap s.heap [] := va_S.rf
  have hL17 : ∀ (n : Nat) (oz : Ob) (v3 : Int32) (v4 : Int32), ∀ (H : Heap) (locs : List Loc) (ls : Array Slot), va_P D vwCl (cs10 ct a oz) H → va_S (wA (cs10 ct a o)) s.heap H locs → lv_has ls 5 [(0, .ref (a 0)), (3, .int v3), (4, .int v4)] → p_X10_way_L17 fu  n oz v3 v4 = some r → W p l e rm_X10_way s m args below meth c H locs 0 0 QQ (F0 m 17 ls []) := by
    intro  n
    induction n with
    | zero =>
      intro oz v3 v4 H locs ls hP hS hl hf 
      rw [p_X10_way_L17] at hf
      cases hf
    | succ n ih =>
      intro oz v3 v4 H locs ls hP hS hl hf 
      rw [p_X10_way_L17] at hf
      refine lv_iload hx hb dX10_way_17 (lv_at hl 2 rfl) ?_
      refine lv_bipush (v := 60) hx hb dX10_way_19 (by decide) ?_
      refine lv_icmp_gt (tgt := 56) hx hb dX10_way_21 (by decide) (fun c_21 => ?_) (fun c_21 => ?_)
      · rw [if_pos c_21] at hf
        refine lv_iload_n hx hb dX10_way_56 rfl (lv_at hl 1 rfl) ?_
        rw [← hQQ]
        cases hf
        exact rw_i hx hb hr hlocks hP hS dX10_way_57
      rw [if_neg c_21] at hf
      refine lv_iload_n hx hb dX10_way_24 rfl (lv_at hl 1 rfl) ?_
      refine lv_aload_n hx hb dX10_way_25 rfl (lv_at hl 0 rfl) ?_
      refine va_get (D := D) (ci := 10) (v := .ref (a 12)) (C := RX10) (T := TX10) (N := 42) hx hb htl inlX10 hown hK hP 0 rfl rfl 22 (by decide) (htl _ wq_7_14) (fun _ h9 => h9) rfl dX10_way_26 ?_
      refine lv_iload hx hb dX10_way_29 (lv_at hl 2 rfl) ?_
      obtain ⟨hi_31, hf⟩ := ob_in hf
      refine va_iald (D := D) (tys := tyl ct) hx hb hK hP 12 0 rfl rfl hi_31 dX10_way_31 ?_
      refine lv_if_ge (tgt := 39) hx hb dX10_way_32 (by decide) (fun c_32 => ?_) (fun c_32 => ?_)
      rotate_left 1
      · rw [if_neg c_32] at hf
        refine lv_iconst (v := 0) hx hb dX10_way_35 (by decide) ?_
        refine lv_goto (tgt := 48) hx hb dX10_way_36 (by decide) ?_
        refine lv_ior hx hb dX10_way_48 ?_
        refine lv_istore_n (lv' := [(3, .int (v3 ||| 0)), (0, .ref (a 0)), (4, .int v4)]) hx hb dX10_way_49 rfl hl (by decide) rfl (fun ls hl => ?_)
        refine lv_iinc (v := (v4 + 1)) (lv' := [(4, .int (v4 + 1)), (3, .int (v3 ||| 0)), (0, .ref (a 0))]) hx hb dX10_way_50 hl (k := 2) rfl rfl (by decide) rfl (fun ls hl => ?_)
        refine lv_goto (tgt := 17) hx hb dX10_way_53 (by decide) ?_
        exact ih oz (v3 ||| 0) (v4 + 1) _ _ _ hP hS (lv_sub hl [2, 1, 0] rfl) hf 
      rw [if_pos c_32] at hf
      refine lv_iconst (v := 1) hx hb dX10_way_39 (by decide) ?_
      refine lv_aload_n hx hb dX10_way_40 rfl (lv_at hl 0 rfl) ?_
      refine va_get (D := D) (ci := 10) (v := .ref (a 12)) (C := RX10) (T := TX10) (N := 42) hx hb htl inlX10 hown hK hP 0 rfl rfl 22 (by decide) (htl _ wq_7_14) (fun _ h9 => h9) rfl dX10_way_41 ?_
      refine lv_iload hx hb dX10_way_44 (lv_at hl 2 rfl) ?_
      obtain ⟨hi_46, hf⟩ := ob_in hf
      refine va_iald (D := D) (tys := tyl ct) hx hb hK hP 12 0 rfl rfl hi_46 dX10_way_46 ?_
      refine lv_ishl hx hb dX10_way_47 ?_
      refine lv_ior hx hb dX10_way_48 ?_
      refine lv_istore_n (lv' := [(3, .int (v3 ||| ((1 : Int32) <<< (((oz.1 22) v4.toNatClampNeg) &&& 31)))), (0, .ref (a 0)), (4, .int v4)]) hx hb dX10_way_49 rfl hl (by decide) rfl (fun ls hl => ?_)
      refine lv_iinc (v := (v4 + 1)) (lv' := [(4, .int (v4 + 1)), (3, .int (v3 ||| ((1 : Int32) <<< (((oz.1 22) v4.toNatClampNeg) &&& 31)))), (0, .ref (a 0))]) hx hb dX10_way_50 hl (k := 2) rfl rfl (by decide) rfl (fun ls hl => ?_)
      refine lv_goto (tgt := 17) hx hb dX10_way_53 (by decide) ?_
      exact ih oz (v3 ||| ((1 : Int32) <<< (((oz.1 22) v4.toNatClampNeg) &&& 31))) (v4 + 1) _ _ _ hP hS (lv_sub hl [2, 1, 0] rfl) hf 
  rw [p_X10_way] at hf
  refine lv_aload_n hx hb dX10_way_0 rfl (lv_at hl 0 rfl) ?_
  refine lv_iload_n hx hb dX10_way_1 rfl (lv_at hl 1 rfl) ?_
  refine lv_iload_n hx hb dX10_way_2 rfl (lv_at hl 2 rfl) ?_
  obtain ⟨r_3, e_3, hf⟩ := ob_bind hf
  have hPX_3 : va_P D vwCl (cs10 ct a o) s.heap := hP
  refine wr_call1 (va_runV (As := [.int v1, .int v2]) (rest := []) ⟨hx, hb, hml, hown, htl⟩ (c_X10_putsIn l D ct G a fu o v1 v2 e_3 (hDx o)) (cw_X10_X10_putsIn htl ⟨Nat.le_of_ble_eq_true rfl, Nat.le_of_ble_eq_true rfl⟩) ⟨Bx_blind, va_recv hK hPX_3 (ci := 10) (q0 := 0) rfl rfl, Bx_pre hPX_3 hK hN (hX.stay hS hGE)⟩ rfl rfl hl.1 rfl (lv_room (Nat.le_of_ble_eq_true rfl)) dX10_way_3 ⟨Nat.zero_le _, Nat.zero_le _⟩) hS (wA_cg rfl) (fun H_3 locs_3 hB_3 _ hk_3 hS => ?_)
  have hP : va_P D vwCl (cs10 ct a r_3.2) H_3 := hB_3
  refine lv_if_ne (tgt := 12) hx hb dX10_way_6 (by decide) (fun c_6 => ?_) (fun c_6 => ?_)
  rotate_left 1
  · rw [if_pos c_6] at hf
    refine lv_bipush (v := (-2)) hx hb dX10_way_9 (by decide) ?_
    rw [← hQQ]
    cases hf
    exact rw_i hx hb hr hlocks hP hS dX10_way_11
  rw [if_neg c_6] at hf
  refine lv_iconst (v := 0) hx hb dX10_way_12 (by decide) ?_
  refine lv_istore_n (lv' := [(3, .int 0), (0, .ref (a 0)), (1, .int v1), (2, .int v2)]) hx hb dX10_way_13 rfl hl (by decide) rfl (fun ls hl => ?_)
  refine lv_iload_n hx hb dX10_way_14 rfl (lv_at hl 3 rfl) ?_
  refine lv_istore (lv' := [(4, .int v2), (3, .int 0), (0, .ref (a 0)), (1, .int v1), (2, .int v2)]) hx hb dX10_way_15 hl (by decide) rfl (fun ls hl => ?_)
  exact hL17 fu r_3.2 0 v2 _ _ _ hP hS (lv_sub hl [2, 1, 0] rfl) hf 
theorem c_X10_way (l : Launch) (D : va_G) (ct : Nat → ClassId) (G : GT) (a : Nat → Nat) (fu : Nat) (o : Ob) (v1 : Int32) (v2 : Int32) {r : Int32 × Ob} (hf : p_X10_way fu o v1 v2 = some r)  (hD0 : va_D (GE G) (cs10 ct a o)) : Met l yX10_way (.code yX10_way cX10_way 5 (some .int) :: wsL_law) rm_X10_way (va_Pc [.ref (a 0), .int v1, .int v2] (Bx D ct G (cs10 ct a o))) (Qwr (some (.int r.1)) (fun H => va_P D vwCl (cs10 ct a r.2) H) (wA (cs10 ct a o))) 0 0 (wA (cs10 ct a o)) := by
  refine Met.ofW (cc := cX10_way) (maxL := 5) (ret := (some .int)) (by decide) rfl ?_
  intro p e s m args below meth c s₁ B hml hv
  obtain ⟨rfl, hP, hK, hN, hX⟩ := hv
  have hts := atoms_spec (ws := .code yX10_way cX10_way 5 (some .int) :: wsL_law) B.pre
  rw [lg_entry_eq]
  exact b_X10_way a fu o v1 v2 B.exec B.bytes B.returns hml (findClass_of_methodNamed B.named) (fun w h => hts w (List.mem_cons_of_mem _ h)) B.notSynchronized hK hN hX hP hf hD0  (lv_entry [.ref (a 0), .int v1, .int v2] (n := 5) (Nat.le_of_ble_eq_true rfl))
def p_X10_leaves (fu : Nat) (o : Ob) (v1 : Int32) (v2 : Int32) : Option (Int32 × Ob) :=
  (p_X10_putsIn fu o v1 v2).bind fun r_3 => if r_3.1 = 0 then some (((-2) : Int32), r_3.2) else some ((r_3.2.1 24 0), r_3.2)
abbrev rm_X10_leaves : Room := { frames := 5, cells := 0, slots := 0, locals := 109 }
set_option maxHeartbeats 4000000 in
set_option maxRecDepth 100000 in
theorem b_X10_leaves {p : Program} {l : Launch} {e : Env} {s : State} {m : MethodId} {args : Array Value} {below : List Frame} {meth : Method} {c : Code} {ls : Array Slot} {D : va_G} {ct : Nat → ClassId} {G : GT} (a : Nat → Nat) (fu : Nat) (o : Ob) (v1 : Int32) (v2 : Int32) {r : Int32 × Ob} (hx : p.tables.exec = Jvm.exec) (hb : c.code = cX10_leaves) (hr : meth.sig.returnType = (some .int)) (hml : c.maxLocals = 3) (hown : s.vm.findClass RX10 = some m.cls) (htl : ∀ w ∈ wsL_law, w.before args s = true) (hlocks : meth.locks = false) (hK : va_K D vwCl (tyl ct) s) (hN : ∀ w ∈ NW, va_Nw w s) (hX : SX G s s.heap) (hP0 : va_P D vwCl (cs10 ct a o) s.heap) (hf : p_X10_leaves fu o v1 v2 = some r) (hD0 : va_D (GE G) (cs10 ct a o))  (hl : lv_has ls 3 [(0, .ref (a 0)), (1, .int v1), (2, .int v2)]) : W p l e rm_X10_leaves s m args below meth c s.heap [] 0 0 (MQ below (Qwr (some (.int r.1)) (fun H => va_P D vwCl (cs10 ct a r.2) H) (wA (cs10 ct a o))) args s 0 0 (wA (cs10 ct a o))) (F0 m 0 ls []) := by
  generalize hQQ : MQ below (Qwr (some (.int r.1)) (fun H => va_P D vwCl (cs10 ct a r.2) H) (wA (cs10 ct a o))) args s 0 0 (wA (cs10 ct a o)) = QQ
  have hDx : ∀ (oy : Ob), va_D (GE G) (cs10 ct a oy) := fun oy => D_cr hD0 rfl
  have hDW : ∀ (oy : Ob), va_D (wA (cs10 ct a o)) (cs10 ct a oy) := fun oy => D_cr (D_self hD0) rfl
  have hGE : ∀ q, wA (cs10 ct a o) q → GE G q := wA_GE hD0
  have hP := hP0
  have hS : va_S (wA (cs10 ct a o)) s.heap s.heap [] := va_S.rf
  rw [p_X10_leaves] at hf
  refine lv_aload_n hx hb dX10_leaves_0 rfl (lv_at hl 0 rfl) ?_
  refine lv_iload_n hx hb dX10_leaves_1 rfl (lv_at hl 1 rfl) ?_
  refine lv_iload_n hx hb dX10_leaves_2 rfl (lv_at hl 2 rfl) ?_
  obtain ⟨r_3, e_3, hf⟩ := ob_bind hf
  have hPX_3 : va_P D vwCl (cs10 ct a o) s.heap := hP
  refine wr_call1 (va_runV (As := [.int v1, .int v2]) (rest := []) ⟨hx, hb, hml, hown, htl⟩ (c_X10_putsIn l D ct G a fu o v1 v2 e_3 (hDx o)) (cw_X10_X10_putsIn htl ⟨Nat.le_of_ble_eq_true rfl, Nat.le_of_ble_eq_true rfl⟩) ⟨Bx_blind, va_recv hK hPX_3 (ci := 10) (q0 := 0) rfl rfl, Bx_pre hPX_3 hK hN (hX.stay hS hGE)⟩ rfl rfl hl.1 rfl (lv_room (Nat.le_of_ble_eq_true rfl)) dX10_leaves_3 ⟨Nat.zero_le _, Nat.zero_le _⟩) hS (wA_cg rfl) (fun H_3 locs_3 hB_3 _ hk_3 hS => ?_)
  have hP : va_P D vwCl (cs10 ct a r_3.2) H_3 := hB_3
  refine lv_if_eq (tgt := 16) hx hb dX10_leaves_6 (by decide) (fun c_6 => ?_) (fun c_6 => ?_)
  · rw [if_pos c_6] at hf
    refine lv_bipush (v := (-2)) hx hb dX10_leaves_16 (by decide) ?_
    rw [← hQQ]
    cases hf
    exact rw_i hx hb hr hlocks hP hS dX10_leaves_18
  rw [if_neg c_6] at hf
  refine lv_aload_n hx hb dX10_leaves_9 rfl (lv_at hl 0 rfl) ?_
  refine va_get (D := D) (ci := 10) (v := .int (r_3.2.1 24 0)) (C := RX10) (T := TX10) (N := 42) hx hb htl inlX10 hown hK hP 0 rfl rfl 24 (by decide) (htl _ wq_27_2) (fun _ h9 => h9) rfl dX10_leaves_10 ?_
  refine lv_goto (tgt := 18) hx hb dX10_leaves_13 (by decide) ?_
  rw [← hQQ]
  cases hf
  exact rw_i hx hb hr hlocks hP hS dX10_leaves_18
theorem c_X10_leaves (l : Launch) (D : va_G) (ct : Nat → ClassId) (G : GT) (a : Nat → Nat) (fu : Nat) (o : Ob) (v1 : Int32) (v2 : Int32) {r : Int32 × Ob} (hf : p_X10_leaves fu o v1 v2 = some r)  (hD0 : va_D (GE G) (cs10 ct a o)) : Met l yX10_leaves (.code yX10_leaves cX10_leaves 3 (some .int) :: wsL_law) rm_X10_leaves (va_Pc [.ref (a 0), .int v1, .int v2] (Bx D ct G (cs10 ct a o))) (Qwr (some (.int r.1)) (fun H => va_P D vwCl (cs10 ct a r.2) H) (wA (cs10 ct a o))) 0 0 (wA (cs10 ct a o)) := by
  refine Met.ofW (cc := cX10_leaves) (maxL := 3) (ret := (some .int)) (by decide) rfl ?_
  intro p e s m args below meth c s₁ B hml hv
  obtain ⟨rfl, hP, hK, hN, hX⟩ := hv
  have hts := atoms_spec (ws := .code yX10_leaves cX10_leaves 3 (some .int) :: wsL_law) B.pre
  rw [lg_entry_eq]
  exact b_X10_leaves a fu o v1 v2 B.exec B.bytes B.returns hml (findClass_of_methodNamed B.named) (fun w h => hts w (List.mem_cons_of_mem _ h)) B.notSynchronized hK hN hX hP hf hD0  (lv_entry [.ref (a 0), .int v1, .int v2] (n := 3) (Nat.le_of_ble_eq_true rfl))
def p_X10_waits_L17 (fu : Nat)  : Nat → Ob → Int32 → Int32 → Option (Int32 × Ob)
  | 0, _, _, _ => none
  | n + 1, oz, v3, v4 =>
    if (60 : Int32) < v4 then some (v3, oz) else if inb v4 61 = true then if ((oz.1 22) v4.toNatClampNeg) < 0 then p_X10_waits_L17 fu  n oz (v3 + 0) (v4 + 1) else if inb v4 61 = true then if inb v4 61 = true then (p_X10_bit fu ((oz.1 17) v4.toNatClampNeg) ((oz.1 22) v4.toNatClampNeg)).bind fun r_49 => if r_49 = (1 : Int32) then p_X10_waits_L17 fu  n oz (v3 + 1) (v4 + 1) else p_X10_waits_L17 fu  n oz (v3 + 0) (v4 + 1) else none else none else none
def p_X10_waits (fu : Nat) (o : Ob) (v1 : Int32) (v2 : Int32) : Option (Int32 × Ob) :=
  (p_X10_putsIn fu o v1 v2).bind fun r_3 => if r_3.1 = 0 then some (((-2) : Int32), r_3.2) else p_X10_waits_L17 fu fu r_3.2 0 v2
abbrev rm_X10_waits : Room := { frames := 5, cells := 0, slots := 0, locals := 109 }
set_option maxHeartbeats 4000000 in
set_option maxRecDepth 100000 in
theorem b_X10_waits {p : Program} {l : Launch} {e : Env} {s : State} {m : MethodId} {args : Array Value} {below : List Frame} {meth : Method} {c : Code} {ls : Array Slot} {D : va_G} {ct : Nat → ClassId} {G : GT} (a : Nat → Nat) (fu : Nat) (o : Ob) (v1 : Int32) (v2 : Int32) {r : Int32 × Ob} (hx : p.tables.exec = Jvm.exec) (hb : c.code = cX10_waits) (hr : meth.sig.returnType = (some .int)) (hml : c.maxLocals = 5) (hown : s.vm.findClass RX10 = some m.cls) (htl : ∀ w ∈ wsL_law, w.before args s = true) (hlocks : meth.locks = false) (hK : va_K D vwCl (tyl ct) s) (hN : ∀ w ∈ NW, va_Nw w s) (hX : SX G s s.heap) (hP0 : va_P D vwCl (cs10 ct a o) s.heap) (hf : p_X10_waits fu o v1 v2 = some r) (hD0 : va_D (GE G) (cs10 ct a o))  (hl : lv_has ls 5 [(0, .ref (a 0)), (1, .int v1), (2, .int v2)]) : W p l e rm_X10_waits s m args below meth c s.heap [] 0 0 (MQ below (Qwr (some (.int r.1)) (fun H => va_P D vwCl (cs10 ct a r.2) H) (wA (cs10 ct a o))) args s 0 0 (wA (cs10 ct a o))) (F0 m 0 ls []) := by
  generalize hQQ : MQ below (Qwr (some (.int r.1)) (fun H => va_P D vwCl (cs10 ct a r.2) H) (wA (cs10 ct a o))) args s 0 0 (wA (cs10 ct a o)) = QQ
  have hDx : ∀ (oy : Ob), va_D (GE G) (cs10 ct a oy) := fun oy => D_cr hD0 rfl
  have hDW : ∀ (oy : Ob), va_D (wA (cs10 ct a o)) (cs10 ct a oy) := fun oy => D_cr (D_self hD0) rfl
  have hGE : ∀ q, wA (cs10 ct a o) q → GE G q := wA_GE hD0
  have hP := hP0
  have hS : va_S (wA (cs10 ct a o)) s.heap s.heap [] := va_S.rf
  have hL17 : ∀ (n : Nat) (oz : Ob) (v3 : Int32) (v4 : Int32), ∀ (H : Heap) (locs : List Loc) (ls : Array Slot), va_P D vwCl (cs10 ct a oz) H → va_S (wA (cs10 ct a o)) s.heap H locs → lv_has ls 5 [(0, .ref (a 0)), (3, .int v3), (4, .int v4)] → p_X10_waits_L17 fu  n oz v3 v4 = some r → W p l e rm_X10_waits s m args below meth c H locs 0 0 QQ (F0 m 17 ls []) := by
    intro  n
    induction n with
    | zero =>
      intro oz v3 v4 H locs ls hP hS hl hf 
      rw [p_X10_waits_L17] at hf
      cases hf
    | succ n ih =>
      intro oz v3 v4 H locs ls hP hS hl hf 
      rw [p_X10_waits_L17] at hf
      refine lv_iload hx hb dX10_waits_17 (lv_at hl 2 rfl) ?_
      refine lv_bipush (v := 60) hx hb dX10_waits_19 (by decide) ?_
      refine lv_icmp_gt (tgt := 69) hx hb dX10_waits_21 (by decide) (fun c_21 => ?_) (fun c_21 => ?_)
      · rw [if_pos c_21] at hf
        refine lv_iload_n hx hb dX10_waits_69 rfl (lv_at hl 1 rfl) ?_
        rw [← hQQ]
        cases hf
        exact rw_i hx hb hr hlocks hP hS dX10_waits_70
      rw [if_neg c_21] at hf
      refine lv_iload_n hx hb dX10_waits_24 rfl (lv_at hl 1 rfl) ?_
      refine lv_aload_n hx hb dX10_waits_25 rfl (lv_at hl 0 rfl) ?_
      refine va_get (D := D) (ci := 10) (v := .ref (a 12)) (C := RX10) (T := TX10) (N := 42) hx hb htl inlX10 hown hK hP 0 rfl rfl 22 (by decide) (htl _ wq_7_14) (fun _ h9 => h9) rfl dX10_waits_26 ?_
      refine lv_iload hx hb dX10_waits_29 (lv_at hl 2 rfl) ?_
      obtain ⟨hi_31, hf⟩ := ob_in hf
      refine va_iald (D := D) (tys := tyl ct) hx hb hK hP 12 0 rfl rfl hi_31 dX10_waits_31 ?_
      refine lv_if_lt (tgt := 60) hx hb dX10_waits_32 (by decide) (fun c_32 => ?_) (fun c_32 => ?_)
      · rw [if_pos c_32] at hf
        refine lv_iconst (v := 0) hx hb dX10_waits_60 (by decide) ?_
        refine lv_iadd hx hb dX10_waits_61 ?_
        refine lv_istore_n (lv' := [(3, .int (v3 + 0)), (0, .ref (a 0)), (4, .int v4)]) hx hb dX10_waits_62 rfl hl (by decide) rfl (fun ls hl => ?_)
        refine lv_iinc (v := (v4 + 1)) (lv' := [(4, .int (v4 + 1)), (3, .int (v3 + 0)), (0, .ref (a 0))]) hx hb dX10_waits_63 hl (k := 2) rfl rfl (by decide) rfl (fun ls hl => ?_)
        refine lv_goto (tgt := 17) hx hb dX10_waits_66 (by decide) ?_
        exact ih oz (v3 + 0) (v4 + 1) _ _ _ hP hS (lv_sub hl [2, 1, 0] rfl) hf 
      rw [if_neg c_32] at hf
      refine lv_aload_n hx hb dX10_waits_35 rfl (lv_at hl 0 rfl) ?_
      refine va_get (D := D) (ci := 10) (v := .ref (a 9)) (C := RX10) (T := TX10) (N := 42) hx hb htl inlX10 hown hK hP 0 rfl rfl 17 (by decide) (htl _ wq_7_11) (fun _ h9 => h9) rfl dX10_waits_36 ?_
      refine lv_iload hx hb dX10_waits_39 (lv_at hl 2 rfl) ?_
      obtain ⟨hi_41, hf⟩ := ob_in hf
      refine va_iald (D := D) (tys := tyl ct) hx hb hK hP 9 0 rfl rfl hi_41 dX10_waits_41 ?_
      refine lv_aload_n hx hb dX10_waits_42 rfl (lv_at hl 0 rfl) ?_
      refine va_get (D := D) (ci := 10) (v := .ref (a 12)) (C := RX10) (T := TX10) (N := 42) hx hb htl inlX10 hown hK hP 0 rfl rfl 22 (by decide) (htl _ wq_7_14) (fun _ h9 => h9) rfl dX10_waits_43 ?_
      refine lv_iload hx hb dX10_waits_46 (lv_at hl 2 rfl) ?_
      obtain ⟨hi_48, hf⟩ := ob_in hf
      refine va_iald (D := D) (tys := tyl ct) hx hb hK hP 12 0 rfl rfl hi_48 dX10_waits_48 ?_
      obtain ⟨r_49, e_49, hf⟩ := ob_bind hf
      have hPX_49 : va_P D vwCl ([]) H := P_nil
      refine ro_call1 (va_runS (As := [.int ((oz.1 17) v4.toNatClampNeg), .int ((oz.1 22) v4.toNatClampNeg)]) (rest := [.int v3]) ⟨hx, hb, hml, hown, htl⟩ (c_X10_bit l D ct G fu ((oz.1 17) v4.toNatClampNeg) ((oz.1 22) v4.toNatClampNeg) e_49) (cw_X10_X10_bit htl ⟨Nat.le_of_ble_eq_true rfl, Nat.le_of_ble_eq_true rfl⟩) ⟨Bx_blind, Bx_pre hPX_49 hK hN (hX.stay hS hGE)⟩ rfl rfl hl.1 rfl (lv_room (Nat.le_of_ble_eq_true rfl)) dX10_waits_49 ⟨Nat.zero_le _, Nat.zero_le _⟩) ?_
      refine lv_iconst (v := 1) hx hb dX10_waits_52 (by decide) ?_
      refine lv_icmp_ne (tgt := 60) hx hb dX10_waits_53 (by decide) (fun c_53 => ?_) (fun c_53 => ?_)
      · rw [if_neg c_53] at hf
        refine lv_iconst (v := 0) hx hb dX10_waits_60 (by decide) ?_
        refine lv_iadd hx hb dX10_waits_61 ?_
        refine lv_istore_n (lv' := [(3, .int (v3 + 0)), (0, .ref (a 0)), (4, .int v4)]) hx hb dX10_waits_62 rfl hl (by decide) rfl (fun ls hl => ?_)
        refine lv_iinc (v := (v4 + 1)) (lv' := [(4, .int (v4 + 1)), (3, .int (v3 + 0)), (0, .ref (a 0))]) hx hb dX10_waits_63 hl (k := 2) rfl rfl (by decide) rfl (fun ls hl => ?_)
        refine lv_goto (tgt := 17) hx hb dX10_waits_66 (by decide) ?_
        exact ih oz (v3 + 0) (v4 + 1) _ _ _ hP hS (lv_sub hl [2, 1, 0] rfl) hf 
      rw [if_pos c_53] at hf
      refine lv_iconst (v := 1) hx hb dX10_waits_56 (by decide) ?_
      refine lv_goto (tgt := 61) hx hb dX10_waits_57 (by decide) ?_
      refine lv_iadd hx hb dX10_waits_61 ?_
      refine lv_istore_n (lv' := [(3, .int (v3 + 1)), (0, .ref (a 0)), (4, .int v4)]) hx hb dX10_waits_62 rfl hl (by decide) rfl (fun ls hl => ?_)
      refine lv_iinc (v := (v4 + 1)) (lv' := [(4, .int (v4 + 1)), (3, .int (v3 + 1)), (0, .ref (a 0))]) hx hb dX10_waits_63 hl (k := 2) rfl rfl (by decide) rfl (fun ls hl => ?_)
      refine lv_goto (tgt := 17) hx hb dX10_waits_66 (by decide) ?_
      exact ih oz (v3 + 1) (v4 + 1) _ _ _ hP hS (lv_sub hl [2, 1, 0] rfl) hf 
  rw [p_X10_waits] at hf
  refine lv_aload_n hx hb dX10_waits_0 rfl (lv_at hl 0 rfl) ?_
  refine lv_iload_n hx hb dX10_waits_1 rfl (lv_at hl 1 rfl) ?_
  refine lv_iload_n hx hb dX10_waits_2 rfl (lv_at hl 2 rfl) ?_
  obtain ⟨r_3, e_3, hf⟩ := ob_bind hf
  have hPX_3 : va_P D vwCl (cs10 ct a o) s.heap := hP
  refine wr_call1 (va_runV (As := [.int v1, .int v2]) (rest := []) ⟨hx, hb, hml, hown, htl⟩ (c_X10_putsIn l D ct G a fu o v1 v2 e_3 (hDx o)) (cw_X10_X10_putsIn htl ⟨Nat.le_of_ble_eq_true rfl, Nat.le_of_ble_eq_true rfl⟩) ⟨Bx_blind, va_recv hK hPX_3 (ci := 10) (q0 := 0) rfl rfl, Bx_pre hPX_3 hK hN (hX.stay hS hGE)⟩ rfl rfl hl.1 rfl (lv_room (Nat.le_of_ble_eq_true rfl)) dX10_waits_3 ⟨Nat.zero_le _, Nat.zero_le _⟩) hS (wA_cg rfl) (fun H_3 locs_3 hB_3 _ hk_3 hS => ?_)
  have hP : va_P D vwCl (cs10 ct a r_3.2) H_3 := hB_3
  refine lv_if_ne (tgt := 12) hx hb dX10_waits_6 (by decide) (fun c_6 => ?_) (fun c_6 => ?_)
  rotate_left 1
  · rw [if_pos c_6] at hf
    refine lv_bipush (v := (-2)) hx hb dX10_waits_9 (by decide) ?_
    rw [← hQQ]
    cases hf
    exact rw_i hx hb hr hlocks hP hS dX10_waits_11
  rw [if_neg c_6] at hf
  refine lv_iconst (v := 0) hx hb dX10_waits_12 (by decide) ?_
  refine lv_istore_n (lv' := [(3, .int 0), (0, .ref (a 0)), (1, .int v1), (2, .int v2)]) hx hb dX10_waits_13 rfl hl (by decide) rfl (fun ls hl => ?_)
  refine lv_iload_n hx hb dX10_waits_14 rfl (lv_at hl 3 rfl) ?_
  refine lv_istore (lv' := [(4, .int v2), (3, .int 0), (0, .ref (a 0)), (1, .int v1), (2, .int v2)]) hx hb dX10_waits_15 hl (by decide) rfl (fun ls hl => ?_)
  exact hL17 fu r_3.2 0 v2 _ _ _ hP hS (lv_sub hl [2, 1, 0] rfl) hf 
theorem c_X10_waits (l : Launch) (D : va_G) (ct : Nat → ClassId) (G : GT) (a : Nat → Nat) (fu : Nat) (o : Ob) (v1 : Int32) (v2 : Int32) {r : Int32 × Ob} (hf : p_X10_waits fu o v1 v2 = some r)  (hD0 : va_D (GE G) (cs10 ct a o)) : Met l yX10_waits (.code yX10_waits cX10_waits 5 (some .int) :: wsL_law) rm_X10_waits (va_Pc [.ref (a 0), .int v1, .int v2] (Bx D ct G (cs10 ct a o))) (Qwr (some (.int r.1)) (fun H => va_P D vwCl (cs10 ct a r.2) H) (wA (cs10 ct a o))) 0 0 (wA (cs10 ct a o)) := by
  refine Met.ofW (cc := cX10_waits) (maxL := 5) (ret := (some .int)) (by decide) rfl ?_
  intro p e s m args below meth c s₁ B hml hv
  obtain ⟨rfl, hP, hK, hN, hX⟩ := hv
  have hts := atoms_spec (ws := .code yX10_waits cX10_waits 5 (some .int) :: wsL_law) B.pre
  rw [lg_entry_eq]
  exact b_X10_waits a fu o v1 v2 B.exec B.bytes B.returns hml (findClass_of_methodNamed B.named) (fun w h => hts w (List.mem_cons_of_mem _ h)) B.notSynchronized hK hN hX hP hf hD0  (lv_entry [.ref (a 0), .int v1, .int v2] (n := 5) (Nat.le_of_ble_eq_true rfl))
def p_X10_jumps (fu : Nat) (o : Ob) (v1 : Int32) (v2 : Int32) : Option (Int32 × Ob) :=
  (p_X10_putsIn fu o v1 v2).bind fun r_3 => if r_3.1 = 0 then some (((-2) : Int32), r_3.2) else some ((r_3.2.1 25 0), r_3.2)
abbrev rm_X10_jumps : Room := { frames := 5, cells := 0, slots := 0, locals := 109 }
set_option maxHeartbeats 4000000 in
set_option maxRecDepth 100000 in
theorem b_X10_jumps {p : Program} {l : Launch} {e : Env} {s : State} {m : MethodId} {args : Array Value} {below : List Frame} {meth : Method} {c : Code} {ls : Array Slot} {D : va_G} {ct : Nat → ClassId} {G : GT} (a : Nat → Nat) (fu : Nat) (o : Ob) (v1 : Int32) (v2 : Int32) {r : Int32 × Ob} (hx : p.tables.exec = Jvm.exec) (hb : c.code = cX10_jumps) (hr : meth.sig.returnType = (some .int)) (hml : c.maxLocals = 3) (hown : s.vm.findClass RX10 = some m.cls) (htl : ∀ w ∈ wsL_law, w.before args s = true) (hlocks : meth.locks = false) (hK : va_K D vwCl (tyl ct) s) (hN : ∀ w ∈ NW, va_Nw w s) (hX : SX G s s.heap) (hP0 : va_P D vwCl (cs10 ct a o) s.heap) (hf : p_X10_jumps fu o v1 v2 = some r) (hD0 : va_D (GE G) (cs10 ct a o))  (hl : lv_has ls 3 [(0, .ref (a 0)), (1, .int v1), (2, .int v2)]) : W p l e rm_X10_jumps s m args below meth c s.heap [] 0 0 (MQ below (Qwr (some (.int r.1)) (fun H => va_P D vwCl (cs10 ct a r.2) H) (wA (cs10 ct a o))) args s 0 0 (wA (cs10 ct a o))) (F0 m 0 ls []) := by
  generalize hQQ : MQ below (Qwr (some (.int r.1)) (fun H => va_P D vwCl (cs10 ct a r.2) H) (wA (cs10 ct a o))) args s 0 0 (wA (cs10 ct a o)) = QQ
  have hDx : ∀ (oy : Ob), va_D (GE G) (cs10 ct a oy) := fun oy => D_cr hD0 rfl
  have hDW : ∀ (oy : Ob), va_D (wA (cs10 ct a o)) (cs10 ct a oy) := fun oy => D_cr (D_self hD0) rfl
  have hGE : ∀ q, wA (cs10 ct a o) q → GE G q := wA_GE hD0
  have hP := hP0
  have hS : va_S (wA (cs10 ct a o)) s.heap s.heap [] := va_S.rf
  rw [p_X10_jumps] at hf
  refine lv_aload_n hx hb dX10_jumps_0 rfl (lv_at hl 0 rfl) ?_
  refine lv_iload_n hx hb dX10_jumps_1 rfl (lv_at hl 1 rfl) ?_
  refine lv_iload_n hx hb dX10_jumps_2 rfl (lv_at hl 2 rfl) ?_
  obtain ⟨r_3, e_3, hf⟩ := ob_bind hf
  have hPX_3 : va_P D vwCl (cs10 ct a o) s.heap := hP
  refine wr_call1 (va_runV (As := [.int v1, .int v2]) (rest := []) ⟨hx, hb, hml, hown, htl⟩ (c_X10_putsIn l D ct G a fu o v1 v2 e_3 (hDx o)) (cw_X10_X10_putsIn htl ⟨Nat.le_of_ble_eq_true rfl, Nat.le_of_ble_eq_true rfl⟩) ⟨Bx_blind, va_recv hK hPX_3 (ci := 10) (q0 := 0) rfl rfl, Bx_pre hPX_3 hK hN (hX.stay hS hGE)⟩ rfl rfl hl.1 rfl (lv_room (Nat.le_of_ble_eq_true rfl)) dX10_jumps_3 ⟨Nat.zero_le _, Nat.zero_le _⟩) hS (wA_cg rfl) (fun H_3 locs_3 hB_3 _ hk_3 hS => ?_)
  have hP : va_P D vwCl (cs10 ct a r_3.2) H_3 := hB_3
  refine lv_if_eq (tgt := 16) hx hb dX10_jumps_6 (by decide) (fun c_6 => ?_) (fun c_6 => ?_)
  · rw [if_pos c_6] at hf
    refine lv_bipush (v := (-2)) hx hb dX10_jumps_16 (by decide) ?_
    rw [← hQQ]
    cases hf
    exact rw_i hx hb hr hlocks hP hS dX10_jumps_18
  rw [if_neg c_6] at hf
  refine lv_aload_n hx hb dX10_jumps_9 rfl (lv_at hl 0 rfl) ?_
  refine va_get (D := D) (ci := 10) (v := .int (r_3.2.1 25 0)) (C := RX10) (T := TX10) (N := 42) hx hb htl inlX10 hown hK hP 0 rfl rfl 25 (by decide) (htl _ wq_27_3) (fun _ h9 => h9) rfl dX10_jumps_10 ?_
  refine lv_goto (tgt := 18) hx hb dX10_jumps_13 (by decide) ?_
  rw [← hQQ]
  cases hf
  exact rw_i hx hb hr hlocks hP hS dX10_jumps_18
theorem c_X10_jumps (l : Launch) (D : va_G) (ct : Nat → ClassId) (G : GT) (a : Nat → Nat) (fu : Nat) (o : Ob) (v1 : Int32) (v2 : Int32) {r : Int32 × Ob} (hf : p_X10_jumps fu o v1 v2 = some r)  (hD0 : va_D (GE G) (cs10 ct a o)) : Met l yX10_jumps (.code yX10_jumps cX10_jumps 3 (some .int) :: wsL_law) rm_X10_jumps (va_Pc [.ref (a 0), .int v1, .int v2] (Bx D ct G (cs10 ct a o))) (Qwr (some (.int r.1)) (fun H => va_P D vwCl (cs10 ct a r.2) H) (wA (cs10 ct a o))) 0 0 (wA (cs10 ct a o)) := by
  refine Met.ofW (cc := cX10_jumps) (maxL := 3) (ret := (some .int)) (by decide) rfl ?_
  intro p e s m args below meth c s₁ B hml hv
  obtain ⟨rfl, hP, hK, hN, hX⟩ := hv
  have hts := atoms_spec (ws := .code yX10_jumps cX10_jumps 3 (some .int) :: wsL_law) B.pre
  rw [lg_entry_eq]
  exact b_X10_jumps a fu o v1 v2 B.exec B.bytes B.returns hml (findClass_of_methodNamed B.named) (fun w h => hts w (List.mem_cons_of_mem _ h)) B.notSynchronized hK hN hX hP hf hD0  (lv_entry [.ref (a 0), .int v1, .int v2] (n := 3) (Nat.le_of_ble_eq_true rfl))
def p_X10_used (fu : Nat) (o : Ob) (v1 : Int32) (v2 : Int32) : Option (Int32 × Ob) :=
  (p_X10_putsIn fu o v1 v2).bind fun r_3 => if r_3.1 = 0 then some (((-2) : Int32), r_3.2) else some ((r_3.2.1 26 0), r_3.2)
abbrev rm_X10_used : Room := { frames := 5, cells := 0, slots := 0, locals := 109 }
set_option maxHeartbeats 4000000 in
set_option maxRecDepth 100000 in
theorem b_X10_used {p : Program} {l : Launch} {e : Env} {s : State} {m : MethodId} {args : Array Value} {below : List Frame} {meth : Method} {c : Code} {ls : Array Slot} {D : va_G} {ct : Nat → ClassId} {G : GT} (a : Nat → Nat) (fu : Nat) (o : Ob) (v1 : Int32) (v2 : Int32) {r : Int32 × Ob} (hx : p.tables.exec = Jvm.exec) (hb : c.code = cX10_used) (hr : meth.sig.returnType = (some .int)) (hml : c.maxLocals = 3) (hown : s.vm.findClass RX10 = some m.cls) (htl : ∀ w ∈ wsL_law, w.before args s = true) (hlocks : meth.locks = false) (hK : va_K D vwCl (tyl ct) s) (hN : ∀ w ∈ NW, va_Nw w s) (hX : SX G s s.heap) (hP0 : va_P D vwCl (cs10 ct a o) s.heap) (hf : p_X10_used fu o v1 v2 = some r) (hD0 : va_D (GE G) (cs10 ct a o))  (hl : lv_has ls 3 [(0, .ref (a 0)), (1, .int v1), (2, .int v2)]) : W p l e rm_X10_used s m args below meth c s.heap [] 0 0 (MQ below (Qwr (some (.int r.1)) (fun H => va_P D vwCl (cs10 ct a r.2) H) (wA (cs10 ct a o))) args s 0 0 (wA (cs10 ct a o))) (F0 m 0 ls []) := by
  generalize hQQ : MQ below (Qwr (some (.int r.1)) (fun H => va_P D vwCl (cs10 ct a r.2) H) (wA (cs10 ct a o))) args s 0 0 (wA (cs10 ct a o)) = QQ
  have hDx : ∀ (oy : Ob), va_D (GE G) (cs10 ct a oy) := fun oy => D_cr hD0 rfl
  have hDW : ∀ (oy : Ob), va_D (wA (cs10 ct a o)) (cs10 ct a oy) := fun oy => D_cr (D_self hD0) rfl
  have hGE : ∀ q, wA (cs10 ct a o) q → GE G q := wA_GE hD0
  have hP := hP0
  have hS : va_S (wA (cs10 ct a o)) s.heap s.heap [] := va_S.rf
  rw [p_X10_used] at hf
  refine lv_aload_n hx hb dX10_used_0 rfl (lv_at hl 0 rfl) ?_
  refine lv_iload_n hx hb dX10_used_1 rfl (lv_at hl 1 rfl) ?_
  refine lv_iload_n hx hb dX10_used_2 rfl (lv_at hl 2 rfl) ?_
  obtain ⟨r_3, e_3, hf⟩ := ob_bind hf
  have hPX_3 : va_P D vwCl (cs10 ct a o) s.heap := hP
  refine wr_call1 (va_runV (As := [.int v1, .int v2]) (rest := []) ⟨hx, hb, hml, hown, htl⟩ (c_X10_putsIn l D ct G a fu o v1 v2 e_3 (hDx o)) (cw_X10_X10_putsIn htl ⟨Nat.le_of_ble_eq_true rfl, Nat.le_of_ble_eq_true rfl⟩) ⟨Bx_blind, va_recv hK hPX_3 (ci := 10) (q0 := 0) rfl rfl, Bx_pre hPX_3 hK hN (hX.stay hS hGE)⟩ rfl rfl hl.1 rfl (lv_room (Nat.le_of_ble_eq_true rfl)) dX10_used_3 ⟨Nat.zero_le _, Nat.zero_le _⟩) hS (wA_cg rfl) (fun H_3 locs_3 hB_3 _ hk_3 hS => ?_)
  have hP : va_P D vwCl (cs10 ct a r_3.2) H_3 := hB_3
  refine lv_if_eq (tgt := 16) hx hb dX10_used_6 (by decide) (fun c_6 => ?_) (fun c_6 => ?_)
  · rw [if_pos c_6] at hf
    refine lv_bipush (v := (-2)) hx hb dX10_used_16 (by decide) ?_
    rw [← hQQ]
    cases hf
    exact rw_i hx hb hr hlocks hP hS dX10_used_18
  rw [if_neg c_6] at hf
  refine lv_aload_n hx hb dX10_used_9 rfl (lv_at hl 0 rfl) ?_
  refine va_get (D := D) (ci := 10) (v := .int (r_3.2.1 26 0)) (C := RX10) (T := TX10) (N := 42) hx hb htl inlX10 hown hK hP 0 rfl rfl 26 (by decide) (htl _ wq_27_4) (fun _ h9 => h9) rfl dX10_used_10 ?_
  refine lv_goto (tgt := 18) hx hb dX10_used_13 (by decide) ?_
  rw [← hQQ]
  cases hf
  exact rw_i hx hb hr hlocks hP hS dX10_used_18
theorem c_X10_used (l : Launch) (D : va_G) (ct : Nat → ClassId) (G : GT) (a : Nat → Nat) (fu : Nat) (o : Ob) (v1 : Int32) (v2 : Int32) {r : Int32 × Ob} (hf : p_X10_used fu o v1 v2 = some r)  (hD0 : va_D (GE G) (cs10 ct a o)) : Met l yX10_used (.code yX10_used cX10_used 3 (some .int) :: wsL_law) rm_X10_used (va_Pc [.ref (a 0), .int v1, .int v2] (Bx D ct G (cs10 ct a o))) (Qwr (some (.int r.1)) (fun H => va_P D vwCl (cs10 ct a r.2) H) (wA (cs10 ct a o))) 0 0 (wA (cs10 ct a o)) := by
  refine Met.ofW (cc := cX10_used) (maxL := 3) (ret := (some .int)) (by decide) rfl ?_
  intro p e s m args below meth c s₁ B hml hv
  obtain ⟨rfl, hP, hK, hN, hX⟩ := hv
  have hts := atoms_spec (ws := .code yX10_used cX10_used 3 (some .int) :: wsL_law) B.pre
  rw [lg_entry_eq]
  exact b_X10_used a fu o v1 v2 B.exec B.bytes B.returns hml (findClass_of_methodNamed B.named) (fun w h => hts w (List.mem_cons_of_mem _ h)) B.notSynchronized hK hN hX hP hf hD0  (lv_entry [.ref (a 0), .int v1, .int v2] (n := 3) (Nat.le_of_ble_eq_true rfl))
def p_X10_together_L26 (fu : Nat)  : Nat → Ob → Int32 → Int32 → Int32 → Int32 → Option (Int32 × Ob)
  | 0, _, _, _, _, _ => none
  | n + 1, oz, v2, v3, v4, v5 =>
    if inb (3 : Int32) 98 = true then if ((oz.1 1) (3 : Int32).toNatClampNeg) ≤ v5 then some (v4, oz) else (p_X10_goStick fu oz v5 v2).bind fun r_41 => if inb (60 : Int32) 61 = true then if ((r_41.1 22) (60 : Int32).toNatClampNeg) = v3 then p_X10_together_L26 fu  n r_41 v2 v3 (v4 ||| ((1 : Int32) <<< (v5 &&& 31))) (v5 + 1) else p_X10_together_L26 fu  n r_41 v2 v3 (v4 ||| 0) (v5 + 1) else none else none
def p_X10_together (fu : Nat) (o : Ob) (v1 : Int32) (v2 : Int32) : Option (Int32 × Ob) :=
  (p_X10_putsIn fu o v1 v2).bind fun r_3 => if r_3.1 = 0 then some (((-2) : Int32), r_3.2) else if inb (60 : Int32) 61 = true then p_X10_together_L26 fu fu r_3.2 v2 ((r_3.2.1 22) (60 : Int32).toNatClampNeg) 0 0 else none
abbrev rm_X10_together : Room := { frames := 5, cells := 0, slots := 0, locals := 109 }
set_option maxHeartbeats 4000000 in
set_option maxRecDepth 100000 in
theorem b_X10_together {p : Program} {l : Launch} {e : Env} {s : State} {m : MethodId} {args : Array Value} {below : List Frame} {meth : Method} {c : Code} {ls : Array Slot} {D : va_G} {ct : Nat → ClassId} {G : GT} (a : Nat → Nat) (fu : Nat) (o : Ob) (v1 : Int32) (v2 : Int32) {r : Int32 × Ob} (hx : p.tables.exec = Jvm.exec) (hb : c.code = cX10_together) (hr : meth.sig.returnType = (some .int)) (hml : c.maxLocals = 6) (hown : s.vm.findClass RX10 = some m.cls) (htl : ∀ w ∈ wsL_law, w.before args s = true) (hlocks : meth.locks = false) (hK : va_K D vwCl (tyl ct) s) (hN : ∀ w ∈ NW, va_Nw w s) (hX : SX G s s.heap) (hP0 : va_P D vwCl (cs10 ct a o) s.heap) (hf : p_X10_together fu o v1 v2 = some r) (hD0 : va_D (GE G) (cs10 ct a o))  (hl : lv_has ls 6 [(0, .ref (a 0)), (1, .int v1), (2, .int v2)]) : W p l e rm_X10_together s m args below meth c s.heap [] 0 0 (MQ below (Qwr (some (.int r.1)) (fun H => va_P D vwCl (cs10 ct a r.2) H) (wA (cs10 ct a o))) args s 0 0 (wA (cs10 ct a o))) (F0 m 0 ls []) := by
  generalize hQQ : MQ below (Qwr (some (.int r.1)) (fun H => va_P D vwCl (cs10 ct a r.2) H) (wA (cs10 ct a o))) args s 0 0 (wA (cs10 ct a o)) = QQ
  have hDx : ∀ (oy : Ob), va_D (GE G) (cs10 ct a oy) := fun oy => D_cr hD0 rfl
  have hDW : ∀ (oy : Ob), va_D (wA (cs10 ct a o)) (cs10 ct a oy) := fun oy => D_cr (D_self hD0) rfl
  have hGE : ∀ q, wA (cs10 ct a o) q → GE G q := wA_GE hD0
  have hP := hP0
  have hS : va_S (wA (cs10 ct a o)) s.heap s.heap [] := va_S.rf
  have hL26 : ∀ (n : Nat) (oz : Ob) (v2 : Int32) (v3 : Int32) (v4 : Int32) (v5 : Int32), ∀ (H : Heap) (locs : List Loc) (ls : Array Slot), va_P D vwCl (cs10 ct a oz) H → va_S (wA (cs10 ct a o)) s.heap H locs → lv_has ls 6 [(0, .ref (a 0)), (2, .int v2), (3, .int v3), (4, .int v4), (5, .int v5)] → p_X10_together_L26 fu  n oz v2 v3 v4 v5 = some r → W p l e rm_X10_together s m args below meth c H locs 0 0 QQ (F0 m 26 ls []) := by
    intro  n
    induction n with
    | zero =>
      intro oz v2 v3 v4 v5 H locs ls hP hS hl hf 
      rw [p_X10_together_L26] at hf
      cases hf
    | succ n ih =>
      intro oz v2 v3 v4 v5 H locs ls hP hS hl hf 
      rw [p_X10_together_L26] at hf
      refine lv_iload hx hb dX10_together_26 (lv_at hl 4 rfl) ?_
      refine lv_aload_n hx hb dX10_together_28 rfl (lv_at hl 0 rfl) ?_
      refine va_get (D := D) (ci := 10) (v := .ref (a 1)) (C := RX10) (T := TX10) (N := 42) hx hb htl inlX10 hown hK hP 0 rfl rfl 1 (by decide) (htl _ wq_7_0) (fun _ h9 => h9) rfl dX10_together_29 ?_
      refine lv_iconst (v := 3) hx hb dX10_together_32 (by decide) ?_
      obtain ⟨hi_33, hf⟩ := ob_in hf
      refine va_iald (D := D) (tys := tyl ct) hx hb hK hP 1 0 rfl rfl hi_33 dX10_together_33 ?_
      refine lv_icmp_ge (tgt := 74) hx hb dX10_together_34 (by decide) (fun c_34 => ?_) (fun c_34 => ?_)
      · rw [if_pos c_34] at hf
        refine lv_iload hx hb dX10_together_74 (lv_at hl 3 rfl) ?_
        rw [← hQQ]
        cases hf
        exact rw_i hx hb hr hlocks hP hS dX10_together_76
      rw [if_neg c_34] at hf
      refine lv_aload_n hx hb dX10_together_37 rfl (lv_at hl 0 rfl) ?_
      refine lv_iload hx hb dX10_together_38 (lv_at hl 4 rfl) ?_
      refine lv_iload_n hx hb dX10_together_40 rfl (lv_at hl 1 rfl) ?_
      obtain ⟨r_41, e_41, hf⟩ := ob_bind hf
      have hPX_41 : va_P D vwCl (cs10 ct a oz) H := hP
      refine wr_call0 (va_runV (As := [.int v5, .int v2]) (rest := []) ⟨hx, hb, hml, hown, htl⟩ (c_X10_goStick l D ct G a fu oz v5 v2 e_41 (hDx oz)) (cw_X10_X10_goStick htl ⟨Nat.le_of_ble_eq_true rfl, Nat.le_of_ble_eq_true rfl⟩) ⟨Bx_blind, va_recv hK hPX_41 (ci := 10) (q0 := 0) rfl rfl, Bx_pre hPX_41 hK hN (hX.stay hS hGE)⟩ rfl rfl hl.1 rfl (lv_room (Nat.le_of_ble_eq_true rfl)) dX10_together_41 ⟨Nat.zero_le _, Nat.zero_le _⟩) hS (wA_cg rfl) (fun H_41 locs_41 hB_41 _ hk_41 hS => ?_)
      have hP : va_P D vwCl (cs10 ct a r_41) H_41 := hB_41
      refine lv_iload hx hb dX10_together_44 (lv_at hl 3 rfl) ?_
      refine lv_aload_n hx hb dX10_together_46 rfl (lv_at hl 0 rfl) ?_
      refine va_get (D := D) (ci := 10) (v := .ref (a 12)) (C := RX10) (T := TX10) (N := 42) hx hb htl inlX10 hown hK hP 0 rfl rfl 22 (by decide) (htl _ wq_7_14) (fun _ h9 => h9) rfl dX10_together_47 ?_
      refine lv_bipush (v := 60) hx hb dX10_together_50 (by decide) ?_
      obtain ⟨hi_52, hf⟩ := ob_in hf
      refine va_iald (D := D) (tys := tyl ct) hx hb hK hP 12 0 rfl rfl hi_52 dX10_together_52 ?_
      refine lv_iload_n hx hb dX10_together_53 rfl (lv_at hl 2 rfl) ?_
      refine lv_icmp_ne (tgt := 64) hx hb dX10_together_54 (by decide) (fun c_54 => ?_) (fun c_54 => ?_)
      · rw [if_neg c_54] at hf
        refine lv_iconst (v := 0) hx hb dX10_together_64 (by decide) ?_
        refine lv_ior hx hb dX10_together_65 ?_
        refine lv_istore (lv' := [(4, .int (v4 ||| 0)), (0, .ref (a 0)), (2, .int v2), (3, .int v3), (5, .int v5)]) hx hb dX10_together_66 hl (by decide) rfl (fun ls hl => ?_)
        refine lv_iinc (v := (v5 + 1)) (lv' := [(5, .int (v5 + 1)), (4, .int (v4 ||| 0)), (0, .ref (a 0)), (2, .int v2), (3, .int v3)]) hx hb dX10_together_68 hl (k := 4) rfl rfl (by decide) rfl (fun ls hl => ?_)
        refine lv_goto (tgt := 26) hx hb dX10_together_71 (by decide) ?_
        exact ih r_41 v2 v3 (v4 ||| 0) (v5 + 1) _ _ _ hP hS (lv_sub hl [2, 3, 4, 1, 0] rfl) hf 
      rw [if_pos c_54] at hf
      refine lv_iconst (v := 1) hx hb dX10_together_57 (by decide) ?_
      refine lv_iload hx hb dX10_together_58 (lv_at hl 4 rfl) ?_
      refine lv_ishl hx hb dX10_together_60 ?_
      refine lv_goto (tgt := 65) hx hb dX10_together_61 (by decide) ?_
      refine lv_ior hx hb dX10_together_65 ?_
      refine lv_istore (lv' := [(4, .int (v4 ||| ((1 : Int32) <<< (v5 &&& 31)))), (0, .ref (a 0)), (2, .int v2), (3, .int v3), (5, .int v5)]) hx hb dX10_together_66 hl (by decide) rfl (fun ls hl => ?_)
      refine lv_iinc (v := (v5 + 1)) (lv' := [(5, .int (v5 + 1)), (4, .int (v4 ||| ((1 : Int32) <<< (v5 &&& 31)))), (0, .ref (a 0)), (2, .int v2), (3, .int v3)]) hx hb dX10_together_68 hl (k := 4) rfl rfl (by decide) rfl (fun ls hl => ?_)
      refine lv_goto (tgt := 26) hx hb dX10_together_71 (by decide) ?_
      exact ih r_41 v2 v3 (v4 ||| ((1 : Int32) <<< (v5 &&& 31))) (v5 + 1) _ _ _ hP hS (lv_sub hl [2, 3, 4, 1, 0] rfl) hf 
  rw [p_X10_together] at hf
  refine lv_aload_n hx hb dX10_together_0 rfl (lv_at hl 0 rfl) ?_
  refine lv_iload_n hx hb dX10_together_1 rfl (lv_at hl 1 rfl) ?_
  refine lv_iload_n hx hb dX10_together_2 rfl (lv_at hl 2 rfl) ?_
  obtain ⟨r_3, e_3, hf⟩ := ob_bind hf
  have hPX_3 : va_P D vwCl (cs10 ct a o) s.heap := hP
  refine wr_call1 (va_runV (As := [.int v1, .int v2]) (rest := []) ⟨hx, hb, hml, hown, htl⟩ (c_X10_putsIn l D ct G a fu o v1 v2 e_3 (hDx o)) (cw_X10_X10_putsIn htl ⟨Nat.le_of_ble_eq_true rfl, Nat.le_of_ble_eq_true rfl⟩) ⟨Bx_blind, va_recv hK hPX_3 (ci := 10) (q0 := 0) rfl rfl, Bx_pre hPX_3 hK hN (hX.stay hS hGE)⟩ rfl rfl hl.1 rfl (lv_room (Nat.le_of_ble_eq_true rfl)) dX10_together_3 ⟨Nat.zero_le _, Nat.zero_le _⟩) hS (wA_cg rfl) (fun H_3 locs_3 hB_3 _ hk_3 hS => ?_)
  have hP : va_P D vwCl (cs10 ct a r_3.2) H_3 := hB_3
  refine lv_if_ne (tgt := 12) hx hb dX10_together_6 (by decide) (fun c_6 => ?_) (fun c_6 => ?_)
  rotate_left 1
  · rw [if_pos c_6] at hf
    refine lv_bipush (v := (-2)) hx hb dX10_together_9 (by decide) ?_
    rw [← hQQ]
    cases hf
    exact rw_i hx hb hr hlocks hP hS dX10_together_11
  rw [if_neg c_6] at hf
  refine lv_aload_n hx hb dX10_together_12 rfl (lv_at hl 0 rfl) ?_
  refine va_get (D := D) (ci := 10) (v := .ref (a 12)) (C := RX10) (T := TX10) (N := 42) hx hb htl inlX10 hown hK hP 0 rfl rfl 22 (by decide) (htl _ wq_7_14) (fun _ h9 => h9) rfl dX10_together_13 ?_
  refine lv_bipush (v := 60) hx hb dX10_together_16 (by decide) ?_
  obtain ⟨hi_18, hf⟩ := ob_in hf
  refine va_iald (D := D) (tys := tyl ct) hx hb hK hP 12 0 rfl rfl hi_18 dX10_together_18 ?_
  refine lv_istore_n (lv' := [(3, .int ((r_3.2.1 22) (60 : Int32).toNatClampNeg)), (0, .ref (a 0)), (1, .int v1), (2, .int v2)]) hx hb dX10_together_19 rfl hl (by decide) rfl (fun ls hl => ?_)
  refine lv_iconst (v := 0) hx hb dX10_together_20 (by decide) ?_
  refine lv_istore (lv' := [(4, .int 0), (3, .int ((r_3.2.1 22) (60 : Int32).toNatClampNeg)), (0, .ref (a 0)), (1, .int v1), (2, .int v2)]) hx hb dX10_together_21 hl (by decide) rfl (fun ls hl => ?_)
  refine lv_iconst (v := 0) hx hb dX10_together_23 (by decide) ?_
  refine lv_istore (lv' := [(5, .int 0), (4, .int 0), (3, .int ((r_3.2.1 22) (60 : Int32).toNatClampNeg)), (0, .ref (a 0)), (1, .int v1), (2, .int v2)]) hx hb dX10_together_24 hl (by decide) rfl (fun ls hl => ?_)
  exact hL26 fu r_3.2 v2 ((r_3.2.1 22) (60 : Int32).toNatClampNeg) 0 0 _ _ _ hP hS (lv_sub hl [3, 5, 2, 1, 0] rfl) hf 
theorem c_X10_together (l : Launch) (D : va_G) (ct : Nat → ClassId) (G : GT) (a : Nat → Nat) (fu : Nat) (o : Ob) (v1 : Int32) (v2 : Int32) {r : Int32 × Ob} (hf : p_X10_together fu o v1 v2 = some r)  (hD0 : va_D (GE G) (cs10 ct a o)) : Met l yX10_together (.code yX10_together cX10_together 6 (some .int) :: wsL_law) rm_X10_together (va_Pc [.ref (a 0), .int v1, .int v2] (Bx D ct G (cs10 ct a o))) (Qwr (some (.int r.1)) (fun H => va_P D vwCl (cs10 ct a r.2) H) (wA (cs10 ct a o))) 0 0 (wA (cs10 ct a o)) := by
  refine Met.ofW (cc := cX10_together) (maxL := 6) (ret := (some .int)) (by decide) rfl ?_
  intro p e s m args below meth c s₁ B hml hv
  obtain ⟨rfl, hP, hK, hN, hX⟩ := hv
  have hts := atoms_spec (ws := .code yX10_together cX10_together 6 (some .int) :: wsL_law) B.pre
  rw [lg_entry_eq]
  exact b_X10_together a fu o v1 v2 B.exec B.bytes B.returns hml (findClass_of_methodNamed B.named) (fun w h => hts w (List.mem_cons_of_mem _ h)) B.notSynchronized hK hN hX hP hf hD0  (lv_entry [.ref (a 0), .int v1, .int v2] (n := 6) (Nat.le_of_ble_eq_true rfl))
def p_X10_again_J63 (fu : Nat) (c17 : Ob → Int32 → Int32 → Option (Int32 × Ob)) (oz : Ob) (v3 : Int32) (v4 : Int32) (v5 : Int32) : Option (Int32 × Ob) :=
    c17 oz (v3 ||| ((1 : Int32) <<< (v5 &&& 31))) (v4 + 1)
def p_X10_again_L17 (fu : Nat)  : Nat → Ob → Int32 → Int32 → Option (Int32 × Ob)
  | 0, _, _, _ => none
  | n + 1, oz, v3, v4 =>
    if (60 : Int32) < v4 then some (((-1) : Int32), oz) else if inb v4 61 = true then if (0 : Int32) ≤ ((oz.1 22) v4.toNatClampNeg) then if inb v4 61 = true then if ((oz.1 23) v4.toNatClampNeg) = 0 then p_X10_again_J63 fu (fun oz v3 v4 => p_X10_again_L17 fu  n oz v3 v4) oz v3 v4 ((oz.1 22) v4.toNatClampNeg) else (p_X10_bit fu v3 ((oz.1 22) v4.toNatClampNeg)).bind fun r_53 => if r_53 = (1 : Int32) then some (v4, oz) else p_X10_again_J63 fu (fun oz v3 v4 => p_X10_again_L17 fu  n oz v3 v4) oz v3 v4 ((oz.1 22) v4.toNatClampNeg) else none else some (((-1) : Int32), oz) else none
def p_X10_again (fu : Nat) (o : Ob) (v1 : Int32) (v2 : Int32) : Option (Int32 × Ob) :=
  (p_X10_putsIn fu o v1 v2).bind fun r_3 => if r_3.1 = 0 then some (((-2) : Int32), r_3.2) else p_X10_again_L17 fu fu r_3.2 0 v2
abbrev rm_X10_again : Room := { frames := 5, cells := 0, slots := 0, locals := 109 }
set_option maxHeartbeats 4000000 in
set_option maxRecDepth 100000 in
theorem b_X10_again {p : Program} {l : Launch} {e : Env} {s : State} {m : MethodId} {args : Array Value} {below : List Frame} {meth : Method} {c : Code} {ls : Array Slot} {D : va_G} {ct : Nat → ClassId} {G : GT} (a : Nat → Nat) (fu : Nat) (o : Ob) (v1 : Int32) (v2 : Int32) {r : Int32 × Ob} (hx : p.tables.exec = Jvm.exec) (hb : c.code = cX10_again) (hr : meth.sig.returnType = (some .int)) (hml : c.maxLocals = 6) (hown : s.vm.findClass RX10 = some m.cls) (htl : ∀ w ∈ wsL_law, w.before args s = true) (hlocks : meth.locks = false) (hK : va_K D vwCl (tyl ct) s) (hN : ∀ w ∈ NW, va_Nw w s) (hX : SX G s s.heap) (hP0 : va_P D vwCl (cs10 ct a o) s.heap) (hf : p_X10_again fu o v1 v2 = some r) (hD0 : va_D (GE G) (cs10 ct a o))  (hl : lv_has ls 6 [(0, .ref (a 0)), (1, .int v1), (2, .int v2)]) : W p l e rm_X10_again s m args below meth c s.heap [] 0 0 (MQ below (Qwr (some (.int r.1)) (fun H => va_P D vwCl (cs10 ct a r.2) H) (wA (cs10 ct a o))) args s 0 0 (wA (cs10 ct a o))) (F0 m 0 ls []) := by
  generalize hQQ : MQ below (Qwr (some (.int r.1)) (fun H => va_P D vwCl (cs10 ct a r.2) H) (wA (cs10 ct a o))) args s 0 0 (wA (cs10 ct a o)) = QQ
  have hDx : ∀ (oy : Ob), va_D (GE G) (cs10 ct a oy) := fun oy => D_cr hD0 rfl
  have hDW : ∀ (oy : Ob), va_D (wA (cs10 ct a o)) (cs10 ct a oy) := fun oy => D_cr (D_self hD0) rfl
  have hGE : ∀ q, wA (cs10 ct a o) q → GE G q := wA_GE hD0
  have hP := hP0
  have hS : va_S (wA (cs10 ct a o)) s.heap s.heap [] := va_S.rf
  have hJ63 : ∀ (c17 : Ob → Int32 → Int32 → Option (Int32 × Ob)) (oz : Ob) (v3 : Int32) (v4 : Int32) (v5 : Int32), ∀ (H : Heap) (locs : List Loc) (ls : Array Slot), va_P D vwCl (cs10 ct a oz) H → va_S (wA (cs10 ct a o)) s.heap H locs → lv_has ls 6 [(0, .ref (a 0)), (3, .int v3), (4, .int v4), (5, .int v5)] → p_X10_again_J63 fu c17 oz v3 v4 v5 = some r → (∀ (oz : Ob) (v3 : Int32) (v4 : Int32), ∀ (H : Heap) (locs : List Loc) (ls : Array Slot), va_P D vwCl (cs10 ct a oz) H → va_S (wA (cs10 ct a o)) s.heap H locs → lv_has ls 6 [(0, .ref (a 0)), (3, .int v3), (4, .int v4)] → c17 oz v3 v4 = some r → W p l e rm_X10_again s m args below meth c H locs 0 0 QQ (F0 m 17 ls [])) → W p l e rm_X10_again s m args below meth c H locs 0 0 QQ (F0 m 63 ls []) := by
    intro c17 oz v3 v4 v5 H locs ls hP hS hl hf k17
    rw [p_X10_again_J63] at hf
    refine lv_iload_n hx hb dX10_again_63 rfl (lv_at hl 1 rfl) ?_
    refine lv_iconst (v := 1) hx hb dX10_again_64 (by decide) ?_
    refine lv_iload hx hb dX10_again_65 (lv_at hl 3 rfl) ?_
    refine lv_ishl hx hb dX10_again_67 ?_
    refine lv_ior hx hb dX10_again_68 ?_
    refine lv_istore_n (lv' := [(3, .int (v3 ||| ((1 : Int32) <<< (v5 &&& 31)))), (0, .ref (a 0)), (4, .int v4), (5, .int v5)]) hx hb dX10_again_69 rfl hl (by decide) rfl (fun ls hl => ?_)
    refine lv_iinc (v := (v4 + 1)) (lv' := [(4, .int (v4 + 1)), (3, .int (v3 ||| ((1 : Int32) <<< (v5 &&& 31)))), (0, .ref (a 0)), (5, .int v5)]) hx hb dX10_again_70 hl (k := 2) rfl rfl (by decide) rfl (fun ls hl => ?_)
    refine lv_goto (tgt := 17) hx hb dX10_again_73 (by decide) ?_
    exact k17 oz (v3 ||| ((1 : Int32) <<< (v5 &&& 31))) (v4 + 1) _ _ _ hP hS (lv_sub hl [2, 1, 0] rfl) hf
  have hL17 : ∀ (n : Nat) (oz : Ob) (v3 : Int32) (v4 : Int32), ∀ (H : Heap) (locs : List Loc) (ls : Array Slot), va_P D vwCl (cs10 ct a oz) H → va_S (wA (cs10 ct a o)) s.heap H locs → lv_has ls 6 [(0, .ref (a 0)), (3, .int v3), (4, .int v4)] → p_X10_again_L17 fu  n oz v3 v4 = some r → W p l e rm_X10_again s m args below meth c H locs 0 0 QQ (F0 m 17 ls []) := by
    intro  n
    induction n with
    | zero =>
      intro oz v3 v4 H locs ls hP hS hl hf 
      rw [p_X10_again_L17] at hf
      cases hf
    | succ n ih =>
      intro oz v3 v4 H locs ls hP hS hl hf 
      rw [p_X10_again_L17] at hf
      refine lv_iload hx hb dX10_again_17 (lv_at hl 2 rfl) ?_
      refine lv_bipush (v := 60) hx hb dX10_again_19 (by decide) ?_
      refine lv_icmp_gt (tgt := 76) hx hb dX10_again_21 (by decide) (fun c_21 => ?_) (fun c_21 => ?_)
      · rw [if_pos c_21] at hf
        refine lv_iconst (v := (-1)) hx hb dX10_again_76 (by decide) ?_
        rw [← hQQ]
        cases hf
        exact rw_i hx hb hr hlocks hP hS dX10_again_77
      rw [if_neg c_21] at hf
      refine lv_aload_n hx hb dX10_again_24 rfl (lv_at hl 0 rfl) ?_
      refine va_get (D := D) (ci := 10) (v := .ref (a 12)) (C := RX10) (T := TX10) (N := 42) hx hb htl inlX10 hown hK hP 0 rfl rfl 22 (by decide) (htl _ wq_7_14) (fun _ h9 => h9) rfl dX10_again_25 ?_
      refine lv_iload hx hb dX10_again_28 (lv_at hl 2 rfl) ?_
      obtain ⟨hi_30, hf⟩ := ob_in hf
      refine va_iald (D := D) (tys := tyl ct) hx hb hK hP 12 0 rfl rfl hi_30 dX10_again_30 ?_
      refine lv_istore (lv' := [(5, .int ((oz.1 22) v4.toNatClampNeg)), (0, .ref (a 0)), (3, .int v3), (4, .int v4)]) hx hb dX10_again_31 hl (by decide) rfl (fun ls hl => ?_)
      refine lv_iload hx hb dX10_again_33 (lv_at hl 0 rfl) ?_
      refine lv_if_ge (tgt := 40) hx hb dX10_again_35 (by decide) (fun c_35 => ?_) (fun c_35 => ?_)
      rotate_left 1
      · rw [if_neg c_35] at hf
        refine lv_iconst (v := (-1)) hx hb dX10_again_38 (by decide) ?_
        rw [← hQQ]
        cases hf
        exact rw_i hx hb hr hlocks hP hS dX10_again_39
      rw [if_pos c_35] at hf
      refine lv_aload_n hx hb dX10_again_40 rfl (lv_at hl 1 rfl) ?_
      refine va_get (D := D) (ci := 10) (v := .ref (a 13)) (C := RX10) (T := TX10) (N := 42) hx hb htl inlX10 hown hK hP 0 rfl rfl 23 (by decide) (htl _ wq_7_15) (fun _ h9 => h9) rfl dX10_again_41 ?_
      refine lv_iload hx hb dX10_again_44 (lv_at hl 3 rfl) ?_
      obtain ⟨hi_46, hf⟩ := ob_in hf
      refine va_zald (D := D) (tys := tyl ct) hx hb hK hP 13 3 rfl rfl hi_46 dX10_again_46 ?_
      refine lv_if_eq (tgt := 63) hx hb dX10_again_47 (by decide) (fun c_47 => ?_) (fun c_47 => ?_)
      · rw [if_pos c_47] at hf
        exact hJ63 _ oz v3 v4 ((oz.1 22) v4.toNatClampNeg) _ _ _ hP hS (lv_sub hl [1, 2, 3, 0] rfl) hf (fun oz v3 v4 H locs ls hP hS hl hf => ih oz v3 v4 H locs ls hP hS hl hf )
      rw [if_neg c_47] at hf
      refine lv_iload_n hx hb dX10_again_50 rfl (lv_at hl 2 rfl) ?_
      refine lv_iload hx hb dX10_again_51 (lv_at hl 0 rfl) ?_
      obtain ⟨r_53, e_53, hf⟩ := ob_bind hf
      have hPX_53 : va_P D vwCl ([]) H := P_nil
      refine ro_call1 (va_runS (As := [.int v3, .int ((oz.1 22) v4.toNatClampNeg)]) (rest := []) ⟨hx, hb, hml, hown, htl⟩ (c_X10_bit l D ct G fu v3 ((oz.1 22) v4.toNatClampNeg) e_53) (cw_X10_X10_bit htl ⟨Nat.le_of_ble_eq_true rfl, Nat.le_of_ble_eq_true rfl⟩) ⟨Bx_blind, Bx_pre hPX_53 hK hN (hX.stay hS hGE)⟩ rfl rfl hl.1 rfl (lv_room (Nat.le_of_ble_eq_true rfl)) dX10_again_53 ⟨Nat.zero_le _, Nat.zero_le _⟩) ?_
      refine lv_iconst (v := 1) hx hb dX10_again_56 (by decide) ?_
      refine lv_icmp_ne (tgt := 63) hx hb dX10_again_57 (by decide) (fun c_57 => ?_) (fun c_57 => ?_)
      · rw [if_neg c_57] at hf
        exact hJ63 _ oz v3 v4 ((oz.1 22) v4.toNatClampNeg) _ _ _ hP hS (lv_sub hl [1, 2, 3, 0] rfl) hf (fun oz v3 v4 H locs ls hP hS hl hf => ih oz v3 v4 H locs ls hP hS hl hf )
      rw [if_pos c_57] at hf
      refine lv_iload hx hb dX10_again_60 (lv_at hl 3 rfl) ?_
      rw [← hQQ]
      cases hf
      exact rw_i hx hb hr hlocks hP hS dX10_again_62
  rw [p_X10_again] at hf
  refine lv_aload_n hx hb dX10_again_0 rfl (lv_at hl 0 rfl) ?_
  refine lv_iload_n hx hb dX10_again_1 rfl (lv_at hl 1 rfl) ?_
  refine lv_iload_n hx hb dX10_again_2 rfl (lv_at hl 2 rfl) ?_
  obtain ⟨r_3, e_3, hf⟩ := ob_bind hf
  have hPX_3 : va_P D vwCl (cs10 ct a o) s.heap := hP
  refine wr_call1 (va_runV (As := [.int v1, .int v2]) (rest := []) ⟨hx, hb, hml, hown, htl⟩ (c_X10_putsIn l D ct G a fu o v1 v2 e_3 (hDx o)) (cw_X10_X10_putsIn htl ⟨Nat.le_of_ble_eq_true rfl, Nat.le_of_ble_eq_true rfl⟩) ⟨Bx_blind, va_recv hK hPX_3 (ci := 10) (q0 := 0) rfl rfl, Bx_pre hPX_3 hK hN (hX.stay hS hGE)⟩ rfl rfl hl.1 rfl (lv_room (Nat.le_of_ble_eq_true rfl)) dX10_again_3 ⟨Nat.zero_le _, Nat.zero_le _⟩) hS (wA_cg rfl) (fun H_3 locs_3 hB_3 _ hk_3 hS => ?_)
  have hP : va_P D vwCl (cs10 ct a r_3.2) H_3 := hB_3
  refine lv_if_ne (tgt := 12) hx hb dX10_again_6 (by decide) (fun c_6 => ?_) (fun c_6 => ?_)
  rotate_left 1
  · rw [if_pos c_6] at hf
    refine lv_bipush (v := (-2)) hx hb dX10_again_9 (by decide) ?_
    rw [← hQQ]
    cases hf
    exact rw_i hx hb hr hlocks hP hS dX10_again_11
  rw [if_neg c_6] at hf
  refine lv_iconst (v := 0) hx hb dX10_again_12 (by decide) ?_
  refine lv_istore_n (lv' := [(3, .int 0), (0, .ref (a 0)), (1, .int v1), (2, .int v2)]) hx hb dX10_again_13 rfl hl (by decide) rfl (fun ls hl => ?_)
  refine lv_iload_n hx hb dX10_again_14 rfl (lv_at hl 3 rfl) ?_
  refine lv_istore (lv' := [(4, .int v2), (3, .int 0), (0, .ref (a 0)), (1, .int v1), (2, .int v2)]) hx hb dX10_again_15 hl (by decide) rfl (fun ls hl => ?_)
  exact hL17 fu r_3.2 0 v2 _ _ _ hP hS (lv_sub hl [2, 1, 0] rfl) hf 
theorem c_X10_again (l : Launch) (D : va_G) (ct : Nat → ClassId) (G : GT) (a : Nat → Nat) (fu : Nat) (o : Ob) (v1 : Int32) (v2 : Int32) {r : Int32 × Ob} (hf : p_X10_again fu o v1 v2 = some r)  (hD0 : va_D (GE G) (cs10 ct a o)) : Met l yX10_again (.code yX10_again cX10_again 6 (some .int) :: wsL_law) rm_X10_again (va_Pc [.ref (a 0), .int v1, .int v2] (Bx D ct G (cs10 ct a o))) (Qwr (some (.int r.1)) (fun H => va_P D vwCl (cs10 ct a r.2) H) (wA (cs10 ct a o))) 0 0 (wA (cs10 ct a o)) := by
  refine Met.ofW (cc := cX10_again) (maxL := 6) (ret := (some .int)) (by decide) rfl ?_
  intro p e s m args below meth c s₁ B hml hv
  obtain ⟨rfl, hP, hK, hN, hX⟩ := hv
  have hts := atoms_spec (ws := .code yX10_again cX10_again 6 (some .int) :: wsL_law) B.pre
  rw [lg_entry_eq]
  exact b_X10_again a fu o v1 v2 B.exec B.bytes B.returns hml (findClass_of_methodNamed B.named) (fun w h => hts w (List.mem_cons_of_mem _ h)) B.notSynchronized hK hN hX hP hf hD0  (lv_entry [.ref (a 0), .int v1, .int v2] (n := 6) (Nat.le_of_ble_eq_true rfl))
theorem hd_X10_way : yX10_way.cls ≠ "java/lang/invoke/MethodHandle" ∧ yX10_way.cls ≠ "java/lang/invoke/VarHandle" ∧ (parseMethodDescriptor yX10_way.desc).map (fun d => d.parameters.length) = some 2 := by decide +kernel
theorem cw_X10_X10_way {R : Room} {s : State} {args : Array Value} (ht : ∀ w ∈ wsL_law, w.before args s = true) (hR : rm_X10_way.frames + 1 ≤ R.frames ∧ 8 + (5 + 11) + rm_X10_way.locals ≤ R.locals) : CallW R s args RX10 RX10 291 yX10_way cX10_way 5 (some .int) ((.code yX10_way cX10_way 5 (some .int)) :: wsL_law) rm_X10_way 0 0 2 := cwV 2 ht (GV wq_37_11 wq_28_14 wq_28_15 wq_1_5 wq_28_16) rfl rfl rfl ⟨rfl, hd_X10_way⟩ hR
def p_X10_can_L15 (fu : Nat)  : Nat → Ob → Int32 → Int32 → Int32 → Option (Int32 × Ob)
  | 0, _, _, _, _ => none
  | n + 1, oz, v1, v2, v3 =>
    if (60 : Int32) < v3 then some (v2, oz) else (p_X10_way fu oz v1 v3).bind fun r_25 => p_X10_can_L15 fu  n r_25.2 v1 (v2 ||| r_25.1) (v3 + 1)
def p_X10_can (fu : Nat) (o : Ob) (v1 : Int32) : Option (Int32 × Ob) :=
  (p_X10_asksReach fu o v1).bind fun r_2 => if r_2.1 = 0 then some (((-2) : Int32), r_2.2) else p_X10_can_L15 fu fu r_2.2 v1 0 0
abbrev rm_X10_can : Room := { frames := 6, cells := 0, slots := 0, locals := 133 }
set_option maxHeartbeats 4000000 in
set_option maxRecDepth 100000 in
theorem b_X10_can {p : Program} {l : Launch} {e : Env} {s : State} {m : MethodId} {args : Array Value} {below : List Frame} {meth : Method} {c : Code} {ls : Array Slot} {D : va_G} {ct : Nat → ClassId} {G : GT} (a : Nat → Nat) (fu : Nat) (o : Ob) (v1 : Int32) {r : Int32 × Ob} (hx : p.tables.exec = Jvm.exec) (hb : c.code = cX10_can) (hr : meth.sig.returnType = (some .int)) (hml : c.maxLocals = 4) (hown : s.vm.findClass RX10 = some m.cls) (htl : ∀ w ∈ wsL_law, w.before args s = true) (hlocks : meth.locks = false) (hK : va_K D vwCl (tyl ct) s) (hN : ∀ w ∈ NW, va_Nw w s) (hX : SX G s s.heap) (hP0 : va_P D vwCl (cs10 ct a o) s.heap) (hf : p_X10_can fu o v1 = some r) (hD0 : va_D (GE G) (cs10 ct a o))  (hl : lv_has ls 4 [(0, .ref (a 0)), (1, .int v1)]) : W p l e rm_X10_can s m args below meth c s.heap [] 0 0 (MQ below (Qwr (some (.int r.1)) (fun H => va_P D vwCl (cs10 ct a r.2) H) (wA (cs10 ct a o))) args s 0 0 (wA (cs10 ct a o))) (F0 m 0 ls []) := by
  generalize hQQ : MQ below (Qwr (some (.int r.1)) (fun H => va_P D vwCl (cs10 ct a r.2) H) (wA (cs10 ct a o))) args s 0 0 (wA (cs10 ct a o)) = QQ
  have hDx : ∀ (oy : Ob), va_D (GE G) (cs10 ct a oy) := fun oy => D_cr hD0 rfl
  have hDW : ∀ (oy : Ob), va_D (wA (cs10 ct a o)) (cs10 ct a oy) := fun oy => D_cr (D_self hD0) rfl
  have hGE : ∀ q, wA (cs10 ct a o) q → GE G q := wA_GE hD0
  have hP := hP0
  have hS : va_S (wA (cs10 ct a o)) s.heap s.heap [] := va_S.rf
  have hL15 : ∀ (n : Nat) (oz : Ob) (v1 : Int32) (v2 : Int32) (v3 : Int32), ∀ (H : Heap) (locs : List Loc) (ls : Array Slot), va_P D vwCl (cs10 ct a oz) H → va_S (wA (cs10 ct a o)) s.heap H locs → lv_has ls 4 [(0, .ref (a 0)), (1, .int v1), (2, .int v2), (3, .int v3)] → p_X10_can_L15 fu  n oz v1 v2 v3 = some r → W p l e rm_X10_can s m args below meth c H locs 0 0 QQ (F0 m 15 ls []) := by
    intro  n
    induction n with
    | zero =>
      intro oz v1 v2 v3 H locs ls hP hS hl hf 
      rw [p_X10_can_L15] at hf
      cases hf
    | succ n ih =>
      intro oz v1 v2 v3 H locs ls hP hS hl hf 
      rw [p_X10_can_L15] at hf
      refine lv_iload_n hx hb dX10_can_15 rfl (lv_at hl 3 rfl) ?_
      refine lv_bipush (v := 60) hx hb dX10_can_16 (by decide) ?_
      refine lv_icmp_gt (tgt := 36) hx hb dX10_can_18 (by decide) (fun c_18 => ?_) (fun c_18 => ?_)
      · rw [if_pos c_18] at hf
        refine lv_iload_n hx hb dX10_can_36 rfl (lv_at hl 2 rfl) ?_
        rw [← hQQ]
        cases hf
        exact rw_i hx hb hr hlocks hP hS dX10_can_37
      rw [if_neg c_18] at hf
      refine lv_iload_n hx hb dX10_can_21 rfl (lv_at hl 2 rfl) ?_
      refine lv_aload_n hx hb dX10_can_22 rfl (lv_at hl 0 rfl) ?_
      refine lv_iload_n hx hb dX10_can_23 rfl (lv_at hl 1 rfl) ?_
      refine lv_iload_n hx hb dX10_can_24 rfl (lv_at hl 3 rfl) ?_
      obtain ⟨r_25, e_25, hf⟩ := ob_bind hf
      have hPX_25 : va_P D vwCl (cs10 ct a oz) H := hP
      refine wr_call1 (va_runV (As := [.int v1, .int v3]) (rest := [.int v2]) ⟨hx, hb, hml, hown, htl⟩ (c_X10_way l D ct G a fu oz v1 v3 e_25 (hDx oz)) (cw_X10_X10_way htl ⟨Nat.le_of_ble_eq_true rfl, Nat.le_of_ble_eq_true rfl⟩) ⟨Bx_blind, va_recv hK hPX_25 (ci := 10) (q0 := 0) rfl rfl, Bx_pre hPX_25 hK hN (hX.stay hS hGE)⟩ rfl rfl hl.1 rfl (lv_room (Nat.le_of_ble_eq_true rfl)) dX10_can_25 ⟨Nat.zero_le _, Nat.zero_le _⟩) hS (wA_cg rfl) (fun H_25 locs_25 hB_25 _ hk_25 hS => ?_)
      have hP : va_P D vwCl (cs10 ct a r_25.2) H_25 := hB_25
      refine lv_ior hx hb dX10_can_28 ?_
      refine lv_istore_n (lv' := [(2, .int (v2 ||| r_25.1)), (0, .ref (a 0)), (1, .int v1), (3, .int v3)]) hx hb dX10_can_29 rfl hl (by decide) rfl (fun ls hl => ?_)
      refine lv_iinc (v := (v3 + 1)) (lv' := [(3, .int (v3 + 1)), (2, .int (v2 ||| r_25.1)), (0, .ref (a 0)), (1, .int v1)]) hx hb dX10_can_30 hl (k := 3) rfl rfl (by decide) rfl (fun ls hl => ?_)
      refine lv_goto (tgt := 15) hx hb dX10_can_33 (by decide) ?_
      exact ih r_25.2 v1 (v2 ||| r_25.1) (v3 + 1) _ _ _ hP hS (lv_sub hl [2, 3, 1, 0] rfl) hf 
  rw [p_X10_can] at hf
  refine lv_aload_n hx hb dX10_can_0 rfl (lv_at hl 0 rfl) ?_
  refine lv_iload_n hx hb dX10_can_1 rfl (lv_at hl 1 rfl) ?_
  obtain ⟨r_2, e_2, hf⟩ := ob_bind hf
  have hPX_2 : va_P D vwCl (cs10 ct a o) s.heap := hP
  refine wr_call1 (va_runV (As := [.int v1]) (rest := []) ⟨hx, hb, hml, hown, htl⟩ (c_X10_asksReach l D ct G a fu o v1 e_2 (hDx o)) (cw_X10_X10_asksReach htl ⟨Nat.le_of_ble_eq_true rfl, Nat.le_of_ble_eq_true rfl⟩) ⟨Bx_blind, va_recv hK hPX_2 (ci := 10) (q0 := 0) rfl rfl, Bx_pre hPX_2 hK hN (hX.stay hS hGE)⟩ rfl rfl hl.1 rfl (lv_room (Nat.le_of_ble_eq_true rfl)) dX10_can_2 ⟨Nat.zero_le _, Nat.zero_le _⟩) hS (wA_cg rfl) (fun H_2 locs_2 hB_2 _ hk_2 hS => ?_)
  have hP : va_P D vwCl (cs10 ct a r_2.2) H_2 := hB_2
  refine lv_if_ne (tgt := 11) hx hb dX10_can_5 (by decide) (fun c_5 => ?_) (fun c_5 => ?_)
  rotate_left 1
  · rw [if_pos c_5] at hf
    refine lv_bipush (v := (-2)) hx hb dX10_can_8 (by decide) ?_
    rw [← hQQ]
    cases hf
    exact rw_i hx hb hr hlocks hP hS dX10_can_10
  rw [if_neg c_5] at hf
  refine lv_iconst (v := 0) hx hb dX10_can_11 (by decide) ?_
  refine lv_istore_n (lv' := [(2, .int 0), (0, .ref (a 0)), (1, .int v1)]) hx hb dX10_can_12 rfl hl (by decide) rfl (fun ls hl => ?_)
  refine lv_iconst (v := 0) hx hb dX10_can_13 (by decide) ?_
  refine lv_istore_n (lv' := [(3, .int 0), (2, .int 0), (0, .ref (a 0)), (1, .int v1)]) hx hb dX10_can_14 rfl hl (by decide) rfl (fun ls hl => ?_)
  exact hL15 fu r_2.2 v1 0 0 _ _ _ hP hS (lv_sub hl [2, 3, 1, 0] rfl) hf 
theorem c_X10_can (l : Launch) (D : va_G) (ct : Nat → ClassId) (G : GT) (a : Nat → Nat) (fu : Nat) (o : Ob) (v1 : Int32) {r : Int32 × Ob} (hf : p_X10_can fu o v1 = some r)  (hD0 : va_D (GE G) (cs10 ct a o)) : Met l yX10_can (.code yX10_can cX10_can 4 (some .int) :: wsL_law) rm_X10_can (va_Pc [.ref (a 0), .int v1] (Bx D ct G (cs10 ct a o))) (Qwr (some (.int r.1)) (fun H => va_P D vwCl (cs10 ct a r.2) H) (wA (cs10 ct a o))) 0 0 (wA (cs10 ct a o)) := by
  refine Met.ofW (cc := cX10_can) (maxL := 4) (ret := (some .int)) (by decide) rfl ?_
  intro p e s m args below meth c s₁ B hml hv
  obtain ⟨rfl, hP, hK, hN, hX⟩ := hv
  have hts := atoms_spec (ws := .code yX10_can cX10_can 4 (some .int) :: wsL_law) B.pre
  rw [lg_entry_eq]
  exact b_X10_can a fu o v1 B.exec B.bytes B.returns hml (findClass_of_methodNamed B.named) (fun w h => hts w (List.mem_cons_of_mem _ h)) B.notSynchronized hK hN hX hP hf hD0  (lv_entry [.ref (a 0), .int v1] (n := 4) (Nat.le_of_ble_eq_true rfl))
def p_X10_finds_L20 (fu : Nat)  : Nat → Ob → Int32 → Int32 → Int32 → Option (Int32 × Ob)
  | 0, _, _, _, _ => none
  | n + 1, oz, v3, v4, v5 =>
    if (60 : Int32) < v5 then some (v4, oz) else if inb v5 61 = true then if ((oz.1 22) v5.toNatClampNeg) < 0 then p_X10_finds_L20 fu  n oz v3 v4 (v5 + 1) else (p_X10_bit fu v3 ((oz.1 22) v5.toNatClampNeg)).bind fun r_44 => if r_44 = (1 : Int32) then p_X10_finds_L20 fu  n oz v3 v4 (v5 + 1) else p_X10_finds_L20 fu  n oz (v3 ||| ((1 : Int32) <<< (((oz.1 22) v5.toNatClampNeg) &&& 31))) ((oz.1 22) v5.toNatClampNeg) (v5 + 1) else none
def p_X10_finds (fu : Nat) (o : Ob) (v1 : Int32) (v2 : Int32) : Option (Int32 × Ob) :=
  (p_X10_putsIn fu o v1 v2).bind fun r_3 => if r_3.1 = 0 then some (((-2) : Int32), r_3.2) else p_X10_finds_L20 fu fu r_3.2 0 v1 v2
abbrev rm_X10_finds : Room := { frames := 5, cells := 0, slots := 0, locals := 109 }
set_option maxHeartbeats 4000000 in
set_option maxRecDepth 100000 in
theorem b_X10_finds {p : Program} {l : Launch} {e : Env} {s : State} {m : MethodId} {args : Array Value} {below : List Frame} {meth : Method} {c : Code} {ls : Array Slot} {D : va_G} {ct : Nat → ClassId} {G : GT} (a : Nat → Nat) (fu : Nat) (o : Ob) (v1 : Int32) (v2 : Int32) {r : Int32 × Ob} (hx : p.tables.exec = Jvm.exec) (hb : c.code = cX10_finds) (hr : meth.sig.returnType = (some .int)) (hml : c.maxLocals = 7) (hown : s.vm.findClass RX10 = some m.cls) (htl : ∀ w ∈ wsL_law, w.before args s = true) (hlocks : meth.locks = false) (hK : va_K D vwCl (tyl ct) s) (hN : ∀ w ∈ NW, va_Nw w s) (hX : SX G s s.heap) (hP0 : va_P D vwCl (cs10 ct a o) s.heap) (hf : p_X10_finds fu o v1 v2 = some r) (hD0 : va_D (GE G) (cs10 ct a o))  (hl : lv_has ls 7 [(0, .ref (a 0)), (1, .int v1), (2, .int v2)]) : W p l e rm_X10_finds s m args below meth c s.heap [] 0 0 (MQ below (Qwr (some (.int r.1)) (fun H => va_P D vwCl (cs10 ct a r.2) H) (wA (cs10 ct a o))) args s 0 0 (wA (cs10 ct a o))) (F0 m 0 ls []) := by
  generalize hQQ : MQ below (Qwr (some (.int r.1)) (fun H => va_P D vwCl (cs10 ct a r.2) H) (wA (cs10 ct a o))) args s 0 0 (wA (cs10 ct a o)) = QQ
  have hDx : ∀ (oy : Ob), va_D (GE G) (cs10 ct a oy) := fun oy => D_cr hD0 rfl
  have hDW : ∀ (oy : Ob), va_D (wA (cs10 ct a o)) (cs10 ct a oy) := fun oy => D_cr (D_self hD0) rfl
  have hGE : ∀ q, wA (cs10 ct a o) q → GE G q := wA_GE hD0
  have hP := hP0
  have hS : va_S (wA (cs10 ct a o)) s.heap s.heap [] := va_S.rf
  have hL20 : ∀ (n : Nat) (oz : Ob) (v3 : Int32) (v4 : Int32) (v5 : Int32), ∀ (H : Heap) (locs : List Loc) (ls : Array Slot), va_P D vwCl (cs10 ct a oz) H → va_S (wA (cs10 ct a o)) s.heap H locs → lv_has ls 7 [(0, .ref (a 0)), (3, .int v3), (4, .int v4), (5, .int v5)] → p_X10_finds_L20 fu  n oz v3 v4 v5 = some r → W p l e rm_X10_finds s m args below meth c H locs 0 0 QQ (F0 m 20 ls []) := by
    intro  n
    induction n with
    | zero =>
      intro oz v3 v4 v5 H locs ls hP hS hl hf 
      rw [p_X10_finds_L20] at hf
      cases hf
    | succ n ih =>
      intro oz v3 v4 v5 H locs ls hP hS hl hf 
      rw [p_X10_finds_L20] at hf
      refine lv_iload hx hb dX10_finds_20 (lv_at hl 3 rfl) ?_
      refine lv_bipush (v := 60) hx hb dX10_finds_22 (by decide) ?_
      refine lv_icmp_gt (tgt := 71) hx hb dX10_finds_24 (by decide) (fun c_24 => ?_) (fun c_24 => ?_)
      · rw [if_pos c_24] at hf
        refine lv_iload hx hb dX10_finds_71 (lv_at hl 2 rfl) ?_
        rw [← hQQ]
        cases hf
        exact rw_i hx hb hr hlocks hP hS dX10_finds_73
      rw [if_neg c_24] at hf
      refine lv_aload_n hx hb dX10_finds_27 rfl (lv_at hl 0 rfl) ?_
      refine va_get (D := D) (ci := 10) (v := .ref (a 12)) (C := RX10) (T := TX10) (N := 42) hx hb htl inlX10 hown hK hP 0 rfl rfl 22 (by decide) (htl _ wq_7_14) (fun _ h9 => h9) rfl dX10_finds_28 ?_
      refine lv_iload hx hb dX10_finds_31 (lv_at hl 3 rfl) ?_
      obtain ⟨hi_33, hf⟩ := ob_in hf
      refine va_iald (D := D) (tys := tyl ct) hx hb hK hP 12 0 rfl rfl hi_33 dX10_finds_33 ?_
      refine lv_istore (lv' := [(6, .int ((oz.1 22) v5.toNatClampNeg)), (0, .ref (a 0)), (3, .int v3), (4, .int v4), (5, .int v5)]) hx hb dX10_finds_34 hl (by decide) rfl (fun ls hl => ?_)
      refine lv_iload hx hb dX10_finds_36 (lv_at hl 0 rfl) ?_
      refine lv_if_lt (tgt := 65) hx hb dX10_finds_38 (by decide) (fun c_38 => ?_) (fun c_38 => ?_)
      · rw [if_pos c_38] at hf
        refine lv_iinc (v := (v5 + 1)) (lv' := [(5, .int (v5 + 1)), (6, .int ((oz.1 22) v5.toNatClampNeg)), (0, .ref (a 0)), (3, .int v3), (4, .int v4)]) hx hb dX10_finds_65 hl (k := 4) rfl rfl (by decide) rfl (fun ls hl => ?_)
        refine lv_goto (tgt := 20) hx hb dX10_finds_68 (by decide) ?_
        exact ih oz v3 v4 (v5 + 1) _ _ _ hP hS (lv_sub hl [2, 3, 4, 0] rfl) hf 
      rw [if_neg c_38] at hf
      refine lv_iload_n hx hb dX10_finds_41 rfl (lv_at hl 2 rfl) ?_
      refine lv_iload hx hb dX10_finds_42 (lv_at hl 0 rfl) ?_
      obtain ⟨r_44, e_44, hf⟩ := ob_bind hf
      have hPX_44 : va_P D vwCl ([]) H := P_nil
      refine ro_call1 (va_runS (As := [.int v3, .int ((oz.1 22) v5.toNatClampNeg)]) (rest := []) ⟨hx, hb, hml, hown, htl⟩ (c_X10_bit l D ct G fu v3 ((oz.1 22) v5.toNatClampNeg) e_44) (cw_X10_X10_bit htl ⟨Nat.le_of_ble_eq_true rfl, Nat.le_of_ble_eq_true rfl⟩) ⟨Bx_blind, Bx_pre hPX_44 hK hN (hX.stay hS hGE)⟩ rfl rfl hl.1 rfl (lv_room (Nat.le_of_ble_eq_true rfl)) dX10_finds_44 ⟨Nat.zero_le _, Nat.zero_le _⟩) ?_
      refine lv_iconst (v := 1) hx hb dX10_finds_47 (by decide) ?_
      refine lv_icmp_ne (tgt := 54) hx hb dX10_finds_48 (by decide) (fun c_48 => ?_) (fun c_48 => ?_)
      rotate_left 1
      · rw [if_pos c_48] at hf
        refine lv_goto (tgt := 65) hx hb dX10_finds_51 (by decide) ?_
        refine lv_iinc (v := (v5 + 1)) (lv' := [(5, .int (v5 + 1)), (6, .int ((oz.1 22) v5.toNatClampNeg)), (0, .ref (a 0)), (3, .int v3), (4, .int v4)]) hx hb dX10_finds_65 hl (k := 4) rfl rfl (by decide) rfl (fun ls hl => ?_)
        refine lv_goto (tgt := 20) hx hb dX10_finds_68 (by decide) ?_
        exact ih oz v3 v4 (v5 + 1) _ _ _ hP hS (lv_sub hl [2, 3, 4, 0] rfl) hf 
      rw [if_neg c_48] at hf
      refine lv_iload_n hx hb dX10_finds_54 rfl (lv_at hl 2 rfl) ?_
      refine lv_iconst (v := 1) hx hb dX10_finds_55 (by decide) ?_
      refine lv_iload hx hb dX10_finds_56 (lv_at hl 0 rfl) ?_
      refine lv_ishl hx hb dX10_finds_58 ?_
      refine lv_ior hx hb dX10_finds_59 ?_
      refine lv_istore_n (lv' := [(3, .int (v3 ||| ((1 : Int32) <<< (((oz.1 22) v5.toNatClampNeg) &&& 31)))), (6, .int ((oz.1 22) v5.toNatClampNeg)), (0, .ref (a 0)), (4, .int v4), (5, .int v5)]) hx hb dX10_finds_60 rfl hl (by decide) rfl (fun ls hl => ?_)
      refine lv_iload hx hb dX10_finds_61 (lv_at hl 1 rfl) ?_
      refine lv_istore (lv' := [(4, .int ((oz.1 22) v5.toNatClampNeg)), (3, .int (v3 ||| ((1 : Int32) <<< (((oz.1 22) v5.toNatClampNeg) &&& 31)))), (6, .int ((oz.1 22) v5.toNatClampNeg)), (0, .ref (a 0)), (5, .int v5)]) hx hb dX10_finds_63 hl (by decide) rfl (fun ls hl => ?_)
      refine lv_iinc (v := (v5 + 1)) (lv' := [(5, .int (v5 + 1)), (4, .int ((oz.1 22) v5.toNatClampNeg)), (3, .int (v3 ||| ((1 : Int32) <<< (((oz.1 22) v5.toNatClampNeg) &&& 31)))), (6, .int ((oz.1 22) v5.toNatClampNeg)), (0, .ref (a 0))]) hx hb dX10_finds_65 hl (k := 4) rfl rfl (by decide) rfl (fun ls hl => ?_)
      refine lv_goto (tgt := 20) hx hb dX10_finds_68 (by decide) ?_
      exact ih oz (v3 ||| ((1 : Int32) <<< (((oz.1 22) v5.toNatClampNeg) &&& 31))) ((oz.1 22) v5.toNatClampNeg) (v5 + 1) _ _ _ hP hS (lv_sub hl [4, 2, 1, 0] rfl) hf 
  rw [p_X10_finds] at hf
  refine lv_aload_n hx hb dX10_finds_0 rfl (lv_at hl 0 rfl) ?_
  refine lv_iload_n hx hb dX10_finds_1 rfl (lv_at hl 1 rfl) ?_
  refine lv_iload_n hx hb dX10_finds_2 rfl (lv_at hl 2 rfl) ?_
  obtain ⟨r_3, e_3, hf⟩ := ob_bind hf
  have hPX_3 : va_P D vwCl (cs10 ct a o) s.heap := hP
  refine wr_call1 (va_runV (As := [.int v1, .int v2]) (rest := []) ⟨hx, hb, hml, hown, htl⟩ (c_X10_putsIn l D ct G a fu o v1 v2 e_3 (hDx o)) (cw_X10_X10_putsIn htl ⟨Nat.le_of_ble_eq_true rfl, Nat.le_of_ble_eq_true rfl⟩) ⟨Bx_blind, va_recv hK hPX_3 (ci := 10) (q0 := 0) rfl rfl, Bx_pre hPX_3 hK hN (hX.stay hS hGE)⟩ rfl rfl hl.1 rfl (lv_room (Nat.le_of_ble_eq_true rfl)) dX10_finds_3 ⟨Nat.zero_le _, Nat.zero_le _⟩) hS (wA_cg rfl) (fun H_3 locs_3 hB_3 _ hk_3 hS => ?_)
  have hP : va_P D vwCl (cs10 ct a r_3.2) H_3 := hB_3
  refine lv_if_ne (tgt := 12) hx hb dX10_finds_6 (by decide) (fun c_6 => ?_) (fun c_6 => ?_)
  rotate_left 1
  · rw [if_pos c_6] at hf
    refine lv_bipush (v := (-2)) hx hb dX10_finds_9 (by decide) ?_
    rw [← hQQ]
    cases hf
    exact rw_i hx hb hr hlocks hP hS dX10_finds_11
  rw [if_neg c_6] at hf
  refine lv_iconst (v := 0) hx hb dX10_finds_12 (by decide) ?_
  refine lv_istore_n (lv' := [(3, .int 0), (0, .ref (a 0)), (1, .int v1), (2, .int v2)]) hx hb dX10_finds_13 rfl hl (by decide) rfl (fun ls hl => ?_)
  refine lv_iload_n hx hb dX10_finds_14 rfl (lv_at hl 2 rfl) ?_
  refine lv_istore (lv' := [(4, .int v1), (3, .int 0), (0, .ref (a 0)), (1, .int v1), (2, .int v2)]) hx hb dX10_finds_15 hl (by decide) rfl (fun ls hl => ?_)
  refine lv_iload_n hx hb dX10_finds_17 rfl (lv_at hl 4 rfl) ?_
  refine lv_istore (lv' := [(5, .int v2), (4, .int v1), (3, .int 0), (0, .ref (a 0)), (1, .int v1), (2, .int v2)]) hx hb dX10_finds_18 hl (by decide) rfl (fun ls hl => ?_)
  exact hL20 fu r_3.2 0 v1 v2 _ _ _ hP hS (lv_sub hl [3, 2, 1, 0] rfl) hf 
theorem c_X10_finds (l : Launch) (D : va_G) (ct : Nat → ClassId) (G : GT) (a : Nat → Nat) (fu : Nat) (o : Ob) (v1 : Int32) (v2 : Int32) {r : Int32 × Ob} (hf : p_X10_finds fu o v1 v2 = some r)  (hD0 : va_D (GE G) (cs10 ct a o)) : Met l yX10_finds (.code yX10_finds cX10_finds 7 (some .int) :: wsL_law) rm_X10_finds (va_Pc [.ref (a 0), .int v1, .int v2] (Bx D ct G (cs10 ct a o))) (Qwr (some (.int r.1)) (fun H => va_P D vwCl (cs10 ct a r.2) H) (wA (cs10 ct a o))) 0 0 (wA (cs10 ct a o)) := by
  refine Met.ofW (cc := cX10_finds) (maxL := 7) (ret := (some .int)) (by decide) rfl ?_
  intro p e s m args below meth c s₁ B hml hv
  obtain ⟨rfl, hP, hK, hN, hX⟩ := hv
  have hts := atoms_spec (ws := .code yX10_finds cX10_finds 7 (some .int) :: wsL_law) B.pre
  rw [lg_entry_eq]
  exact b_X10_finds a fu o v1 v2 B.exec B.bytes B.returns hml (findClass_of_methodNamed B.named) (fun w h => hts w (List.mem_cons_of_mem _ h)) B.notSynchronized hK hN hX hP hf hD0  (lv_entry [.ref (a 0), .int v1, .int v2] (n := 7) (Nat.le_of_ble_eq_true rfl))
