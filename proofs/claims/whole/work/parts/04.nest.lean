theorem sw_out_0_2 {x : Int32} (h0 : ¬ x.toInt = 0) (h1 : ¬ x.toInt = 1) (h2 : ¬ x.toInt = 2) : x.toInt < 0 ∨ 2 < x.toInt := by omega
def p_X0_addWeight (fu : Nat) (n0 : Nat) (f0 : Nat → Int64) (v1 : Int32) (v2 : Int64) : Option ((Nat → Int64)) :=
  if v1 < 0 then some f0 else if (nI n0) ≤ v1 then some f0 else if inb v1 n0 = true then if inb v1 n0 = true then some (vp_updL f0 v1.toNatClampNeg ((f0 v1.toNatClampNeg) + v2)) else none else none
abbrev rm_X0_addWeight : Room := { frames := 0, cells := 0, slots := 0, locals := 0 }
set_option maxHeartbeats 4000000 in
set_option maxRecDepth 100000 in
theorem b_X0_addWeight {p : Program} {l : Launch} {e : Env} {s : State} {m : MethodId} {args : Array Value} {below : List Frame} {meth : Method} {c : Code} {ls : Array Slot} {D : va_G} {ct : Nat → ClassId} {G : GT} (h0 : Nat) (fu : Nat) (n0 : Nat) (f0 : Nat → Int64) (v1 : Int32) (v2 : Int64) {r : (Nat → Int64)} (hx : p.tables.exec = Jvm.exec) (hb : c.code = cX0_addWeight) (hr : meth.sig.returnType = none) (hml : c.maxLocals = 4) (hown : s.vm.findClass RX0 = some m.cls) (htl : ∀ w ∈ wsL_law, w.before args s = true) (hlocks : meth.locks = false) (hK : va_K D vwCl (tyl ct) s) (hN : ∀ w ∈ NW, va_Nw w s) (hX : SX G s s.heap) (hP0 : va_P D vwCl ([(h0, .inl (ct 1, n0, .inr (.inl f0)))]) s.heap) (hf : p_X0_addWeight fu n0 f0 v1 v2 = some r) (hD0 : va_D (GE G) ([(h0, .inl (ct 1, n0, .inr (.inl f0)))]))  (hl : lv_has ls 4 [(0, .ref h0), (1, .int v1), (2, .long v2)]) : W p l e rm_X0_addWeight s m args below meth c s.heap [] 0 0 (MQ below (Qwr none (fun H => va_P D vwCl ([(h0, .inl (ct 1, n0, .inr (.inl r)))]) H) (wA ([(h0, .inl (ct 1, n0, .inr (.inl f0)))]))) args s 0 0 (wA ([(h0, .inl (ct 1, n0, .inr (.inl f0)))]))) (F0 m 0 ls []) := by
  generalize hQQ : MQ below (Qwr none (fun H => va_P D vwCl ([(h0, .inl (ct 1, n0, .inr (.inl r)))]) H) (wA ([(h0, .inl (ct 1, n0, .inr (.inl f0)))]))) args s 0 0 (wA ([(h0, .inl (ct 1, n0, .inr (.inl f0)))])) = QQ
  have hDx : ∀ (f0y : Nat → Int64), va_D (GE G) ([(h0, .inl (ct 1, n0, .inr (.inl f0y)))]) := fun f0y => D_cr hD0 rfl
  have hDW : ∀ (f0y : Nat → Int64), va_D (wA ([(h0, .inl (ct 1, n0, .inr (.inl f0)))])) ([(h0, .inl (ct 1, n0, .inr (.inl f0y)))]) := fun f0y => D_cr (D_self hD0) rfl
  have hGE : ∀ q, wA ([(h0, .inl (ct 1, n0, .inr (.inl f0)))]) q → GE G q := wA_GE hD0
  have hP := hP0
  have hS : va_S (wA ([(h0, .inl (ct 1, n0, .inr (.inl f0)))])) s.heap s.heap [] := va_S.rf
  rw [p_X0_addWeight] at hf
  refine lv_iload_n hx hb dX0_addWeight_0 rfl (lv_at hl 1 rfl) ?_
  refine lv_if_lt (tgt := 17) hx hb dX0_addWeight_1 (by decide) (fun c_1 => ?_) (fun c_1 => ?_)
  · rw [if_pos c_1] at hf
    rw [← hQQ]
    cases hf
    exact rw_v hx hb hr hlocks hP hS dX0_addWeight_17
  rw [if_neg c_1] at hf
  refine lv_iload_n hx hb dX0_addWeight_4 rfl (lv_at hl 1 rfl) ?_
  refine lv_aload_n hx hb dX0_addWeight_5 rfl (lv_at hl 0 rfl) ?_
  refine va_alen (D := D) (tys := tyl ct) (v := (nI n0)) hx hb hK hP 0 1 rfl rfl rfl dX0_addWeight_6 ?_
  refine lv_icmp_ge (tgt := 17) hx hb dX0_addWeight_7 (by decide) (fun c_7 => ?_) (fun c_7 => ?_)
  · rw [if_pos c_7] at hf
    rw [← hQQ]
    cases hf
    exact rw_v hx hb hr hlocks hP hS dX0_addWeight_17
  rw [if_neg c_7] at hf
  refine lv_aload_n hx hb dX0_addWeight_10 rfl (lv_at hl 0 rfl) ?_
  refine lv_iload_n hx hb dX0_addWeight_11 rfl (lv_at hl 1 rfl) ?_
  refine lv_dup2_11 hx hb dX0_addWeight_12 rfl rfl ?_
  obtain ⟨hi_13, hf⟩ := ob_in hf
  refine va_lald (D := D) (tys := tyl ct) hx hb hK hP 0 1 rfl rfl hi_13 dX0_addWeight_13 ?_
  refine lv_lload_n hx hb dX0_addWeight_14 rfl (lv_at hl 2 rfl) ?_
  refine lv_ladd hx hb dX0_addWeight_15 ?_
  obtain ⟨hi_16, hf⟩ := ob_in hf
  refine va_last (D := D) (tys := tyl ct) hx hb hK hP (hDW f0) hS 0 1 rfl rfl hi_16 dX0_addWeight_16 (fun H_16 locs_16 hP _ hS => ?_)
  have hP : va_P D vwCl ([(h0, .inl (ct 1, n0, .inr (.inl (vp_updL f0 v1.toNatClampNeg ((f0 v1.toNatClampNeg) + v2)))))]) H_16 := hP
  rw [← hQQ]
  cases hf
  exact rw_v hx hb hr hlocks hP hS dX0_addWeight_17
theorem c_X0_addWeight (l : Launch) (D : va_G) (ct : Nat → ClassId) (G : GT) (h0 : Nat) (fu : Nat) (n0 : Nat) (f0 : Nat → Int64) (v1 : Int32) (v2 : Int64) {r : (Nat → Int64)} (hf : p_X0_addWeight fu n0 f0 v1 v2 = some r)  (hD0 : va_D (GE G) ([(h0, .inl (ct 1, n0, .inr (.inl f0)))])) : Met l yX0_addWeight (.code yX0_addWeight cX0_addWeight 4 none :: wsL_law) rm_X0_addWeight (va_Pc [.ref h0, .int v1, .long v2] (Bx D ct G ([(h0, .inl (ct 1, n0, .inr (.inl f0)))]))) (Qwr none (fun H => va_P D vwCl ([(h0, .inl (ct 1, n0, .inr (.inl r)))]) H) (wA ([(h0, .inl (ct 1, n0, .inr (.inl f0)))]))) 0 0 (wA ([(h0, .inl (ct 1, n0, .inr (.inl f0)))])) := by
  refine Met.ofW (cc := cX0_addWeight) (maxL := 4) (ret := none) (by decide) rfl ?_
  intro p e s m args below meth c s₁ B hml hv
  obtain ⟨rfl, hP, hK, hN, hX⟩ := hv
  have hts := atoms_spec (ws := .code yX0_addWeight cX0_addWeight 4 none :: wsL_law) B.pre
  rw [lg_entry_eq]
  exact b_X0_addWeight h0 fu n0 f0 v1 v2 B.exec B.bytes B.returns hml (findClass_of_methodNamed B.named) (fun w h => hts w (List.mem_cons_of_mem _ h)) B.notSynchronized hK hN hX hP hf hD0  (lv_entry [.ref h0, .int v1, .long v2] (n := 4) (Nat.le_of_ble_eq_true rfl))
def p_X0_clear_L2 (fu : Nat) (n0 : Nat)  : Nat → (Nat → Int64) → Int32 → Int32 → Option ((Nat → Int64))
  | 0, _, _, _ => none
  | n + 1, f0z, v1, v2 =>
    if v1 < v2 then some f0z else if (nI n0) ≤ v2 then some f0z else if inb v2 n0 = true then p_X0_clear_L2 fu n0  n (vp_updL f0z v2.toNatClampNeg (0 : Int64)) v1 (v2 + 1) else none
def p_X0_clear (fu : Nat) (n0 : Nat) (f0 : Nat → Int64) (v1 : Int32) : Option ((Nat → Int64)) :=
  p_X0_clear_L2 fu n0 fu f0 v1 0
abbrev rm_X0_clear : Room := { frames := 0, cells := 0, slots := 0, locals := 0 }
set_option maxHeartbeats 4000000 in
set_option maxRecDepth 100000 in
theorem b_X0_clear {p : Program} {l : Launch} {e : Env} {s : State} {m : MethodId} {args : Array Value} {below : List Frame} {meth : Method} {c : Code} {ls : Array Slot} {D : va_G} {ct : Nat → ClassId} {G : GT} (h0 : Nat) (fu : Nat) (n0 : Nat) (f0 : Nat → Int64) (v1 : Int32) {r : (Nat → Int64)} (hx : p.tables.exec = Jvm.exec) (hb : c.code = cX0_clear) (hr : meth.sig.returnType = none) (hml : c.maxLocals = 3) (hown : s.vm.findClass RX0 = some m.cls) (htl : ∀ w ∈ wsL_law, w.before args s = true) (hlocks : meth.locks = false) (hK : va_K D vwCl (tyl ct) s) (hN : ∀ w ∈ NW, va_Nw w s) (hX : SX G s s.heap) (hP0 : va_P D vwCl ([(h0, .inl (ct 1, n0, .inr (.inl f0)))]) s.heap) (hf : p_X0_clear fu n0 f0 v1 = some r) (hD0 : va_D (GE G) ([(h0, .inl (ct 1, n0, .inr (.inl f0)))]))  (hl : lv_has ls 3 [(0, .ref h0), (1, .int v1)]) : W p l e rm_X0_clear s m args below meth c s.heap [] 0 0 (MQ below (Qwr none (fun H => va_P D vwCl ([(h0, .inl (ct 1, n0, .inr (.inl r)))]) H) (wA ([(h0, .inl (ct 1, n0, .inr (.inl f0)))]))) args s 0 0 (wA ([(h0, .inl (ct 1, n0, .inr (.inl f0)))]))) (F0 m 0 ls []) := by
  generalize hQQ : MQ below (Qwr none (fun H => va_P D vwCl ([(h0, .inl (ct 1, n0, .inr (.inl r)))]) H) (wA ([(h0, .inl (ct 1, n0, .inr (.inl f0)))]))) args s 0 0 (wA ([(h0, .inl (ct 1, n0, .inr (.inl f0)))])) = QQ
  have hDx : ∀ (f0y : Nat → Int64), va_D (GE G) ([(h0, .inl (ct 1, n0, .inr (.inl f0y)))]) := fun f0y => D_cr hD0 rfl
  have hDW : ∀ (f0y : Nat → Int64), va_D (wA ([(h0, .inl (ct 1, n0, .inr (.inl f0)))])) ([(h0, .inl (ct 1, n0, .inr (.inl f0y)))]) := fun f0y => D_cr (D_self hD0) rfl
  have hGE : ∀ q, wA ([(h0, .inl (ct 1, n0, .inr (.inl f0)))]) q → GE G q := wA_GE hD0
  have hP := hP0
  have hS : va_S (wA ([(h0, .inl (ct 1, n0, .inr (.inl f0)))])) s.heap s.heap [] := va_S.rf
  have hL2 : ∀ (n : Nat) (f0z : Nat → Int64) (v1 : Int32) (v2 : Int32), ∀ (H : Heap) (locs : List Loc) (ls : Array Slot), va_P D vwCl ([(h0, .inl (ct 1, n0, .inr (.inl f0z)))]) H → va_S (wA ([(h0, .inl (ct 1, n0, .inr (.inl f0)))])) s.heap H locs → lv_has ls 3 [(0, .ref h0), (1, .int v1), (2, .int v2)] → p_X0_clear_L2 fu n0  n f0z v1 v2 = some r → W p l e rm_X0_clear s m args below meth c H locs 0 0 QQ (F0 m 2 ls []) := by
    intro  n
    induction n with
    | zero =>
      intro f0z v1 v2 H locs ls hP hS hl hf 
      rw [p_X0_clear_L2] at hf
      cases hf
    | succ n ih =>
      intro f0z v1 v2 H locs ls hP hS hl hf 
      rw [p_X0_clear_L2] at hf
      refine lv_iload_n hx hb dX0_clear_2 rfl (lv_at hl 2 rfl) ?_
      refine lv_iload_n hx hb dX0_clear_3 rfl (lv_at hl 1 rfl) ?_
      refine lv_icmp_gt (tgt := 23) hx hb dX0_clear_4 (by decide) (fun c_4 => ?_) (fun c_4 => ?_)
      · rw [if_pos c_4] at hf
        rw [← hQQ]
        cases hf
        exact rw_v hx hb hr hlocks hP hS dX0_clear_23
      rw [if_neg c_4] at hf
      refine lv_iload_n hx hb dX0_clear_7 rfl (lv_at hl 2 rfl) ?_
      refine lv_aload_n hx hb dX0_clear_8 rfl (lv_at hl 0 rfl) ?_
      refine va_alen (D := D) (tys := tyl ct) (v := (nI n0)) hx hb hK hP 0 1 rfl rfl rfl dX0_clear_9 ?_
      refine lv_icmp_ge (tgt := 23) hx hb dX0_clear_10 (by decide) (fun c_10 => ?_) (fun c_10 => ?_)
      · rw [if_pos c_10] at hf
        rw [← hQQ]
        cases hf
        exact rw_v hx hb hr hlocks hP hS dX0_clear_23
      rw [if_neg c_10] at hf
      refine lv_aload_n hx hb dX0_clear_13 rfl (lv_at hl 0 rfl) ?_
      refine lv_iload_n hx hb dX0_clear_14 rfl (lv_at hl 2 rfl) ?_
      refine lv_lconst (v := 0) hx hb dX0_clear_15 (by decide) ?_
      obtain ⟨hi_16, hf⟩ := ob_in hf
      refine va_last (D := D) (tys := tyl ct) hx hb hK hP (hDW f0z) hS 0 1 rfl rfl hi_16 dX0_clear_16 (fun H_16 locs_16 hP _ hS => ?_)
      have hP : va_P D vwCl ([(h0, .inl (ct 1, n0, .inr (.inl (vp_updL f0z v2.toNatClampNeg (0 : Int64)))))]) H_16 := hP
      refine lv_iinc (v := (v2 + 1)) (lv' := [(2, .int (v2 + 1)), (0, .ref h0), (1, .int v1)]) hx hb dX0_clear_17 hl (k := 2) rfl rfl (by decide) rfl (fun ls hl => ?_)
      refine lv_goto (tgt := 2) hx hb dX0_clear_20 (by decide) ?_
      exact ih (vp_updL f0z v2.toNatClampNeg (0 : Int64)) v1 (v2 + 1) _ _ _ hP hS (lv_sub hl [1, 2, 0] rfl) hf 
  rw [p_X0_clear] at hf
  refine lv_iconst (v := 0) hx hb dX0_clear_0 (by decide) ?_
  refine lv_istore_n (lv' := [(2, .int 0), (0, .ref h0), (1, .int v1)]) hx hb dX0_clear_1 rfl hl (by decide) rfl (fun ls hl => ?_)
  exact hL2 fu f0 v1 0 _ _ _ hP hS (lv_sub hl [1, 2, 0] rfl) hf 
theorem c_X0_clear (l : Launch) (D : va_G) (ct : Nat → ClassId) (G : GT) (h0 : Nat) (fu : Nat) (n0 : Nat) (f0 : Nat → Int64) (v1 : Int32) {r : (Nat → Int64)} (hf : p_X0_clear fu n0 f0 v1 = some r)  (hD0 : va_D (GE G) ([(h0, .inl (ct 1, n0, .inr (.inl f0)))])) : Met l yX0_clear (.code yX0_clear cX0_clear 3 none :: wsL_law) rm_X0_clear (va_Pc [.ref h0, .int v1] (Bx D ct G ([(h0, .inl (ct 1, n0, .inr (.inl f0)))]))) (Qwr none (fun H => va_P D vwCl ([(h0, .inl (ct 1, n0, .inr (.inl r)))]) H) (wA ([(h0, .inl (ct 1, n0, .inr (.inl f0)))]))) 0 0 (wA ([(h0, .inl (ct 1, n0, .inr (.inl f0)))])) := by
  refine Met.ofW (cc := cX0_clear) (maxL := 3) (ret := none) (by decide) rfl ?_
  intro p e s m args below meth c s₁ B hml hv
  obtain ⟨rfl, hP, hK, hN, hX⟩ := hv
  have hts := atoms_spec (ws := .code yX0_clear cX0_clear 3 none :: wsL_law) B.pre
  rw [lg_entry_eq]
  exact b_X0_clear h0 fu n0 f0 v1 B.exec B.bytes B.returns hml (findClass_of_methodNamed B.named) (fun w h => hts w (List.mem_cons_of_mem _ h)) B.notSynchronized hK hN hX hP hf hD0  (lv_entry [.ref h0, .int v1] (n := 3) (Nat.le_of_ble_eq_true rfl))
theorem hd_X0_clear : yX0_clear.cls ≠ "java/lang/invoke/MethodHandle" ∧ yX0_clear.cls ≠ "java/lang/invoke/VarHandle" ∧ (parseMethodDescriptor yX0_clear.desc).map (fun d => d.parameters.length) = some 2 := by decide +kernel
theorem cw_X0_X0_clear {R : Room} {s : State} {args : Array Value} (ht : ∀ w ∈ wsL_law, w.before args s = true) (hR : rm_X0_clear.frames + 1 ≤ R.frames ∧ 8 + (3 + 11) + rm_X0_clear.locals ≤ R.locals) : CallB R s args RX0 26 yX0_clear cX0_clear 3 none ((.code yX0_clear cX0_clear 3 none) :: wsL_law) rm_X0_clear 0 0 2 ∧ (Cond.static yX0_clear).before args s = true := va_cwS 2 ht (GS wq_39_0 wq_39_1 wq_2_22 wq_39_2) rfl rfl rfl hd_X0_clear hR
theorem hd_X0_addWeight : yX0_addWeight.cls ≠ "java/lang/invoke/MethodHandle" ∧ yX0_addWeight.cls ≠ "java/lang/invoke/VarHandle" ∧ (parseMethodDescriptor yX0_addWeight.desc).map (fun d => d.parameters.length) = some 3 := by decide +kernel
theorem cw_X0_X0_addWeight {R : Room} {s : State} {args : Array Value} (ht : ∀ w ∈ wsL_law, w.before args s = true) (hR : rm_X0_addWeight.frames + 1 ≤ R.frames ∧ 8 + (4 + 11) + rm_X0_addWeight.locals ≤ R.locals) : CallB R s args RX0 30 yX0_addWeight cX0_addWeight 4 none ((.code yX0_addWeight cX0_addWeight 4 none) :: wsL_law) rm_X0_addWeight 0 0 3 ∧ (Cond.static yX0_addWeight).before args s = true := va_cwS 3 ht (GS wq_39_3 wq_39_4 wq_2_22 wq_39_5) rfl rfl rfl hd_X0_addWeight hR
def p_X0_begin (fu : Nat) (o : Ob) (v1 : Int32) : Option (Ob) :=
  (p_X0_clear fu 1240 (o.2 0) v1).bind fun r_5 => (p_X0_addWeight fu 1240 ((oLA o 0 r_5).2 0) v1 (1 : Int64)).bind fun r_14 => some (oL (oI (oLA (oLA o 0 r_5) 0 r_14) 2 v1) 3 (1 : Int64))
abbrev rm_X0_begin : Room := { frames := 1, cells := 0, slots := 0, locals := 23 }
set_option maxHeartbeats 4000000 in
set_option maxRecDepth 100000 in
theorem b_X0_begin {p : Program} {l : Launch} {e : Env} {s : State} {m : MethodId} {args : Array Value} {below : List Frame} {meth : Method} {c : Code} {ls : Array Slot} {D : va_G} {ct : Nat → ClassId} {G : GT} (a : Nat → Nat) (fu : Nat) (o : Ob) (v1 : Int32) {r : Ob} (hx : p.tables.exec = Jvm.exec) (hb : c.code = cX0_begin) (hr : meth.sig.returnType = none) (hml : c.maxLocals = 2) (hown : s.vm.findClass RX0 = some m.cls) (htl : ∀ w ∈ wsL_law, w.before args s = true) (hlocks : meth.locks = false) (hK : va_K D vwCl (tyl ct) s) (hN : ∀ w ∈ NW, va_Nw w s) (hX : SX G s s.heap) (hP0 : va_P D vwCl (cs0 ct a o) s.heap) (hf : p_X0_begin fu o v1 = some r) (hD0 : va_D (GE G) (cs0 ct a o))  (hl : lv_has ls 2 [(0, .ref (a 0)), (1, .int v1)]) : W p l e rm_X0_begin s m args below meth c s.heap [] 0 0 (MQ below (Qwr none (fun H => va_P D vwCl (cs0 ct a r) H) (wA (cs0 ct a o))) args s 0 0 (wA (cs0 ct a o))) (F0 m 0 ls []) := by
  generalize hQQ : MQ below (Qwr none (fun H => va_P D vwCl (cs0 ct a r) H) (wA (cs0 ct a o))) args s 0 0 (wA (cs0 ct a o)) = QQ
  have hDx : ∀ (oy : Ob), va_D (GE G) (cs0 ct a oy) := fun oy => D_cr hD0 rfl
  have hDW : ∀ (oy : Ob), va_D (wA (cs0 ct a o)) (cs0 ct a oy) := fun oy => D_cr (D_self hD0) rfl
  have hGE : ∀ q, wA (cs0 ct a o) q → GE G q := wA_GE hD0
  have hP := hP0
  have hS : va_S (wA (cs0 ct a o)) s.heap s.heap [] := va_S.rf
  rw [p_X0_begin] at hf
  refine lv_aload_n hx hb dX0_begin_0 rfl (lv_at hl 0 rfl) ?_
  refine va_get (D := D) (ci := 0) (v := .ref (a 1)) (C := RX0) (T := TX0) (N := 4) hx hb htl inlX0 hown hK hP 0 rfl rfl 0 (by decide) (htl _ wq_6_9) (fun _ h9 => h9) rfl dX0_begin_1 ?_
  refine lv_iload_n hx hb dX0_begin_4 rfl (lv_at hl 1 rfl) ?_
  obtain ⟨r_5, e_5, hf⟩ := ob_bind hf
  have hPX_5 : va_P D vwCl ([((a 1), .inl (ct 1, 1240, .inr (.inl (o.2 0))))]) s.heap := (P_one hP 1 rfl)
  refine wr_call0 (va_runS (As := [.ref (a 1), .int v1]) (rest := []) ⟨hx, hb, hml, hown, htl⟩ (c_X0_clear l D ct G (a 1) fu 1240 (o.2 0) v1 e_5 ((hDx o).sub (ws' := [((a 1), .inl (ct 1, 1240, .inr (.inl (o.2 0))))]) [1] (by decide) rfl)) (cw_X0_X0_clear htl ⟨Nat.le_of_ble_eq_true rfl, Nat.le_of_ble_eq_true rfl⟩) ⟨Bx_blind, Bx_pre hPX_5 hK hN (hX.stay hS hGE)⟩ rfl rfl hl.1 rfl (lv_room (Nat.le_of_ble_eq_true rfl)) dX0_begin_5 ⟨Nat.zero_le _, Nat.zero_le _⟩) hS (fun q h => wA_cg (w1 := cs0 ct a o) (w2 := cs0 ct a o) rfl q (wA_sub (w2 := cs0 ct a o) [1] rfl q h)) (fun H_5 locs_5 hB_5 _ hk_5 hS => ?_)
  have hP : va_P D vwCl (cs0 ct a (oLA o 0 r_5)) H_5 := P_join hP (hDW o) [1] rfl rfl hk_5 hB_5
  refine lv_aload_n hx hb dX0_begin_8 rfl (lv_at hl 0 rfl) ?_
  refine va_get (D := D) (ci := 0) (v := .ref (a 1)) (C := RX0) (T := TX0) (N := 4) hx hb htl inlX0 hown hK hP 0 rfl rfl 0 (by decide) (htl _ wq_6_9) (fun _ h9 => h9) rfl dX0_begin_9 ?_
  refine lv_iload_n hx hb dX0_begin_12 rfl (lv_at hl 1 rfl) ?_
  refine lv_lconst (v := 1) hx hb dX0_begin_13 (by decide) ?_
  obtain ⟨r_14, e_14, hf⟩ := ob_bind hf
  have hPX_14 : va_P D vwCl ([((a 1), .inl (ct 1, 1240, .inr (.inl ((oLA o 0 r_5).2 0))))]) H_5 := (P_one hP 1 rfl)
  refine wr_call0 (va_runS (As := [.ref (a 1), .int v1, .long 1]) (rest := []) ⟨hx, hb, hml, hown, htl⟩ (c_X0_addWeight l D ct G (a 1) fu 1240 ((oLA o 0 r_5).2 0) v1 (1 : Int64) e_14 ((hDx (oLA o 0 r_5)).sub (ws' := [((a 1), .inl (ct 1, 1240, .inr (.inl ((oLA o 0 r_5).2 0))))]) [1] (by decide) rfl)) (cw_X0_X0_addWeight htl ⟨Nat.le_of_ble_eq_true rfl, Nat.le_of_ble_eq_true rfl⟩) ⟨Bx_blind, Bx_pre hPX_14 hK hN (hX.stay hS hGE)⟩ rfl rfl hl.1 rfl (lv_room (Nat.le_of_ble_eq_true rfl)) dX0_begin_14 ⟨Nat.zero_le _, Nat.zero_le _⟩) hS (fun q h => wA_cg (w1 := cs0 ct a (oLA o 0 r_5)) (w2 := cs0 ct a o) rfl q (wA_sub (w2 := cs0 ct a (oLA o 0 r_5)) [1] rfl q h)) (fun H_14 locs_14 hB_14 _ hk_14 hS => ?_)
  have hP : va_P D vwCl (cs0 ct a (oLA (oLA o 0 r_5) 0 r_14)) H_14 := P_join hP (hDW (oLA o 0 r_5)) [1] rfl rfl hk_14 hB_14
  refine lv_aload_n hx hb dX0_begin_17 rfl (lv_at hl 0 rfl) ?_
  refine lv_iload_n hx hb dX0_begin_18 rfl (lv_at hl 1 rfl) ?_
  refine va_put (D := D) (ci := 0) (v := .int v1) (ty := .int) (C := RX0) (T := TX0) (N := 4) hx hb htl inlX0 tyX0 tyX0_ok nmX0 hown hK hP (hDW (oLA (oLA o 0 r_5) 0 r_14)) hS 0 rfl rfl 2 (by decide) (htl _ wq_6_11) (fun _ h9 => h9) rfl (tyX0_ok 2 (by decide)) rfl rfl (Nat.le_of_ble_eq_true rfl) dX0_begin_19 (fun H_19 locs_19 hP _ hS => ?_)
  have hP : va_P D vwCl (cs0 ct a (oI (oLA (oLA o 0 r_5) 0 r_14) 2 v1)) H_19 := st0_2 hP
  refine lv_aload_n hx hb dX0_begin_22 rfl (lv_at hl 0 rfl) ?_
  refine lv_lconst (v := 1) hx hb dX0_begin_23 (by decide) ?_
  refine va_put (D := D) (ci := 0) (v := .long 1) (ty := .long) (C := RX0) (T := TX0) (N := 4) hx hb htl inlX0 tyX0 tyX0_ok nmX0 hown hK hP (hDW (oI (oLA (oLA o 0 r_5) 0 r_14) 2 v1)) hS 0 rfl rfl 3 (by decide) (htl _ wq_6_12) (fun _ h9 => h9) rfl (tyX0_ok 3 (by decide)) rfl rfl (Nat.le_of_ble_eq_true rfl) dX0_begin_24 (fun H_24 locs_24 hP _ hS => ?_)
  have hP : va_P D vwCl (cs0 ct a (oL (oI (oLA (oLA o 0 r_5) 0 r_14) 2 v1) 3 (1 : Int64))) H_24 := st0_3 hP
  rw [← hQQ]
  cases hf
  exact rw_v hx hb hr hlocks hP hS dX0_begin_27
theorem c_X0_begin (l : Launch) (D : va_G) (ct : Nat → ClassId) (G : GT) (a : Nat → Nat) (fu : Nat) (o : Ob) (v1 : Int32) {r : Ob} (hf : p_X0_begin fu o v1 = some r)  (hD0 : va_D (GE G) (cs0 ct a o)) : Met l yX0_begin (.code yX0_begin cX0_begin 2 none :: wsL_law) rm_X0_begin (va_Pc [.ref (a 0), .int v1] (Bx D ct G (cs0 ct a o))) (Qwr none (fun H => va_P D vwCl (cs0 ct a r) H) (wA (cs0 ct a o))) 0 0 (wA (cs0 ct a o)) := by
  refine Met.ofW (cc := cX0_begin) (maxL := 2) (ret := none) (by decide) rfl ?_
  intro p e s m args below meth c s₁ B hml hv
  obtain ⟨rfl, hP, hK, hN, hX⟩ := hv
  have hts := atoms_spec (ws := .code yX0_begin cX0_begin 2 none :: wsL_law) B.pre
  rw [lg_entry_eq]
  exact b_X0_begin a fu o v1 B.exec B.bytes B.returns hml (findClass_of_methodNamed B.named) (fun w h => hts w (List.mem_cons_of_mem _ h)) B.notSynchronized hK hN hX hP hf hD0  (lv_entry [.ref (a 0), .int v1] (n := 2) (Nat.le_of_ble_eq_true rfl))
def p_X0_advance_L28 (fu : Nat) (c108 : Ob → Int32 → Option (Ob)) : Nat → Ob → Int32 → Int32 → Int32 → Int32 → Int32 → Option (Ob)
  | 0, _, _, _, _, _, _ => none
  | n + 1, oz, v1, v2, v3, v4, v5 =>
    if (oz.1 2 0) < v5 then c108 oz v4 else if (1240 : Int32) ≤ v5 then c108 oz v4 else if inb v5 1240 = true then (p_X0_addWeight fu 1240 (oz.2 1) ((if (0 : Int32) < (v5 - 1) then (v5 - 1) else (0 : Int32)) + v1) (((oz.2 0) v5.toNatClampNeg) * (10 - v2).toInt64)).bind fun r_78 => if inb v5 1240 = true then (p_X0_addWeight fu 1240 ((oLA oz 1 r_78).2 1) (((if (0 : Int32) < (v5 - 1) then (v5 - 1) else (0 : Int32)) + v1) + v3) ((((oLA oz 1 r_78).2 0) v5.toNatClampNeg) * v2.toInt64)).bind fun r_99 => p_X0_advance_L28 fu c108 n (oLA (oLA oz 1 r_78) 1 r_99) v1 v2 v3 v4 (v5 + 1) else none else none
def p_X0_advance (fu : Nat) (o : Ob) (v1 : Int32) (v2 : Int32) (v3 : Int32) : Option (Ob) :=
  (p_X0_clear fu 1240 (o.2 1) (((if (0 : Int32) < ((o.1 2 0) - 1) then ((o.1 2 0) - 1) else (0 : Int32)) + v1) + v3)).bind fun r_22 => p_X0_advance_L28 fu (fun oz v4 => some (oSw (oL (oI oz 2 v4) 3 (((oI oz 2 v4).2 3 0) * 10)))) fu (oLA o 1 r_22) v1 v2 v3 (((if (0 : Int32) < ((o.1 2 0) - 1) then ((o.1 2 0) - 1) else (0 : Int32)) + v1) + v3) 0
abbrev rm_X0_advance : Room := { frames := 1, cells := 0, slots := 0, locals := 23 }
set_option maxHeartbeats 4000000 in
set_option maxRecDepth 100000 in
theorem b_X0_advance {p : Program} {l : Launch} {e : Env} {s : State} {m : MethodId} {args : Array Value} {below : List Frame} {meth : Method} {c : Code} {ls : Array Slot} {D : va_G} {ct : Nat → ClassId} {G : GT} (a : Nat → Nat) (fu : Nat) (o : Ob) (v1 : Int32) (v2 : Int32) (v3 : Int32) {r : Ob} (hx : p.tables.exec = Jvm.exec) (hb : c.code = cX0_advance) (hr : meth.sig.returnType = none) (hml : c.maxLocals = 7) (hown : s.vm.findClass RX0 = some m.cls) (htl : ∀ w ∈ wsL_law, w.before args s = true) (hlocks : meth.locks = false) (hK : va_K D vwCl (tyl ct) s) (hN : ∀ w ∈ NW, va_Nw w s) (hX : SX G s s.heap) (hP0 : va_P D vwCl (cs0 ct a o) s.heap) (hf : p_X0_advance fu o v1 v2 v3 = some r) (hD0 : va_D (GE G) (cs0 ct a o))  (hl : lv_has ls 7 [(0, .ref (a 0)), (1, .int v1), (2, .int v2), (3, .int v3)]) : W p l e rm_X0_advance s m args below meth c s.heap [] 0 0 (MQ below (Qwr none (fun H => va_P D vwCl (cs0 ct (swp a) r) H) (wA (cs0 ct a o))) args s 0 0 (wA (cs0 ct a o))) (F0 m 0 ls []) := by
  generalize hQQ : MQ below (Qwr none (fun H => va_P D vwCl (cs0 ct (swp a) r) H) (wA (cs0 ct a o))) args s 0 0 (wA (cs0 ct a o)) = QQ
  have hDx : ∀ (oy : Ob), va_D (GE G) (cs0 ct a oy) := fun oy => D_cr hD0 rfl
  have hDW : ∀ (oy : Ob), va_D (wA (cs0 ct a o)) (cs0 ct a oy) := fun oy => D_cr (D_self hD0) rfl
  have hGE : ∀ q, wA (cs0 ct a o) q → GE G q := wA_GE hD0
  have hP := hP0
  have hS : va_S (wA (cs0 ct a o)) s.heap s.heap [] := va_S.rf
  have hL28 : ∀ (c108 : Ob → Int32 → Option (Ob)) (n : Nat) (oz : Ob) (v1 : Int32) (v2 : Int32) (v3 : Int32) (v4 : Int32) (v5 : Int32), ∀ (H : Heap) (locs : List Loc) (ls : Array Slot), va_P D vwCl (cs0 ct a oz) H → va_S (wA (cs0 ct a o)) s.heap H locs → lv_has ls 7 [(0, .ref (a 0)), (1, .int v1), (2, .int v2), (3, .int v3), (4, .int v4), (5, .int v5)] → p_X0_advance_L28 fu c108 n oz v1 v2 v3 v4 v5 = some r → (∀ (oz : Ob) (v4 : Int32), ∀ (H : Heap) (locs : List Loc) (ls : Array Slot), va_P D vwCl (cs0 ct a oz) H → va_S (wA (cs0 ct a o)) s.heap H locs → lv_has ls 7 [(0, .ref (a 0)), (4, .int v4)] → c108 oz v4 = some r → W p l e rm_X0_advance s m args below meth c H locs 0 0 QQ (F0 m 108 ls [])) → W p l e rm_X0_advance s m args below meth c H locs 0 0 QQ (F0 m 28 ls []) := by
    intro c108 n
    induction n with
    | zero =>
      intro oz v1 v2 v3 v4 v5 H locs ls hP hS hl hf k108
      rw [p_X0_advance_L28] at hf
      cases hf
    | succ n ih =>
      intro oz v1 v2 v3 v4 v5 H locs ls hP hS hl hf k108
      rw [p_X0_advance_L28] at hf
      refine lv_iload hx hb dX0_advance_28 (lv_at hl 5 rfl) ?_
      refine lv_aload_n hx hb dX0_advance_30 rfl (lv_at hl 0 rfl) ?_
      refine va_get (D := D) (ci := 0) (v := .int (oz.1 2 0)) (C := RX0) (T := TX0) (N := 4) hx hb htl inlX0 hown hK hP 0 rfl rfl 2 (by decide) (htl _ wq_6_11) (fun _ h9 => h9) rfl dX0_advance_31 ?_
      refine lv_icmp_gt (tgt := 108) hx hb dX0_advance_34 (by decide) (fun c_34 => ?_) (fun c_34 => ?_)
      · rw [if_pos c_34] at hf
        exact k108 oz v4 _ _ _ hP hS (lv_sub hl [0, 4] rfl) hf
      rw [if_neg c_34] at hf
      refine lv_iload hx hb dX0_advance_37 (lv_at hl 5 rfl) ?_
      refine lv_aload_n hx hb dX0_advance_39 rfl (lv_at hl 0 rfl) ?_
      refine va_get (D := D) (ci := 0) (v := .ref (a 1)) (C := RX0) (T := TX0) (N := 4) hx hb htl inlX0 hown hK hP 0 rfl rfl 0 (by decide) (htl _ wq_6_9) (fun _ h9 => h9) rfl dX0_advance_40 ?_
      refine va_alen (D := D) (tys := tyl ct) (v := 1240) hx hb hK hP 1 1 rfl rfl rfl dX0_advance_43 ?_
      refine lv_icmp_ge (tgt := 108) hx hb dX0_advance_44 (by decide) (fun c_44 => ?_) (fun c_44 => ?_)
      · rw [if_pos c_44] at hf
        exact k108 oz v4 _ _ _ hP hS (lv_sub hl [0, 4] rfl) hf
      rw [if_neg c_44] at hf
      refine lv_iconst (v := 0) hx hb dX0_advance_47 (by decide) ?_
      refine lv_iload hx hb dX0_advance_48 (lv_at hl 5 rfl) ?_
      refine lv_iconst (v := 1) hx hb dX0_advance_50 (by decide) ?_
      refine lv_isub hx hb dX0_advance_51 ?_
      refine va_mmax hx hb (hml.trans hl.1.symm) hown (htl _ wq_39_9) (htl _ wq_15_21) (htl _ wq_12_23) (htl _ wq_15_22) (Nat.le_of_ble_eq_true rfl) (Nat.le_of_ble_eq_true rfl) (Nat.zero_le _) (Nat.zero_le _) dX0_advance_52 ?_
      refine lv_iload_n hx hb dX0_advance_55 rfl (lv_at hl 1 rfl) ?_
      refine lv_iadd hx hb dX0_advance_56 ?_
      refine lv_istore (lv' := [(6, .int ((if (0 : Int32) < (v5 - 1) then (v5 - 1) else (0 : Int32)) + v1)), (0, .ref (a 0)), (1, .int v1), (2, .int v2), (3, .int v3), (4, .int v4), (5, .int v5)]) hx hb dX0_advance_57 hl (by decide) rfl (fun ls hl => ?_)
      refine lv_aload_n hx hb dX0_advance_59 rfl (lv_at hl 1 rfl) ?_
      refine va_get (D := D) (ci := 0) (v := .ref (a 2)) (C := RX0) (T := TX0) (N := 4) hx hb htl inlX0 hown hK hP 0 rfl rfl 1 (by decide) (htl _ wq_6_10) (fun _ h9 => h9) rfl dX0_advance_60 ?_
      refine lv_iload hx hb dX0_advance_63 (lv_at hl 0 rfl) ?_
      refine lv_aload_n hx hb dX0_advance_65 rfl (lv_at hl 1 rfl) ?_
      refine va_get (D := D) (ci := 0) (v := .ref (a 1)) (C := RX0) (T := TX0) (N := 4) hx hb htl inlX0 hown hK hP 0 rfl rfl 0 (by decide) (htl _ wq_6_9) (fun _ h9 => h9) rfl dX0_advance_66 ?_
      refine lv_iload hx hb dX0_advance_69 (lv_at hl 6 rfl) ?_
      obtain ⟨hi_71, hf⟩ := ob_in hf
      refine va_lald (D := D) (tys := tyl ct) hx hb hK hP 1 1 rfl rfl hi_71 dX0_advance_71 ?_
      refine lv_bipush (v := 10) hx hb dX0_advance_72 (by decide) ?_
      refine lv_iload_n hx hb dX0_advance_74 rfl (lv_at hl 3 rfl) ?_
      refine lv_isub hx hb dX0_advance_75 ?_
      refine lv_i2l hx hb dX0_advance_76 rfl ?_
      refine lv_lmul hx hb dX0_advance_77 ?_
      obtain ⟨r_78, e_78, hf⟩ := ob_bind hf
      have hPX_78 : va_P D vwCl ([((a 2), .inl (ct 1, 1240, .inr (.inl (oz.2 1))))]) H := (P_one hP 2 rfl)
      refine wr_call0 (va_runS (As := [.ref (a 2), .int ((if (0 : Int32) < (v5 - 1) then (v5 - 1) else (0 : Int32)) + v1), .long (((oz.2 0) v5.toNatClampNeg) * (10 - v2).toInt64)]) (rest := []) ⟨hx, hb, hml, hown, htl⟩ (c_X0_addWeight l D ct G (a 2) fu 1240 (oz.2 1) ((if (0 : Int32) < (v5 - 1) then (v5 - 1) else (0 : Int32)) + v1) (((oz.2 0) v5.toNatClampNeg) * (10 - v2).toInt64) e_78 ((hDx oz).sub (ws' := [((a 2), .inl (ct 1, 1240, .inr (.inl (oz.2 1))))]) [2] (by decide) rfl)) (cw_X0_X0_addWeight htl ⟨Nat.le_of_ble_eq_true rfl, Nat.le_of_ble_eq_true rfl⟩) ⟨Bx_blind, Bx_pre hPX_78 hK hN (hX.stay hS hGE)⟩ rfl rfl hl.1 rfl (lv_room (Nat.le_of_ble_eq_true rfl)) dX0_advance_78 ⟨Nat.zero_le _, Nat.zero_le _⟩) hS (fun q h => wA_cg (w1 := cs0 ct a oz) (w2 := cs0 ct a o) rfl q (wA_sub (w2 := cs0 ct a oz) [2] rfl q h)) (fun H_78 locs_78 hB_78 _ hk_78 hS => ?_)
      have hP : va_P D vwCl (cs0 ct a (oLA oz 1 r_78)) H_78 := P_join hP (hDW oz) [2] rfl rfl hk_78 hB_78
      refine lv_aload_n hx hb dX0_advance_81 rfl (lv_at hl 1 rfl) ?_
      refine va_get (D := D) (ci := 0) (v := .ref (a 2)) (C := RX0) (T := TX0) (N := 4) hx hb htl inlX0 hown hK hP 0 rfl rfl 1 (by decide) (htl _ wq_6_10) (fun _ h9 => h9) rfl dX0_advance_82 ?_
      refine lv_iload hx hb dX0_advance_85 (lv_at hl 0 rfl) ?_
      refine lv_iload_n hx hb dX0_advance_87 rfl (lv_at hl 4 rfl) ?_
      refine lv_iadd hx hb dX0_advance_88 ?_
      refine lv_aload_n hx hb dX0_advance_89 rfl (lv_at hl 1 rfl) ?_
      refine va_get (D := D) (ci := 0) (v := .ref (a 1)) (C := RX0) (T := TX0) (N := 4) hx hb htl inlX0 hown hK hP 0 rfl rfl 0 (by decide) (htl _ wq_6_9) (fun _ h9 => h9) rfl dX0_advance_90 ?_
      refine lv_iload hx hb dX0_advance_93 (lv_at hl 6 rfl) ?_
      obtain ⟨hi_95, hf⟩ := ob_in hf
      refine va_lald (D := D) (tys := tyl ct) hx hb hK hP 1 1 rfl rfl hi_95 dX0_advance_95 ?_
      refine lv_iload_n hx hb dX0_advance_96 rfl (lv_at hl 3 rfl) ?_
      refine lv_i2l hx hb dX0_advance_97 rfl ?_
      refine lv_lmul hx hb dX0_advance_98 ?_
      obtain ⟨r_99, e_99, hf⟩ := ob_bind hf
      have hPX_99 : va_P D vwCl ([((a 2), .inl (ct 1, 1240, .inr (.inl ((oLA oz 1 r_78).2 1))))]) H_78 := (P_one hP 2 rfl)
      refine wr_call0 (va_runS (As := [.ref (a 2), .int (((if (0 : Int32) < (v5 - 1) then (v5 - 1) else (0 : Int32)) + v1) + v3), .long ((((oLA oz 1 r_78).2 0) v5.toNatClampNeg) * v2.toInt64)]) (rest := []) ⟨hx, hb, hml, hown, htl⟩ (c_X0_addWeight l D ct G (a 2) fu 1240 ((oLA oz 1 r_78).2 1) (((if (0 : Int32) < (v5 - 1) then (v5 - 1) else (0 : Int32)) + v1) + v3) ((((oLA oz 1 r_78).2 0) v5.toNatClampNeg) * v2.toInt64) e_99 ((hDx (oLA oz 1 r_78)).sub (ws' := [((a 2), .inl (ct 1, 1240, .inr (.inl ((oLA oz 1 r_78).2 1))))]) [2] (by decide) rfl)) (cw_X0_X0_addWeight htl ⟨Nat.le_of_ble_eq_true rfl, Nat.le_of_ble_eq_true rfl⟩) ⟨Bx_blind, Bx_pre hPX_99 hK hN (hX.stay hS hGE)⟩ rfl rfl hl.1 rfl (lv_room (Nat.le_of_ble_eq_true rfl)) dX0_advance_99 ⟨Nat.zero_le _, Nat.zero_le _⟩) hS (fun q h => wA_cg (w1 := cs0 ct a (oLA oz 1 r_78)) (w2 := cs0 ct a o) rfl q (wA_sub (w2 := cs0 ct a (oLA oz 1 r_78)) [2] rfl q h)) (fun H_99 locs_99 hB_99 _ hk_99 hS => ?_)
      have hP : va_P D vwCl (cs0 ct a (oLA (oLA oz 1 r_78) 1 r_99)) H_99 := P_join hP (hDW (oLA oz 1 r_78)) [2] rfl rfl hk_99 hB_99
      refine lv_iinc (v := (v5 + 1)) (lv' := [(5, .int (v5 + 1)), (6, .int ((if (0 : Int32) < (v5 - 1) then (v5 - 1) else (0 : Int32)) + v1)), (0, .ref (a 0)), (1, .int v1), (2, .int v2), (3, .int v3), (4, .int v4)]) hx hb dX0_advance_102 hl (k := 6) rfl rfl (by decide) rfl (fun ls hl => ?_)
      refine lv_goto (tgt := 28) hx hb dX0_advance_105 (by decide) ?_
      exact ih (oLA (oLA oz 1 r_78) 1 r_99) v1 v2 v3 v4 (v5 + 1) _ _ _ hP hS (lv_sub hl [2, 3, 4, 5, 6, 0] rfl) hf k108
  rw [p_X0_advance] at hf
  refine lv_iconst (v := 0) hx hb dX0_advance_0 (by decide) ?_
  refine lv_aload_n hx hb dX0_advance_1 rfl (lv_at hl 0 rfl) ?_
  refine va_get (D := D) (ci := 0) (v := .int (o.1 2 0)) (C := RX0) (T := TX0) (N := 4) hx hb htl inlX0 hown hK hP 0 rfl rfl 2 (by decide) (htl _ wq_6_11) (fun _ h9 => h9) rfl dX0_advance_2 ?_
  refine lv_iconst (v := 1) hx hb dX0_advance_5 (by decide) ?_
  refine lv_isub hx hb dX0_advance_6 ?_
  refine va_mmax hx hb (hml.trans hl.1.symm) hown (htl _ wq_39_9) (htl _ wq_15_21) (htl _ wq_12_23) (htl _ wq_15_22) (Nat.le_of_ble_eq_true rfl) (Nat.le_of_ble_eq_true rfl) (Nat.zero_le _) (Nat.zero_le _) dX0_advance_7 ?_
  refine lv_iload_n hx hb dX0_advance_10 rfl (lv_at hl 1 rfl) ?_
  refine lv_iadd hx hb dX0_advance_11 ?_
  refine lv_iload_n hx hb dX0_advance_12 rfl (lv_at hl 3 rfl) ?_
  refine lv_iadd hx hb dX0_advance_13 ?_
  refine lv_istore (lv' := [(4, .int (((if (0 : Int32) < ((o.1 2 0) - 1) then ((o.1 2 0) - 1) else (0 : Int32)) + v1) + v3)), (0, .ref (a 0)), (1, .int v1), (2, .int v2), (3, .int v3)]) hx hb dX0_advance_14 hl (by decide) rfl (fun ls hl => ?_)
  refine lv_aload_n hx hb dX0_advance_16 rfl (lv_at hl 1 rfl) ?_
  refine va_get (D := D) (ci := 0) (v := .ref (a 2)) (C := RX0) (T := TX0) (N := 4) hx hb htl inlX0 hown hK hP 0 rfl rfl 1 (by decide) (htl _ wq_6_10) (fun _ h9 => h9) rfl dX0_advance_17 ?_
  refine lv_iload hx hb dX0_advance_20 (lv_at hl 0 rfl) ?_
  obtain ⟨r_22, e_22, hf⟩ := ob_bind hf
  have hPX_22 : va_P D vwCl ([((a 2), .inl (ct 1, 1240, .inr (.inl (o.2 1))))]) s.heap := (P_one hP 2 rfl)
  refine wr_call0 (va_runS (As := [.ref (a 2), .int (((if (0 : Int32) < ((o.1 2 0) - 1) then ((o.1 2 0) - 1) else (0 : Int32)) + v1) + v3)]) (rest := []) ⟨hx, hb, hml, hown, htl⟩ (c_X0_clear l D ct G (a 2) fu 1240 (o.2 1) (((if (0 : Int32) < ((o.1 2 0) - 1) then ((o.1 2 0) - 1) else (0 : Int32)) + v1) + v3) e_22 ((hDx o).sub (ws' := [((a 2), .inl (ct 1, 1240, .inr (.inl (o.2 1))))]) [2] (by decide) rfl)) (cw_X0_X0_clear htl ⟨Nat.le_of_ble_eq_true rfl, Nat.le_of_ble_eq_true rfl⟩) ⟨Bx_blind, Bx_pre hPX_22 hK hN (hX.stay hS hGE)⟩ rfl rfl hl.1 rfl (lv_room (Nat.le_of_ble_eq_true rfl)) dX0_advance_22 ⟨Nat.zero_le _, Nat.zero_le _⟩) hS (fun q h => wA_cg (w1 := cs0 ct a o) (w2 := cs0 ct a o) rfl q (wA_sub (w2 := cs0 ct a o) [2] rfl q h)) (fun H_22 locs_22 hB_22 _ hk_22 hS => ?_)
  have hP : va_P D vwCl (cs0 ct a (oLA o 1 r_22)) H_22 := P_join hP (hDW o) [2] rfl rfl hk_22 hB_22
  refine lv_iconst (v := 0) hx hb dX0_advance_25 (by decide) ?_
  refine lv_istore (lv' := [(5, .int 0), (4, .int (((if (0 : Int32) < ((o.1 2 0) - 1) then ((o.1 2 0) - 1) else (0 : Int32)) + v1) + v3)), (0, .ref (a 0)), (1, .int v1), (2, .int v2), (3, .int v3)]) hx hb dX0_advance_26 hl (by decide) rfl (fun ls hl => ?_)
  refine hL28 _ fu (oLA o 1 r_22) v1 v2 v3 (((if (0 : Int32) < ((o.1 2 0) - 1) then ((o.1 2 0) - 1) else (0 : Int32)) + v1) + v3) 0 _ _ _ hP hS (lv_sub hl [2, 3, 4, 5, 1, 0] rfl) hf (fun oz v4 H locs ls hP hS hl hf => ?_)
  refine lv_aload_n hx hb dX0_advance_108 rfl (lv_at hl 0 rfl) ?_
  refine va_get (D := D) (ci := 0) (v := .ref (a 1)) (C := RX0) (T := TX0) (N := 4) hx hb htl inlX0 hown hK hP 0 rfl rfl 0 (by decide) (htl _ wq_6_9) (fun _ h9 => h9) rfl dX0_advance_109 ?_
  refine lv_astore (lv' := [(5, .ref (a 1)), (0, .ref (a 0)), (4, .int v4)]) hx hb dX0_advance_112 hl (by decide) rfl (fun ls hl => ?_)
  refine lv_aload_n hx hb dX0_advance_114 rfl (lv_at hl 1 rfl) ?_
  refine lv_aload_n hx hb dX0_advance_115 rfl (lv_at hl 1 rfl) ?_
  refine va_get (D := D) (ci := 0) (v := .ref (a 2)) (C := RX0) (T := TX0) (N := 4) hx hb htl inlX0 hown hK hP 0 rfl rfl 1 (by decide) (htl _ wq_6_10) (fun _ h9 => h9) rfl dX0_advance_116 ?_
  refine va_put (D := D) (ci := 0) (v := .ref (a 2)) (ty := (.array .long)) (C := RX0) (T := TX0) (N := 4) hx hb htl inlX0 tyX0 tyX0_ok nmX0 hown hK hP (hDW oz) hS 0 rfl rfl 0 (by decide) (htl _ wq_6_9) (fun _ h9 => h9) rfl (tyX0_ok 0 (by decide)) rfl rfl (Nat.le_of_ble_eq_true rfl) dX0_advance_119 (fun H_119 locs_119 hP hD hS => ?_)
  have hP : va_P D vwCl ([(a 0, .inr (0, [.ref (a 2), .ref (a 2), .int (oz.1 2 0), .long (oz.2 3 0)])), (a 1, .inl (ct 1, 1240, .inr (.inl (oz.2 0)))), (a 2, .inl (ct 1, 1240, .inr (.inl (oz.2 1))))]) H_119 := hP
  refine lv_aload_n hx hb dX0_advance_122 rfl (lv_at hl 1 rfl) ?_
  refine lv_aload hx hb dX0_advance_123 (lv_at hl 0 rfl) ?_
  refine va_put (D := D) (ci := 0) (v := .ref (a 1)) (ty := (.array .long)) (C := RX0) (T := TX0) (N := 4) hx hb htl inlX0 tyX0 tyX0_ok nmX0 hown hK hP hD hS 0 rfl rfl 1 (by decide) (htl _ wq_6_10) (fun _ h9 => h9) rfl (tyX0_ok 1 (by decide)) rfl rfl (Nat.le_of_ble_eq_true rfl) dX0_advance_125 (fun H_125 locs_125 hP hD hS => ?_)
  have hP : va_P D vwCl ([(a 0, .inr (0, [.ref (a 2), .ref (a 1), .int (oz.1 2 0), .long (oz.2 3 0)])), (a 1, .inl (ct 1, 1240, .inr (.inl (oz.2 0)))), (a 2, .inl (ct 1, 1240, .inr (.inl (oz.2 1))))]) H_125 := hP
  refine lv_aload_n hx hb dX0_advance_128 rfl (lv_at hl 1 rfl) ?_
  refine lv_iload hx hb dX0_advance_129 (lv_at hl 2 rfl) ?_
  refine va_put (D := D) (ci := 0) (v := .int v4) (ty := .int) (C := RX0) (T := TX0) (N := 4) hx hb htl inlX0 tyX0 tyX0_ok nmX0 hown hK hP hD hS 0 rfl rfl 2 (by decide) (htl _ wq_6_11) (fun _ h9 => h9) rfl (tyX0_ok 2 (by decide)) rfl rfl (Nat.le_of_ble_eq_true rfl) dX0_advance_131 (fun H_131 locs_131 hP hD hS => ?_)
  have hP : va_P D vwCl ([(a 0, .inr (0, [.ref (a 2), .ref (a 1), .int ((oI oz 2 v4).1 2 0), .long ((oI oz 2 v4).2 3 0)])), (a 1, .inl (ct 1, 1240, .inr (.inl ((oI oz 2 v4).2 0)))), (a 2, .inl (ct 1, 1240, .inr (.inl ((oI oz 2 v4).2 1))))]) H_131 := hP
  refine lv_aload_n hx hb dX0_advance_134 rfl (lv_at hl 1 rfl) ?_
  refine lv_dup hx hb dX0_advance_135 rfl ?_
  refine va_get (D := D) (ci := 0) (v := .long ((oI oz 2 v4).2 3 0)) (C := RX0) (T := TX0) (N := 4) hx hb htl inlX0 hown hK hP 0 rfl rfl 3 (by decide) (htl _ wq_6_12) (fun _ h9 => h9) rfl dX0_advance_136 ?_
  refine lv_ldc2 (v := 10) hx hb hown (htl _ wq_39_10) dX0_advance_139 ?_
  refine lv_lmul hx hb dX0_advance_142 ?_
  refine va_put (D := D) (ci := 0) (v := .long (((oI oz 2 v4).2 3 0) * 10)) (ty := .long) (C := RX0) (T := TX0) (N := 4) hx hb htl inlX0 tyX0 tyX0_ok nmX0 hown hK hP hD hS 0 rfl rfl 3 (by decide) (htl _ wq_6_12) (fun _ h9 => h9) rfl (tyX0_ok 3 (by decide)) rfl rfl (Nat.le_of_ble_eq_true rfl) dX0_advance_143 (fun H_143 locs_143 hP hD hS => ?_)
  have hP : va_P D vwCl ([(a 0, .inr (0, [.ref (a 2), .ref (a 1), .int ((oL (oI oz 2 v4) 3 (((oI oz 2 v4).2 3 0) * 10)).1 2 0), .long ((oL (oI oz 2 v4) 3 (((oI oz 2 v4).2 3 0) * 10)).2 3 0)])), (a 1, .inl (ct 1, 1240, .inr (.inl ((oL (oI oz 2 v4) 3 (((oI oz 2 v4).2 3 0) * 10)).2 0)))), (a 2, .inl (ct 1, 1240, .inr (.inl ((oL (oI oz 2 v4) 3 (((oI oz 2 v4).2 3 0) * 10)).2 1))))]) H_143 := hP
  rw [← hQQ]
  cases hf
  exact rw_v hx hb hr hlocks (hP.sub [0, 2, 1] rfl) hS dX0_advance_146
theorem c_X0_advance (l : Launch) (D : va_G) (ct : Nat → ClassId) (G : GT) (a : Nat → Nat) (fu : Nat) (o : Ob) (v1 : Int32) (v2 : Int32) (v3 : Int32) {r : Ob} (hf : p_X0_advance fu o v1 v2 v3 = some r)  (hD0 : va_D (GE G) (cs0 ct a o)) : Met l yX0_advance (.code yX0_advance cX0_advance 7 none :: wsL_law) rm_X0_advance (va_Pc [.ref (a 0), .int v1, .int v2, .int v3] (Bx D ct G (cs0 ct a o))) (Qwr none (fun H => va_P D vwCl (cs0 ct (swp a) r) H) (wA (cs0 ct a o))) 0 0 (wA (cs0 ct a o)) := by
  refine Met.ofW (cc := cX0_advance) (maxL := 7) (ret := none) (by decide) rfl ?_
  intro p e s m args below meth c s₁ B hml hv
  obtain ⟨rfl, hP, hK, hN, hX⟩ := hv
  have hts := atoms_spec (ws := .code yX0_advance cX0_advance 7 none :: wsL_law) B.pre
  rw [lg_entry_eq]
  exact b_X0_advance a fu o v1 v2 v3 B.exec B.bytes B.returns hml (findClass_of_methodNamed B.named) (fun w h => hts w (List.mem_cons_of_mem _ h)) B.notSynchronized hK hN hX hP hf hD0  (lv_entry [.ref (a 0), .int v1, .int v2, .int v3] (n := 7) (Nat.le_of_ble_eq_true rfl))
def p_X0_weightBelow_L5 (fu : Nat) (o : Ob)  : Nat → Int32 → Int64 → Int32 → Option (Int64)
  | 0, _, _, _ => none
  | n + 1, v1, v2, v4 =>
    if v1 ≤ v4 then some v2 else if (o.1 2 0) < v4 then some v2 else if (1240 : Int32) ≤ v4 then some v2 else if inb v4 1240 = true then p_X0_weightBelow_L5 fu o  n v1 (v2 + ((o.2 0) v4.toNatClampNeg)) (v4 + 1) else none
def p_X0_weightBelow (fu : Nat) (o : Ob) (v1 : Int32) : Option (Int64) :=
  p_X0_weightBelow_L5 fu o fu v1 0 0
abbrev rm_X0_weightBelow : Room := { frames := 0, cells := 0, slots := 0, locals := 0 }
set_option maxHeartbeats 4000000 in
set_option maxRecDepth 100000 in
theorem b_X0_weightBelow {p : Program} {l : Launch} {e : Env} {s : State} {m : MethodId} {args : Array Value} {below : List Frame} {meth : Method} {c : Code} {ls : Array Slot} {D : va_G} {ct : Nat → ClassId} {G : GT} (a : Nat → Nat) (fu : Nat) (o : Ob) (v1 : Int32) {r : Int64} (hx : p.tables.exec = Jvm.exec) (hb : c.code = cX0_weightBelow) (hr : meth.sig.returnType = (some .long)) (hml : c.maxLocals = 5) (hown : s.vm.findClass RX0 = some m.cls) (htl : ∀ w ∈ wsL_law, w.before args s = true) (hlocks : meth.locks = false) (hK : va_K D vwCl (tyl ct) s) (hN : ∀ w ∈ NW, va_Nw w s) (hX : SX G s s.heap) (hP0 : va_P D vwCl (cs0 ct a o) s.heap) (hf : p_X0_weightBelow fu o v1 = some r)  (hl : lv_has ls 5 [(0, .ref (a 0)), (1, .int v1)]) : W p l e rm_X0_weightBelow s m args below meth c s.heap [] 0 0 (MQ below (Qro (some (.long r))) args s 0 0 (fun _ => False)) (F0 m 0 ls []) := by
  generalize hQQ : MQ below (Qro (some (.long r))) args s 0 0 (fun _ => False) = QQ
  have hP := hP0
  have hL5 : ∀ (n : Nat) (v1 : Int32) (v2 : Int64) (v4 : Int32), ∀ (ls : Array Slot), lv_has ls 5 [(0, .ref (a 0)), (1, .int v1), (2, .long v2), (4, .int v4)] → p_X0_weightBelow_L5 fu o  n v1 v2 v4 = some r → W p l e rm_X0_weightBelow s m args below meth c s.heap [] 0 0 QQ (F0 m 5 ls []) := by
    intro  n
    induction n with
    | zero =>
      intro v1 v2 v4 ls hl hf 
      rw [p_X0_weightBelow_L5] at hf
      cases hf
    | succ n ih =>
      intro v1 v2 v4 ls hl hf 
      rw [p_X0_weightBelow_L5] at hf
      refine lv_iload hx hb dX0_weightBelow_5 (lv_at hl 3 rfl) ?_
      refine lv_iload_n hx hb dX0_weightBelow_7 rfl (lv_at hl 1 rfl) ?_
      refine lv_icmp_ge (tgt := 46) hx hb dX0_weightBelow_8 (by decide) (fun c_8 => ?_) (fun c_8 => ?_)
      · rw [if_pos c_8] at hf
        refine lv_lload_n hx hb dX0_weightBelow_46 rfl (lv_at hl 2 rfl) ?_
        rw [← hQQ]
        exact rf_l hx hb hr hlocks hf dX0_weightBelow_47
      rw [if_neg c_8] at hf
      refine lv_iload hx hb dX0_weightBelow_11 (lv_at hl 3 rfl) ?_
      refine lv_aload_n hx hb dX0_weightBelow_13 rfl (lv_at hl 0 rfl) ?_
      refine va_get (D := D) (ci := 0) (v := .int (o.1 2 0)) (C := RX0) (T := TX0) (N := 4) hx hb htl inlX0 hown hK hP 0 rfl rfl 2 (by decide) (htl _ wq_6_11) (fun _ h9 => h9) rfl dX0_weightBelow_14 ?_
      refine lv_icmp_gt (tgt := 46) hx hb dX0_weightBelow_17 (by decide) (fun c_17 => ?_) (fun c_17 => ?_)
      · rw [if_pos c_17] at hf
        refine lv_lload_n hx hb dX0_weightBelow_46 rfl (lv_at hl 2 rfl) ?_
        rw [← hQQ]
        exact rf_l hx hb hr hlocks hf dX0_weightBelow_47
      rw [if_neg c_17] at hf
      refine lv_iload hx hb dX0_weightBelow_20 (lv_at hl 3 rfl) ?_
      refine lv_aload_n hx hb dX0_weightBelow_22 rfl (lv_at hl 0 rfl) ?_
      refine va_get (D := D) (ci := 0) (v := .ref (a 1)) (C := RX0) (T := TX0) (N := 4) hx hb htl inlX0 hown hK hP 0 rfl rfl 0 (by decide) (htl _ wq_6_9) (fun _ h9 => h9) rfl dX0_weightBelow_23 ?_
      refine va_alen (D := D) (tys := tyl ct) (v := 1240) hx hb hK hP 1 1 rfl rfl rfl dX0_weightBelow_26 ?_
      refine lv_icmp_ge (tgt := 46) hx hb dX0_weightBelow_27 (by decide) (fun c_27 => ?_) (fun c_27 => ?_)
      · rw [if_pos c_27] at hf
        refine lv_lload_n hx hb dX0_weightBelow_46 rfl (lv_at hl 2 rfl) ?_
        rw [← hQQ]
        exact rf_l hx hb hr hlocks hf dX0_weightBelow_47
      rw [if_neg c_27] at hf
      refine lv_lload_n hx hb dX0_weightBelow_30 rfl (lv_at hl 2 rfl) ?_
      refine lv_aload_n hx hb dX0_weightBelow_31 rfl (lv_at hl 0 rfl) ?_
      refine va_get (D := D) (ci := 0) (v := .ref (a 1)) (C := RX0) (T := TX0) (N := 4) hx hb htl inlX0 hown hK hP 0 rfl rfl 0 (by decide) (htl _ wq_6_9) (fun _ h9 => h9) rfl dX0_weightBelow_32 ?_
      refine lv_iload hx hb dX0_weightBelow_35 (lv_at hl 3 rfl) ?_
      obtain ⟨hi_37, hf⟩ := ob_in hf
      refine va_lald (D := D) (tys := tyl ct) hx hb hK hP 1 1 rfl rfl hi_37 dX0_weightBelow_37 ?_
      refine lv_ladd hx hb dX0_weightBelow_38 ?_
      refine lv_lstore_n (lv' := [(2, .long (v2 + ((o.2 0) v4.toNatClampNeg))), (0, .ref (a 0)), (1, .int v1), (4, .int v4)]) hx hb dX0_weightBelow_39 rfl hl (by decide) rfl (fun ls hl => ?_)
      refine lv_iinc (v := (v4 + 1)) (lv' := [(4, .int (v4 + 1)), (2, .long (v2 + ((o.2 0) v4.toNatClampNeg))), (0, .ref (a 0)), (1, .int v1)]) hx hb dX0_weightBelow_40 hl (k := 3) rfl rfl (by decide) rfl (fun ls hl => ?_)
      refine lv_goto (tgt := 5) hx hb dX0_weightBelow_43 (by decide) ?_
      exact ih v1 (v2 + ((o.2 0) v4.toNatClampNeg)) (v4 + 1) _ (lv_sub hl [2, 3, 1, 0] rfl) hf 
  rw [p_X0_weightBelow] at hf
  refine lv_lconst (v := 0) hx hb dX0_weightBelow_0 (by decide) ?_
  refine lv_lstore_n (lv' := [(2, .long 0), (0, .ref (a 0)), (1, .int v1)]) hx hb dX0_weightBelow_1 rfl hl (by decide) rfl (fun ls hl => ?_)
  refine lv_iconst (v := 0) hx hb dX0_weightBelow_2 (by decide) ?_
  refine lv_istore (lv' := [(4, .int 0), (2, .long 0), (0, .ref (a 0)), (1, .int v1)]) hx hb dX0_weightBelow_3 hl (by decide) rfl (fun ls hl => ?_)
  exact hL5 fu v1 0 0 _ (lv_sub hl [2, 3, 1, 0] rfl) hf 
theorem c_X0_weightBelow (l : Launch) (D : va_G) (ct : Nat → ClassId) (G : GT) (a : Nat → Nat) (fu : Nat) (o : Ob) (v1 : Int32) {r : Int64} (hf : p_X0_weightBelow fu o v1 = some r)  : Met l yX0_weightBelow (.code yX0_weightBelow cX0_weightBelow 5 (some .long) :: wsL_law) rm_X0_weightBelow (va_Pc [.ref (a 0), .int v1] (Bx D ct G (cs0 ct a o))) (Qro (some (.long r))) 0 0 (fun _ => False) := by
  refine Met.ofW (cc := cX0_weightBelow) (maxL := 5) (ret := (some .long)) (by decide) rfl ?_
  intro p e s m args below meth c s₁ B hml hv
  obtain ⟨rfl, hP, hK, hN, hX⟩ := hv
  have hts := atoms_spec (ws := .code yX0_weightBelow cX0_weightBelow 5 (some .long) :: wsL_law) B.pre
  rw [lg_entry_eq]
  exact b_X0_weightBelow a fu o v1 B.exec B.bytes B.returns hml (findClass_of_methodNamed B.named) (fun w h => hts w (List.mem_cons_of_mem _ h)) B.notSynchronized hK hN hX hP hf   (lv_entry [.ref (a 0), .int v1] (n := 5) (Nat.le_of_ble_eq_true rfl))
def p_X0_weightedSum_L4 (fu : Nat) (o : Ob)  : Nat → Int64 → Int32 → Option (Int64)
  | 0, _, _ => none
  | n + 1, v1, v3 =>
    if (o.1 2 0) < v3 then some v1 else if (1240 : Int32) ≤ v3 then some v1 else if inb v3 1240 = true then p_X0_weightedSum_L4 fu o  n (v1 + (v3.toInt64 * ((o.2 0) v3.toNatClampNeg))) (v3 + 1) else none
def p_X0_weightedSum (fu : Nat) (o : Ob) : Option (Int64) :=
  p_X0_weightedSum_L4 fu o fu 0 0
abbrev rm_X0_weightedSum : Room := { frames := 0, cells := 0, slots := 0, locals := 0 }
set_option maxHeartbeats 4000000 in
set_option maxRecDepth 100000 in
theorem b_X0_weightedSum {p : Program} {l : Launch} {e : Env} {s : State} {m : MethodId} {args : Array Value} {below : List Frame} {meth : Method} {c : Code} {ls : Array Slot} {D : va_G} {ct : Nat → ClassId} {G : GT} (a : Nat → Nat) (fu : Nat) (o : Ob) {r : Int64} (hx : p.tables.exec = Jvm.exec) (hb : c.code = cX0_weightedSum) (hr : meth.sig.returnType = (some .long)) (hml : c.maxLocals = 4) (hown : s.vm.findClass RX0 = some m.cls) (htl : ∀ w ∈ wsL_law, w.before args s = true) (hlocks : meth.locks = false) (hK : va_K D vwCl (tyl ct) s) (hN : ∀ w ∈ NW, va_Nw w s) (hX : SX G s s.heap) (hP0 : va_P D vwCl (cs0 ct a o) s.heap) (hf : p_X0_weightedSum fu o = some r)  (hl : lv_has ls 4 [(0, .ref (a 0))]) : W p l e rm_X0_weightedSum s m args below meth c s.heap [] 0 0 (MQ below (Qro (some (.long r))) args s 0 0 (fun _ => False)) (F0 m 0 ls []) := by
  generalize hQQ : MQ below (Qro (some (.long r))) args s 0 0 (fun _ => False) = QQ
  have hP := hP0
  have hL4 : ∀ (n : Nat) (v1 : Int64) (v3 : Int32), ∀ (ls : Array Slot), lv_has ls 4 [(0, .ref (a 0)), (1, .long v1), (3, .int v3)] → p_X0_weightedSum_L4 fu o  n v1 v3 = some r → W p l e rm_X0_weightedSum s m args below meth c s.heap [] 0 0 QQ (F0 m 4 ls []) := by
    intro  n
    induction n with
    | zero =>
      intro v1 v3 ls hl hf 
      rw [p_X0_weightedSum_L4] at hf
      cases hf
    | succ n ih =>
      intro v1 v3 ls hl hf 
      rw [p_X0_weightedSum_L4] at hf
      refine lv_iload_n hx hb dX0_weightedSum_4 rfl (lv_at hl 2 rfl) ?_
      refine lv_aload_n hx hb dX0_weightedSum_5 rfl (lv_at hl 0 rfl) ?_
      refine va_get (D := D) (ci := 0) (v := .int (o.1 2 0)) (C := RX0) (T := TX0) (N := 4) hx hb htl inlX0 hown hK hP 0 rfl rfl 2 (by decide) (htl _ wq_6_11) (fun _ h9 => h9) rfl dX0_weightedSum_6 ?_
      refine lv_icmp_gt (tgt := 39) hx hb dX0_weightedSum_9 (by decide) (fun c_9 => ?_) (fun c_9 => ?_)
      · rw [if_pos c_9] at hf
        refine lv_lload_n hx hb dX0_weightedSum_39 rfl (lv_at hl 1 rfl) ?_
        rw [← hQQ]
        exact rf_l hx hb hr hlocks hf dX0_weightedSum_40
      rw [if_neg c_9] at hf
      refine lv_iload_n hx hb dX0_weightedSum_12 rfl (lv_at hl 2 rfl) ?_
      refine lv_aload_n hx hb dX0_weightedSum_13 rfl (lv_at hl 0 rfl) ?_
      refine va_get (D := D) (ci := 0) (v := .ref (a 1)) (C := RX0) (T := TX0) (N := 4) hx hb htl inlX0 hown hK hP 0 rfl rfl 0 (by decide) (htl _ wq_6_9) (fun _ h9 => h9) rfl dX0_weightedSum_14 ?_
      refine va_alen (D := D) (tys := tyl ct) (v := 1240) hx hb hK hP 1 1 rfl rfl rfl dX0_weightedSum_17 ?_
      refine lv_icmp_ge (tgt := 39) hx hb dX0_weightedSum_18 (by decide) (fun c_18 => ?_) (fun c_18 => ?_)
      · rw [if_pos c_18] at hf
        refine lv_lload_n hx hb dX0_weightedSum_39 rfl (lv_at hl 1 rfl) ?_
        rw [← hQQ]
        exact rf_l hx hb hr hlocks hf dX0_weightedSum_40
      rw [if_neg c_18] at hf
      refine lv_lload_n hx hb dX0_weightedSum_21 rfl (lv_at hl 1 rfl) ?_
      refine lv_iload_n hx hb dX0_weightedSum_22 rfl (lv_at hl 2 rfl) ?_
      refine lv_i2l hx hb dX0_weightedSum_23 rfl ?_
      refine lv_aload_n hx hb dX0_weightedSum_24 rfl (lv_at hl 0 rfl) ?_
      refine va_get (D := D) (ci := 0) (v := .ref (a 1)) (C := RX0) (T := TX0) (N := 4) hx hb htl inlX0 hown hK hP 0 rfl rfl 0 (by decide) (htl _ wq_6_9) (fun _ h9 => h9) rfl dX0_weightedSum_25 ?_
      refine lv_iload_n hx hb dX0_weightedSum_28 rfl (lv_at hl 2 rfl) ?_
      obtain ⟨hi_29, hf⟩ := ob_in hf
      refine va_lald (D := D) (tys := tyl ct) hx hb hK hP 1 1 rfl rfl hi_29 dX0_weightedSum_29 ?_
      refine lv_lmul hx hb dX0_weightedSum_30 ?_
      refine lv_ladd hx hb dX0_weightedSum_31 ?_
      refine lv_lstore_n (lv' := [(1, .long (v1 + (v3.toInt64 * ((o.2 0) v3.toNatClampNeg)))), (0, .ref (a 0)), (3, .int v3)]) hx hb dX0_weightedSum_32 rfl hl (by decide) rfl (fun ls hl => ?_)
      refine lv_iinc (v := (v3 + 1)) (lv' := [(3, .int (v3 + 1)), (1, .long (v1 + (v3.toInt64 * ((o.2 0) v3.toNatClampNeg)))), (0, .ref (a 0))]) hx hb dX0_weightedSum_33 hl (k := 2) rfl rfl (by decide) rfl (fun ls hl => ?_)
      refine lv_goto (tgt := 4) hx hb dX0_weightedSum_36 (by decide) ?_
      exact ih (v1 + (v3.toInt64 * ((o.2 0) v3.toNatClampNeg))) (v3 + 1) _ (lv_sub hl [2, 1, 0] rfl) hf 
  rw [p_X0_weightedSum] at hf
  refine lv_lconst (v := 0) hx hb dX0_weightedSum_0 (by decide) ?_
  refine lv_lstore_n (lv' := [(1, .long 0), (0, .ref (a 0))]) hx hb dX0_weightedSum_1 rfl hl (by decide) rfl (fun ls hl => ?_)
  refine lv_iconst (v := 0) hx hb dX0_weightedSum_2 (by decide) ?_
  refine lv_istore_n (lv' := [(3, .int 0), (1, .long 0), (0, .ref (a 0))]) hx hb dX0_weightedSum_3 rfl hl (by decide) rfl (fun ls hl => ?_)
  exact hL4 fu 0 0 _ (lv_sub hl [2, 1, 0] rfl) hf 
theorem c_X0_weightedSum (l : Launch) (D : va_G) (ct : Nat → ClassId) (G : GT) (a : Nat → Nat) (fu : Nat) (o : Ob) {r : Int64} (hf : p_X0_weightedSum fu o = some r)  : Met l yX0_weightedSum (.code yX0_weightedSum cX0_weightedSum 4 (some .long) :: wsL_law) rm_X0_weightedSum (va_Pc [.ref (a 0)] (Bx D ct G (cs0 ct a o))) (Qro (some (.long r))) 0 0 (fun _ => False) := by
  refine Met.ofW (cc := cX0_weightedSum) (maxL := 4) (ret := (some .long)) (by decide) rfl ?_
  intro p e s m args below meth c s₁ B hml hv
  obtain ⟨rfl, hP, hK, hN, hX⟩ := hv
  have hts := atoms_spec (ws := .code yX0_weightedSum cX0_weightedSum 4 (some .long) :: wsL_law) B.pre
  rw [lg_entry_eq]
  exact b_X0_weightedSum a fu o B.exec B.bytes B.returns hml (findClass_of_methodNamed B.named) (fun w h => hts w (List.mem_cons_of_mem _ h)) B.notSynchronized hK hN hX hP hf   (lv_entry [.ref (a 0)] (n := 4) (Nat.le_of_ble_eq_true rfl))
def p_X9_pick (fu : Nat) (n0 : Nat) (f0 : Nat → Int32) (v1 : Int32) : Option (Int32) :=
  if v1 < 0 then some (0 : Int32) else if (nI n0) ≤ v1 then some (0 : Int32) else if inb v1 n0 = true then some (f0 v1.toNatClampNeg) else none
abbrev rm_X9_pick : Room := { frames := 0, cells := 0, slots := 0, locals := 0 }
set_option maxHeartbeats 4000000 in
set_option maxRecDepth 100000 in
theorem b_X9_pick {p : Program} {l : Launch} {e : Env} {s : State} {m : MethodId} {args : Array Value} {below : List Frame} {meth : Method} {c : Code} {ls : Array Slot} {D : va_G} {ct : Nat → ClassId} {G : GT} (h0 : Nat) (fu : Nat) (n0 : Nat) (f0 : Nat → Int32) (v1 : Int32) {r : Int32} (hx : p.tables.exec = Jvm.exec) (hb : c.code = cX9_pick) (hr : meth.sig.returnType = (some .int)) (hml : c.maxLocals = 2) (hown : s.vm.findClass RX9 = some m.cls) (htl : ∀ w ∈ wsL_law, w.before args s = true) (hlocks : meth.locks = false) (hK : va_K D vwCl (tyl ct) s) (hN : ∀ w ∈ NW, va_Nw w s) (hX : SX G s s.heap) (hP0 : va_P D vwCl ([(h0, .inl (ct 0, n0, .inl f0))]) s.heap) (hf : p_X9_pick fu n0 f0 v1 = some r)  (hl : lv_has ls 2 [(0, .ref h0), (1, .int v1)]) : W p l e rm_X9_pick s m args below meth c s.heap [] 0 0 (MQ below (Qro (some (.int r))) args s 0 0 (fun _ => False)) (F0 m 0 ls []) := by
  generalize hQQ : MQ below (Qro (some (.int r))) args s 0 0 (fun _ => False) = QQ
  have hP := hP0
  rw [p_X9_pick] at hf
  refine lv_iload_n hx hb dX9_pick_0 rfl (lv_at hl 1 rfl) ?_
  refine lv_if_lt (tgt := 16) hx hb dX9_pick_1 (by decide) (fun c_1 => ?_) (fun c_1 => ?_)
  · rw [if_pos c_1] at hf
    refine lv_iconst (v := 0) hx hb dX9_pick_16 (by decide) ?_
    rw [← hQQ]
    exact rf_i hx hb hr hlocks hf dX9_pick_17
  rw [if_neg c_1] at hf
  refine lv_iload_n hx hb dX9_pick_4 rfl (lv_at hl 1 rfl) ?_
  refine lv_aload_n hx hb dX9_pick_5 rfl (lv_at hl 0 rfl) ?_
  refine va_alen (D := D) (tys := tyl ct) (v := (nI n0)) hx hb hK hP 0 0 rfl rfl rfl dX9_pick_6 ?_
  refine lv_icmp_ge (tgt := 16) hx hb dX9_pick_7 (by decide) (fun c_7 => ?_) (fun c_7 => ?_)
  · rw [if_pos c_7] at hf
    refine lv_iconst (v := 0) hx hb dX9_pick_16 (by decide) ?_
    rw [← hQQ]
    exact rf_i hx hb hr hlocks hf dX9_pick_17
  rw [if_neg c_7] at hf
  refine lv_aload_n hx hb dX9_pick_10 rfl (lv_at hl 0 rfl) ?_
  refine lv_iload_n hx hb dX9_pick_11 rfl (lv_at hl 1 rfl) ?_
  obtain ⟨hi_12, hf⟩ := ob_in hf
  refine va_iald (D := D) (tys := tyl ct) hx hb hK hP 0 0 rfl rfl hi_12 dX9_pick_12 ?_
  refine lv_goto (tgt := 17) hx hb dX9_pick_13 (by decide) ?_
  rw [← hQQ]
  exact rf_i hx hb hr hlocks hf dX9_pick_17
theorem c_X9_pick (l : Launch) (D : va_G) (ct : Nat → ClassId) (G : GT) (h0 : Nat) (fu : Nat) (n0 : Nat) (f0 : Nat → Int32) (v1 : Int32) {r : Int32} (hf : p_X9_pick fu n0 f0 v1 = some r)  : Met l yX9_pick (.code yX9_pick cX9_pick 2 (some .int) :: wsL_law) rm_X9_pick (va_Pc [.ref h0, .int v1] (Bx D ct G ([(h0, .inl (ct 0, n0, .inl f0))]))) (Qro (some (.int r))) 0 0 (fun _ => False) := by
  refine Met.ofW (cc := cX9_pick) (maxL := 2) (ret := (some .int)) (by decide) rfl ?_
  intro p e s m args below meth c s₁ B hml hv
  obtain ⟨rfl, hP, hK, hN, hX⟩ := hv
  have hts := atoms_spec (ws := .code yX9_pick cX9_pick 2 (some .int) :: wsL_law) B.pre
  rw [lg_entry_eq]
  exact b_X9_pick h0 fu n0 f0 v1 B.exec B.bytes B.returns hml (findClass_of_methodNamed B.named) (fun w h => hts w (List.mem_cons_of_mem _ h)) B.notSynchronized hK hN hX hP hf   (lv_entry [.ref h0, .int v1] (n := 2) (Nat.le_of_ble_eq_true rfl))
def p_X9_put (fu : Nat) (n0 : Nat) (f0 : Nat → Int32) (v1 : Int32) (v2 : Int32) : Option ((Nat → Int32)) :=
  if v1 < 0 then some f0 else if (nI n0) ≤ v1 then some f0 else if inb v1 n0 = true then some (upd f0 v1.toNatClampNeg v2) else none
abbrev rm_X9_put : Room := { frames := 0, cells := 0, slots := 0, locals := 0 }
set_option maxHeartbeats 4000000 in
set_option maxRecDepth 100000 in
theorem b_X9_put {p : Program} {l : Launch} {e : Env} {s : State} {m : MethodId} {args : Array Value} {below : List Frame} {meth : Method} {c : Code} {ls : Array Slot} {D : va_G} {ct : Nat → ClassId} {G : GT} (h0 : Nat) (fu : Nat) (n0 : Nat) (f0 : Nat → Int32) (v1 : Int32) (v2 : Int32) {r : (Nat → Int32)} (hx : p.tables.exec = Jvm.exec) (hb : c.code = cX9_put) (hr : meth.sig.returnType = none) (hml : c.maxLocals = 3) (hown : s.vm.findClass RX9 = some m.cls) (htl : ∀ w ∈ wsL_law, w.before args s = true) (hlocks : meth.locks = false) (hK : va_K D vwCl (tyl ct) s) (hN : ∀ w ∈ NW, va_Nw w s) (hX : SX G s s.heap) (hP0 : va_P D vwCl ([(h0, .inl (ct 0, n0, .inl f0))]) s.heap) (hf : p_X9_put fu n0 f0 v1 v2 = some r) (hD0 : va_D (GE G) ([(h0, .inl (ct 0, n0, .inl f0))]))  (hl : lv_has ls 3 [(0, .ref h0), (1, .int v1), (2, .int v2)]) : W p l e rm_X9_put s m args below meth c s.heap [] 0 0 (MQ below (Qwr none (fun H => va_P D vwCl ([(h0, .inl (ct 0, n0, .inl r))]) H) (wA ([(h0, .inl (ct 0, n0, .inl f0))]))) args s 0 0 (wA ([(h0, .inl (ct 0, n0, .inl f0))]))) (F0 m 0 ls []) := by
  generalize hQQ : MQ below (Qwr none (fun H => va_P D vwCl ([(h0, .inl (ct 0, n0, .inl r))]) H) (wA ([(h0, .inl (ct 0, n0, .inl f0))]))) args s 0 0 (wA ([(h0, .inl (ct 0, n0, .inl f0))])) = QQ
  have hDx : ∀ (f0y : Nat → Int32), va_D (GE G) ([(h0, .inl (ct 0, n0, .inl f0y))]) := fun f0y => D_cr hD0 rfl
  have hDW : ∀ (f0y : Nat → Int32), va_D (wA ([(h0, .inl (ct 0, n0, .inl f0))])) ([(h0, .inl (ct 0, n0, .inl f0y))]) := fun f0y => D_cr (D_self hD0) rfl
  have hGE : ∀ q, wA ([(h0, .inl (ct 0, n0, .inl f0))]) q → GE G q := wA_GE hD0
  have hP := hP0
  have hS : va_S (wA ([(h0, .inl (ct 0, n0, .inl f0))])) s.heap s.heap [] := va_S.rf
  rw [p_X9_put] at hf
  refine lv_iload_n hx hb dX9_put_0 rfl (lv_at hl 1 rfl) ?_
  refine lv_if_lt (tgt := 14) hx hb dX9_put_1 (by decide) (fun c_1 => ?_) (fun c_1 => ?_)
  · rw [if_pos c_1] at hf
    rw [← hQQ]
    cases hf
    exact rw_v hx hb hr hlocks hP hS dX9_put_14
  rw [if_neg c_1] at hf
  refine lv_iload_n hx hb dX9_put_4 rfl (lv_at hl 1 rfl) ?_
  refine lv_aload_n hx hb dX9_put_5 rfl (lv_at hl 0 rfl) ?_
  refine va_alen (D := D) (tys := tyl ct) (v := (nI n0)) hx hb hK hP 0 0 rfl rfl rfl dX9_put_6 ?_
  refine lv_icmp_ge (tgt := 14) hx hb dX9_put_7 (by decide) (fun c_7 => ?_) (fun c_7 => ?_)
  · rw [if_pos c_7] at hf
    rw [← hQQ]
    cases hf
    exact rw_v hx hb hr hlocks hP hS dX9_put_14
  rw [if_neg c_7] at hf
  refine lv_aload_n hx hb dX9_put_10 rfl (lv_at hl 0 rfl) ?_
  refine lv_iload_n hx hb dX9_put_11 rfl (lv_at hl 1 rfl) ?_
  refine lv_iload_n hx hb dX9_put_12 rfl (lv_at hl 2 rfl) ?_
  obtain ⟨hi_13, hf⟩ := ob_in hf
  refine va_iast (D := D) (tys := tyl ct) hx hb hK hP (hDW f0) hS 0 0 rfl rfl hi_13 dX9_put_13 (fun H_13 locs_13 hP _ hS => ?_)
  have hP : va_P D vwCl ([(h0, .inl (ct 0, n0, .inl (upd f0 v1.toNatClampNeg v2)))]) H_13 := hP
  rw [← hQQ]
  cases hf
  exact rw_v hx hb hr hlocks hP hS dX9_put_14
theorem c_X9_put (l : Launch) (D : va_G) (ct : Nat → ClassId) (G : GT) (h0 : Nat) (fu : Nat) (n0 : Nat) (f0 : Nat → Int32) (v1 : Int32) (v2 : Int32) {r : (Nat → Int32)} (hf : p_X9_put fu n0 f0 v1 v2 = some r)  (hD0 : va_D (GE G) ([(h0, .inl (ct 0, n0, .inl f0))])) : Met l yX9_put (.code yX9_put cX9_put 3 none :: wsL_law) rm_X9_put (va_Pc [.ref h0, .int v1, .int v2] (Bx D ct G ([(h0, .inl (ct 0, n0, .inl f0))]))) (Qwr none (fun H => va_P D vwCl ([(h0, .inl (ct 0, n0, .inl r))]) H) (wA ([(h0, .inl (ct 0, n0, .inl f0))]))) 0 0 (wA ([(h0, .inl (ct 0, n0, .inl f0))])) := by
  refine Met.ofW (cc := cX9_put) (maxL := 3) (ret := none) (by decide) rfl ?_
  intro p e s m args below meth c s₁ B hml hv
  obtain ⟨rfl, hP, hK, hN, hX⟩ := hv
  have hts := atoms_spec (ws := .code yX9_put cX9_put 3 none :: wsL_law) B.pre
  rw [lg_entry_eq]
  exact b_X9_put h0 fu n0 f0 v1 v2 B.exec B.bytes B.returns hml (findClass_of_methodNamed B.named) (fun w h => hts w (List.mem_cons_of_mem _ h)) B.notSynchronized hK hN hX hP hf hD0  (lv_entry [.ref h0, .int v1, .int v2] (n := 3) (Nat.le_of_ble_eq_true rfl))
def p_X2_clear (fu : Nat) (o : Ob) : Option (Ob) :=
  some (oI (oI (oI (oI (oI (oI (oI (oI o 0 (0 : Int32)) 1 (0 : Int32)) 2 (0 : Int32)) 3 (0 : Int32)) 4 (0 : Int32)) 8 (0 : Int32)) 13 (0 : Int32)) 16 (0 : Int32))
abbrev rm_X2_clear : Room := { frames := 0, cells := 0, slots := 0, locals := 0 }
set_option maxHeartbeats 4000000 in
set_option maxRecDepth 100000 in
theorem b_X2_clear {p : Program} {l : Launch} {e : Env} {s : State} {m : MethodId} {args : Array Value} {below : List Frame} {meth : Method} {c : Code} {ls : Array Slot} {D : va_G} {ct : Nat → ClassId} {G : GT} (a : Nat → Nat) (fu : Nat) (o : Ob) {r : Ob} (hx : p.tables.exec = Jvm.exec) (hb : c.code = cX2_clear) (hr : meth.sig.returnType = none) (hml : c.maxLocals = 1) (hown : s.vm.findClass RX2 = some m.cls) (htl : ∀ w ∈ wsL_law, w.before args s = true) (hlocks : meth.locks = false) (hK : va_K D vwCl (tyl ct) s) (hN : ∀ w ∈ NW, va_Nw w s) (hX : SX G s s.heap) (hP0 : va_P D vwCl (cs2 ct a o) s.heap) (hf : p_X2_clear fu o = some r) (hD0 : va_D (GE G) (cs2 ct a o))  (hl : lv_has ls 1 [(0, .ref (a 0))]) : W p l e rm_X2_clear s m args below meth c s.heap [] 0 0 (MQ below (Qwr none (fun H => va_P D vwCl (cs2 ct a r) H) (wA (cs2 ct a o))) args s 0 0 (wA (cs2 ct a o))) (F0 m 0 ls []) := by
  generalize hQQ : MQ below (Qwr none (fun H => va_P D vwCl (cs2 ct a r) H) (wA (cs2 ct a o))) args s 0 0 (wA (cs2 ct a o)) = QQ
  have hDx : ∀ (oy : Ob), va_D (GE G) (cs2 ct a oy) := fun oy => D_cr hD0 rfl
  have hDW : ∀ (oy : Ob), va_D (wA (cs2 ct a o)) (cs2 ct a oy) := fun oy => D_cr (D_self hD0) rfl
  have hGE : ∀ q, wA (cs2 ct a o) q → GE G q := wA_GE hD0
  have hP := hP0
  have hS : va_S (wA (cs2 ct a o)) s.heap s.heap [] := va_S.rf
  rw [p_X2_clear] at hf
  refine lv_aload_n hx hb dX2_clear_0 rfl (lv_at hl 0 rfl) ?_
  refine lv_iconst (v := 0) hx hb dX2_clear_1 (by decide) ?_
  refine va_put (D := D) (ci := 2) (v := .int 0) (ty := .boolean) (C := RX2) (T := TX2) (N := 20) hx hb htl inlX2 tyX2 tyX2_ok nmX2 hown hK hP (hDW o) hS 0 rfl rfl 0 (by decide) (htl _ wq_4_8) (fun _ h9 => h9) rfl (tyX2_ok 0 (by decide)) rfl rfl (Nat.le_of_ble_eq_true rfl) dX2_clear_2 (fun H_2 locs_2 hP _ hS => ?_)
  have hP : va_P D vwCl (cs2 ct a (oI o 0 (0 : Int32))) H_2 := st2_0 hP
  refine lv_aload_n hx hb dX2_clear_5 rfl (lv_at hl 0 rfl) ?_
  refine lv_iconst (v := 0) hx hb dX2_clear_6 (by decide) ?_
  refine va_put (D := D) (ci := 2) (v := .int 0) (ty := .int) (C := RX2) (T := TX2) (N := 20) hx hb htl inlX2 tyX2 tyX2_ok nmX2 hown hK hP (hDW (oI o 0 (0 : Int32))) hS 0 rfl rfl 1 (by decide) (htl _ wq_4_9) (fun _ h9 => h9) rfl (tyX2_ok 1 (by decide)) rfl rfl (Nat.le_of_ble_eq_true rfl) dX2_clear_7 (fun H_7 locs_7 hP _ hS => ?_)
  have hP : va_P D vwCl (cs2 ct a (oI (oI o 0 (0 : Int32)) 1 (0 : Int32))) H_7 := st2_1 hP
  refine lv_aload_n hx hb dX2_clear_10 rfl (lv_at hl 0 rfl) ?_
  refine lv_iconst (v := 0) hx hb dX2_clear_11 (by decide) ?_
  refine va_put (D := D) (ci := 2) (v := .int 0) (ty := .int) (C := RX2) (T := TX2) (N := 20) hx hb htl inlX2 tyX2 tyX2_ok nmX2 hown hK hP (hDW (oI (oI o 0 (0 : Int32)) 1 (0 : Int32))) hS 0 rfl rfl 2 (by decide) (htl _ wq_4_10) (fun _ h9 => h9) rfl (tyX2_ok 2 (by decide)) rfl rfl (Nat.le_of_ble_eq_true rfl) dX2_clear_12 (fun H_12 locs_12 hP _ hS => ?_)
  have hP : va_P D vwCl (cs2 ct a (oI (oI (oI o 0 (0 : Int32)) 1 (0 : Int32)) 2 (0 : Int32))) H_12 := st2_2 hP
  refine lv_aload_n hx hb dX2_clear_15 rfl (lv_at hl 0 rfl) ?_
  refine lv_iconst (v := 0) hx hb dX2_clear_16 (by decide) ?_
  refine va_put (D := D) (ci := 2) (v := .int 0) (ty := .int) (C := RX2) (T := TX2) (N := 20) hx hb htl inlX2 tyX2 tyX2_ok nmX2 hown hK hP (hDW (oI (oI (oI o 0 (0 : Int32)) 1 (0 : Int32)) 2 (0 : Int32))) hS 0 rfl rfl 3 (by decide) (htl _ wq_4_11) (fun _ h9 => h9) rfl (tyX2_ok 3 (by decide)) rfl rfl (Nat.le_of_ble_eq_true rfl) dX2_clear_17 (fun H_17 locs_17 hP _ hS => ?_)
  have hP : va_P D vwCl (cs2 ct a (oI (oI (oI (oI o 0 (0 : Int32)) 1 (0 : Int32)) 2 (0 : Int32)) 3 (0 : Int32))) H_17 := st2_3 hP
  refine lv_aload_n hx hb dX2_clear_20 rfl (lv_at hl 0 rfl) ?_
  refine lv_iconst (v := 0) hx hb dX2_clear_21 (by decide) ?_
  refine va_put (D := D) (ci := 2) (v := .int 0) (ty := .int) (C := RX2) (T := TX2) (N := 20) hx hb htl inlX2 tyX2 tyX2_ok nmX2 hown hK hP (hDW (oI (oI (oI (oI o 0 (0 : Int32)) 1 (0 : Int32)) 2 (0 : Int32)) 3 (0 : Int32))) hS 0 rfl rfl 4 (by decide) (htl _ wq_4_12) (fun _ h9 => h9) rfl (tyX2_ok 4 (by decide)) rfl rfl (Nat.le_of_ble_eq_true rfl) dX2_clear_22 (fun H_22 locs_22 hP _ hS => ?_)
  have hP : va_P D vwCl (cs2 ct a (oI (oI (oI (oI (oI o 0 (0 : Int32)) 1 (0 : Int32)) 2 (0 : Int32)) 3 (0 : Int32)) 4 (0 : Int32))) H_22 := st2_4 hP
  refine lv_aload_n hx hb dX2_clear_25 rfl (lv_at hl 0 rfl) ?_
  refine lv_iconst (v := 0) hx hb dX2_clear_26 (by decide) ?_
  refine va_put (D := D) (ci := 2) (v := .int 0) (ty := .int) (C := RX2) (T := TX2) (N := 20) hx hb htl inlX2 tyX2 tyX2_ok nmX2 hown hK hP (hDW (oI (oI (oI (oI (oI o 0 (0 : Int32)) 1 (0 : Int32)) 2 (0 : Int32)) 3 (0 : Int32)) 4 (0 : Int32))) hS 0 rfl rfl 8 (by decide) (htl _ wq_4_16) (fun _ h9 => h9) rfl (tyX2_ok 8 (by decide)) rfl rfl (Nat.le_of_ble_eq_true rfl) dX2_clear_27 (fun H_27 locs_27 hP _ hS => ?_)
  have hP : va_P D vwCl (cs2 ct a (oI (oI (oI (oI (oI (oI o 0 (0 : Int32)) 1 (0 : Int32)) 2 (0 : Int32)) 3 (0 : Int32)) 4 (0 : Int32)) 8 (0 : Int32))) H_27 := st2_8 hP
  refine lv_aload_n hx hb dX2_clear_30 rfl (lv_at hl 0 rfl) ?_
  refine lv_iconst (v := 0) hx hb dX2_clear_31 (by decide) ?_
  refine va_put (D := D) (ci := 2) (v := .int 0) (ty := .int) (C := RX2) (T := TX2) (N := 20) hx hb htl inlX2 tyX2 tyX2_ok nmX2 hown hK hP (hDW (oI (oI (oI (oI (oI (oI o 0 (0 : Int32)) 1 (0 : Int32)) 2 (0 : Int32)) 3 (0 : Int32)) 4 (0 : Int32)) 8 (0 : Int32))) hS 0 rfl rfl 13 (by decide) (htl _ wq_4_21) (fun _ h9 => h9) rfl (tyX2_ok 13 (by decide)) rfl rfl (Nat.le_of_ble_eq_true rfl) dX2_clear_32 (fun H_32 locs_32 hP _ hS => ?_)
  have hP : va_P D vwCl (cs2 ct a (oI (oI (oI (oI (oI (oI (oI o 0 (0 : Int32)) 1 (0 : Int32)) 2 (0 : Int32)) 3 (0 : Int32)) 4 (0 : Int32)) 8 (0 : Int32)) 13 (0 : Int32))) H_32 := st2_13 hP
  refine lv_aload_n hx hb dX2_clear_35 rfl (lv_at hl 0 rfl) ?_
  refine lv_iconst (v := 0) hx hb dX2_clear_36 (by decide) ?_
  refine va_put (D := D) (ci := 2) (v := .int 0) (ty := .int) (C := RX2) (T := TX2) (N := 20) hx hb htl inlX2 tyX2 tyX2_ok nmX2 hown hK hP (hDW (oI (oI (oI (oI (oI (oI (oI o 0 (0 : Int32)) 1 (0 : Int32)) 2 (0 : Int32)) 3 (0 : Int32)) 4 (0 : Int32)) 8 (0 : Int32)) 13 (0 : Int32))) hS 0 rfl rfl 16 (by decide) (htl _ wq_5_0) (fun _ h9 => h9) rfl (tyX2_ok 16 (by decide)) rfl rfl (Nat.le_of_ble_eq_true rfl) dX2_clear_37 (fun H_37 locs_37 hP _ hS => ?_)
  have hP : va_P D vwCl (cs2 ct a (oI (oI (oI (oI (oI (oI (oI (oI o 0 (0 : Int32)) 1 (0 : Int32)) 2 (0 : Int32)) 3 (0 : Int32)) 4 (0 : Int32)) 8 (0 : Int32)) 13 (0 : Int32)) 16 (0 : Int32))) H_37 := st2_16 hP
  rw [← hQQ]
  cases hf
  exact rw_v hx hb hr hlocks hP hS dX2_clear_40
theorem c_X2_clear (l : Launch) (D : va_G) (ct : Nat → ClassId) (G : GT) (a : Nat → Nat) (fu : Nat) (o : Ob) {r : Ob} (hf : p_X2_clear fu o = some r)  (hD0 : va_D (GE G) (cs2 ct a o)) : Met l yX2_clear (.code yX2_clear cX2_clear 1 none :: wsL_law) rm_X2_clear (va_Pc [.ref (a 0)] (Bx D ct G (cs2 ct a o))) (Qwr none (fun H => va_P D vwCl (cs2 ct a r) H) (wA (cs2 ct a o))) 0 0 (wA (cs2 ct a o)) := by
  refine Met.ofW (cc := cX2_clear) (maxL := 1) (ret := none) (by decide) rfl ?_
  intro p e s m args below meth c s₁ B hml hv
  obtain ⟨rfl, hP, hK, hN, hX⟩ := hv
  have hts := atoms_spec (ws := .code yX2_clear cX2_clear 1 none :: wsL_law) B.pre
  rw [lg_entry_eq]
  exact b_X2_clear a fu o B.exec B.bytes B.returns hml (findClass_of_methodNamed B.named) (fun w h => hts w (List.mem_cons_of_mem _ h)) B.notSynchronized hK hN hX hP hf hD0  (lv_entry [.ref (a 0)] (n := 1) (Nat.le_of_ble_eq_true rfl))
theorem hd_X9_pick : yX9_pick.cls ≠ "java/lang/invoke/MethodHandle" ∧ yX9_pick.cls ≠ "java/lang/invoke/VarHandle" ∧ (parseMethodDescriptor yX9_pick.desc).map (fun d => d.parameters.length) = some 2 := by decide +kernel
theorem cw_X2_X9_pick {R : Room} {s : State} {args : Array Value} (ht : ∀ w ∈ wsL_law, w.before args s = true) (hN : ∀ w ∈ NW, va_Nw w s) (hR : rm_X9_pick.frames + 1 ≤ R.frames ∧ 8 + (2 + 11) + rm_X9_pick.locals ≤ R.locals) : va_CN R s args RX2 78 yX9_pick "QuotedRiver" cX9_pick 2 (some .int) ((.code yX9_pick cX9_pick 2 (some .int)) :: wsL_law) rm_X9_pick 0 0 2 ∧ (Cond.static yX9_pick).before args s = true ∧ True := ⟨va_cnB 2 ht (GL wq_13_5) rfl rfl rfl (hN _ nm_121) (ht _ wq_1_2) hd_X9_pick hR, ht _ wq_13_4, trivial⟩
theorem hd_X9_put : yX9_put.cls ≠ "java/lang/invoke/MethodHandle" ∧ yX9_put.cls ≠ "java/lang/invoke/VarHandle" ∧ (parseMethodDescriptor yX9_put.desc).map (fun d => d.parameters.length) = some 3 := by decide +kernel
theorem cw_X2_X9_put {R : Room} {s : State} {args : Array Value} (ht : ∀ w ∈ wsL_law, w.before args s = true) (hN : ∀ w ∈ NW, va_Nw w s) (hR : rm_X9_put.frames + 1 ≤ R.frames ∧ 8 + (3 + 11) + rm_X9_put.locals ≤ R.locals) : va_CN R s args RX2 82 yX9_put "QuotedRiver" cX9_put 3 none ((.code yX9_put cX9_put 3 none) :: wsL_law) rm_X9_put 0 0 3 ∧ (Cond.static yX9_put).before args s = true ∧ True := ⟨va_cnB 3 ht (GL wq_8_11) rfl rfl rfl (hN _ nm_122) (ht _ wq_1_2) hd_X9_put hR, ht _ wq_8_10, trivial⟩
def p_X2_sendToSea_L2 (fu : Nat)  : Nat → Ob → Int32 → Option (Ob)
  | 0, _, _ => none
  | n + 1, oz, v1 =>
    if (oz.1 4 0) ≤ v1 then some oz else (p_X9_pick fu 10 (oz.1 5) v1).bind fun r_15 => if r_15 < (oz.1 4 0) then p_X2_sendToSea_L2 fu  n oz (v1 + 1) else (p_X9_put fu 10 (oz.1 5) v1 ((-1) : Int32)).bind fun r_31 => p_X2_sendToSea_L2 fu  n (oA oz 5 r_31) (v1 + 1)
def p_X2_sendToSea (fu : Nat) (o : Ob) : Option (Ob) :=
  p_X2_sendToSea_L2 fu fu o 0
abbrev rm_X2_sendToSea : Room := { frames := 1, cells := 0, slots := 0, locals := 22 }
set_option maxHeartbeats 4000000 in
set_option maxRecDepth 100000 in
theorem b_X2_sendToSea {p : Program} {l : Launch} {e : Env} {s : State} {m : MethodId} {args : Array Value} {below : List Frame} {meth : Method} {c : Code} {ls : Array Slot} {D : va_G} {ct : Nat → ClassId} {G : GT} (a : Nat → Nat) (fu : Nat) (o : Ob) {r : Ob} (hx : p.tables.exec = Jvm.exec) (hb : c.code = cX2_sendToSea) (hr : meth.sig.returnType = none) (hml : c.maxLocals = 2) (hown : s.vm.findClass RX2 = some m.cls) (htl : ∀ w ∈ wsL_law, w.before args s = true) (hlocks : meth.locks = false) (hK : va_K D vwCl (tyl ct) s) (hN : ∀ w ∈ NW, va_Nw w s) (hX : SX G s s.heap) (hP0 : va_P D vwCl (cs2 ct a o) s.heap) (hf : p_X2_sendToSea fu o = some r) (hD0 : va_D (GE G) (cs2 ct a o))  (hl : lv_has ls 2 [(0, .ref (a 0))]) : W p l e rm_X2_sendToSea s m args below meth c s.heap [] 0 0 (MQ below (Qwr none (fun H => va_P D vwCl (cs2 ct a r) H) (wA (cs2 ct a o))) args s 0 0 (wA (cs2 ct a o))) (F0 m 0 ls []) := by
  generalize hQQ : MQ below (Qwr none (fun H => va_P D vwCl (cs2 ct a r) H) (wA (cs2 ct a o))) args s 0 0 (wA (cs2 ct a o)) = QQ
  have hDx : ∀ (oy : Ob), va_D (GE G) (cs2 ct a oy) := fun oy => D_cr hD0 rfl
  have hDW : ∀ (oy : Ob), va_D (wA (cs2 ct a o)) (cs2 ct a oy) := fun oy => D_cr (D_self hD0) rfl
  have hGE : ∀ q, wA (cs2 ct a o) q → GE G q := wA_GE hD0
  have hP := hP0
  have hS : va_S (wA (cs2 ct a o)) s.heap s.heap [] := va_S.rf
  have hL2 : ∀ (n : Nat) (oz : Ob) (v1 : Int32), ∀ (H : Heap) (locs : List Loc) (ls : Array Slot), va_P D vwCl (cs2 ct a oz) H → va_S (wA (cs2 ct a o)) s.heap H locs → lv_has ls 2 [(0, .ref (a 0)), (1, .int v1)] → p_X2_sendToSea_L2 fu  n oz v1 = some r → W p l e rm_X2_sendToSea s m args below meth c H locs 0 0 QQ (F0 m 2 ls []) := by
    intro  n
    induction n with
    | zero =>
      intro oz v1 H locs ls hP hS hl hf 
      rw [p_X2_sendToSea_L2] at hf
      cases hf
    | succ n ih =>
      intro oz v1 H locs ls hP hS hl hf 
      rw [p_X2_sendToSea_L2] at hf
      refine lv_iload_n hx hb dX2_sendToSea_2 rfl (lv_at hl 1 rfl) ?_
      refine lv_aload_n hx hb dX2_sendToSea_3 rfl (lv_at hl 0 rfl) ?_
      refine va_get (D := D) (ci := 2) (v := .int (oz.1 4 0)) (C := RX2) (T := TX2) (N := 20) hx hb htl inlX2 hown hK hP 0 rfl rfl 4 (by decide) (htl _ wq_4_12) (fun _ h9 => h9) rfl dX2_sendToSea_4 ?_
      refine lv_icmp_ge (tgt := 40) hx hb dX2_sendToSea_7 (by decide) (fun c_7 => ?_) (fun c_7 => ?_)
      · rw [if_pos c_7] at hf
        rw [← hQQ]
        cases hf
        exact rw_v hx hb hr hlocks hP hS dX2_sendToSea_40
      rw [if_neg c_7] at hf
      refine lv_aload_n hx hb dX2_sendToSea_10 rfl (lv_at hl 0 rfl) ?_
      refine va_get (D := D) (ci := 2) (v := .ref (a 1)) (C := RX2) (T := TX2) (N := 20) hx hb htl inlX2 hown hK hP 0 rfl rfl 5 (by decide) (htl _ wq_4_13) (fun _ h9 => h9) rfl dX2_sendToSea_11 ?_
      refine lv_iload_n hx hb dX2_sendToSea_14 rfl (lv_at hl 1 rfl) ?_
      obtain ⟨r_15, e_15, hf⟩ := ob_bind hf
      have hPX_15 : va_P D vwCl ([((a 1), .inl (ct 0, 10, .inl (oz.1 5)))]) H := (P_one hP 1 rfl)
      refine ro_call1 (va_runSN (As := [.ref (a 1), .int v1]) (rest := []) ⟨hx, hb, hml, hown, htl⟩ (c_X9_pick l D ct G (a 1) fu 10 (oz.1 5) v1 e_15) (cw_X2_X9_pick htl hN ⟨Nat.le_of_ble_eq_true rfl, Nat.le_of_ble_eq_true rfl⟩) ⟨Bx_blind, Bx_pre hPX_15 hK hN (hX.stay hS hGE)⟩ rfl rfl hl.1 rfl (lv_room (Nat.le_of_ble_eq_true rfl)) dX2_sendToSea_15 ⟨Nat.zero_le _, Nat.zero_le _⟩) ?_
      refine lv_aload_n hx hb dX2_sendToSea_18 rfl (lv_at hl 0 rfl) ?_
      refine va_get (D := D) (ci := 2) (v := .int (oz.1 4 0)) (C := RX2) (T := TX2) (N := 20) hx hb htl inlX2 hown hK hP 0 rfl rfl 4 (by decide) (htl _ wq_4_12) (fun _ h9 => h9) rfl dX2_sendToSea_19 ?_
      refine lv_icmp_lt (tgt := 34) hx hb dX2_sendToSea_22 (by decide) (fun c_22 => ?_) (fun c_22 => ?_)
      · rw [if_pos c_22] at hf
        refine lv_iinc (v := (v1 + 1)) (lv' := [(1, .int (v1 + 1)), (0, .ref (a 0))]) hx hb dX2_sendToSea_34 hl (k := 1) rfl rfl (by decide) rfl (fun ls hl => ?_)
        refine lv_goto (tgt := 2) hx hb dX2_sendToSea_37 (by decide) ?_
        exact ih oz (v1 + 1) _ _ _ hP hS (lv_sub hl [1, 0] rfl) hf 
      rw [if_neg c_22] at hf
      refine lv_aload_n hx hb dX2_sendToSea_25 rfl (lv_at hl 0 rfl) ?_
      refine va_get (D := D) (ci := 2) (v := .ref (a 1)) (C := RX2) (T := TX2) (N := 20) hx hb htl inlX2 hown hK hP 0 rfl rfl 5 (by decide) (htl _ wq_4_13) (fun _ h9 => h9) rfl dX2_sendToSea_26 ?_
      refine lv_iload_n hx hb dX2_sendToSea_29 rfl (lv_at hl 1 rfl) ?_
      refine lv_iconst (v := (-1)) hx hb dX2_sendToSea_30 (by decide) ?_
      obtain ⟨r_31, e_31, hf⟩ := ob_bind hf
      have hPX_31 : va_P D vwCl ([((a 1), .inl (ct 0, 10, .inl (oz.1 5)))]) H := (P_one hP 1 rfl)
      refine wr_call0 (va_runSN (As := [.ref (a 1), .int v1, .int (-1)]) (rest := []) ⟨hx, hb, hml, hown, htl⟩ (c_X9_put l D ct G (a 1) fu 10 (oz.1 5) v1 ((-1) : Int32) e_31 ((hDx oz).sub (ws' := [((a 1), .inl (ct 0, 10, .inl (oz.1 5)))]) [1] (by decide) rfl)) (cw_X2_X9_put htl hN ⟨Nat.le_of_ble_eq_true rfl, Nat.le_of_ble_eq_true rfl⟩) ⟨Bx_blind, Bx_pre hPX_31 hK hN (hX.stay hS hGE)⟩ rfl rfl hl.1 rfl (lv_room (Nat.le_of_ble_eq_true rfl)) dX2_sendToSea_31 ⟨Nat.zero_le _, Nat.zero_le _⟩) hS (fun q h => wA_cg (w1 := cs2 ct a oz) (w2 := cs2 ct a o) rfl q (wA_sub (w2 := cs2 ct a oz) [1] rfl q h)) (fun H_31 locs_31 hB_31 _ hk_31 hS => ?_)
      have hP : va_P D vwCl (cs2 ct a (oA oz 5 r_31)) H_31 := P_join hP (hDW oz) [1] rfl rfl hk_31 hB_31
      refine lv_iinc (v := (v1 + 1)) (lv' := [(1, .int (v1 + 1)), (0, .ref (a 0))]) hx hb dX2_sendToSea_34 hl (k := 1) rfl rfl (by decide) rfl (fun ls hl => ?_)
      refine lv_goto (tgt := 2) hx hb dX2_sendToSea_37 (by decide) ?_
      exact ih (oA oz 5 r_31) (v1 + 1) _ _ _ hP hS (lv_sub hl [1, 0] rfl) hf 
  rw [p_X2_sendToSea] at hf
  refine lv_iconst (v := 0) hx hb dX2_sendToSea_0 (by decide) ?_
  refine lv_istore_n (lv' := [(1, .int 0), (0, .ref (a 0))]) hx hb dX2_sendToSea_1 rfl hl (by decide) rfl (fun ls hl => ?_)
  exact hL2 fu o 0 _ _ _ hP hS (lv_sub hl [1, 0] rfl) hf 
theorem c_X2_sendToSea (l : Launch) (D : va_G) (ct : Nat → ClassId) (G : GT) (a : Nat → Nat) (fu : Nat) (o : Ob) {r : Ob} (hf : p_X2_sendToSea fu o = some r)  (hD0 : va_D (GE G) (cs2 ct a o)) : Met l yX2_sendToSea (.code yX2_sendToSea cX2_sendToSea 2 none :: wsL_law) rm_X2_sendToSea (va_Pc [.ref (a 0)] (Bx D ct G (cs2 ct a o))) (Qwr none (fun H => va_P D vwCl (cs2 ct a r) H) (wA (cs2 ct a o))) 0 0 (wA (cs2 ct a o)) := by
  refine Met.ofW (cc := cX2_sendToSea) (maxL := 2) (ret := none) (by decide) rfl ?_
  intro p e s m args below meth c s₁ B hml hv
  obtain ⟨rfl, hP, hK, hN, hX⟩ := hv
  have hts := atoms_spec (ws := .code yX2_sendToSea cX2_sendToSea 2 none :: wsL_law) B.pre
  rw [lg_entry_eq]
  exact b_X2_sendToSea a fu o B.exec B.bytes B.returns hml (findClass_of_methodNamed B.named) (fun w h => hts w (List.mem_cons_of_mem _ h)) B.notSynchronized hK hN hX hP hf hD0  (lv_entry [.ref (a 0)] (n := 2) (Nat.le_of_ble_eq_true rfl))
def p_X6_byteAt (fu : Nat) (o : Ob) (v1 : Int32) : Option (Int32) :=
  if v1 < 0 then some (0 : Int32) else if (700 : Int32) ≤ v1 then some (0 : Int32) else if inb v1 700 = true then some ((o.1 0) v1.toNatClampNeg) else none
abbrev rm_X6_byteAt : Room := { frames := 0, cells := 0, slots := 0, locals := 0 }
set_option maxHeartbeats 4000000 in
set_option maxRecDepth 100000 in
theorem b_X6_byteAt {p : Program} {l : Launch} {e : Env} {s : State} {m : MethodId} {args : Array Value} {below : List Frame} {meth : Method} {c : Code} {ls : Array Slot} {D : va_G} {ct : Nat → ClassId} {G : GT} (a : Nat → Nat) (fu : Nat) (o : Ob) (v1 : Int32) {r : Int32} (hx : p.tables.exec = Jvm.exec) (hb : c.code = cX6_byteAt) (hr : meth.sig.returnType = (some .int)) (hml : c.maxLocals = 2) (hown : s.vm.findClass RX6 = some m.cls) (htl : ∀ w ∈ wsL_law, w.before args s = true) (hlocks : meth.locks = false) (hK : va_K D vwCl (tyl ct) s) (hN : ∀ w ∈ NW, va_Nw w s) (hX : SX G s s.heap) (hP0 : va_P D vwCl (cs6 ct a o) s.heap) (hf : p_X6_byteAt fu o v1 = some r)  (hl : lv_has ls 2 [(0, .ref (a 0)), (1, .int v1)]) : W p l e rm_X6_byteAt s m args below meth c s.heap [] 0 0 (MQ below (Qro (some (.int r))) args s 0 0 (fun _ => False)) (F0 m 0 ls []) := by
  generalize hQQ : MQ below (Qro (some (.int r))) args s 0 0 (fun _ => False) = QQ
  have hP := hP0
  rw [p_X6_byteAt] at hf
  refine lv_iload_n hx hb dX6_byteAt_0 rfl (lv_at hl 1 rfl) ?_
  refine lv_if_lt (tgt := 22) hx hb dX6_byteAt_1 (by decide) (fun c_1 => ?_) (fun c_1 => ?_)
  · rw [if_pos c_1] at hf
    refine lv_iconst (v := 0) hx hb dX6_byteAt_22 (by decide) ?_
    rw [← hQQ]
    exact rf_i hx hb hr hlocks hf dX6_byteAt_23
  rw [if_neg c_1] at hf
  refine lv_iload_n hx hb dX6_byteAt_4 rfl (lv_at hl 1 rfl) ?_
  refine lv_aload_n hx hb dX6_byteAt_5 rfl (lv_at hl 0 rfl) ?_
  refine va_get (D := D) (ci := 6) (v := .ref (a 1)) (C := RX6) (T := TX6) (N := 2) hx hb htl inlX6 hown hK hP 0 rfl rfl 0 (by decide) (htl _ wq_3_7) (fun _ h9 => h9) rfl dX6_byteAt_6 ?_
  refine va_alen (D := D) (tys := tyl ct) (v := 700) hx hb hK hP 1 0 rfl rfl rfl dX6_byteAt_9 ?_
  refine lv_icmp_ge (tgt := 22) hx hb dX6_byteAt_10 (by decide) (fun c_10 => ?_) (fun c_10 => ?_)
  · rw [if_pos c_10] at hf
    refine lv_iconst (v := 0) hx hb dX6_byteAt_22 (by decide) ?_
    rw [← hQQ]
    exact rf_i hx hb hr hlocks hf dX6_byteAt_23
  rw [if_neg c_10] at hf
  refine lv_aload_n hx hb dX6_byteAt_13 rfl (lv_at hl 0 rfl) ?_
  refine va_get (D := D) (ci := 6) (v := .ref (a 1)) (C := RX6) (T := TX6) (N := 2) hx hb htl inlX6 hown hK hP 0 rfl rfl 0 (by decide) (htl _ wq_3_7) (fun _ h9 => h9) rfl dX6_byteAt_14 ?_
  refine lv_iload_n hx hb dX6_byteAt_17 rfl (lv_at hl 1 rfl) ?_
  obtain ⟨hi_18, hf⟩ := ob_in hf
  refine va_iald (D := D) (tys := tyl ct) hx hb hK hP 1 0 rfl rfl hi_18 dX6_byteAt_18 ?_
  refine lv_goto (tgt := 23) hx hb dX6_byteAt_19 (by decide) ?_
  rw [← hQQ]
  exact rf_i hx hb hr hlocks hf dX6_byteAt_23
theorem c_X6_byteAt (l : Launch) (D : va_G) (ct : Nat → ClassId) (G : GT) (a : Nat → Nat) (fu : Nat) (o : Ob) (v1 : Int32) {r : Int32} (hf : p_X6_byteAt fu o v1 = some r)  : Met l yX6_byteAt (.code yX6_byteAt cX6_byteAt 2 (some .int) :: wsL_law) rm_X6_byteAt (va_Pc [.ref (a 0), .int v1] (Bx D ct G (cs6 ct a o))) (Qro (some (.int r))) 0 0 (fun _ => False) := by
  refine Met.ofW (cc := cX6_byteAt) (maxL := 2) (ret := (some .int)) (by decide) rfl ?_
  intro p e s m args below meth c s₁ B hml hv
  obtain ⟨rfl, hP, hK, hN, hX⟩ := hv
  have hts := atoms_spec (ws := .code yX6_byteAt cX6_byteAt 2 (some .int) :: wsL_law) B.pre
  rw [lg_entry_eq]
  exact b_X6_byteAt a fu o v1 B.exec B.bytes B.returns hml (findClass_of_methodNamed B.named) (fun w h => hts w (List.mem_cons_of_mem _ h)) B.notSynchronized hK hN hX hP hf   (lv_entry [.ref (a 0), .int v1] (n := 2) (Nat.le_of_ble_eq_true rfl))
theorem cw_X7_X9_put {R : Room} {s : State} {args : Array Value} (ht : ∀ w ∈ wsL_law, w.before args s = true) (hN : ∀ w ∈ NW, va_Nw w s) (hR : rm_X9_put.frames + 1 ≤ R.frames ∧ 8 + (3 + 11) + rm_X9_put.locals ≤ R.locals) : va_CN R s args RX7 57 yX9_put "QuotedRiver" cX9_put 3 none ((.code yX9_put cX9_put 3 none) :: wsL_law) rm_X9_put 0 0 3 ∧ (Cond.static yX9_put).before args s = true ∧ True := ⟨va_cnB 3 ht (GL wq_8_11) rfl rfl rfl (hN _ nm_134) (ht _ wq_1_2) hd_X9_put hR, ht _ wq_8_10, trivial⟩
def p_X7_add (fu : Nat) (o : Ob) (v1 : Int32) (v2 : Int32) (v3 : Int32) : Option (Ob) :=
  (p_X9_put fu 701 (o.1 0) (o.1 3 0) v1).bind fun r_9 => (p_X9_put fu 701 ((oA o 0 r_9).1 1) ((oA o 0 r_9).1 3 0) v2).bind fun r_21 => (p_X9_put fu 701 ((oA (oA o 0 r_9) 1 r_21).1 2) ((oA (oA o 0 r_9) 1 r_21).1 3 0) v3).bind fun r_33 => some (oI (oA (oA (oA o 0 r_9) 1 r_21) 2 r_33) 3 (((oA (oA (oA o 0 r_9) 1 r_21) 2 r_33).1 3 0) + 1))
abbrev rm_X7_add : Room := { frames := 1, cells := 0, slots := 0, locals := 22 }
set_option maxHeartbeats 4000000 in
set_option maxRecDepth 100000 in
theorem b_X7_add {p : Program} {l : Launch} {e : Env} {s : State} {m : MethodId} {args : Array Value} {below : List Frame} {meth : Method} {c : Code} {ls : Array Slot} {D : va_G} {ct : Nat → ClassId} {G : GT} (a : Nat → Nat) (fu : Nat) (o : Ob) (v1 : Int32) (v2 : Int32) (v3 : Int32) {r : Ob} (hx : p.tables.exec = Jvm.exec) (hb : c.code = cX7_add) (hr : meth.sig.returnType = none) (hml : c.maxLocals = 4) (hown : s.vm.findClass RX7 = some m.cls) (htl : ∀ w ∈ wsL_law, w.before args s = true) (hlocks : meth.locks = false) (hK : va_K D vwCl (tyl ct) s) (hN : ∀ w ∈ NW, va_Nw w s) (hX : SX G s s.heap) (hP0 : va_P D vwCl (cs7 ct a o) s.heap) (hf : p_X7_add fu o v1 v2 v3 = some r) (hD0 : va_D (GE G) (cs7 ct a o))  (hl : lv_has ls 4 [(0, .ref (a 0)), (1, .int v1), (2, .int v2), (3, .int v3)]) : W p l e rm_X7_add s m args below meth c s.heap [] 0 0 (MQ below (Qwr none (fun H => va_P D vwCl (cs7 ct a r) H) (wA (cs7 ct a o))) args s 0 0 (wA (cs7 ct a o))) (F0 m 0 ls []) := by
  generalize hQQ : MQ below (Qwr none (fun H => va_P D vwCl (cs7 ct a r) H) (wA (cs7 ct a o))) args s 0 0 (wA (cs7 ct a o)) = QQ
  have hDx : ∀ (oy : Ob), va_D (GE G) (cs7 ct a oy) := fun oy => D_cr hD0 rfl
  have hDW : ∀ (oy : Ob), va_D (wA (cs7 ct a o)) (cs7 ct a oy) := fun oy => D_cr (D_self hD0) rfl
  have hGE : ∀ q, wA (cs7 ct a o) q → GE G q := wA_GE hD0
  have hP := hP0
  have hS : va_S (wA (cs7 ct a o)) s.heap s.heap [] := va_S.rf
  rw [p_X7_add] at hf
  refine lv_aload_n hx hb dX7_add_0 rfl (lv_at hl 0 rfl) ?_
  refine va_get (D := D) (ci := 7) (v := .ref (a 1)) (C := RX7) (T := TX7) (N := 4) hx hb htl inlX7 hown hK hP 0 rfl rfl 0 (by decide) (htl _ wq_4_1) (fun _ h9 => h9) rfl dX7_add_1 ?_
  refine lv_aload_n hx hb dX7_add_4 rfl (lv_at hl 0 rfl) ?_
  refine va_get (D := D) (ci := 7) (v := .int (o.1 3 0)) (C := RX7) (T := TX7) (N := 4) hx hb htl inlX7 hown hK hP 0 rfl rfl 3 (by decide) (htl _ wq_4_4) (fun _ h9 => h9) rfl dX7_add_5 ?_
  refine lv_iload_n hx hb dX7_add_8 rfl (lv_at hl 1 rfl) ?_
  obtain ⟨r_9, e_9, hf⟩ := ob_bind hf
  have hPX_9 : va_P D vwCl ([((a 1), .inl (ct 0, 701, .inl (o.1 0)))]) s.heap := (P_one hP 1 rfl)
  refine wr_call0 (va_runSN (As := [.ref (a 1), .int (o.1 3 0), .int v1]) (rest := []) ⟨hx, hb, hml, hown, htl⟩ (c_X9_put l D ct G (a 1) fu 701 (o.1 0) (o.1 3 0) v1 e_9 ((hDx o).sub (ws' := [((a 1), .inl (ct 0, 701, .inl (o.1 0)))]) [1] (by decide) rfl)) (cw_X7_X9_put htl hN ⟨Nat.le_of_ble_eq_true rfl, Nat.le_of_ble_eq_true rfl⟩) ⟨Bx_blind, Bx_pre hPX_9 hK hN (hX.stay hS hGE)⟩ rfl rfl hl.1 rfl (lv_room (Nat.le_of_ble_eq_true rfl)) dX7_add_9 ⟨Nat.zero_le _, Nat.zero_le _⟩) hS (fun q h => wA_cg (w1 := cs7 ct a o) (w2 := cs7 ct a o) rfl q (wA_sub (w2 := cs7 ct a o) [1] rfl q h)) (fun H_9 locs_9 hB_9 _ hk_9 hS => ?_)
  have hP : va_P D vwCl (cs7 ct a (oA o 0 r_9)) H_9 := P_join hP (hDW o) [1] rfl rfl hk_9 hB_9
  refine lv_aload_n hx hb dX7_add_12 rfl (lv_at hl 0 rfl) ?_
  refine va_get (D := D) (ci := 7) (v := .ref (a 2)) (C := RX7) (T := TX7) (N := 4) hx hb htl inlX7 hown hK hP 0 rfl rfl 1 (by decide) (htl _ wq_4_2) (fun _ h9 => h9) rfl dX7_add_13 ?_
  refine lv_aload_n hx hb dX7_add_16 rfl (lv_at hl 0 rfl) ?_
  refine va_get (D := D) (ci := 7) (v := .int ((oA o 0 r_9).1 3 0)) (C := RX7) (T := TX7) (N := 4) hx hb htl inlX7 hown hK hP 0 rfl rfl 3 (by decide) (htl _ wq_4_4) (fun _ h9 => h9) rfl dX7_add_17 ?_
  refine lv_iload_n hx hb dX7_add_20 rfl (lv_at hl 2 rfl) ?_
  obtain ⟨r_21, e_21, hf⟩ := ob_bind hf
  have hPX_21 : va_P D vwCl ([((a 2), .inl (ct 0, 701, .inl ((oA o 0 r_9).1 1)))]) H_9 := (P_one hP 2 rfl)
  refine wr_call0 (va_runSN (As := [.ref (a 2), .int ((oA o 0 r_9).1 3 0), .int v2]) (rest := []) ⟨hx, hb, hml, hown, htl⟩ (c_X9_put l D ct G (a 2) fu 701 ((oA o 0 r_9).1 1) ((oA o 0 r_9).1 3 0) v2 e_21 ((hDx (oA o 0 r_9)).sub (ws' := [((a 2), .inl (ct 0, 701, .inl ((oA o 0 r_9).1 1)))]) [2] (by decide) rfl)) (cw_X7_X9_put htl hN ⟨Nat.le_of_ble_eq_true rfl, Nat.le_of_ble_eq_true rfl⟩) ⟨Bx_blind, Bx_pre hPX_21 hK hN (hX.stay hS hGE)⟩ rfl rfl hl.1 rfl (lv_room (Nat.le_of_ble_eq_true rfl)) dX7_add_21 ⟨Nat.zero_le _, Nat.zero_le _⟩) hS (fun q h => wA_cg (w1 := cs7 ct a (oA o 0 r_9)) (w2 := cs7 ct a o) rfl q (wA_sub (w2 := cs7 ct a (oA o 0 r_9)) [2] rfl q h)) (fun H_21 locs_21 hB_21 _ hk_21 hS => ?_)
  have hP : va_P D vwCl (cs7 ct a (oA (oA o 0 r_9) 1 r_21)) H_21 := P_join hP (hDW (oA o 0 r_9)) [2] rfl rfl hk_21 hB_21
  refine lv_aload_n hx hb dX7_add_24 rfl (lv_at hl 0 rfl) ?_
  refine va_get (D := D) (ci := 7) (v := .ref (a 3)) (C := RX7) (T := TX7) (N := 4) hx hb htl inlX7 hown hK hP 0 rfl rfl 2 (by decide) (htl _ wq_4_3) (fun _ h9 => h9) rfl dX7_add_25 ?_
  refine lv_aload_n hx hb dX7_add_28 rfl (lv_at hl 0 rfl) ?_
  refine va_get (D := D) (ci := 7) (v := .int ((oA (oA o 0 r_9) 1 r_21).1 3 0)) (C := RX7) (T := TX7) (N := 4) hx hb htl inlX7 hown hK hP 0 rfl rfl 3 (by decide) (htl _ wq_4_4) (fun _ h9 => h9) rfl dX7_add_29 ?_
  refine lv_iload_n hx hb dX7_add_32 rfl (lv_at hl 3 rfl) ?_
  obtain ⟨r_33, e_33, hf⟩ := ob_bind hf
  have hPX_33 : va_P D vwCl ([((a 3), .inl (ct 0, 701, .inl ((oA (oA o 0 r_9) 1 r_21).1 2)))]) H_21 := (P_one hP 3 rfl)
  refine wr_call0 (va_runSN (As := [.ref (a 3), .int ((oA (oA o 0 r_9) 1 r_21).1 3 0), .int v3]) (rest := []) ⟨hx, hb, hml, hown, htl⟩ (c_X9_put l D ct G (a 3) fu 701 ((oA (oA o 0 r_9) 1 r_21).1 2) ((oA (oA o 0 r_9) 1 r_21).1 3 0) v3 e_33 ((hDx (oA (oA o 0 r_9) 1 r_21)).sub (ws' := [((a 3), .inl (ct 0, 701, .inl ((oA (oA o 0 r_9) 1 r_21).1 2)))]) [3] (by decide) rfl)) (cw_X7_X9_put htl hN ⟨Nat.le_of_ble_eq_true rfl, Nat.le_of_ble_eq_true rfl⟩) ⟨Bx_blind, Bx_pre hPX_33 hK hN (hX.stay hS hGE)⟩ rfl rfl hl.1 rfl (lv_room (Nat.le_of_ble_eq_true rfl)) dX7_add_33 ⟨Nat.zero_le _, Nat.zero_le _⟩) hS (fun q h => wA_cg (w1 := cs7 ct a (oA (oA o 0 r_9) 1 r_21)) (w2 := cs7 ct a o) rfl q (wA_sub (w2 := cs7 ct a (oA (oA o 0 r_9) 1 r_21)) [3] rfl q h)) (fun H_33 locs_33 hB_33 _ hk_33 hS => ?_)
  have hP : va_P D vwCl (cs7 ct a (oA (oA (oA o 0 r_9) 1 r_21) 2 r_33)) H_33 := P_join hP (hDW (oA (oA o 0 r_9) 1 r_21)) [3] rfl rfl hk_33 hB_33
  refine lv_aload_n hx hb dX7_add_36 rfl (lv_at hl 0 rfl) ?_
  refine lv_dup hx hb dX7_add_37 rfl ?_
  refine va_get (D := D) (ci := 7) (v := .int ((oA (oA (oA o 0 r_9) 1 r_21) 2 r_33).1 3 0)) (C := RX7) (T := TX7) (N := 4) hx hb htl inlX7 hown hK hP 0 rfl rfl 3 (by decide) (htl _ wq_4_4) (fun _ h9 => h9) rfl dX7_add_38 ?_
  refine lv_iconst (v := 1) hx hb dX7_add_41 (by decide) ?_
  refine lv_iadd hx hb dX7_add_42 ?_
  refine va_put (D := D) (ci := 7) (v := .int (((oA (oA (oA o 0 r_9) 1 r_21) 2 r_33).1 3 0) + 1)) (ty := .int) (C := RX7) (T := TX7) (N := 4) hx hb htl inlX7 tyX7 tyX7_ok nmX7 hown hK hP (hDW (oA (oA (oA o 0 r_9) 1 r_21) 2 r_33)) hS 0 rfl rfl 3 (by decide) (htl _ wq_4_4) (fun _ h9 => h9) rfl (tyX7_ok 3 (by decide)) rfl rfl (Nat.le_of_ble_eq_true rfl) dX7_add_43 (fun H_43 locs_43 hP _ hS => ?_)
  have hP : va_P D vwCl (cs7 ct a (oI (oA (oA (oA o 0 r_9) 1 r_21) 2 r_33) 3 (((oA (oA (oA o 0 r_9) 1 r_21) 2 r_33).1 3 0) + 1))) H_43 := st7_3 hP
  rw [← hQQ]
  cases hf
  exact rw_v hx hb hr hlocks hP hS dX7_add_46
theorem c_X7_add (l : Launch) (D : va_G) (ct : Nat → ClassId) (G : GT) (a : Nat → Nat) (fu : Nat) (o : Ob) (v1 : Int32) (v2 : Int32) (v3 : Int32) {r : Ob} (hf : p_X7_add fu o v1 v2 v3 = some r)  (hD0 : va_D (GE G) (cs7 ct a o)) : Met l yX7_add (.code yX7_add cX7_add 4 none :: wsL_law) rm_X7_add (va_Pc [.ref (a 0), .int v1, .int v2, .int v3] (Bx D ct G (cs7 ct a o))) (Qwr none (fun H => va_P D vwCl (cs7 ct a r) H) (wA (cs7 ct a o))) 0 0 (wA (cs7 ct a o)) := by
  refine Met.ofW (cc := cX7_add) (maxL := 4) (ret := none) (by decide) rfl ?_
  intro p e s m args below meth c s₁ B hml hv
  obtain ⟨rfl, hP, hK, hN, hX⟩ := hv
  have hts := atoms_spec (ws := .code yX7_add cX7_add 4 none :: wsL_law) B.pre
  rw [lg_entry_eq]
  exact b_X7_add a fu o v1 v2 v3 B.exec B.bytes B.returns hml (findClass_of_methodNamed B.named) (fun w h => hts w (List.mem_cons_of_mem _ h)) B.notSynchronized hK hN hX hP hf hD0  (lv_entry [.ref (a 0), .int v1, .int v2, .int v3] (n := 4) (Nat.le_of_ble_eq_true rfl))
def p_X7_isBlank (fu : Nat) (v0 : Int32) : Option (Int32) :=
  if v0 = (32 : Int32) then some (1 : Int32) else if v0 = (10 : Int32) then some (1 : Int32) else some (0 : Int32)
abbrev rm_X7_isBlank : Room := { frames := 0, cells := 0, slots := 0, locals := 0 }
set_option maxHeartbeats 4000000 in
set_option maxRecDepth 100000 in
theorem b_X7_isBlank {p : Program} {l : Launch} {e : Env} {s : State} {m : MethodId} {args : Array Value} {below : List Frame} {meth : Method} {c : Code} {ls : Array Slot} {D : va_G} {ct : Nat → ClassId} {G : GT}  (fu : Nat) (v0 : Int32) {r : Int32} (hx : p.tables.exec = Jvm.exec) (hb : c.code = cX7_isBlank) (hr : meth.sig.returnType = (some .boolean)) (hml : c.maxLocals = 1) (hown : s.vm.findClass RX7 = some m.cls) (htl : ∀ w ∈ wsL_law, w.before args s = true) (hlocks : meth.locks = false) (hK : va_K D vwCl (tyl ct) s) (hN : ∀ w ∈ NW, va_Nw w s) (hX : SX G s s.heap) (hP0 : va_P D vwCl ([]) s.heap) (hf : p_X7_isBlank fu v0 = some r)  (hl : lv_has ls 1 [(0, .int v0)]) : W p l e rm_X7_isBlank s m args below meth c s.heap [] 0 0 (MQ below (Qro (some (.int r))) args s 0 0 (fun _ => False)) (F0 m 0 ls []) := by
  generalize hQQ : MQ below (Qro (some (.int r))) args s 0 0 (fun _ => False) = QQ
  have hP := hP0
  rw [p_X7_isBlank] at hf
  refine lv_iload_n hx hb dX7_isBlank_0 rfl (lv_at hl 0 rfl) ?_
  refine lv_bipush (v := 32) hx hb dX7_isBlank_1 (by decide) ?_
  refine lv_icmp_eq (tgt := 12) hx hb dX7_isBlank_3 (by decide) (fun c_3 => ?_) (fun c_3 => ?_)
  · rw [if_pos c_3] at hf
    refine lv_iconst (v := 1) hx hb dX7_isBlank_12 (by decide) ?_
    refine lv_goto (tgt := 17) hx hb dX7_isBlank_13 (by decide) ?_
    rw [← hQQ]
    exact rf_z hx hb hr hlocks rfl hf dX7_isBlank_17
  rw [if_neg c_3] at hf
  refine lv_iload_n hx hb dX7_isBlank_6 rfl (lv_at hl 0 rfl) ?_
  refine lv_bipush (v := 10) hx hb dX7_isBlank_7 (by decide) ?_
  refine lv_icmp_ne (tgt := 16) hx hb dX7_isBlank_9 (by decide) (fun c_9 => ?_) (fun c_9 => ?_)
  · rw [if_neg c_9] at hf
    refine lv_iconst (v := 0) hx hb dX7_isBlank_16 (by decide) ?_
    rw [← hQQ]
    exact rf_z hx hb hr hlocks rfl hf dX7_isBlank_17
  rw [if_pos c_9] at hf
  refine lv_iconst (v := 1) hx hb dX7_isBlank_12 (by decide) ?_
  refine lv_goto (tgt := 17) hx hb dX7_isBlank_13 (by decide) ?_
  rw [← hQQ]
  exact rf_z hx hb hr hlocks rfl hf dX7_isBlank_17
theorem c_X7_isBlank (l : Launch) (D : va_G) (ct : Nat → ClassId) (G : GT)  (fu : Nat) (v0 : Int32) {r : Int32} (hf : p_X7_isBlank fu v0 = some r)  : Met l yX7_isBlank (.code yX7_isBlank cX7_isBlank 1 (some .boolean) :: wsL_law) rm_X7_isBlank (va_Pc [.int v0] (Bx D ct G ([]))) (Qro (some (.int r))) 0 0 (fun _ => False) := by
  refine Met.ofW (cc := cX7_isBlank) (maxL := 1) (ret := (some .boolean)) (by decide) rfl ?_
  intro p e s m args below meth c s₁ B hml hv
  obtain ⟨rfl, hP, hK, hN, hX⟩ := hv
  have hts := atoms_spec (ws := .code yX7_isBlank cX7_isBlank 1 (some .boolean) :: wsL_law) B.pre
  rw [lg_entry_eq]
  exact b_X7_isBlank  fu v0 B.exec B.bytes B.returns hml (findClass_of_methodNamed B.named) (fun w h => hts w (List.mem_cons_of_mem _ h)) B.notSynchronized hK hN hX hP hf   (lv_entry [.int v0] (n := 1) (Nat.le_of_ble_eq_true rfl))
def p_X7_isDigit (fu : Nat) (v0 : Int32) : Option (Int32) :=
  if v0 < (48 : Int32) then some (0 : Int32) else if (57 : Int32) < v0 then some (0 : Int32) else some (1 : Int32)
abbrev rm_X7_isDigit : Room := { frames := 0, cells := 0, slots := 0, locals := 0 }
set_option maxHeartbeats 4000000 in
set_option maxRecDepth 100000 in
theorem b_X7_isDigit {p : Program} {l : Launch} {e : Env} {s : State} {m : MethodId} {args : Array Value} {below : List Frame} {meth : Method} {c : Code} {ls : Array Slot} {D : va_G} {ct : Nat → ClassId} {G : GT}  (fu : Nat) (v0 : Int32) {r : Int32} (hx : p.tables.exec = Jvm.exec) (hb : c.code = cX7_isDigit) (hr : meth.sig.returnType = (some .boolean)) (hml : c.maxLocals = 1) (hown : s.vm.findClass RX7 = some m.cls) (htl : ∀ w ∈ wsL_law, w.before args s = true) (hlocks : meth.locks = false) (hK : va_K D vwCl (tyl ct) s) (hN : ∀ w ∈ NW, va_Nw w s) (hX : SX G s s.heap) (hP0 : va_P D vwCl ([]) s.heap) (hf : p_X7_isDigit fu v0 = some r)  (hl : lv_has ls 1 [(0, .int v0)]) : W p l e rm_X7_isDigit s m args below meth c s.heap [] 0 0 (MQ below (Qro (some (.int r))) args s 0 0 (fun _ => False)) (F0 m 0 ls []) := by
  generalize hQQ : MQ below (Qro (some (.int r))) args s 0 0 (fun _ => False) = QQ
  have hP := hP0
  rw [p_X7_isDigit] at hf
  refine lv_iload_n hx hb dX7_isDigit_0 rfl (lv_at hl 0 rfl) ?_
  refine lv_bipush (v := 48) hx hb dX7_isDigit_1 (by decide) ?_
  refine lv_icmp_lt (tgt := 16) hx hb dX7_isDigit_3 (by decide) (fun c_3 => ?_) (fun c_3 => ?_)
  · rw [if_pos c_3] at hf
    refine lv_iconst (v := 0) hx hb dX7_isDigit_16 (by decide) ?_
    rw [← hQQ]
    exact rf_z hx hb hr hlocks rfl hf dX7_isDigit_17
  rw [if_neg c_3] at hf
  refine lv_iload_n hx hb dX7_isDigit_6 rfl (lv_at hl 0 rfl) ?_
  refine lv_bipush (v := 57) hx hb dX7_isDigit_7 (by decide) ?_
  refine lv_icmp_gt (tgt := 16) hx hb dX7_isDigit_9 (by decide) (fun c_9 => ?_) (fun c_9 => ?_)
  · rw [if_pos c_9] at hf
    refine lv_iconst (v := 0) hx hb dX7_isDigit_16 (by decide) ?_
    rw [← hQQ]
    exact rf_z hx hb hr hlocks rfl hf dX7_isDigit_17
  rw [if_neg c_9] at hf
  refine lv_iconst (v := 1) hx hb dX7_isDigit_12 (by decide) ?_
  refine lv_goto (tgt := 17) hx hb dX7_isDigit_13 (by decide) ?_
  rw [← hQQ]
  exact rf_z hx hb hr hlocks rfl hf dX7_isDigit_17
theorem c_X7_isDigit (l : Launch) (D : va_G) (ct : Nat → ClassId) (G : GT)  (fu : Nat) (v0 : Int32) {r : Int32} (hf : p_X7_isDigit fu v0 = some r)  : Met l yX7_isDigit (.code yX7_isDigit cX7_isDigit 1 (some .boolean) :: wsL_law) rm_X7_isDigit (va_Pc [.int v0] (Bx D ct G ([]))) (Qro (some (.int r))) 0 0 (fun _ => False) := by
  refine Met.ofW (cc := cX7_isDigit) (maxL := 1) (ret := (some .boolean)) (by decide) rfl ?_
  intro p e s m args below meth c s₁ B hml hv
  obtain ⟨rfl, hP, hK, hN, hX⟩ := hv
  have hts := atoms_spec (ws := .code yX7_isDigit cX7_isDigit 1 (some .boolean) :: wsL_law) B.pre
  rw [lg_entry_eq]
  exact b_X7_isDigit  fu v0 B.exec B.bytes B.returns hml (findClass_of_methodNamed B.named) (fun w h => hts w (List.mem_cons_of_mem _ h)) B.notSynchronized hK hN hX hP hf   (lv_entry [.int v0] (n := 1) (Nat.le_of_ble_eq_true rfl))
def p_X7_isLetter (fu : Nat) (v0 : Int32) : Option (Int32) :=
  if v0 < (97 : Int32) then some (0 : Int32) else if (122 : Int32) < v0 then some (0 : Int32) else some (1 : Int32)
abbrev rm_X7_isLetter : Room := { frames := 0, cells := 0, slots := 0, locals := 0 }
set_option maxHeartbeats 4000000 in
set_option maxRecDepth 100000 in
theorem b_X7_isLetter {p : Program} {l : Launch} {e : Env} {s : State} {m : MethodId} {args : Array Value} {below : List Frame} {meth : Method} {c : Code} {ls : Array Slot} {D : va_G} {ct : Nat → ClassId} {G : GT}  (fu : Nat) (v0 : Int32) {r : Int32} (hx : p.tables.exec = Jvm.exec) (hb : c.code = cX7_isLetter) (hr : meth.sig.returnType = (some .boolean)) (hml : c.maxLocals = 1) (hown : s.vm.findClass RX7 = some m.cls) (htl : ∀ w ∈ wsL_law, w.before args s = true) (hlocks : meth.locks = false) (hK : va_K D vwCl (tyl ct) s) (hN : ∀ w ∈ NW, va_Nw w s) (hX : SX G s s.heap) (hP0 : va_P D vwCl ([]) s.heap) (hf : p_X7_isLetter fu v0 = some r)  (hl : lv_has ls 1 [(0, .int v0)]) : W p l e rm_X7_isLetter s m args below meth c s.heap [] 0 0 (MQ below (Qro (some (.int r))) args s 0 0 (fun _ => False)) (F0 m 0 ls []) := by
  generalize hQQ : MQ below (Qro (some (.int r))) args s 0 0 (fun _ => False) = QQ
  have hP := hP0
  rw [p_X7_isLetter] at hf
  refine lv_iload_n hx hb dX7_isLetter_0 rfl (lv_at hl 0 rfl) ?_
  refine lv_bipush (v := 97) hx hb dX7_isLetter_1 (by decide) ?_
  refine lv_icmp_lt (tgt := 16) hx hb dX7_isLetter_3 (by decide) (fun c_3 => ?_) (fun c_3 => ?_)
  · rw [if_pos c_3] at hf
    refine lv_iconst (v := 0) hx hb dX7_isLetter_16 (by decide) ?_
    rw [← hQQ]
    exact rf_z hx hb hr hlocks rfl hf dX7_isLetter_17
  rw [if_neg c_3] at hf
  refine lv_iload_n hx hb dX7_isLetter_6 rfl (lv_at hl 0 rfl) ?_
  refine lv_bipush (v := 122) hx hb dX7_isLetter_7 (by decide) ?_
  refine lv_icmp_gt (tgt := 16) hx hb dX7_isLetter_9 (by decide) (fun c_9 => ?_) (fun c_9 => ?_)
  · rw [if_pos c_9] at hf
    refine lv_iconst (v := 0) hx hb dX7_isLetter_16 (by decide) ?_
    rw [← hQQ]
    exact rf_z hx hb hr hlocks rfl hf dX7_isLetter_17
  rw [if_neg c_9] at hf
  refine lv_iconst (v := 1) hx hb dX7_isLetter_12 (by decide) ?_
  refine lv_goto (tgt := 17) hx hb dX7_isLetter_13 (by decide) ?_
  rw [← hQQ]
  exact rf_z hx hb hr hlocks rfl hf dX7_isLetter_17
theorem c_X7_isLetter (l : Launch) (D : va_G) (ct : Nat → ClassId) (G : GT)  (fu : Nat) (v0 : Int32) {r : Int32} (hf : p_X7_isLetter fu v0 = some r)  : Met l yX7_isLetter (.code yX7_isLetter cX7_isLetter 1 (some .boolean) :: wsL_law) rm_X7_isLetter (va_Pc [.int v0] (Bx D ct G ([]))) (Qro (some (.int r))) 0 0 (fun _ => False) := by
  refine Met.ofW (cc := cX7_isLetter) (maxL := 1) (ret := (some .boolean)) (by decide) rfl ?_
  intro p e s m args below meth c s₁ B hml hv
  obtain ⟨rfl, hP, hK, hN, hX⟩ := hv
  have hts := atoms_spec (ws := .code yX7_isLetter cX7_isLetter 1 (some .boolean) :: wsL_law) B.pre
  rw [lg_entry_eq]
  exact b_X7_isLetter  fu v0 B.exec B.bytes B.returns hml (findClass_of_methodNamed B.named) (fun w h => hts w (List.mem_cons_of_mem _ h)) B.notSynchronized hK hN hX hP hf   (lv_entry [.int v0] (n := 1) (Nat.le_of_ble_eq_true rfl))
theorem hd_X6_byteAt : yX6_byteAt.cls ≠ "java/lang/invoke/MethodHandle" ∧ yX6_byteAt.cls ≠ "java/lang/invoke/VarHandle" ∧ (parseMethodDescriptor yX6_byteAt.desc).map (fun d => d.parameters.length) = some 1 := by decide +kernel
theorem cw_X7_X6_byteAt {R : Room} {s : State} {args : Array Value} (ht : ∀ w ∈ wsL_law, w.before args s = true) (hN : ∀ w ∈ NW, va_Nw w s) (hR : rm_X6_byteAt.frames + 1 ≤ R.frames ∧ 8 + (2 + 11) + rm_X6_byteAt.locals ≤ R.locals) : va_CN R s args RX7 28 yX6_byteAt "QuotedRiver" cX6_byteAt 2 (some .int) ((.code yX6_byteAt cX6_byteAt 2 (some .int)) :: wsL_law) rm_X6_byteAt 0 0 1 ∧ (Cond.instanceMethod yX6_byteAt).before args s = true ∧ (Cond.selects RX6 yX6_byteAt yX6_byteAt).before args s = true := ⟨va_cnB 1 ht (GL wq_9_16) rfl rfl rfl (hN _ nm_133) (ht _ wq_1_15) hd_X6_byteAt hR, ht _ wq_9_14, ht _ wq_9_15⟩
def p_X7_valueOf_L5 (fu : Nat) (o0 : Ob)  : Nat → Int32 → Int32 → Int32 → Option (Int32)
  | 0, _, _, _ => none
  | n + 1, v2, v3, v4 =>
    if v2 ≤ v4 then some v3 else (p_X6_byteAt fu o0 v4).bind fun r_21 => p_X7_valueOf_L5 fu o0  n v2 (if (((10 * v3) + r_21) - 48) < (1000 : Int32) then (((10 * v3) + r_21) - 48) else (1000 : Int32)) (v4 + 1)
def p_X7_valueOf (fu : Nat) (o0 : Ob) (v1 : Int32) (v2 : Int32) : Option (Int32) :=
  p_X7_valueOf_L5 fu o0 fu v2 0 v1
abbrev rm_X7_valueOf : Room := { frames := 1, cells := 0, slots := 0, locals := 21 }
set_option maxHeartbeats 4000000 in
set_option maxRecDepth 100000 in
theorem b_X7_valueOf {p : Program} {l : Launch} {e : Env} {s : State} {m : MethodId} {args : Array Value} {below : List Frame} {meth : Method} {c : Code} {ls : Array Slot} {D : va_G} {ct : Nat → ClassId} {G : GT} (a : Nat → Nat) (fu : Nat) (o0 : Ob) (v1 : Int32) (v2 : Int32) {r : Int32} (hx : p.tables.exec = Jvm.exec) (hb : c.code = cX7_valueOf) (hr : meth.sig.returnType = (some .int)) (hml : c.maxLocals = 5) (hown : s.vm.findClass RX7 = some m.cls) (htl : ∀ w ∈ wsL_law, w.before args s = true) (hlocks : meth.locks = false) (hK : va_K D vwCl (tyl ct) s) (hN : ∀ w ∈ NW, va_Nw w s) (hX : SX G s s.heap) (hP0 : va_P D vwCl (cs6 ct a o0) s.heap) (hf : p_X7_valueOf fu o0 v1 v2 = some r)  (hl : lv_has ls 5 [(0, .ref (a 0)), (1, .int v1), (2, .int v2)]) : W p l e rm_X7_valueOf s m args below meth c s.heap [] 0 0 (MQ below (Qro (some (.int r))) args s 0 0 (fun _ => False)) (F0 m 0 ls []) := by
  generalize hQQ : MQ below (Qro (some (.int r))) args s 0 0 (fun _ => False) = QQ
  have hP := hP0
  have hL5 : ∀ (n : Nat) (v2 : Int32) (v3 : Int32) (v4 : Int32), ∀ (ls : Array Slot), lv_has ls 5 [(0, .ref (a 0)), (2, .int v2), (3, .int v3), (4, .int v4)] → p_X7_valueOf_L5 fu o0  n v2 v3 v4 = some r → W p l e rm_X7_valueOf s m args below meth c s.heap [] 0 0 QQ (F0 m 5 ls []) := by
    intro  n
    induction n with
    | zero =>
      intro v2 v3 v4 ls hl hf 
      rw [p_X7_valueOf_L5] at hf
      cases hf
    | succ n ih =>
      intro v2 v3 v4 ls hl hf 
      rw [p_X7_valueOf_L5] at hf
      refine lv_iload hx hb dX7_valueOf_5 (lv_at hl 3 rfl) ?_
      refine lv_iload_n hx hb dX7_valueOf_7 rfl (lv_at hl 1 rfl) ?_
      refine lv_icmp_ge (tgt := 38) hx hb dX7_valueOf_8 (by decide) (fun c_8 => ?_) (fun c_8 => ?_)
      · rw [if_pos c_8] at hf
        refine lv_iload_n hx hb dX7_valueOf_38 rfl (lv_at hl 2 rfl) ?_
        rw [← hQQ]
        exact rf_i hx hb hr hlocks hf dX7_valueOf_39
      rw [if_neg c_8] at hf
      refine lv_sipush (v := 1000) hx hb dX7_valueOf_11 (by decide) ?_
      refine lv_bipush (v := 10) hx hb dX7_valueOf_14 (by decide) ?_
      refine lv_iload_n hx hb dX7_valueOf_16 rfl (lv_at hl 2 rfl) ?_
      refine lv_imul hx hb dX7_valueOf_17 ?_
      refine lv_aload_n hx hb dX7_valueOf_18 rfl (lv_at hl 0 rfl) ?_
      refine lv_iload hx hb dX7_valueOf_19 (lv_at hl 3 rfl) ?_
      obtain ⟨r_21, e_21, hf⟩ := ob_bind hf
      have hPX_21 : va_P D vwCl (cs6 ct a o0) s.heap := (hP.sub (ws' := cs6 ct a o0) [0, 1] rfl)
      refine ro_call1 (va_runVN (As := [.int v4]) (rest := [.int (10 * v3), .int 1000]) ⟨hx, hb, hml, hown, htl⟩ (c_X6_byteAt l D ct G a fu o0 v4 e_21) (cw_X7_X6_byteAt htl hN ⟨Nat.le_of_ble_eq_true rfl, Nat.le_of_ble_eq_true rfl⟩) ⟨Bx_blind, va_recv hK hPX_21 (ci := 6) (q0 := 0) rfl rfl, Bx_pre hPX_21 hK hN hX⟩ rfl rfl hl.1 rfl (lv_room (Nat.le_of_ble_eq_true rfl)) dX7_valueOf_21 ⟨Nat.zero_le _, Nat.zero_le _⟩) ?_
      refine lv_iadd hx hb dX7_valueOf_24 ?_
      refine lv_bipush (v := 48) hx hb dX7_valueOf_25 (by decide) ?_
      refine lv_isub hx hb dX7_valueOf_27 ?_
      refine va_mmin hx hb (hml.trans hl.1.symm) hown (htl _ wq_12_21) (htl _ wq_12_22) (htl _ wq_12_23) (htl _ wq_13_0) (Nat.le_of_ble_eq_true rfl) (Nat.le_of_ble_eq_true rfl) (Nat.zero_le _) (Nat.zero_le _) dX7_valueOf_28 ?_
      refine lv_istore_n (lv' := [(3, .int (if (((10 * v3) + r_21) - 48) < (1000 : Int32) then (((10 * v3) + r_21) - 48) else (1000 : Int32))), (0, .ref (a 0)), (2, .int v2), (4, .int v4)]) hx hb dX7_valueOf_31 rfl hl (by decide) rfl (fun ls hl => ?_)
      refine lv_iinc (v := (v4 + 1)) (lv' := [(4, .int (v4 + 1)), (3, .int (if (((10 * v3) + r_21) - 48) < (1000 : Int32) then (((10 * v3) + r_21) - 48) else (1000 : Int32))), (0, .ref (a 0)), (2, .int v2)]) hx hb dX7_valueOf_32 hl (k := 3) rfl rfl (by decide) rfl (fun ls hl => ?_)
      refine lv_goto (tgt := 5) hx hb dX7_valueOf_35 (by decide) ?_
      exact ih v2 (if (((10 * v3) + r_21) - 48) < (1000 : Int32) then (((10 * v3) + r_21) - 48) else (1000 : Int32)) (v4 + 1) _ (lv_sub hl [2, 3, 1, 0] rfl) hf 
  rw [p_X7_valueOf] at hf
  refine lv_iconst (v := 0) hx hb dX7_valueOf_0 (by decide) ?_
  refine lv_istore_n (lv' := [(3, .int 0), (0, .ref (a 0)), (1, .int v1), (2, .int v2)]) hx hb dX7_valueOf_1 rfl hl (by decide) rfl (fun ls hl => ?_)
  refine lv_iload_n hx hb dX7_valueOf_2 rfl (lv_at hl 2 rfl) ?_
  refine lv_istore (lv' := [(4, .int v1), (3, .int 0), (0, .ref (a 0)), (1, .int v1), (2, .int v2)]) hx hb dX7_valueOf_3 hl (by decide) rfl (fun ls hl => ?_)
  exact hL5 fu v2 0 v1 _ (lv_sub hl [2, 4, 1, 0] rfl) hf 
theorem c_X7_valueOf (l : Launch) (D : va_G) (ct : Nat → ClassId) (G : GT) (a : Nat → Nat) (fu : Nat) (o0 : Ob) (v1 : Int32) (v2 : Int32) {r : Int32} (hf : p_X7_valueOf fu o0 v1 v2 = some r)  : Met l yX7_valueOf (.code yX7_valueOf cX7_valueOf 5 (some .int) :: wsL_law) rm_X7_valueOf (va_Pc [.ref (a 0), .int v1, .int v2] (Bx D ct G (cs6 ct a o0))) (Qro (some (.int r))) 0 0 (fun _ => False) := by
  refine Met.ofW (cc := cX7_valueOf) (maxL := 5) (ret := (some .int)) (by decide) rfl ?_
  intro p e s m args below meth c s₁ B hml hv
  obtain ⟨rfl, hP, hK, hN, hX⟩ := hv
  have hts := atoms_spec (ws := .code yX7_valueOf cX7_valueOf 5 (some .int) :: wsL_law) B.pre
  rw [lg_entry_eq]
  exact b_X7_valueOf a fu o0 v1 v2 B.exec B.bytes B.returns hml (findClass_of_methodNamed B.named) (fun w h => hts w (List.mem_cons_of_mem _ h)) B.notSynchronized hK hN hX hP hf   (lv_entry [.ref (a 0), .int v1, .int v2] (n := 5) (Nat.le_of_ble_eq_true rfl))
def p_X9_copy_L2 (fu : Nat) (n0 : Nat) (f0 : Nat → Int32) (n1 : Nat)  : Nat → (Nat → Int32) → Int32 → Option ((Nat → Int32))
  | 0, _, _ => none
  | n + 1, f1z, v2 =>
    if (nI n0) ≤ v2 then some f1z else if (nI n1) ≤ v2 then some f1z else if inb v2 n0 = true then if inb v2 n1 = true then p_X9_copy_L2 fu n0 f0 n1  n (upd f1z v2.toNatClampNeg (f0 v2.toNatClampNeg)) (v2 + 1) else none else none
def p_X9_copy (fu : Nat) (n0 : Nat) (f0 : Nat → Int32) (n1 : Nat) (f1 : Nat → Int32) : Option ((Nat → Int32)) :=
  p_X9_copy_L2 fu n0 f0 n1 fu f1 0
abbrev rm_X9_copy : Room := { frames := 0, cells := 0, slots := 0, locals := 0 }
set_option maxHeartbeats 4000000 in
set_option maxRecDepth 100000 in
theorem b_X9_copy {p : Program} {l : Launch} {e : Env} {s : State} {m : MethodId} {args : Array Value} {below : List Frame} {meth : Method} {c : Code} {ls : Array Slot} {D : va_G} {ct : Nat → ClassId} {G : GT} (h0 : Nat) (h1 : Nat) (fu : Nat) (n0 : Nat) (f0 : Nat → Int32) (n1 : Nat) (f1 : Nat → Int32) {r : (Nat → Int32)} (hx : p.tables.exec = Jvm.exec) (hb : c.code = cX9_copy) (hr : meth.sig.returnType = none) (hml : c.maxLocals = 3) (hown : s.vm.findClass RX9 = some m.cls) (htl : ∀ w ∈ wsL_law, w.before args s = true) (hlocks : meth.locks = false) (hK : va_K D vwCl (tyl ct) s) (hN : ∀ w ∈ NW, va_Nw w s) (hX : SX G s s.heap) (hP0 : va_P D vwCl ([(h1, .inl (ct 0, n1, .inl f1))] ++ ([(h0, .inl (ct 0, n0, .inl f0))])) s.heap) (hf : p_X9_copy fu n0 f0 n1 f1 = some r) (hD0 : va_D (GE G) ([(h1, .inl (ct 0, n1, .inl f1))] ++ ([(h0, .inl (ct 0, n0, .inl f0))])))  (hl : lv_has ls 3 [(0, .ref h0), (1, .ref h1)]) : W p l e rm_X9_copy s m args below meth c s.heap [] 0 0 (MQ below (Qwr none (fun H => va_P D vwCl ([(h1, .inl (ct 0, n1, .inl r))]) H) (wA ([(h1, .inl (ct 0, n1, .inl f1))]))) args s 0 0 (wA ([(h1, .inl (ct 0, n1, .inl f1))]))) (F0 m 0 ls []) := by
  generalize hQQ : MQ below (Qwr none (fun H => va_P D vwCl ([(h1, .inl (ct 0, n1, .inl r))]) H) (wA ([(h1, .inl (ct 0, n1, .inl f1))]))) args s 0 0 (wA ([(h1, .inl (ct 0, n1, .inl f1))])) = QQ
  have hDx : ∀ (f1y : Nat → Int32), va_D (GE G) ([(h1, .inl (ct 0, n1, .inl f1y))] ++ ([(h0, .inl (ct 0, n0, .inl f0))])) := fun f1y => D_cr hD0 rfl
  have hDW : ∀ (f1y : Nat → Int32), va_D (wA ([(h1, .inl (ct 0, n1, .inl f1))])) ([(h1, .inl (ct 0, n1, .inl f1y))]) := fun f1y => D_cr (D_left hD0) rfl
  have hGE : ∀ q, wA ([(h1, .inl (ct 0, n1, .inl f1))]) q → GE G q := wA_GEl hD0
  have hP : va_P D vwCl ([(h1, .inl (ct 0, n1, .inl f1))]) s.heap := P_left hP0
  have hRR : ∀ (H : Heap) (locs : List Loc), va_S (wA ([(h1, .inl (ct 0, n1, .inl f1))])) s.heap H locs → va_P D vwCl ([(h0, .inl (ct 0, n0, .inl f0))]) H := fun H locs hS => P_rest hD0 (P_right hP0) hS
  have hS : va_S (wA ([(h1, .inl (ct 0, n1, .inl f1))])) s.heap s.heap [] := va_S.rf
  have hL2 : ∀ (n : Nat) (f1z : Nat → Int32) (v2 : Int32), ∀ (H : Heap) (locs : List Loc) (ls : Array Slot), va_P D vwCl ([(h1, .inl (ct 0, n1, .inl f1z))]) H → va_S (wA ([(h1, .inl (ct 0, n1, .inl f1))])) s.heap H locs → lv_has ls 3 [(0, .ref h0), (1, .ref h1), (2, .int v2)] → p_X9_copy_L2 fu n0 f0 n1  n f1z v2 = some r → W p l e rm_X9_copy s m args below meth c H locs 0 0 QQ (F0 m 2 ls []) := by
    intro  n
    induction n with
    | zero =>
      intro f1z v2 H locs ls hP hS hl hf 
      rw [p_X9_copy_L2] at hf
      cases hf
    | succ n ih =>
      intro f1z v2 H locs ls hP hS hl hf 
      rw [p_X9_copy_L2] at hf
      refine lv_iload_n hx hb dX9_copy_2 rfl (lv_at hl 2 rfl) ?_
      refine lv_aload_n hx hb dX9_copy_3 rfl (lv_at hl 0 rfl) ?_
      refine va_alen (D := D) (tys := tyl ct) (v := (nI n0)) hx hb hK (hRR _ _ hS) 0 0 rfl rfl rfl dX9_copy_4 ?_
      refine lv_icmp_ge (tgt := 26) hx hb dX9_copy_5 (by decide) (fun c_5 => ?_) (fun c_5 => ?_)
      · rw [if_pos c_5] at hf
        rw [← hQQ]
        cases hf
        exact rw_v hx hb hr hlocks hP hS dX9_copy_26
      rw [if_neg c_5] at hf
      refine lv_iload_n hx hb dX9_copy_8 rfl (lv_at hl 2 rfl) ?_
      refine lv_aload_n hx hb dX9_copy_9 rfl (lv_at hl 1 rfl) ?_
      refine va_alen (D := D) (tys := tyl ct) (v := (nI n1)) hx hb hK hP 0 0 rfl rfl rfl dX9_copy_10 ?_
      refine lv_icmp_ge (tgt := 26) hx hb dX9_copy_11 (by decide) (fun c_11 => ?_) (fun c_11 => ?_)
      · rw [if_pos c_11] at hf
        rw [← hQQ]
        cases hf
        exact rw_v hx hb hr hlocks hP hS dX9_copy_26
      rw [if_neg c_11] at hf
      refine lv_aload_n hx hb dX9_copy_14 rfl (lv_at hl 1 rfl) ?_
      refine lv_iload_n hx hb dX9_copy_15 rfl (lv_at hl 2 rfl) ?_
      refine lv_aload_n hx hb dX9_copy_16 rfl (lv_at hl 0 rfl) ?_
      refine lv_iload_n hx hb dX9_copy_17 rfl (lv_at hl 2 rfl) ?_
      obtain ⟨hi_18, hf⟩ := ob_in hf
      refine va_iald (D := D) (tys := tyl ct) hx hb hK (hRR _ _ hS) 0 0 rfl rfl hi_18 dX9_copy_18 ?_
      obtain ⟨hi_19, hf⟩ := ob_in hf
      refine va_iast (D := D) (tys := tyl ct) hx hb hK hP (hDW f1z) hS 0 0 rfl rfl hi_19 dX9_copy_19 (fun H_19 locs_19 hP _ hS => ?_)
      have hP : va_P D vwCl ([(h1, .inl (ct 0, n1, .inl (upd f1z v2.toNatClampNeg (f0 v2.toNatClampNeg))))]) H_19 := hP
      refine lv_iinc (v := (v2 + 1)) (lv' := [(2, .int (v2 + 1)), (0, .ref h0), (1, .ref h1)]) hx hb dX9_copy_20 hl (k := 2) rfl rfl (by decide) rfl (fun ls hl => ?_)
      refine lv_goto (tgt := 2) hx hb dX9_copy_23 (by decide) ?_
      exact ih (upd f1z v2.toNatClampNeg (f0 v2.toNatClampNeg)) (v2 + 1) _ _ _ hP hS (lv_sub hl [1, 2, 0] rfl) hf 
  rw [p_X9_copy] at hf
  refine lv_iconst (v := 0) hx hb dX9_copy_0 (by decide) ?_
  refine lv_istore_n (lv' := [(2, .int 0), (0, .ref h0), (1, .ref h1)]) hx hb dX9_copy_1 rfl hl (by decide) rfl (fun ls hl => ?_)
  exact hL2 fu f1 0 _ _ _ hP hS (lv_sub hl [1, 2, 0] rfl) hf 
theorem c_X9_copy (l : Launch) (D : va_G) (ct : Nat → ClassId) (G : GT) (h0 : Nat) (h1 : Nat) (fu : Nat) (n0 : Nat) (f0 : Nat → Int32) (n1 : Nat) (f1 : Nat → Int32) {r : (Nat → Int32)} (hf : p_X9_copy fu n0 f0 n1 f1 = some r)  (hD0 : va_D (GE G) ([(h1, .inl (ct 0, n1, .inl f1))] ++ ([(h0, .inl (ct 0, n0, .inl f0))]))) : Met l yX9_copy (.code yX9_copy cX9_copy 3 none :: wsL_law) rm_X9_copy (va_Pc [.ref h0, .ref h1] (Bx D ct G ([(h1, .inl (ct 0, n1, .inl f1))] ++ ([(h0, .inl (ct 0, n0, .inl f0))])))) (Qwr none (fun H => va_P D vwCl ([(h1, .inl (ct 0, n1, .inl r))]) H) (wA ([(h1, .inl (ct 0, n1, .inl f1))]))) 0 0 (wA ([(h1, .inl (ct 0, n1, .inl f1))])) := by
  refine Met.ofW (cc := cX9_copy) (maxL := 3) (ret := none) (by decide) rfl ?_
  intro p e s m args below meth c s₁ B hml hv
  obtain ⟨rfl, hP, hK, hN, hX⟩ := hv
  have hts := atoms_spec (ws := .code yX9_copy cX9_copy 3 none :: wsL_law) B.pre
  rw [lg_entry_eq]
  exact b_X9_copy h0 h1 fu n0 f0 n1 f1 B.exec B.bytes B.returns hml (findClass_of_methodNamed B.named) (fun w h => hts w (List.mem_cons_of_mem _ h)) B.notSynchronized hK hN hX hP hf hD0  (lv_entry [.ref h0, .ref h1] (n := 3) (Nat.le_of_ble_eq_true rfl))
theorem hd_X9_copy : yX9_copy.cls ≠ "java/lang/invoke/MethodHandle" ∧ yX9_copy.cls ≠ "java/lang/invoke/VarHandle" ∧ (parseMethodDescriptor yX9_copy.desc).map (fun d => d.parameters.length) = some 2 := by decide +kernel
theorem cw_X2_X9_copy {R : Room} {s : State} {args : Array Value} (ht : ∀ w ∈ wsL_law, w.before args s = true) (hN : ∀ w ∈ NW, va_Nw w s) (hR : rm_X9_copy.frames + 1 ≤ R.frames ∧ 8 + (3 + 11) + rm_X9_copy.locals ≤ R.locals) : va_CN R s args RX2 74 yX9_copy "QuotedRiver" cX9_copy 3 none ((.code yX9_copy cX9_copy 3 none) :: wsL_law) rm_X9_copy 0 0 2 ∧ (Cond.static yX9_copy).before args s = true ∧ True := ⟨va_cnB 2 ht (GL wq_15_2) rfl rfl rfl (hN _ nm_120) (ht _ wq_1_2) hd_X9_copy hR, ht _ wq_15_1, trivial⟩
def p_X2_become (fu : Nat) (o : Ob) (o1 : Ob) : Option (Ob) :=
  if (o1.1 0 0) = 0 ∨ (o1.1 0 0) = 1 then (p_X9_copy fu 10 (o1.1 5) 10 ((oI (oI (oI (oI (oI (oI (oI (oI o 0 (o1.1 0 0)) 1 (o1.1 1 0)) 2 (o1.1 2 0)) 3 (o1.1 3 0)) 4 (o1.1 4 0)) 8 (o1.1 8 0)) 13 (o1.1 13 0)) 16 (o1.1 16 0)).1 5)).bind fun r_72 => (p_X9_copy fu 10 (o1.1 6) 10 ((oA (oI (oI (oI (oI (oI (oI (oI (oI o 0 (o1.1 0 0)) 1 (o1.1 1 0)) 2 (o1.1 2 0)) 3 (o1.1 3 0)) 4 (o1.1 4 0)) 8 (o1.1 8 0)) 13 (o1.1 13 0)) 16 (o1.1 16 0)) 5 r_72).1 6)).bind fun r_83 => (p_X9_copy fu 10 (o1.1 7) 10 ((oA (oA (oI (oI (oI (oI (oI (oI (oI (oI o 0 (o1.1 0 0)) 1 (o1.1 1 0)) 2 (o1.1 2 0)) 3 (o1.1 3 0)) 4 (o1.1 4 0)) 8 (o1.1 8 0)) 13 (o1.1 13 0)) 16 (o1.1 16 0)) 5 r_72) 6 r_83).1 7)).bind fun r_94 => (p_X9_copy fu 5 (o1.1 9) 5 ((oA (oA (oA (oI (oI (oI (oI (oI (oI (oI (oI o 0 (o1.1 0 0)) 1 (o1.1 1 0)) 2 (o1.1 2 0)) 3 (o1.1 3 0)) 4 (o1.1 4 0)) 8 (o1.1 8 0)) 13 (o1.1 13 0)) 16 (o1.1 16 0)) 5 r_72) 6 r_83) 7 r_94).1 9)).bind fun r_105 => (p_X9_copy fu 5 (o1.1 10) 5 ((oA (oA (oA (oA (oI (oI (oI (oI (oI (oI (oI (oI o 0 (o1.1 0 0)) 1 (o1.1 1 0)) 2 (o1.1 2 0)) 3 (o1.1 3 0)) 4 (o1.1 4 0)) 8 (o1.1 8 0)) 13 (o1.1 13 0)) 16 (o1.1 16 0)) 5 r_72) 6 r_83) 7 r_94) 9 r_105).1 10)).bind fun r_116 => (p_X9_copy fu 5 (o1.1 11) 5 ((oA (oA (oA (oA (oA (oI (oI (oI (oI (oI (oI (oI (oI o 0 (o1.1 0 0)) 1 (o1.1 1 0)) 2 (o1.1 2 0)) 3 (o1.1 3 0)) 4 (o1.1 4 0)) 8 (o1.1 8 0)) 13 (o1.1 13 0)) 16 (o1.1 16 0)) 5 r_72) 6 r_83) 7 r_94) 9 r_105) 10 r_116).1 11)).bind fun r_127 => (p_X9_copy fu 5 (o1.1 12) 5 ((oA (oA (oA (oA (oA (oA (oI (oI (oI (oI (oI (oI (oI (oI o 0 (o1.1 0 0)) 1 (o1.1 1 0)) 2 (o1.1 2 0)) 3 (o1.1 3 0)) 4 (o1.1 4 0)) 8 (o1.1 8 0)) 13 (o1.1 13 0)) 16 (o1.1 16 0)) 5 r_72) 6 r_83) 7 r_94) 9 r_105) 10 r_116) 11 r_127).1 12)).bind fun r_138 => (p_X9_copy fu 5 (o1.1 14) 5 ((oA (oA (oA (oA (oA (oA (oA (oI (oI (oI (oI (oI (oI (oI (oI o 0 (o1.1 0 0)) 1 (o1.1 1 0)) 2 (o1.1 2 0)) 3 (o1.1 3 0)) 4 (o1.1 4 0)) 8 (o1.1 8 0)) 13 (o1.1 13 0)) 16 (o1.1 16 0)) 5 r_72) 6 r_83) 7 r_94) 9 r_105) 10 r_116) 11 r_127) 12 r_138).1 14)).bind fun r_149 => (p_X9_copy fu 5 (o1.1 15) 5 ((oA (oA (oA (oA (oA (oA (oA (oA (oI (oI (oI (oI (oI (oI (oI (oI o 0 (o1.1 0 0)) 1 (o1.1 1 0)) 2 (o1.1 2 0)) 3 (o1.1 3 0)) 4 (o1.1 4 0)) 8 (o1.1 8 0)) 13 (o1.1 13 0)) 16 (o1.1 16 0)) 5 r_72) 6 r_83) 7 r_94) 9 r_105) 10 r_116) 11 r_127) 12 r_138) 14 r_149).1 15)).bind fun r_160 => (p_X9_copy fu 30 (o1.1 17) 30 ((oA (oA (oA (oA (oA (oA (oA (oA (oA (oI (oI (oI (oI (oI (oI (oI (oI o 0 (o1.1 0 0)) 1 (o1.1 1 0)) 2 (o1.1 2 0)) 3 (o1.1 3 0)) 4 (o1.1 4 0)) 8 (o1.1 8 0)) 13 (o1.1 13 0)) 16 (o1.1 16 0)) 5 r_72) 6 r_83) 7 r_94) 9 r_105) 10 r_116) 11 r_127) 12 r_138) 14 r_149) 15 r_160).1 17)).bind fun r_171 => (p_X9_copy fu 30 (o1.1 18) 30 ((oA (oA (oA (oA (oA (oA (oA (oA (oA (oA (oI (oI (oI (oI (oI (oI (oI (oI o 0 (o1.1 0 0)) 1 (o1.1 1 0)) 2 (o1.1 2 0)) 3 (o1.1 3 0)) 4 (o1.1 4 0)) 8 (o1.1 8 0)) 13 (o1.1 13 0)) 16 (o1.1 16 0)) 5 r_72) 6 r_83) 7 r_94) 9 r_105) 10 r_116) 11 r_127) 12 r_138) 14 r_149) 15 r_160) 17 r_171).1 18)).bind fun r_182 => (p_X9_copy fu 30 (o1.1 19) 30 ((oA (oA (oA (oA (oA (oA (oA (oA (oA (oA (oA (oI (oI (oI (oI (oI (oI (oI (oI o 0 (o1.1 0 0)) 1 (o1.1 1 0)) 2 (o1.1 2 0)) 3 (o1.1 3 0)) 4 (o1.1 4 0)) 8 (o1.1 8 0)) 13 (o1.1 13 0)) 16 (o1.1 16 0)) 5 r_72) 6 r_83) 7 r_94) 9 r_105) 10 r_116) 11 r_127) 12 r_138) 14 r_149) 15 r_160) 17 r_171) 18 r_182).1 19)).bind fun r_193 => some (oA (oA (oA (oA (oA (oA (oA (oA (oA (oA (oA (oA (oI (oI (oI (oI (oI (oI (oI (oI o 0 (o1.1 0 0)) 1 (o1.1 1 0)) 2 (o1.1 2 0)) 3 (o1.1 3 0)) 4 (o1.1 4 0)) 8 (o1.1 8 0)) 13 (o1.1 13 0)) 16 (o1.1 16 0)) 5 r_72) 6 r_83) 7 r_94) 9 r_105) 10 r_116) 11 r_127) 12 r_138) 14 r_149) 15 r_160) 17 r_171) 18 r_182) 19 r_193) else none
abbrev rm_X2_become : Room := { frames := 1, cells := 0, slots := 0, locals := 22 }
set_option maxHeartbeats 4000000 in
set_option maxRecDepth 100000 in
theorem b_X2_become {p : Program} {l : Launch} {e : Env} {s : State} {m : MethodId} {args : Array Value} {below : List Frame} {meth : Method} {c : Code} {ls : Array Slot} {D : va_G} {ct : Nat → ClassId} {G : GT} (a : Nat → Nat) (ab : Nat → Nat) (fu : Nat) (o : Ob) (o1 : Ob) {r : Ob} (hx : p.tables.exec = Jvm.exec) (hb : c.code = cX2_become) (hr : meth.sig.returnType = none) (hml : c.maxLocals = 2) (hown : s.vm.findClass RX2 = some m.cls) (htl : ∀ w ∈ wsL_law, w.before args s = true) (hlocks : meth.locks = false) (hK : va_K D vwCl (tyl ct) s) (hN : ∀ w ∈ NW, va_Nw w s) (hX : SX G s s.heap) (hP0 : va_P D vwCl (cs2 ct a o ++ (cs2 ct ab o1)) s.heap) (hf : p_X2_become fu o o1 = some r) (hD0 : va_D (GE G) (cs2 ct a o ++ (cs2 ct ab o1)))  (hl : lv_has ls 2 [(0, .ref (a 0)), (1, .ref (ab 0))]) : W p l e rm_X2_become s m args below meth c s.heap [] 0 0 (MQ below (Qwr none (fun H => va_P D vwCl (cs2 ct a r) H) (wA (cs2 ct a o))) args s 0 0 (wA (cs2 ct a o))) (F0 m 0 ls []) := by
  generalize hQQ : MQ below (Qwr none (fun H => va_P D vwCl (cs2 ct a r) H) (wA (cs2 ct a o))) args s 0 0 (wA (cs2 ct a o)) = QQ
  have hDx : ∀ (oy : Ob), va_D (GE G) (cs2 ct a oy ++ (cs2 ct ab o1)) := fun oy => D_cr hD0 rfl
  have hDW : ∀ (oy : Ob), va_D (wA (cs2 ct a o)) (cs2 ct a oy) := fun oy => D_cr (D_left hD0) rfl
  have hGE : ∀ q, wA (cs2 ct a o) q → GE G q := wA_GEl hD0
  have hP : va_P D vwCl (cs2 ct a o) s.heap := P_left hP0
  have hRR : ∀ (H : Heap) (locs : List Loc), va_S (wA (cs2 ct a o)) s.heap H locs → va_P D vwCl (cs2 ct ab o1) H := fun H locs hS => P_rest hD0 (P_right hP0) hS
  have hS : va_S (wA (cs2 ct a o)) s.heap s.heap [] := va_S.rf
  rw [p_X2_become] at hf
  refine lv_aload_n hx hb dX2_become_0 rfl (lv_at hl 0 rfl) ?_
  refine lv_aload_n hx hb dX2_become_1 rfl (lv_at hl 1 rfl) ?_
  refine va_get (D := D) (ci := 2) (v := .int (o1.1 0 0)) (C := RX2) (T := TX2) (N := 20) hx hb htl inlX2 hown hK (hRR _ _ hS) 0 rfl rfl 0 (by decide) (htl _ wq_4_8) (fun _ h9 => h9) rfl dX2_become_2 ?_
  obtain ⟨hz_5, hf⟩ := ob_z hf
  refine va_put (D := D) (ci := 2) (v := .int (o1.1 0 0)) (ty := .boolean) (C := RX2) (T := TX2) (N := 20) hx hb htl inlX2 tyX2 tyX2_ok nmX2 hown hK hP (hDW o) hS 0 rfl rfl 0 (by decide) (htl _ wq_4_8) (fun _ h9 => h9) rfl (tyX2_ok 0 (by decide)) hz_5.1 hz_5.2 (Nat.le_of_ble_eq_true rfl) dX2_become_5 (fun H_5 locs_5 hP _ hS => ?_)
  have hP : va_P D vwCl (cs2 ct a (oI o 0 (o1.1 0 0))) H_5 := st2_0 hP
  refine lv_aload_n hx hb dX2_become_8 rfl (lv_at hl 0 rfl) ?_
  refine lv_aload_n hx hb dX2_become_9 rfl (lv_at hl 1 rfl) ?_
  refine va_get (D := D) (ci := 2) (v := .int (o1.1 1 0)) (C := RX2) (T := TX2) (N := 20) hx hb htl inlX2 hown hK (hRR _ _ hS) 0 rfl rfl 1 (by decide) (htl _ wq_4_9) (fun _ h9 => h9) rfl dX2_become_10 ?_
  refine va_put (D := D) (ci := 2) (v := .int (o1.1 1 0)) (ty := .int) (C := RX2) (T := TX2) (N := 20) hx hb htl inlX2 tyX2 tyX2_ok nmX2 hown hK hP (hDW (oI o 0 (o1.1 0 0))) hS 0 rfl rfl 1 (by decide) (htl _ wq_4_9) (fun _ h9 => h9) rfl (tyX2_ok 1 (by decide)) rfl rfl (Nat.le_of_ble_eq_true rfl) dX2_become_13 (fun H_13 locs_13 hP _ hS => ?_)
  have hP : va_P D vwCl (cs2 ct a (oI (oI o 0 (o1.1 0 0)) 1 (o1.1 1 0))) H_13 := st2_1 hP
  refine lv_aload_n hx hb dX2_become_16 rfl (lv_at hl 0 rfl) ?_
  refine lv_aload_n hx hb dX2_become_17 rfl (lv_at hl 1 rfl) ?_
  refine va_get (D := D) (ci := 2) (v := .int (o1.1 2 0)) (C := RX2) (T := TX2) (N := 20) hx hb htl inlX2 hown hK (hRR _ _ hS) 0 rfl rfl 2 (by decide) (htl _ wq_4_10) (fun _ h9 => h9) rfl dX2_become_18 ?_
  refine va_put (D := D) (ci := 2) (v := .int (o1.1 2 0)) (ty := .int) (C := RX2) (T := TX2) (N := 20) hx hb htl inlX2 tyX2 tyX2_ok nmX2 hown hK hP (hDW (oI (oI o 0 (o1.1 0 0)) 1 (o1.1 1 0))) hS 0 rfl rfl 2 (by decide) (htl _ wq_4_10) (fun _ h9 => h9) rfl (tyX2_ok 2 (by decide)) rfl rfl (Nat.le_of_ble_eq_true rfl) dX2_become_21 (fun H_21 locs_21 hP _ hS => ?_)
  have hP : va_P D vwCl (cs2 ct a (oI (oI (oI o 0 (o1.1 0 0)) 1 (o1.1 1 0)) 2 (o1.1 2 0))) H_21 := st2_2 hP
  refine lv_aload_n hx hb dX2_become_24 rfl (lv_at hl 0 rfl) ?_
  refine lv_aload_n hx hb dX2_become_25 rfl (lv_at hl 1 rfl) ?_
  refine va_get (D := D) (ci := 2) (v := .int (o1.1 3 0)) (C := RX2) (T := TX2) (N := 20) hx hb htl inlX2 hown hK (hRR _ _ hS) 0 rfl rfl 3 (by decide) (htl _ wq_4_11) (fun _ h9 => h9) rfl dX2_become_26 ?_
  refine va_put (D := D) (ci := 2) (v := .int (o1.1 3 0)) (ty := .int) (C := RX2) (T := TX2) (N := 20) hx hb htl inlX2 tyX2 tyX2_ok nmX2 hown hK hP (hDW (oI (oI (oI o 0 (o1.1 0 0)) 1 (o1.1 1 0)) 2 (o1.1 2 0))) hS 0 rfl rfl 3 (by decide) (htl _ wq_4_11) (fun _ h9 => h9) rfl (tyX2_ok 3 (by decide)) rfl rfl (Nat.le_of_ble_eq_true rfl) dX2_become_29 (fun H_29 locs_29 hP _ hS => ?_)
  have hP : va_P D vwCl (cs2 ct a (oI (oI (oI (oI o 0 (o1.1 0 0)) 1 (o1.1 1 0)) 2 (o1.1 2 0)) 3 (o1.1 3 0))) H_29 := st2_3 hP
  refine lv_aload_n hx hb dX2_become_32 rfl (lv_at hl 0 rfl) ?_
  refine lv_aload_n hx hb dX2_become_33 rfl (lv_at hl 1 rfl) ?_
  refine va_get (D := D) (ci := 2) (v := .int (o1.1 4 0)) (C := RX2) (T := TX2) (N := 20) hx hb htl inlX2 hown hK (hRR _ _ hS) 0 rfl rfl 4 (by decide) (htl _ wq_4_12) (fun _ h9 => h9) rfl dX2_become_34 ?_
  refine va_put (D := D) (ci := 2) (v := .int (o1.1 4 0)) (ty := .int) (C := RX2) (T := TX2) (N := 20) hx hb htl inlX2 tyX2 tyX2_ok nmX2 hown hK hP (hDW (oI (oI (oI (oI o 0 (o1.1 0 0)) 1 (o1.1 1 0)) 2 (o1.1 2 0)) 3 (o1.1 3 0))) hS 0 rfl rfl 4 (by decide) (htl _ wq_4_12) (fun _ h9 => h9) rfl (tyX2_ok 4 (by decide)) rfl rfl (Nat.le_of_ble_eq_true rfl) dX2_become_37 (fun H_37 locs_37 hP _ hS => ?_)
  have hP : va_P D vwCl (cs2 ct a (oI (oI (oI (oI (oI o 0 (o1.1 0 0)) 1 (o1.1 1 0)) 2 (o1.1 2 0)) 3 (o1.1 3 0)) 4 (o1.1 4 0))) H_37 := st2_4 hP
  refine lv_aload_n hx hb dX2_become_40 rfl (lv_at hl 0 rfl) ?_
  refine lv_aload_n hx hb dX2_become_41 rfl (lv_at hl 1 rfl) ?_
  refine va_get (D := D) (ci := 2) (v := .int (o1.1 8 0)) (C := RX2) (T := TX2) (N := 20) hx hb htl inlX2 hown hK (hRR _ _ hS) 0 rfl rfl 8 (by decide) (htl _ wq_4_16) (fun _ h9 => h9) rfl dX2_become_42 ?_
  refine va_put (D := D) (ci := 2) (v := .int (o1.1 8 0)) (ty := .int) (C := RX2) (T := TX2) (N := 20) hx hb htl inlX2 tyX2 tyX2_ok nmX2 hown hK hP (hDW (oI (oI (oI (oI (oI o 0 (o1.1 0 0)) 1 (o1.1 1 0)) 2 (o1.1 2 0)) 3 (o1.1 3 0)) 4 (o1.1 4 0))) hS 0 rfl rfl 8 (by decide) (htl _ wq_4_16) (fun _ h9 => h9) rfl (tyX2_ok 8 (by decide)) rfl rfl (Nat.le_of_ble_eq_true rfl) dX2_become_45 (fun H_45 locs_45 hP _ hS => ?_)
  have hP : va_P D vwCl (cs2 ct a (oI (oI (oI (oI (oI (oI o 0 (o1.1 0 0)) 1 (o1.1 1 0)) 2 (o1.1 2 0)) 3 (o1.1 3 0)) 4 (o1.1 4 0)) 8 (o1.1 8 0))) H_45 := st2_8 hP
  refine lv_aload_n hx hb dX2_become_48 rfl (lv_at hl 0 rfl) ?_
  refine lv_aload_n hx hb dX2_become_49 rfl (lv_at hl 1 rfl) ?_
  refine va_get (D := D) (ci := 2) (v := .int (o1.1 13 0)) (C := RX2) (T := TX2) (N := 20) hx hb htl inlX2 hown hK (hRR _ _ hS) 0 rfl rfl 13 (by decide) (htl _ wq_4_21) (fun _ h9 => h9) rfl dX2_become_50 ?_
  refine va_put (D := D) (ci := 2) (v := .int (o1.1 13 0)) (ty := .int) (C := RX2) (T := TX2) (N := 20) hx hb htl inlX2 tyX2 tyX2_ok nmX2 hown hK hP (hDW (oI (oI (oI (oI (oI (oI o 0 (o1.1 0 0)) 1 (o1.1 1 0)) 2 (o1.1 2 0)) 3 (o1.1 3 0)) 4 (o1.1 4 0)) 8 (o1.1 8 0))) hS 0 rfl rfl 13 (by decide) (htl _ wq_4_21) (fun _ h9 => h9) rfl (tyX2_ok 13 (by decide)) rfl rfl (Nat.le_of_ble_eq_true rfl) dX2_become_53 (fun H_53 locs_53 hP _ hS => ?_)
  have hP : va_P D vwCl (cs2 ct a (oI (oI (oI (oI (oI (oI (oI o 0 (o1.1 0 0)) 1 (o1.1 1 0)) 2 (o1.1 2 0)) 3 (o1.1 3 0)) 4 (o1.1 4 0)) 8 (o1.1 8 0)) 13 (o1.1 13 0))) H_53 := st2_13 hP
  refine lv_aload_n hx hb dX2_become_56 rfl (lv_at hl 0 rfl) ?_
  refine lv_aload_n hx hb dX2_become_57 rfl (lv_at hl 1 rfl) ?_
  refine va_get (D := D) (ci := 2) (v := .int (o1.1 16 0)) (C := RX2) (T := TX2) (N := 20) hx hb htl inlX2 hown hK (hRR _ _ hS) 0 rfl rfl 16 (by decide) (htl _ wq_5_0) (fun _ h9 => h9) rfl dX2_become_58 ?_
  refine va_put (D := D) (ci := 2) (v := .int (o1.1 16 0)) (ty := .int) (C := RX2) (T := TX2) (N := 20) hx hb htl inlX2 tyX2 tyX2_ok nmX2 hown hK hP (hDW (oI (oI (oI (oI (oI (oI (oI o 0 (o1.1 0 0)) 1 (o1.1 1 0)) 2 (o1.1 2 0)) 3 (o1.1 3 0)) 4 (o1.1 4 0)) 8 (o1.1 8 0)) 13 (o1.1 13 0))) hS 0 rfl rfl 16 (by decide) (htl _ wq_5_0) (fun _ h9 => h9) rfl (tyX2_ok 16 (by decide)) rfl rfl (Nat.le_of_ble_eq_true rfl) dX2_become_61 (fun H_61 locs_61 hP _ hS => ?_)
  have hP : va_P D vwCl (cs2 ct a (oI (oI (oI (oI (oI (oI (oI (oI o 0 (o1.1 0 0)) 1 (o1.1 1 0)) 2 (o1.1 2 0)) 3 (o1.1 3 0)) 4 (o1.1 4 0)) 8 (o1.1 8 0)) 13 (o1.1 13 0)) 16 (o1.1 16 0))) H_61 := st2_16 hP
  refine lv_aload_n hx hb dX2_become_64 rfl (lv_at hl 1 rfl) ?_
  refine va_get (D := D) (ci := 2) (v := .ref (ab 1)) (C := RX2) (T := TX2) (N := 20) hx hb htl inlX2 hown hK (hRR _ _ hS) 0 rfl rfl 5 (by decide) (htl _ wq_4_13) (fun _ h9 => h9) rfl dX2_become_65 ?_
  refine lv_aload_n hx hb dX2_become_68 rfl (lv_at hl 0 rfl) ?_
  refine va_get (D := D) (ci := 2) (v := .ref (a 1)) (C := RX2) (T := TX2) (N := 20) hx hb htl inlX2 hown hK hP 0 rfl rfl 5 (by decide) (htl _ wq_4_13) (fun _ h9 => h9) rfl dX2_become_69 ?_
  obtain ⟨r_72, e_72, hf⟩ := ob_bind hf
  have hPX_72 : va_P D vwCl ([((a 1), .inl (ct 0, 10, .inl ((oI (oI (oI (oI (oI (oI (oI (oI o 0 (o1.1 0 0)) 1 (o1.1 1 0)) 2 (o1.1 2 0)) 3 (o1.1 3 0)) 4 (o1.1 4 0)) 8 (o1.1 8 0)) 13 (o1.1 13 0)) 16 (o1.1 16 0)).1 5)))] ++ ([((ab 1), .inl (ct 0, 10, .inl (o1.1 5)))])) H_61 := (va_P.app (P_one hP 1 rfl) (P_one (hRR _ _ hS) 1 rfl))
  refine wr_call0 (va_runSN (As := [.ref (ab 1), .ref (a 1)]) (rest := []) ⟨hx, hb, hml, hown, htl⟩ (c_X9_copy l D ct G (ab 1) (a 1) fu 10 (o1.1 5) 10 ((oI (oI (oI (oI (oI (oI (oI (oI o 0 (o1.1 0 0)) 1 (o1.1 1 0)) 2 (o1.1 2 0)) 3 (o1.1 3 0)) 4 (o1.1 4 0)) 8 (o1.1 8 0)) 13 (o1.1 13 0)) 16 (o1.1 16 0)).1 5) e_72 ((hDx (oI (oI (oI (oI (oI (oI (oI (oI o 0 (o1.1 0 0)) 1 (o1.1 1 0)) 2 (o1.1 2 0)) 3 (o1.1 3 0)) 4 (o1.1 4 0)) 8 (o1.1 8 0)) 13 (o1.1 13 0)) 16 (o1.1 16 0))).sub (ws' := [((a 1), .inl (ct 0, 10, .inl ((oI (oI (oI (oI (oI (oI (oI (oI o 0 (o1.1 0 0)) 1 (o1.1 1 0)) 2 (o1.1 2 0)) 3 (o1.1 3 0)) 4 (o1.1 4 0)) 8 (o1.1 8 0)) 13 (o1.1 13 0)) 16 (o1.1 16 0)).1 5)))] ++ ([((ab 1), .inl (ct 0, 10, .inl (o1.1 5)))])) [1, 14] (by decide) rfl)) (cw_X2_X9_copy htl hN ⟨Nat.le_of_ble_eq_true rfl, Nat.le_of_ble_eq_true rfl⟩) ⟨Bx_blind, Bx_pre hPX_72 hK hN (hX.stay hS hGE)⟩ rfl rfl hl.1 rfl (lv_room (Nat.le_of_ble_eq_true rfl)) dX2_become_72 ⟨Nat.zero_le _, Nat.zero_le _⟩) hS (fun q h => wA_cg (w1 := cs2 ct a (oI (oI (oI (oI (oI (oI (oI (oI o 0 (o1.1 0 0)) 1 (o1.1 1 0)) 2 (o1.1 2 0)) 3 (o1.1 3 0)) 4 (o1.1 4 0)) 8 (o1.1 8 0)) 13 (o1.1 13 0)) 16 (o1.1 16 0))) (w2 := cs2 ct a o) rfl q (wA_sub (w2 := cs2 ct a (oI (oI (oI (oI (oI (oI (oI (oI o 0 (o1.1 0 0)) 1 (o1.1 1 0)) 2 (o1.1 2 0)) 3 (o1.1 3 0)) 4 (o1.1 4 0)) 8 (o1.1 8 0)) 13 (o1.1 13 0)) 16 (o1.1 16 0))) [1] rfl q h)) (fun H_72 locs_72 hB_72 _ hk_72 hS => ?_)
  have hP : va_P D vwCl (cs2 ct a (oA (oI (oI (oI (oI (oI (oI (oI (oI o 0 (o1.1 0 0)) 1 (o1.1 1 0)) 2 (o1.1 2 0)) 3 (o1.1 3 0)) 4 (o1.1 4 0)) 8 (o1.1 8 0)) 13 (o1.1 13 0)) 16 (o1.1 16 0)) 5 r_72)) H_72 := P_join hP (hDW (oI (oI (oI (oI (oI (oI (oI (oI o 0 (o1.1 0 0)) 1 (o1.1 1 0)) 2 (o1.1 2 0)) 3 (o1.1 3 0)) 4 (o1.1 4 0)) 8 (o1.1 8 0)) 13 (o1.1 13 0)) 16 (o1.1 16 0))) [1] rfl rfl hk_72 hB_72
  refine lv_aload_n hx hb dX2_become_75 rfl (lv_at hl 1 rfl) ?_
  refine va_get (D := D) (ci := 2) (v := .ref (ab 2)) (C := RX2) (T := TX2) (N := 20) hx hb htl inlX2 hown hK (hRR _ _ hS) 0 rfl rfl 6 (by decide) (htl _ wq_4_14) (fun _ h9 => h9) rfl dX2_become_76 ?_
  refine lv_aload_n hx hb dX2_become_79 rfl (lv_at hl 0 rfl) ?_
  refine va_get (D := D) (ci := 2) (v := .ref (a 2)) (C := RX2) (T := TX2) (N := 20) hx hb htl inlX2 hown hK hP 0 rfl rfl 6 (by decide) (htl _ wq_4_14) (fun _ h9 => h9) rfl dX2_become_80 ?_
  obtain ⟨r_83, e_83, hf⟩ := ob_bind hf
  have hPX_83 : va_P D vwCl ([((a 2), .inl (ct 0, 10, .inl ((oA (oI (oI (oI (oI (oI (oI (oI (oI o 0 (o1.1 0 0)) 1 (o1.1 1 0)) 2 (o1.1 2 0)) 3 (o1.1 3 0)) 4 (o1.1 4 0)) 8 (o1.1 8 0)) 13 (o1.1 13 0)) 16 (o1.1 16 0)) 5 r_72).1 6)))] ++ ([((ab 2), .inl (ct 0, 10, .inl (o1.1 6)))])) H_72 := (va_P.app (P_one hP 2 rfl) (P_one (hRR _ _ hS) 2 rfl))
  refine wr_call0 (va_runSN (As := [.ref (ab 2), .ref (a 2)]) (rest := []) ⟨hx, hb, hml, hown, htl⟩ (c_X9_copy l D ct G (ab 2) (a 2) fu 10 (o1.1 6) 10 ((oA (oI (oI (oI (oI (oI (oI (oI (oI o 0 (o1.1 0 0)) 1 (o1.1 1 0)) 2 (o1.1 2 0)) 3 (o1.1 3 0)) 4 (o1.1 4 0)) 8 (o1.1 8 0)) 13 (o1.1 13 0)) 16 (o1.1 16 0)) 5 r_72).1 6) e_83 ((hDx (oA (oI (oI (oI (oI (oI (oI (oI (oI o 0 (o1.1 0 0)) 1 (o1.1 1 0)) 2 (o1.1 2 0)) 3 (o1.1 3 0)) 4 (o1.1 4 0)) 8 (o1.1 8 0)) 13 (o1.1 13 0)) 16 (o1.1 16 0)) 5 r_72)).sub (ws' := [((a 2), .inl (ct 0, 10, .inl ((oA (oI (oI (oI (oI (oI (oI (oI (oI o 0 (o1.1 0 0)) 1 (o1.1 1 0)) 2 (o1.1 2 0)) 3 (o1.1 3 0)) 4 (o1.1 4 0)) 8 (o1.1 8 0)) 13 (o1.1 13 0)) 16 (o1.1 16 0)) 5 r_72).1 6)))] ++ ([((ab 2), .inl (ct 0, 10, .inl (o1.1 6)))])) [2, 15] (by decide) rfl)) (cw_X2_X9_copy htl hN ⟨Nat.le_of_ble_eq_true rfl, Nat.le_of_ble_eq_true rfl⟩) ⟨Bx_blind, Bx_pre hPX_83 hK hN (hX.stay hS hGE)⟩ rfl rfl hl.1 rfl (lv_room (Nat.le_of_ble_eq_true rfl)) dX2_become_83 ⟨Nat.zero_le _, Nat.zero_le _⟩) hS (fun q h => wA_cg (w1 := cs2 ct a (oA (oI (oI (oI (oI (oI (oI (oI (oI o 0 (o1.1 0 0)) 1 (o1.1 1 0)) 2 (o1.1 2 0)) 3 (o1.1 3 0)) 4 (o1.1 4 0)) 8 (o1.1 8 0)) 13 (o1.1 13 0)) 16 (o1.1 16 0)) 5 r_72)) (w2 := cs2 ct a o) rfl q (wA_sub (w2 := cs2 ct a (oA (oI (oI (oI (oI (oI (oI (oI (oI o 0 (o1.1 0 0)) 1 (o1.1 1 0)) 2 (o1.1 2 0)) 3 (o1.1 3 0)) 4 (o1.1 4 0)) 8 (o1.1 8 0)) 13 (o1.1 13 0)) 16 (o1.1 16 0)) 5 r_72)) [2] rfl q h)) (fun H_83 locs_83 hB_83 _ hk_83 hS => ?_)
  have hP : va_P D vwCl (cs2 ct a (oA (oA (oI (oI (oI (oI (oI (oI (oI (oI o 0 (o1.1 0 0)) 1 (o1.1 1 0)) 2 (o1.1 2 0)) 3 (o1.1 3 0)) 4 (o1.1 4 0)) 8 (o1.1 8 0)) 13 (o1.1 13 0)) 16 (o1.1 16 0)) 5 r_72) 6 r_83)) H_83 := P_join hP (hDW (oA (oI (oI (oI (oI (oI (oI (oI (oI o 0 (o1.1 0 0)) 1 (o1.1 1 0)) 2 (o1.1 2 0)) 3 (o1.1 3 0)) 4 (o1.1 4 0)) 8 (o1.1 8 0)) 13 (o1.1 13 0)) 16 (o1.1 16 0)) 5 r_72)) [2] rfl rfl hk_83 hB_83
  refine lv_aload_n hx hb dX2_become_86 rfl (lv_at hl 1 rfl) ?_
  refine va_get (D := D) (ci := 2) (v := .ref (ab 3)) (C := RX2) (T := TX2) (N := 20) hx hb htl inlX2 hown hK (hRR _ _ hS) 0 rfl rfl 7 (by decide) (htl _ wq_4_15) (fun _ h9 => h9) rfl dX2_become_87 ?_
  refine lv_aload_n hx hb dX2_become_90 rfl (lv_at hl 0 rfl) ?_
  refine va_get (D := D) (ci := 2) (v := .ref (a 3)) (C := RX2) (T := TX2) (N := 20) hx hb htl inlX2 hown hK hP 0 rfl rfl 7 (by decide) (htl _ wq_4_15) (fun _ h9 => h9) rfl dX2_become_91 ?_
  obtain ⟨r_94, e_94, hf⟩ := ob_bind hf
  have hPX_94 : va_P D vwCl ([((a 3), .inl (ct 0, 10, .inl ((oA (oA (oI (oI (oI (oI (oI (oI (oI (oI o 0 (o1.1 0 0)) 1 (o1.1 1 0)) 2 (o1.1 2 0)) 3 (o1.1 3 0)) 4 (o1.1 4 0)) 8 (o1.1 8 0)) 13 (o1.1 13 0)) 16 (o1.1 16 0)) 5 r_72) 6 r_83).1 7)))] ++ ([((ab 3), .inl (ct 0, 10, .inl (o1.1 7)))])) H_83 := (va_P.app (P_one hP 3 rfl) (P_one (hRR _ _ hS) 3 rfl))
  refine wr_call0 (va_runSN (As := [.ref (ab 3), .ref (a 3)]) (rest := []) ⟨hx, hb, hml, hown, htl⟩ (c_X9_copy l D ct G (ab 3) (a 3) fu 10 (o1.1 7) 10 ((oA (oA (oI (oI (oI (oI (oI (oI (oI (oI o 0 (o1.1 0 0)) 1 (o1.1 1 0)) 2 (o1.1 2 0)) 3 (o1.1 3 0)) 4 (o1.1 4 0)) 8 (o1.1 8 0)) 13 (o1.1 13 0)) 16 (o1.1 16 0)) 5 r_72) 6 r_83).1 7) e_94 ((hDx (oA (oA (oI (oI (oI (oI (oI (oI (oI (oI o 0 (o1.1 0 0)) 1 (o1.1 1 0)) 2 (o1.1 2 0)) 3 (o1.1 3 0)) 4 (o1.1 4 0)) 8 (o1.1 8 0)) 13 (o1.1 13 0)) 16 (o1.1 16 0)) 5 r_72) 6 r_83)).sub (ws' := [((a 3), .inl (ct 0, 10, .inl ((oA (oA (oI (oI (oI (oI (oI (oI (oI (oI o 0 (o1.1 0 0)) 1 (o1.1 1 0)) 2 (o1.1 2 0)) 3 (o1.1 3 0)) 4 (o1.1 4 0)) 8 (o1.1 8 0)) 13 (o1.1 13 0)) 16 (o1.1 16 0)) 5 r_72) 6 r_83).1 7)))] ++ ([((ab 3), .inl (ct 0, 10, .inl (o1.1 7)))])) [3, 16] (by decide) rfl)) (cw_X2_X9_copy htl hN ⟨Nat.le_of_ble_eq_true rfl, Nat.le_of_ble_eq_true rfl⟩) ⟨Bx_blind, Bx_pre hPX_94 hK hN (hX.stay hS hGE)⟩ rfl rfl hl.1 rfl (lv_room (Nat.le_of_ble_eq_true rfl)) dX2_become_94 ⟨Nat.zero_le _, Nat.zero_le _⟩) hS (fun q h => wA_cg (w1 := cs2 ct a (oA (oA (oI (oI (oI (oI (oI (oI (oI (oI o 0 (o1.1 0 0)) 1 (o1.1 1 0)) 2 (o1.1 2 0)) 3 (o1.1 3 0)) 4 (o1.1 4 0)) 8 (o1.1 8 0)) 13 (o1.1 13 0)) 16 (o1.1 16 0)) 5 r_72) 6 r_83)) (w2 := cs2 ct a o) rfl q (wA_sub (w2 := cs2 ct a (oA (oA (oI (oI (oI (oI (oI (oI (oI (oI o 0 (o1.1 0 0)) 1 (o1.1 1 0)) 2 (o1.1 2 0)) 3 (o1.1 3 0)) 4 (o1.1 4 0)) 8 (o1.1 8 0)) 13 (o1.1 13 0)) 16 (o1.1 16 0)) 5 r_72) 6 r_83)) [3] rfl q h)) (fun H_94 locs_94 hB_94 _ hk_94 hS => ?_)
  have hP : va_P D vwCl (cs2 ct a (oA (oA (oA (oI (oI (oI (oI (oI (oI (oI (oI o 0 (o1.1 0 0)) 1 (o1.1 1 0)) 2 (o1.1 2 0)) 3 (o1.1 3 0)) 4 (o1.1 4 0)) 8 (o1.1 8 0)) 13 (o1.1 13 0)) 16 (o1.1 16 0)) 5 r_72) 6 r_83) 7 r_94)) H_94 := P_join hP (hDW (oA (oA (oI (oI (oI (oI (oI (oI (oI (oI o 0 (o1.1 0 0)) 1 (o1.1 1 0)) 2 (o1.1 2 0)) 3 (o1.1 3 0)) 4 (o1.1 4 0)) 8 (o1.1 8 0)) 13 (o1.1 13 0)) 16 (o1.1 16 0)) 5 r_72) 6 r_83)) [3] rfl rfl hk_94 hB_94
  refine lv_aload_n hx hb dX2_become_97 rfl (lv_at hl 1 rfl) ?_
  refine va_get (D := D) (ci := 2) (v := .ref (ab 4)) (C := RX2) (T := TX2) (N := 20) hx hb htl inlX2 hown hK (hRR _ _ hS) 0 rfl rfl 9 (by decide) (htl _ wq_4_17) (fun _ h9 => h9) rfl dX2_become_98 ?_
  refine lv_aload_n hx hb dX2_become_101 rfl (lv_at hl 0 rfl) ?_
  refine va_get (D := D) (ci := 2) (v := .ref (a 4)) (C := RX2) (T := TX2) (N := 20) hx hb htl inlX2 hown hK hP 0 rfl rfl 9 (by decide) (htl _ wq_4_17) (fun _ h9 => h9) rfl dX2_become_102 ?_
  obtain ⟨r_105, e_105, hf⟩ := ob_bind hf
  have hPX_105 : va_P D vwCl ([((a 4), .inl (ct 0, 5, .inl ((oA (oA (oA (oI (oI (oI (oI (oI (oI (oI (oI o 0 (o1.1 0 0)) 1 (o1.1 1 0)) 2 (o1.1 2 0)) 3 (o1.1 3 0)) 4 (o1.1 4 0)) 8 (o1.1 8 0)) 13 (o1.1 13 0)) 16 (o1.1 16 0)) 5 r_72) 6 r_83) 7 r_94).1 9)))] ++ ([((ab 4), .inl (ct 0, 5, .inl (o1.1 9)))])) H_94 := (va_P.app (P_one hP 4 rfl) (P_one (hRR _ _ hS) 4 rfl))
  refine wr_call0 (va_runSN (As := [.ref (ab 4), .ref (a 4)]) (rest := []) ⟨hx, hb, hml, hown, htl⟩ (c_X9_copy l D ct G (ab 4) (a 4) fu 5 (o1.1 9) 5 ((oA (oA (oA (oI (oI (oI (oI (oI (oI (oI (oI o 0 (o1.1 0 0)) 1 (o1.1 1 0)) 2 (o1.1 2 0)) 3 (o1.1 3 0)) 4 (o1.1 4 0)) 8 (o1.1 8 0)) 13 (o1.1 13 0)) 16 (o1.1 16 0)) 5 r_72) 6 r_83) 7 r_94).1 9) e_105 ((hDx (oA (oA (oA (oI (oI (oI (oI (oI (oI (oI (oI o 0 (o1.1 0 0)) 1 (o1.1 1 0)) 2 (o1.1 2 0)) 3 (o1.1 3 0)) 4 (o1.1 4 0)) 8 (o1.1 8 0)) 13 (o1.1 13 0)) 16 (o1.1 16 0)) 5 r_72) 6 r_83) 7 r_94)).sub (ws' := [((a 4), .inl (ct 0, 5, .inl ((oA (oA (oA (oI (oI (oI (oI (oI (oI (oI (oI o 0 (o1.1 0 0)) 1 (o1.1 1 0)) 2 (o1.1 2 0)) 3 (o1.1 3 0)) 4 (o1.1 4 0)) 8 (o1.1 8 0)) 13 (o1.1 13 0)) 16 (o1.1 16 0)) 5 r_72) 6 r_83) 7 r_94).1 9)))] ++ ([((ab 4), .inl (ct 0, 5, .inl (o1.1 9)))])) [4, 17] (by decide) rfl)) (cw_X2_X9_copy htl hN ⟨Nat.le_of_ble_eq_true rfl, Nat.le_of_ble_eq_true rfl⟩) ⟨Bx_blind, Bx_pre hPX_105 hK hN (hX.stay hS hGE)⟩ rfl rfl hl.1 rfl (lv_room (Nat.le_of_ble_eq_true rfl)) dX2_become_105 ⟨Nat.zero_le _, Nat.zero_le _⟩) hS (fun q h => wA_cg (w1 := cs2 ct a (oA (oA (oA (oI (oI (oI (oI (oI (oI (oI (oI o 0 (o1.1 0 0)) 1 (o1.1 1 0)) 2 (o1.1 2 0)) 3 (o1.1 3 0)) 4 (o1.1 4 0)) 8 (o1.1 8 0)) 13 (o1.1 13 0)) 16 (o1.1 16 0)) 5 r_72) 6 r_83) 7 r_94)) (w2 := cs2 ct a o) rfl q (wA_sub (w2 := cs2 ct a (oA (oA (oA (oI (oI (oI (oI (oI (oI (oI (oI o 0 (o1.1 0 0)) 1 (o1.1 1 0)) 2 (o1.1 2 0)) 3 (o1.1 3 0)) 4 (o1.1 4 0)) 8 (o1.1 8 0)) 13 (o1.1 13 0)) 16 (o1.1 16 0)) 5 r_72) 6 r_83) 7 r_94)) [4] rfl q h)) (fun H_105 locs_105 hB_105 _ hk_105 hS => ?_)
  have hP : va_P D vwCl (cs2 ct a (oA (oA (oA (oA (oI (oI (oI (oI (oI (oI (oI (oI o 0 (o1.1 0 0)) 1 (o1.1 1 0)) 2 (o1.1 2 0)) 3 (o1.1 3 0)) 4 (o1.1 4 0)) 8 (o1.1 8 0)) 13 (o1.1 13 0)) 16 (o1.1 16 0)) 5 r_72) 6 r_83) 7 r_94) 9 r_105)) H_105 := P_join hP (hDW (oA (oA (oA (oI (oI (oI (oI (oI (oI (oI (oI o 0 (o1.1 0 0)) 1 (o1.1 1 0)) 2 (o1.1 2 0)) 3 (o1.1 3 0)) 4 (o1.1 4 0)) 8 (o1.1 8 0)) 13 (o1.1 13 0)) 16 (o1.1 16 0)) 5 r_72) 6 r_83) 7 r_94)) [4] rfl rfl hk_105 hB_105
  refine lv_aload_n hx hb dX2_become_108 rfl (lv_at hl 1 rfl) ?_
  refine va_get (D := D) (ci := 2) (v := .ref (ab 5)) (C := RX2) (T := TX2) (N := 20) hx hb htl inlX2 hown hK (hRR _ _ hS) 0 rfl rfl 10 (by decide) (htl _ wq_4_18) (fun _ h9 => h9) rfl dX2_become_109 ?_
  refine lv_aload_n hx hb dX2_become_112 rfl (lv_at hl 0 rfl) ?_
  refine va_get (D := D) (ci := 2) (v := .ref (a 5)) (C := RX2) (T := TX2) (N := 20) hx hb htl inlX2 hown hK hP 0 rfl rfl 10 (by decide) (htl _ wq_4_18) (fun _ h9 => h9) rfl dX2_become_113 ?_
  obtain ⟨r_116, e_116, hf⟩ := ob_bind hf
  have hPX_116 : va_P D vwCl ([((a 5), .inl (ct 0, 5, .inl ((oA (oA (oA (oA (oI (oI (oI (oI (oI (oI (oI (oI o 0 (o1.1 0 0)) 1 (o1.1 1 0)) 2 (o1.1 2 0)) 3 (o1.1 3 0)) 4 (o1.1 4 0)) 8 (o1.1 8 0)) 13 (o1.1 13 0)) 16 (o1.1 16 0)) 5 r_72) 6 r_83) 7 r_94) 9 r_105).1 10)))] ++ ([((ab 5), .inl (ct 0, 5, .inl (o1.1 10)))])) H_105 := (va_P.app (P_one hP 5 rfl) (P_one (hRR _ _ hS) 5 rfl))
  refine wr_call0 (va_runSN (As := [.ref (ab 5), .ref (a 5)]) (rest := []) ⟨hx, hb, hml, hown, htl⟩ (c_X9_copy l D ct G (ab 5) (a 5) fu 5 (o1.1 10) 5 ((oA (oA (oA (oA (oI (oI (oI (oI (oI (oI (oI (oI o 0 (o1.1 0 0)) 1 (o1.1 1 0)) 2 (o1.1 2 0)) 3 (o1.1 3 0)) 4 (o1.1 4 0)) 8 (o1.1 8 0)) 13 (o1.1 13 0)) 16 (o1.1 16 0)) 5 r_72) 6 r_83) 7 r_94) 9 r_105).1 10) e_116 ((hDx (oA (oA (oA (oA (oI (oI (oI (oI (oI (oI (oI (oI o 0 (o1.1 0 0)) 1 (o1.1 1 0)) 2 (o1.1 2 0)) 3 (o1.1 3 0)) 4 (o1.1 4 0)) 8 (o1.1 8 0)) 13 (o1.1 13 0)) 16 (o1.1 16 0)) 5 r_72) 6 r_83) 7 r_94) 9 r_105)).sub (ws' := [((a 5), .inl (ct 0, 5, .inl ((oA (oA (oA (oA (oI (oI (oI (oI (oI (oI (oI (oI o 0 (o1.1 0 0)) 1 (o1.1 1 0)) 2 (o1.1 2 0)) 3 (o1.1 3 0)) 4 (o1.1 4 0)) 8 (o1.1 8 0)) 13 (o1.1 13 0)) 16 (o1.1 16 0)) 5 r_72) 6 r_83) 7 r_94) 9 r_105).1 10)))] ++ ([((ab 5), .inl (ct 0, 5, .inl (o1.1 10)))])) [5, 18] (by decide) rfl)) (cw_X2_X9_copy htl hN ⟨Nat.le_of_ble_eq_true rfl, Nat.le_of_ble_eq_true rfl⟩) ⟨Bx_blind, Bx_pre hPX_116 hK hN (hX.stay hS hGE)⟩ rfl rfl hl.1 rfl (lv_room (Nat.le_of_ble_eq_true rfl)) dX2_become_116 ⟨Nat.zero_le _, Nat.zero_le _⟩) hS (fun q h => wA_cg (w1 := cs2 ct a (oA (oA (oA (oA (oI (oI (oI (oI (oI (oI (oI (oI o 0 (o1.1 0 0)) 1 (o1.1 1 0)) 2 (o1.1 2 0)) 3 (o1.1 3 0)) 4 (o1.1 4 0)) 8 (o1.1 8 0)) 13 (o1.1 13 0)) 16 (o1.1 16 0)) 5 r_72) 6 r_83) 7 r_94) 9 r_105)) (w2 := cs2 ct a o) rfl q (wA_sub (w2 := cs2 ct a (oA (oA (oA (oA (oI (oI (oI (oI (oI (oI (oI (oI o 0 (o1.1 0 0)) 1 (o1.1 1 0)) 2 (o1.1 2 0)) 3 (o1.1 3 0)) 4 (o1.1 4 0)) 8 (o1.1 8 0)) 13 (o1.1 13 0)) 16 (o1.1 16 0)) 5 r_72) 6 r_83) 7 r_94) 9 r_105)) [5] rfl q h)) (fun H_116 locs_116 hB_116 _ hk_116 hS => ?_)
  have hP : va_P D vwCl (cs2 ct a (oA (oA (oA (oA (oA (oI (oI (oI (oI (oI (oI (oI (oI o 0 (o1.1 0 0)) 1 (o1.1 1 0)) 2 (o1.1 2 0)) 3 (o1.1 3 0)) 4 (o1.1 4 0)) 8 (o1.1 8 0)) 13 (o1.1 13 0)) 16 (o1.1 16 0)) 5 r_72) 6 r_83) 7 r_94) 9 r_105) 10 r_116)) H_116 := P_join hP (hDW (oA (oA (oA (oA (oI (oI (oI (oI (oI (oI (oI (oI o 0 (o1.1 0 0)) 1 (o1.1 1 0)) 2 (o1.1 2 0)) 3 (o1.1 3 0)) 4 (o1.1 4 0)) 8 (o1.1 8 0)) 13 (o1.1 13 0)) 16 (o1.1 16 0)) 5 r_72) 6 r_83) 7 r_94) 9 r_105)) [5] rfl rfl hk_116 hB_116
  refine lv_aload_n hx hb dX2_become_119 rfl (lv_at hl 1 rfl) ?_
  refine va_get (D := D) (ci := 2) (v := .ref (ab 6)) (C := RX2) (T := TX2) (N := 20) hx hb htl inlX2 hown hK (hRR _ _ hS) 0 rfl rfl 11 (by decide) (htl _ wq_4_19) (fun _ h9 => h9) rfl dX2_become_120 ?_
  refine lv_aload_n hx hb dX2_become_123 rfl (lv_at hl 0 rfl) ?_
  refine va_get (D := D) (ci := 2) (v := .ref (a 6)) (C := RX2) (T := TX2) (N := 20) hx hb htl inlX2 hown hK hP 0 rfl rfl 11 (by decide) (htl _ wq_4_19) (fun _ h9 => h9) rfl dX2_become_124 ?_
  obtain ⟨r_127, e_127, hf⟩ := ob_bind hf
  have hPX_127 : va_P D vwCl ([((a 6), .inl (ct 0, 5, .inl ((oA (oA (oA (oA (oA (oI (oI (oI (oI (oI (oI (oI (oI o 0 (o1.1 0 0)) 1 (o1.1 1 0)) 2 (o1.1 2 0)) 3 (o1.1 3 0)) 4 (o1.1 4 0)) 8 (o1.1 8 0)) 13 (o1.1 13 0)) 16 (o1.1 16 0)) 5 r_72) 6 r_83) 7 r_94) 9 r_105) 10 r_116).1 11)))] ++ ([((ab 6), .inl (ct 0, 5, .inl (o1.1 11)))])) H_116 := (va_P.app (P_one hP 6 rfl) (P_one (hRR _ _ hS) 6 rfl))
  refine wr_call0 (va_runSN (As := [.ref (ab 6), .ref (a 6)]) (rest := []) ⟨hx, hb, hml, hown, htl⟩ (c_X9_copy l D ct G (ab 6) (a 6) fu 5 (o1.1 11) 5 ((oA (oA (oA (oA (oA (oI (oI (oI (oI (oI (oI (oI (oI o 0 (o1.1 0 0)) 1 (o1.1 1 0)) 2 (o1.1 2 0)) 3 (o1.1 3 0)) 4 (o1.1 4 0)) 8 (o1.1 8 0)) 13 (o1.1 13 0)) 16 (o1.1 16 0)) 5 r_72) 6 r_83) 7 r_94) 9 r_105) 10 r_116).1 11) e_127 ((hDx (oA (oA (oA (oA (oA (oI (oI (oI (oI (oI (oI (oI (oI o 0 (o1.1 0 0)) 1 (o1.1 1 0)) 2 (o1.1 2 0)) 3 (o1.1 3 0)) 4 (o1.1 4 0)) 8 (o1.1 8 0)) 13 (o1.1 13 0)) 16 (o1.1 16 0)) 5 r_72) 6 r_83) 7 r_94) 9 r_105) 10 r_116)).sub (ws' := [((a 6), .inl (ct 0, 5, .inl ((oA (oA (oA (oA (oA (oI (oI (oI (oI (oI (oI (oI (oI o 0 (o1.1 0 0)) 1 (o1.1 1 0)) 2 (o1.1 2 0)) 3 (o1.1 3 0)) 4 (o1.1 4 0)) 8 (o1.1 8 0)) 13 (o1.1 13 0)) 16 (o1.1 16 0)) 5 r_72) 6 r_83) 7 r_94) 9 r_105) 10 r_116).1 11)))] ++ ([((ab 6), .inl (ct 0, 5, .inl (o1.1 11)))])) [6, 19] (by decide) rfl)) (cw_X2_X9_copy htl hN ⟨Nat.le_of_ble_eq_true rfl, Nat.le_of_ble_eq_true rfl⟩) ⟨Bx_blind, Bx_pre hPX_127 hK hN (hX.stay hS hGE)⟩ rfl rfl hl.1 rfl (lv_room (Nat.le_of_ble_eq_true rfl)) dX2_become_127 ⟨Nat.zero_le _, Nat.zero_le _⟩) hS (fun q h => wA_cg (w1 := cs2 ct a (oA (oA (oA (oA (oA (oI (oI (oI (oI (oI (oI (oI (oI o 0 (o1.1 0 0)) 1 (o1.1 1 0)) 2 (o1.1 2 0)) 3 (o1.1 3 0)) 4 (o1.1 4 0)) 8 (o1.1 8 0)) 13 (o1.1 13 0)) 16 (o1.1 16 0)) 5 r_72) 6 r_83) 7 r_94) 9 r_105) 10 r_116)) (w2 := cs2 ct a o) rfl q (wA_sub (w2 := cs2 ct a (oA (oA (oA (oA (oA (oI (oI (oI (oI (oI (oI (oI (oI o 0 (o1.1 0 0)) 1 (o1.1 1 0)) 2 (o1.1 2 0)) 3 (o1.1 3 0)) 4 (o1.1 4 0)) 8 (o1.1 8 0)) 13 (o1.1 13 0)) 16 (o1.1 16 0)) 5 r_72) 6 r_83) 7 r_94) 9 r_105) 10 r_116)) [6] rfl q h)) (fun H_127 locs_127 hB_127 _ hk_127 hS => ?_)
  have hP : va_P D vwCl (cs2 ct a (oA (oA (oA (oA (oA (oA (oI (oI (oI (oI (oI (oI (oI (oI o 0 (o1.1 0 0)) 1 (o1.1 1 0)) 2 (o1.1 2 0)) 3 (o1.1 3 0)) 4 (o1.1 4 0)) 8 (o1.1 8 0)) 13 (o1.1 13 0)) 16 (o1.1 16 0)) 5 r_72) 6 r_83) 7 r_94) 9 r_105) 10 r_116) 11 r_127)) H_127 := P_join hP (hDW (oA (oA (oA (oA (oA (oI (oI (oI (oI (oI (oI (oI (oI o 0 (o1.1 0 0)) 1 (o1.1 1 0)) 2 (o1.1 2 0)) 3 (o1.1 3 0)) 4 (o1.1 4 0)) 8 (o1.1 8 0)) 13 (o1.1 13 0)) 16 (o1.1 16 0)) 5 r_72) 6 r_83) 7 r_94) 9 r_105) 10 r_116)) [6] rfl rfl hk_127 hB_127
  refine lv_aload_n hx hb dX2_become_130 rfl (lv_at hl 1 rfl) ?_
  refine va_get (D := D) (ci := 2) (v := .ref (ab 7)) (C := RX2) (T := TX2) (N := 20) hx hb htl inlX2 hown hK (hRR _ _ hS) 0 rfl rfl 12 (by decide) (htl _ wq_4_20) (fun _ h9 => h9) rfl dX2_become_131 ?_
  refine lv_aload_n hx hb dX2_become_134 rfl (lv_at hl 0 rfl) ?_
  refine va_get (D := D) (ci := 2) (v := .ref (a 7)) (C := RX2) (T := TX2) (N := 20) hx hb htl inlX2 hown hK hP 0 rfl rfl 12 (by decide) (htl _ wq_4_20) (fun _ h9 => h9) rfl dX2_become_135 ?_
  obtain ⟨r_138, e_138, hf⟩ := ob_bind hf
  have hPX_138 : va_P D vwCl ([((a 7), .inl (ct 0, 5, .inl ((oA (oA (oA (oA (oA (oA (oI (oI (oI (oI (oI (oI (oI (oI o 0 (o1.1 0 0)) 1 (o1.1 1 0)) 2 (o1.1 2 0)) 3 (o1.1 3 0)) 4 (o1.1 4 0)) 8 (o1.1 8 0)) 13 (o1.1 13 0)) 16 (o1.1 16 0)) 5 r_72) 6 r_83) 7 r_94) 9 r_105) 10 r_116) 11 r_127).1 12)))] ++ ([((ab 7), .inl (ct 0, 5, .inl (o1.1 12)))])) H_127 := (va_P.app (P_one hP 7 rfl) (P_one (hRR _ _ hS) 7 rfl))
  refine wr_call0 (va_runSN (As := [.ref (ab 7), .ref (a 7)]) (rest := []) ⟨hx, hb, hml, hown, htl⟩ (c_X9_copy l D ct G (ab 7) (a 7) fu 5 (o1.1 12) 5 ((oA (oA (oA (oA (oA (oA (oI (oI (oI (oI (oI (oI (oI (oI o 0 (o1.1 0 0)) 1 (o1.1 1 0)) 2 (o1.1 2 0)) 3 (o1.1 3 0)) 4 (o1.1 4 0)) 8 (o1.1 8 0)) 13 (o1.1 13 0)) 16 (o1.1 16 0)) 5 r_72) 6 r_83) 7 r_94) 9 r_105) 10 r_116) 11 r_127).1 12) e_138 ((hDx (oA (oA (oA (oA (oA (oA (oI (oI (oI (oI (oI (oI (oI (oI o 0 (o1.1 0 0)) 1 (o1.1 1 0)) 2 (o1.1 2 0)) 3 (o1.1 3 0)) 4 (o1.1 4 0)) 8 (o1.1 8 0)) 13 (o1.1 13 0)) 16 (o1.1 16 0)) 5 r_72) 6 r_83) 7 r_94) 9 r_105) 10 r_116) 11 r_127)).sub (ws' := [((a 7), .inl (ct 0, 5, .inl ((oA (oA (oA (oA (oA (oA (oI (oI (oI (oI (oI (oI (oI (oI o 0 (o1.1 0 0)) 1 (o1.1 1 0)) 2 (o1.1 2 0)) 3 (o1.1 3 0)) 4 (o1.1 4 0)) 8 (o1.1 8 0)) 13 (o1.1 13 0)) 16 (o1.1 16 0)) 5 r_72) 6 r_83) 7 r_94) 9 r_105) 10 r_116) 11 r_127).1 12)))] ++ ([((ab 7), .inl (ct 0, 5, .inl (o1.1 12)))])) [7, 20] (by decide) rfl)) (cw_X2_X9_copy htl hN ⟨Nat.le_of_ble_eq_true rfl, Nat.le_of_ble_eq_true rfl⟩) ⟨Bx_blind, Bx_pre hPX_138 hK hN (hX.stay hS hGE)⟩ rfl rfl hl.1 rfl (lv_room (Nat.le_of_ble_eq_true rfl)) dX2_become_138 ⟨Nat.zero_le _, Nat.zero_le _⟩) hS (fun q h => wA_cg (w1 := cs2 ct a (oA (oA (oA (oA (oA (oA (oI (oI (oI (oI (oI (oI (oI (oI o 0 (o1.1 0 0)) 1 (o1.1 1 0)) 2 (o1.1 2 0)) 3 (o1.1 3 0)) 4 (o1.1 4 0)) 8 (o1.1 8 0)) 13 (o1.1 13 0)) 16 (o1.1 16 0)) 5 r_72) 6 r_83) 7 r_94) 9 r_105) 10 r_116) 11 r_127)) (w2 := cs2 ct a o) rfl q (wA_sub (w2 := cs2 ct a (oA (oA (oA (oA (oA (oA (oI (oI (oI (oI (oI (oI (oI (oI o 0 (o1.1 0 0)) 1 (o1.1 1 0)) 2 (o1.1 2 0)) 3 (o1.1 3 0)) 4 (o1.1 4 0)) 8 (o1.1 8 0)) 13 (o1.1 13 0)) 16 (o1.1 16 0)) 5 r_72) 6 r_83) 7 r_94) 9 r_105) 10 r_116) 11 r_127)) [7] rfl q h)) (fun H_138 locs_138 hB_138 _ hk_138 hS => ?_)
  have hP : va_P D vwCl (cs2 ct a (oA (oA (oA (oA (oA (oA (oA (oI (oI (oI (oI (oI (oI (oI (oI o 0 (o1.1 0 0)) 1 (o1.1 1 0)) 2 (o1.1 2 0)) 3 (o1.1 3 0)) 4 (o1.1 4 0)) 8 (o1.1 8 0)) 13 (o1.1 13 0)) 16 (o1.1 16 0)) 5 r_72) 6 r_83) 7 r_94) 9 r_105) 10 r_116) 11 r_127) 12 r_138)) H_138 := P_join hP (hDW (oA (oA (oA (oA (oA (oA (oI (oI (oI (oI (oI (oI (oI (oI o 0 (o1.1 0 0)) 1 (o1.1 1 0)) 2 (o1.1 2 0)) 3 (o1.1 3 0)) 4 (o1.1 4 0)) 8 (o1.1 8 0)) 13 (o1.1 13 0)) 16 (o1.1 16 0)) 5 r_72) 6 r_83) 7 r_94) 9 r_105) 10 r_116) 11 r_127)) [7] rfl rfl hk_138 hB_138
  refine lv_aload_n hx hb dX2_become_141 rfl (lv_at hl 1 rfl) ?_
  refine va_get (D := D) (ci := 2) (v := .ref (ab 8)) (C := RX2) (T := TX2) (N := 20) hx hb htl inlX2 hown hK (hRR _ _ hS) 0 rfl rfl 14 (by decide) (htl _ wq_4_22) (fun _ h9 => h9) rfl dX2_become_142 ?_
  refine lv_aload_n hx hb dX2_become_145 rfl (lv_at hl 0 rfl) ?_
  refine va_get (D := D) (ci := 2) (v := .ref (a 8)) (C := RX2) (T := TX2) (N := 20) hx hb htl inlX2 hown hK hP 0 rfl rfl 14 (by decide) (htl _ wq_4_22) (fun _ h9 => h9) rfl dX2_become_146 ?_
  obtain ⟨r_149, e_149, hf⟩ := ob_bind hf
  have hPX_149 : va_P D vwCl ([((a 8), .inl (ct 0, 5, .inl ((oA (oA (oA (oA (oA (oA (oA (oI (oI (oI (oI (oI (oI (oI (oI o 0 (o1.1 0 0)) 1 (o1.1 1 0)) 2 (o1.1 2 0)) 3 (o1.1 3 0)) 4 (o1.1 4 0)) 8 (o1.1 8 0)) 13 (o1.1 13 0)) 16 (o1.1 16 0)) 5 r_72) 6 r_83) 7 r_94) 9 r_105) 10 r_116) 11 r_127) 12 r_138).1 14)))] ++ ([((ab 8), .inl (ct 0, 5, .inl (o1.1 14)))])) H_138 := (va_P.app (P_one hP 8 rfl) (P_one (hRR _ _ hS) 8 rfl))
  refine wr_call0 (va_runSN (As := [.ref (ab 8), .ref (a 8)]) (rest := []) ⟨hx, hb, hml, hown, htl⟩ (c_X9_copy l D ct G (ab 8) (a 8) fu 5 (o1.1 14) 5 ((oA (oA (oA (oA (oA (oA (oA (oI (oI (oI (oI (oI (oI (oI (oI o 0 (o1.1 0 0)) 1 (o1.1 1 0)) 2 (o1.1 2 0)) 3 (o1.1 3 0)) 4 (o1.1 4 0)) 8 (o1.1 8 0)) 13 (o1.1 13 0)) 16 (o1.1 16 0)) 5 r_72) 6 r_83) 7 r_94) 9 r_105) 10 r_116) 11 r_127) 12 r_138).1 14) e_149 ((hDx (oA (oA (oA (oA (oA (oA (oA (oI (oI (oI (oI (oI (oI (oI (oI o 0 (o1.1 0 0)) 1 (o1.1 1 0)) 2 (o1.1 2 0)) 3 (o1.1 3 0)) 4 (o1.1 4 0)) 8 (o1.1 8 0)) 13 (o1.1 13 0)) 16 (o1.1 16 0)) 5 r_72) 6 r_83) 7 r_94) 9 r_105) 10 r_116) 11 r_127) 12 r_138)).sub (ws' := [((a 8), .inl (ct 0, 5, .inl ((oA (oA (oA (oA (oA (oA (oA (oI (oI (oI (oI (oI (oI (oI (oI o 0 (o1.1 0 0)) 1 (o1.1 1 0)) 2 (o1.1 2 0)) 3 (o1.1 3 0)) 4 (o1.1 4 0)) 8 (o1.1 8 0)) 13 (o1.1 13 0)) 16 (o1.1 16 0)) 5 r_72) 6 r_83) 7 r_94) 9 r_105) 10 r_116) 11 r_127) 12 r_138).1 14)))] ++ ([((ab 8), .inl (ct 0, 5, .inl (o1.1 14)))])) [8, 21] (by decide) rfl)) (cw_X2_X9_copy htl hN ⟨Nat.le_of_ble_eq_true rfl, Nat.le_of_ble_eq_true rfl⟩) ⟨Bx_blind, Bx_pre hPX_149 hK hN (hX.stay hS hGE)⟩ rfl rfl hl.1 rfl (lv_room (Nat.le_of_ble_eq_true rfl)) dX2_become_149 ⟨Nat.zero_le _, Nat.zero_le _⟩) hS (fun q h => wA_cg (w1 := cs2 ct a (oA (oA (oA (oA (oA (oA (oA (oI (oI (oI (oI (oI (oI (oI (oI o 0 (o1.1 0 0)) 1 (o1.1 1 0)) 2 (o1.1 2 0)) 3 (o1.1 3 0)) 4 (o1.1 4 0)) 8 (o1.1 8 0)) 13 (o1.1 13 0)) 16 (o1.1 16 0)) 5 r_72) 6 r_83) 7 r_94) 9 r_105) 10 r_116) 11 r_127) 12 r_138)) (w2 := cs2 ct a o) rfl q (wA_sub (w2 := cs2 ct a (oA (oA (oA (oA (oA (oA (oA (oI (oI (oI (oI (oI (oI (oI (oI o 0 (o1.1 0 0)) 1 (o1.1 1 0)) 2 (o1.1 2 0)) 3 (o1.1 3 0)) 4 (o1.1 4 0)) 8 (o1.1 8 0)) 13 (o1.1 13 0)) 16 (o1.1 16 0)) 5 r_72) 6 r_83) 7 r_94) 9 r_105) 10 r_116) 11 r_127) 12 r_138)) [8] rfl q h)) (fun H_149 locs_149 hB_149 _ hk_149 hS => ?_)
  have hP : va_P D vwCl (cs2 ct a (oA (oA (oA (oA (oA (oA (oA (oA (oI (oI (oI (oI (oI (oI (oI (oI o 0 (o1.1 0 0)) 1 (o1.1 1 0)) 2 (o1.1 2 0)) 3 (o1.1 3 0)) 4 (o1.1 4 0)) 8 (o1.1 8 0)) 13 (o1.1 13 0)) 16 (o1.1 16 0)) 5 r_72) 6 r_83) 7 r_94) 9 r_105) 10 r_116) 11 r_127) 12 r_138) 14 r_149)) H_149 := P_join hP (hDW (oA (oA (oA (oA (oA (oA (oA (oI (oI (oI (oI (oI (oI (oI (oI o 0 (o1.1 0 0)) 1 (o1.1 1 0)) 2 (o1.1 2 0)) 3 (o1.1 3 0)) 4 (o1.1 4 0)) 8 (o1.1 8 0)) 13 (o1.1 13 0)) 16 (o1.1 16 0)) 5 r_72) 6 r_83) 7 r_94) 9 r_105) 10 r_116) 11 r_127) 12 r_138)) [8] rfl rfl hk_149 hB_149
  refine lv_aload_n hx hb dX2_become_152 rfl (lv_at hl 1 rfl) ?_
  refine va_get (D := D) (ci := 2) (v := .ref (ab 9)) (C := RX2) (T := TX2) (N := 20) hx hb htl inlX2 hown hK (hRR _ _ hS) 0 rfl rfl 15 (by decide) (htl _ wq_4_23) (fun _ h9 => h9) rfl dX2_become_153 ?_
  refine lv_aload_n hx hb dX2_become_156 rfl (lv_at hl 0 rfl) ?_
  refine va_get (D := D) (ci := 2) (v := .ref (a 9)) (C := RX2) (T := TX2) (N := 20) hx hb htl inlX2 hown hK hP 0 rfl rfl 15 (by decide) (htl _ wq_4_23) (fun _ h9 => h9) rfl dX2_become_157 ?_
  obtain ⟨r_160, e_160, hf⟩ := ob_bind hf
  have hPX_160 : va_P D vwCl ([((a 9), .inl (ct 0, 5, .inl ((oA (oA (oA (oA (oA (oA (oA (oA (oI (oI (oI (oI (oI (oI (oI (oI o 0 (o1.1 0 0)) 1 (o1.1 1 0)) 2 (o1.1 2 0)) 3 (o1.1 3 0)) 4 (o1.1 4 0)) 8 (o1.1 8 0)) 13 (o1.1 13 0)) 16 (o1.1 16 0)) 5 r_72) 6 r_83) 7 r_94) 9 r_105) 10 r_116) 11 r_127) 12 r_138) 14 r_149).1 15)))] ++ ([((ab 9), .inl (ct 0, 5, .inl (o1.1 15)))])) H_149 := (va_P.app (P_one hP 9 rfl) (P_one (hRR _ _ hS) 9 rfl))
  refine wr_call0 (va_runSN (As := [.ref (ab 9), .ref (a 9)]) (rest := []) ⟨hx, hb, hml, hown, htl⟩ (c_X9_copy l D ct G (ab 9) (a 9) fu 5 (o1.1 15) 5 ((oA (oA (oA (oA (oA (oA (oA (oA (oI (oI (oI (oI (oI (oI (oI (oI o 0 (o1.1 0 0)) 1 (o1.1 1 0)) 2 (o1.1 2 0)) 3 (o1.1 3 0)) 4 (o1.1 4 0)) 8 (o1.1 8 0)) 13 (o1.1 13 0)) 16 (o1.1 16 0)) 5 r_72) 6 r_83) 7 r_94) 9 r_105) 10 r_116) 11 r_127) 12 r_138) 14 r_149).1 15) e_160 ((hDx (oA (oA (oA (oA (oA (oA (oA (oA (oI (oI (oI (oI (oI (oI (oI (oI o 0 (o1.1 0 0)) 1 (o1.1 1 0)) 2 (o1.1 2 0)) 3 (o1.1 3 0)) 4 (o1.1 4 0)) 8 (o1.1 8 0)) 13 (o1.1 13 0)) 16 (o1.1 16 0)) 5 r_72) 6 r_83) 7 r_94) 9 r_105) 10 r_116) 11 r_127) 12 r_138) 14 r_149)).sub (ws' := [((a 9), .inl (ct 0, 5, .inl ((oA (oA (oA (oA (oA (oA (oA (oA (oI (oI (oI (oI (oI (oI (oI (oI o 0 (o1.1 0 0)) 1 (o1.1 1 0)) 2 (o1.1 2 0)) 3 (o1.1 3 0)) 4 (o1.1 4 0)) 8 (o1.1 8 0)) 13 (o1.1 13 0)) 16 (o1.1 16 0)) 5 r_72) 6 r_83) 7 r_94) 9 r_105) 10 r_116) 11 r_127) 12 r_138) 14 r_149).1 15)))] ++ ([((ab 9), .inl (ct 0, 5, .inl (o1.1 15)))])) [9, 22] (by decide) rfl)) (cw_X2_X9_copy htl hN ⟨Nat.le_of_ble_eq_true rfl, Nat.le_of_ble_eq_true rfl⟩) ⟨Bx_blind, Bx_pre hPX_160 hK hN (hX.stay hS hGE)⟩ rfl rfl hl.1 rfl (lv_room (Nat.le_of_ble_eq_true rfl)) dX2_become_160 ⟨Nat.zero_le _, Nat.zero_le _⟩) hS (fun q h => wA_cg (w1 := cs2 ct a (oA (oA (oA (oA (oA (oA (oA (oA (oI (oI (oI (oI (oI (oI (oI (oI o 0 (o1.1 0 0)) 1 (o1.1 1 0)) 2 (o1.1 2 0)) 3 (o1.1 3 0)) 4 (o1.1 4 0)) 8 (o1.1 8 0)) 13 (o1.1 13 0)) 16 (o1.1 16 0)) 5 r_72) 6 r_83) 7 r_94) 9 r_105) 10 r_116) 11 r_127) 12 r_138) 14 r_149)) (w2 := cs2 ct a o) rfl q (wA_sub (w2 := cs2 ct a (oA (oA (oA (oA (oA (oA (oA (oA (oI (oI (oI (oI (oI (oI (oI (oI o 0 (o1.1 0 0)) 1 (o1.1 1 0)) 2 (o1.1 2 0)) 3 (o1.1 3 0)) 4 (o1.1 4 0)) 8 (o1.1 8 0)) 13 (o1.1 13 0)) 16 (o1.1 16 0)) 5 r_72) 6 r_83) 7 r_94) 9 r_105) 10 r_116) 11 r_127) 12 r_138) 14 r_149)) [9] rfl q h)) (fun H_160 locs_160 hB_160 _ hk_160 hS => ?_)
  have hP : va_P D vwCl (cs2 ct a (oA (oA (oA (oA (oA (oA (oA (oA (oA (oI (oI (oI (oI (oI (oI (oI (oI o 0 (o1.1 0 0)) 1 (o1.1 1 0)) 2 (o1.1 2 0)) 3 (o1.1 3 0)) 4 (o1.1 4 0)) 8 (o1.1 8 0)) 13 (o1.1 13 0)) 16 (o1.1 16 0)) 5 r_72) 6 r_83) 7 r_94) 9 r_105) 10 r_116) 11 r_127) 12 r_138) 14 r_149) 15 r_160)) H_160 := P_join hP (hDW (oA (oA (oA (oA (oA (oA (oA (oA (oI (oI (oI (oI (oI (oI (oI (oI o 0 (o1.1 0 0)) 1 (o1.1 1 0)) 2 (o1.1 2 0)) 3 (o1.1 3 0)) 4 (o1.1 4 0)) 8 (o1.1 8 0)) 13 (o1.1 13 0)) 16 (o1.1 16 0)) 5 r_72) 6 r_83) 7 r_94) 9 r_105) 10 r_116) 11 r_127) 12 r_138) 14 r_149)) [9] rfl rfl hk_160 hB_160
  refine lv_aload_n hx hb dX2_become_163 rfl (lv_at hl 1 rfl) ?_
  refine va_get (D := D) (ci := 2) (v := .ref (ab 10)) (C := RX2) (T := TX2) (N := 20) hx hb htl inlX2 hown hK (hRR _ _ hS) 0 rfl rfl 17 (by decide) (htl _ wq_5_1) (fun _ h9 => h9) rfl dX2_become_164 ?_
  refine lv_aload_n hx hb dX2_become_167 rfl (lv_at hl 0 rfl) ?_
  refine va_get (D := D) (ci := 2) (v := .ref (a 10)) (C := RX2) (T := TX2) (N := 20) hx hb htl inlX2 hown hK hP 0 rfl rfl 17 (by decide) (htl _ wq_5_1) (fun _ h9 => h9) rfl dX2_become_168 ?_
  obtain ⟨r_171, e_171, hf⟩ := ob_bind hf
  have hPX_171 : va_P D vwCl ([((a 10), .inl (ct 0, 30, .inl ((oA (oA (oA (oA (oA (oA (oA (oA (oA (oI (oI (oI (oI (oI (oI (oI (oI o 0 (o1.1 0 0)) 1 (o1.1 1 0)) 2 (o1.1 2 0)) 3 (o1.1 3 0)) 4 (o1.1 4 0)) 8 (o1.1 8 0)) 13 (o1.1 13 0)) 16 (o1.1 16 0)) 5 r_72) 6 r_83) 7 r_94) 9 r_105) 10 r_116) 11 r_127) 12 r_138) 14 r_149) 15 r_160).1 17)))] ++ ([((ab 10), .inl (ct 0, 30, .inl (o1.1 17)))])) H_160 := (va_P.app (P_one hP 10 rfl) (P_one (hRR _ _ hS) 10 rfl))
  refine wr_call0 (va_runSN (As := [.ref (ab 10), .ref (a 10)]) (rest := []) ⟨hx, hb, hml, hown, htl⟩ (c_X9_copy l D ct G (ab 10) (a 10) fu 30 (o1.1 17) 30 ((oA (oA (oA (oA (oA (oA (oA (oA (oA (oI (oI (oI (oI (oI (oI (oI (oI o 0 (o1.1 0 0)) 1 (o1.1 1 0)) 2 (o1.1 2 0)) 3 (o1.1 3 0)) 4 (o1.1 4 0)) 8 (o1.1 8 0)) 13 (o1.1 13 0)) 16 (o1.1 16 0)) 5 r_72) 6 r_83) 7 r_94) 9 r_105) 10 r_116) 11 r_127) 12 r_138) 14 r_149) 15 r_160).1 17) e_171 ((hDx (oA (oA (oA (oA (oA (oA (oA (oA (oA (oI (oI (oI (oI (oI (oI (oI (oI o 0 (o1.1 0 0)) 1 (o1.1 1 0)) 2 (o1.1 2 0)) 3 (o1.1 3 0)) 4 (o1.1 4 0)) 8 (o1.1 8 0)) 13 (o1.1 13 0)) 16 (o1.1 16 0)) 5 r_72) 6 r_83) 7 r_94) 9 r_105) 10 r_116) 11 r_127) 12 r_138) 14 r_149) 15 r_160)).sub (ws' := [((a 10), .inl (ct 0, 30, .inl ((oA (oA (oA (oA (oA (oA (oA (oA (oA (oI (oI (oI (oI (oI (oI (oI (oI o 0 (o1.1 0 0)) 1 (o1.1 1 0)) 2 (o1.1 2 0)) 3 (o1.1 3 0)) 4 (o1.1 4 0)) 8 (o1.1 8 0)) 13 (o1.1 13 0)) 16 (o1.1 16 0)) 5 r_72) 6 r_83) 7 r_94) 9 r_105) 10 r_116) 11 r_127) 12 r_138) 14 r_149) 15 r_160).1 17)))] ++ ([((ab 10), .inl (ct 0, 30, .inl (o1.1 17)))])) [10, 23] (by decide) rfl)) (cw_X2_X9_copy htl hN ⟨Nat.le_of_ble_eq_true rfl, Nat.le_of_ble_eq_true rfl⟩) ⟨Bx_blind, Bx_pre hPX_171 hK hN (hX.stay hS hGE)⟩ rfl rfl hl.1 rfl (lv_room (Nat.le_of_ble_eq_true rfl)) dX2_become_171 ⟨Nat.zero_le _, Nat.zero_le _⟩) hS (fun q h => wA_cg (w1 := cs2 ct a (oA (oA (oA (oA (oA (oA (oA (oA (oA (oI (oI (oI (oI (oI (oI (oI (oI o 0 (o1.1 0 0)) 1 (o1.1 1 0)) 2 (o1.1 2 0)) 3 (o1.1 3 0)) 4 (o1.1 4 0)) 8 (o1.1 8 0)) 13 (o1.1 13 0)) 16 (o1.1 16 0)) 5 r_72) 6 r_83) 7 r_94) 9 r_105) 10 r_116) 11 r_127) 12 r_138) 14 r_149) 15 r_160)) (w2 := cs2 ct a o) rfl q (wA_sub (w2 := cs2 ct a (oA (oA (oA (oA (oA (oA (oA (oA (oA (oI (oI (oI (oI (oI (oI (oI (oI o 0 (o1.1 0 0)) 1 (o1.1 1 0)) 2 (o1.1 2 0)) 3 (o1.1 3 0)) 4 (o1.1 4 0)) 8 (o1.1 8 0)) 13 (o1.1 13 0)) 16 (o1.1 16 0)) 5 r_72) 6 r_83) 7 r_94) 9 r_105) 10 r_116) 11 r_127) 12 r_138) 14 r_149) 15 r_160)) [10] rfl q h)) (fun H_171 locs_171 hB_171 _ hk_171 hS => ?_)
  have hP : va_P D vwCl (cs2 ct a (oA (oA (oA (oA (oA (oA (oA (oA (oA (oA (oI (oI (oI (oI (oI (oI (oI (oI o 0 (o1.1 0 0)) 1 (o1.1 1 0)) 2 (o1.1 2 0)) 3 (o1.1 3 0)) 4 (o1.1 4 0)) 8 (o1.1 8 0)) 13 (o1.1 13 0)) 16 (o1.1 16 0)) 5 r_72) 6 r_83) 7 r_94) 9 r_105) 10 r_116) 11 r_127) 12 r_138) 14 r_149) 15 r_160) 17 r_171)) H_171 := P_join hP (hDW (oA (oA (oA (oA (oA (oA (oA (oA (oA (oI (oI (oI (oI (oI (oI (oI (oI o 0 (o1.1 0 0)) 1 (o1.1 1 0)) 2 (o1.1 2 0)) 3 (o1.1 3 0)) 4 (o1.1 4 0)) 8 (o1.1 8 0)) 13 (o1.1 13 0)) 16 (o1.1 16 0)) 5 r_72) 6 r_83) 7 r_94) 9 r_105) 10 r_116) 11 r_127) 12 r_138) 14 r_149) 15 r_160)) [10] rfl rfl hk_171 hB_171
  refine lv_aload_n hx hb dX2_become_174 rfl (lv_at hl 1 rfl) ?_
  refine va_get (D := D) (ci := 2) (v := .ref (ab 11)) (C := RX2) (T := TX2) (N := 20) hx hb htl inlX2 hown hK (hRR _ _ hS) 0 rfl rfl 18 (by decide) (htl _ wq_5_2) (fun _ h9 => h9) rfl dX2_become_175 ?_
  refine lv_aload_n hx hb dX2_become_178 rfl (lv_at hl 0 rfl) ?_
  refine va_get (D := D) (ci := 2) (v := .ref (a 11)) (C := RX2) (T := TX2) (N := 20) hx hb htl inlX2 hown hK hP 0 rfl rfl 18 (by decide) (htl _ wq_5_2) (fun _ h9 => h9) rfl dX2_become_179 ?_
  obtain ⟨r_182, e_182, hf⟩ := ob_bind hf
  have hPX_182 : va_P D vwCl ([((a 11), .inl (ct 0, 30, .inl ((oA (oA (oA (oA (oA (oA (oA (oA (oA (oA (oI (oI (oI (oI (oI (oI (oI (oI o 0 (o1.1 0 0)) 1 (o1.1 1 0)) 2 (o1.1 2 0)) 3 (o1.1 3 0)) 4 (o1.1 4 0)) 8 (o1.1 8 0)) 13 (o1.1 13 0)) 16 (o1.1 16 0)) 5 r_72) 6 r_83) 7 r_94) 9 r_105) 10 r_116) 11 r_127) 12 r_138) 14 r_149) 15 r_160) 17 r_171).1 18)))] ++ ([((ab 11), .inl (ct 0, 30, .inl (o1.1 18)))])) H_171 := (va_P.app (P_one hP 11 rfl) (P_one (hRR _ _ hS) 11 rfl))
  refine wr_call0 (va_runSN (As := [.ref (ab 11), .ref (a 11)]) (rest := []) ⟨hx, hb, hml, hown, htl⟩ (c_X9_copy l D ct G (ab 11) (a 11) fu 30 (o1.1 18) 30 ((oA (oA (oA (oA (oA (oA (oA (oA (oA (oA (oI (oI (oI (oI (oI (oI (oI (oI o 0 (o1.1 0 0)) 1 (o1.1 1 0)) 2 (o1.1 2 0)) 3 (o1.1 3 0)) 4 (o1.1 4 0)) 8 (o1.1 8 0)) 13 (o1.1 13 0)) 16 (o1.1 16 0)) 5 r_72) 6 r_83) 7 r_94) 9 r_105) 10 r_116) 11 r_127) 12 r_138) 14 r_149) 15 r_160) 17 r_171).1 18) e_182 ((hDx (oA (oA (oA (oA (oA (oA (oA (oA (oA (oA (oI (oI (oI (oI (oI (oI (oI (oI o 0 (o1.1 0 0)) 1 (o1.1 1 0)) 2 (o1.1 2 0)) 3 (o1.1 3 0)) 4 (o1.1 4 0)) 8 (o1.1 8 0)) 13 (o1.1 13 0)) 16 (o1.1 16 0)) 5 r_72) 6 r_83) 7 r_94) 9 r_105) 10 r_116) 11 r_127) 12 r_138) 14 r_149) 15 r_160) 17 r_171)).sub (ws' := [((a 11), .inl (ct 0, 30, .inl ((oA (oA (oA (oA (oA (oA (oA (oA (oA (oA (oI (oI (oI (oI (oI (oI (oI (oI o 0 (o1.1 0 0)) 1 (o1.1 1 0)) 2 (o1.1 2 0)) 3 (o1.1 3 0)) 4 (o1.1 4 0)) 8 (o1.1 8 0)) 13 (o1.1 13 0)) 16 (o1.1 16 0)) 5 r_72) 6 r_83) 7 r_94) 9 r_105) 10 r_116) 11 r_127) 12 r_138) 14 r_149) 15 r_160) 17 r_171).1 18)))] ++ ([((ab 11), .inl (ct 0, 30, .inl (o1.1 18)))])) [11, 24] (by decide) rfl)) (cw_X2_X9_copy htl hN ⟨Nat.le_of_ble_eq_true rfl, Nat.le_of_ble_eq_true rfl⟩) ⟨Bx_blind, Bx_pre hPX_182 hK hN (hX.stay hS hGE)⟩ rfl rfl hl.1 rfl (lv_room (Nat.le_of_ble_eq_true rfl)) dX2_become_182 ⟨Nat.zero_le _, Nat.zero_le _⟩) hS (fun q h => wA_cg (w1 := cs2 ct a (oA (oA (oA (oA (oA (oA (oA (oA (oA (oA (oI (oI (oI (oI (oI (oI (oI (oI o 0 (o1.1 0 0)) 1 (o1.1 1 0)) 2 (o1.1 2 0)) 3 (o1.1 3 0)) 4 (o1.1 4 0)) 8 (o1.1 8 0)) 13 (o1.1 13 0)) 16 (o1.1 16 0)) 5 r_72) 6 r_83) 7 r_94) 9 r_105) 10 r_116) 11 r_127) 12 r_138) 14 r_149) 15 r_160) 17 r_171)) (w2 := cs2 ct a o) rfl q (wA_sub (w2 := cs2 ct a (oA (oA (oA (oA (oA (oA (oA (oA (oA (oA (oI (oI (oI (oI (oI (oI (oI (oI o 0 (o1.1 0 0)) 1 (o1.1 1 0)) 2 (o1.1 2 0)) 3 (o1.1 3 0)) 4 (o1.1 4 0)) 8 (o1.1 8 0)) 13 (o1.1 13 0)) 16 (o1.1 16 0)) 5 r_72) 6 r_83) 7 r_94) 9 r_105) 10 r_116) 11 r_127) 12 r_138) 14 r_149) 15 r_160) 17 r_171)) [11] rfl q h)) (fun H_182 locs_182 hB_182 _ hk_182 hS => ?_)
  have hP : va_P D vwCl (cs2 ct a (oA (oA (oA (oA (oA (oA (oA (oA (oA (oA (oA (oI (oI (oI (oI (oI (oI (oI (oI o 0 (o1.1 0 0)) 1 (o1.1 1 0)) 2 (o1.1 2 0)) 3 (o1.1 3 0)) 4 (o1.1 4 0)) 8 (o1.1 8 0)) 13 (o1.1 13 0)) 16 (o1.1 16 0)) 5 r_72) 6 r_83) 7 r_94) 9 r_105) 10 r_116) 11 r_127) 12 r_138) 14 r_149) 15 r_160) 17 r_171) 18 r_182)) H_182 := P_join hP (hDW (oA (oA (oA (oA (oA (oA (oA (oA (oA (oA (oI (oI (oI (oI (oI (oI (oI (oI o 0 (o1.1 0 0)) 1 (o1.1 1 0)) 2 (o1.1 2 0)) 3 (o1.1 3 0)) 4 (o1.1 4 0)) 8 (o1.1 8 0)) 13 (o1.1 13 0)) 16 (o1.1 16 0)) 5 r_72) 6 r_83) 7 r_94) 9 r_105) 10 r_116) 11 r_127) 12 r_138) 14 r_149) 15 r_160) 17 r_171)) [11] rfl rfl hk_182 hB_182
  refine lv_aload_n hx hb dX2_become_185 rfl (lv_at hl 1 rfl) ?_
  refine va_get (D := D) (ci := 2) (v := .ref (ab 12)) (C := RX2) (T := TX2) (N := 20) hx hb htl inlX2 hown hK (hRR _ _ hS) 0 rfl rfl 19 (by decide) (htl _ wq_5_3) (fun _ h9 => h9) rfl dX2_become_186 ?_
  refine lv_aload_n hx hb dX2_become_189 rfl (lv_at hl 0 rfl) ?_
  refine va_get (D := D) (ci := 2) (v := .ref (a 12)) (C := RX2) (T := TX2) (N := 20) hx hb htl inlX2 hown hK hP 0 rfl rfl 19 (by decide) (htl _ wq_5_3) (fun _ h9 => h9) rfl dX2_become_190 ?_
  obtain ⟨r_193, e_193, hf⟩ := ob_bind hf
  have hPX_193 : va_P D vwCl ([((a 12), .inl (ct 0, 30, .inl ((oA (oA (oA (oA (oA (oA (oA (oA (oA (oA (oA (oI (oI (oI (oI (oI (oI (oI (oI o 0 (o1.1 0 0)) 1 (o1.1 1 0)) 2 (o1.1 2 0)) 3 (o1.1 3 0)) 4 (o1.1 4 0)) 8 (o1.1 8 0)) 13 (o1.1 13 0)) 16 (o1.1 16 0)) 5 r_72) 6 r_83) 7 r_94) 9 r_105) 10 r_116) 11 r_127) 12 r_138) 14 r_149) 15 r_160) 17 r_171) 18 r_182).1 19)))] ++ ([((ab 12), .inl (ct 0, 30, .inl (o1.1 19)))])) H_182 := (va_P.app (P_one hP 12 rfl) (P_one (hRR _ _ hS) 12 rfl))
  refine wr_call0 (va_runSN (As := [.ref (ab 12), .ref (a 12)]) (rest := []) ⟨hx, hb, hml, hown, htl⟩ (c_X9_copy l D ct G (ab 12) (a 12) fu 30 (o1.1 19) 30 ((oA (oA (oA (oA (oA (oA (oA (oA (oA (oA (oA (oI (oI (oI (oI (oI (oI (oI (oI o 0 (o1.1 0 0)) 1 (o1.1 1 0)) 2 (o1.1 2 0)) 3 (o1.1 3 0)) 4 (o1.1 4 0)) 8 (o1.1 8 0)) 13 (o1.1 13 0)) 16 (o1.1 16 0)) 5 r_72) 6 r_83) 7 r_94) 9 r_105) 10 r_116) 11 r_127) 12 r_138) 14 r_149) 15 r_160) 17 r_171) 18 r_182).1 19) e_193 ((hDx (oA (oA (oA (oA (oA (oA (oA (oA (oA (oA (oA (oI (oI (oI (oI (oI (oI (oI (oI o 0 (o1.1 0 0)) 1 (o1.1 1 0)) 2 (o1.1 2 0)) 3 (o1.1 3 0)) 4 (o1.1 4 0)) 8 (o1.1 8 0)) 13 (o1.1 13 0)) 16 (o1.1 16 0)) 5 r_72) 6 r_83) 7 r_94) 9 r_105) 10 r_116) 11 r_127) 12 r_138) 14 r_149) 15 r_160) 17 r_171) 18 r_182)).sub (ws' := [((a 12), .inl (ct 0, 30, .inl ((oA (oA (oA (oA (oA (oA (oA (oA (oA (oA (oA (oI (oI (oI (oI (oI (oI (oI (oI o 0 (o1.1 0 0)) 1 (o1.1 1 0)) 2 (o1.1 2 0)) 3 (o1.1 3 0)) 4 (o1.1 4 0)) 8 (o1.1 8 0)) 13 (o1.1 13 0)) 16 (o1.1 16 0)) 5 r_72) 6 r_83) 7 r_94) 9 r_105) 10 r_116) 11 r_127) 12 r_138) 14 r_149) 15 r_160) 17 r_171) 18 r_182).1 19)))] ++ ([((ab 12), .inl (ct 0, 30, .inl (o1.1 19)))])) [12, 25] (by decide) rfl)) (cw_X2_X9_copy htl hN ⟨Nat.le_of_ble_eq_true rfl, Nat.le_of_ble_eq_true rfl⟩) ⟨Bx_blind, Bx_pre hPX_193 hK hN (hX.stay hS hGE)⟩ rfl rfl hl.1 rfl (lv_room (Nat.le_of_ble_eq_true rfl)) dX2_become_193 ⟨Nat.zero_le _, Nat.zero_le _⟩) hS (fun q h => wA_cg (w1 := cs2 ct a (oA (oA (oA (oA (oA (oA (oA (oA (oA (oA (oA (oI (oI (oI (oI (oI (oI (oI (oI o 0 (o1.1 0 0)) 1 (o1.1 1 0)) 2 (o1.1 2 0)) 3 (o1.1 3 0)) 4 (o1.1 4 0)) 8 (o1.1 8 0)) 13 (o1.1 13 0)) 16 (o1.1 16 0)) 5 r_72) 6 r_83) 7 r_94) 9 r_105) 10 r_116) 11 r_127) 12 r_138) 14 r_149) 15 r_160) 17 r_171) 18 r_182)) (w2 := cs2 ct a o) rfl q (wA_sub (w2 := cs2 ct a (oA (oA (oA (oA (oA (oA (oA (oA (oA (oA (oA (oI (oI (oI (oI (oI (oI (oI (oI o 0 (o1.1 0 0)) 1 (o1.1 1 0)) 2 (o1.1 2 0)) 3 (o1.1 3 0)) 4 (o1.1 4 0)) 8 (o1.1 8 0)) 13 (o1.1 13 0)) 16 (o1.1 16 0)) 5 r_72) 6 r_83) 7 r_94) 9 r_105) 10 r_116) 11 r_127) 12 r_138) 14 r_149) 15 r_160) 17 r_171) 18 r_182)) [12] rfl q h)) (fun H_193 locs_193 hB_193 _ hk_193 hS => ?_)
  have hP : va_P D vwCl (cs2 ct a (oA (oA (oA (oA (oA (oA (oA (oA (oA (oA (oA (oA (oI (oI (oI (oI (oI (oI (oI (oI o 0 (o1.1 0 0)) 1 (o1.1 1 0)) 2 (o1.1 2 0)) 3 (o1.1 3 0)) 4 (o1.1 4 0)) 8 (o1.1 8 0)) 13 (o1.1 13 0)) 16 (o1.1 16 0)) 5 r_72) 6 r_83) 7 r_94) 9 r_105) 10 r_116) 11 r_127) 12 r_138) 14 r_149) 15 r_160) 17 r_171) 18 r_182) 19 r_193)) H_193 := P_join hP (hDW (oA (oA (oA (oA (oA (oA (oA (oA (oA (oA (oA (oI (oI (oI (oI (oI (oI (oI (oI o 0 (o1.1 0 0)) 1 (o1.1 1 0)) 2 (o1.1 2 0)) 3 (o1.1 3 0)) 4 (o1.1 4 0)) 8 (o1.1 8 0)) 13 (o1.1 13 0)) 16 (o1.1 16 0)) 5 r_72) 6 r_83) 7 r_94) 9 r_105) 10 r_116) 11 r_127) 12 r_138) 14 r_149) 15 r_160) 17 r_171) 18 r_182)) [12] rfl rfl hk_193 hB_193
  rw [← hQQ]
  cases hf
  exact rw_v hx hb hr hlocks hP hS dX2_become_196
theorem c_X2_become (l : Launch) (D : va_G) (ct : Nat → ClassId) (G : GT) (a : Nat → Nat) (ab : Nat → Nat) (fu : Nat) (o : Ob) (o1 : Ob) {r : Ob} (hf : p_X2_become fu o o1 = some r)  (hD0 : va_D (GE G) (cs2 ct a o ++ (cs2 ct ab o1))) : Met l yX2_become (.code yX2_become cX2_become 2 none :: wsL_law) rm_X2_become (va_Pc [.ref (a 0), .ref (ab 0)] (Bx D ct G (cs2 ct a o ++ (cs2 ct ab o1)))) (Qwr none (fun H => va_P D vwCl (cs2 ct a r) H) (wA (cs2 ct a o))) 0 0 (wA (cs2 ct a o)) := by
  refine Met.ofW (cc := cX2_become) (maxL := 2) (ret := none) (by decide) rfl ?_
  intro p e s m args below meth c s₁ B hml hv
  obtain ⟨rfl, hP, hK, hN, hX⟩ := hv
  have hts := atoms_spec (ws := .code yX2_become cX2_become 2 none :: wsL_law) B.pre
  rw [lg_entry_eq]
  exact b_X2_become a ab fu o o1 B.exec B.bytes B.returns hml (findClass_of_methodNamed B.named) (fun w h => hts w (List.mem_cons_of_mem _ h)) B.notSynchronized hK hN hX hP hf hD0  (lv_entry [.ref (a 0), .ref (ab 0)] (n := 2) (Nat.le_of_ble_eq_true rfl))
def p_X2_lines (fu : Nat) (o : Ob) : Option (Int32) :=
  if (o.1 0 0) = 0 then some (0 : Int32) else some (((1 + (o.1 4 0)) + (o.1 8 0)) + (o.1 13 0))
abbrev rm_X2_lines : Room := { frames := 0, cells := 0, slots := 0, locals := 0 }
set_option maxHeartbeats 4000000 in
set_option maxRecDepth 100000 in
theorem b_X2_lines {p : Program} {l : Launch} {e : Env} {s : State} {m : MethodId} {args : Array Value} {below : List Frame} {meth : Method} {c : Code} {ls : Array Slot} {D : va_G} {ct : Nat → ClassId} {G : GT} (a : Nat → Nat) (fu : Nat) (o : Ob) {r : Int32} (hx : p.tables.exec = Jvm.exec) (hb : c.code = cX2_lines) (hr : meth.sig.returnType = (some .int)) (hml : c.maxLocals = 1) (hown : s.vm.findClass RX2 = some m.cls) (htl : ∀ w ∈ wsL_law, w.before args s = true) (hlocks : meth.locks = false) (hK : va_K D vwCl (tyl ct) s) (hN : ∀ w ∈ NW, va_Nw w s) (hX : SX G s s.heap) (hP0 : va_P D vwCl (cs2 ct a o) s.heap) (hf : p_X2_lines fu o = some r)  (hl : lv_has ls 1 [(0, .ref (a 0))]) : W p l e rm_X2_lines s m args below meth c s.heap [] 0 0 (MQ below (Qro (some (.int r))) args s 0 0 (fun _ => False)) (F0 m 0 ls []) := by
  generalize hQQ : MQ below (Qro (some (.int r))) args s 0 0 (fun _ => False) = QQ
  have hP := hP0
  rw [p_X2_lines] at hf
  refine lv_aload_n hx hb dX2_lines_0 rfl (lv_at hl 0 rfl) ?_
  refine va_get (D := D) (ci := 2) (v := .int (o.1 0 0)) (C := RX2) (T := TX2) (N := 20) hx hb htl inlX2 hown hK hP 0 rfl rfl 0 (by decide) (htl _ wq_4_8) (fun _ h9 => h9) rfl dX2_lines_1 ?_
  refine lv_if_eq (tgt := 26) hx hb dX2_lines_4 (by decide) (fun c_4 => ?_) (fun c_4 => ?_)
  · rw [if_pos c_4] at hf
    refine lv_iconst (v := 0) hx hb dX2_lines_26 (by decide) ?_
    rw [← hQQ]
    exact rf_i hx hb hr hlocks hf dX2_lines_27
  rw [if_neg c_4] at hf
  refine lv_iconst (v := 1) hx hb dX2_lines_7 (by decide) ?_
  refine lv_aload_n hx hb dX2_lines_8 rfl (lv_at hl 0 rfl) ?_
  refine va_get (D := D) (ci := 2) (v := .int (o.1 4 0)) (C := RX2) (T := TX2) (N := 20) hx hb htl inlX2 hown hK hP 0 rfl rfl 4 (by decide) (htl _ wq_4_12) (fun _ h9 => h9) rfl dX2_lines_9 ?_
  refine lv_iadd hx hb dX2_lines_12 ?_
  refine lv_aload_n hx hb dX2_lines_13 rfl (lv_at hl 0 rfl) ?_
  refine va_get (D := D) (ci := 2) (v := .int (o.1 8 0)) (C := RX2) (T := TX2) (N := 20) hx hb htl inlX2 hown hK hP 0 rfl rfl 8 (by decide) (htl _ wq_4_16) (fun _ h9 => h9) rfl dX2_lines_14 ?_
  refine lv_iadd hx hb dX2_lines_17 ?_
  refine lv_aload_n hx hb dX2_lines_18 rfl (lv_at hl 0 rfl) ?_
  refine va_get (D := D) (ci := 2) (v := .int (o.1 13 0)) (C := RX2) (T := TX2) (N := 20) hx hb htl inlX2 hown hK hP 0 rfl rfl 13 (by decide) (htl _ wq_4_21) (fun _ h9 => h9) rfl dX2_lines_19 ?_
  refine lv_iadd hx hb dX2_lines_22 ?_
  refine lv_goto (tgt := 27) hx hb dX2_lines_23 (by decide) ?_
  rw [← hQQ]
  exact rf_i hx hb hr hlocks hf dX2_lines_27
theorem c_X2_lines (l : Launch) (D : va_G) (ct : Nat → ClassId) (G : GT) (a : Nat → Nat) (fu : Nat) (o : Ob) {r : Int32} (hf : p_X2_lines fu o = some r)  : Met l yX2_lines (.code yX2_lines cX2_lines 1 (some .int) :: wsL_law) rm_X2_lines (va_Pc [.ref (a 0)] (Bx D ct G (cs2 ct a o))) (Qro (some (.int r))) 0 0 (fun _ => False) := by
  refine Met.ofW (cc := cX2_lines) (maxL := 1) (ret := (some .int)) (by decide) rfl ?_
  intro p e s m args below meth c s₁ B hml hv
  obtain ⟨rfl, hP, hK, hN, hX⟩ := hv
  have hts := atoms_spec (ws := .code yX2_lines cX2_lines 1 (some .int) :: wsL_law) B.pre
  rw [lg_entry_eq]
  exact b_X2_lines a fu o B.exec B.bytes B.returns hml (findClass_of_methodNamed B.named) (fun w h => hts w (List.mem_cons_of_mem _ h)) B.notSynchronized hK hN hX hP hf   (lv_entry [.ref (a 0)] (n := 1) (Nat.le_of_ble_eq_true rfl))
def p_X2_addAct (fu : Nat) (o : Ob) (v1 : Int32) (v2 : Int32) (v3 : Int32) : Option (Ob) :=
  (p_X9_put fu 30 (o.1 17) (o.1 16 0) v1).bind fun r_9 => (p_X9_put fu 30 ((oA o 17 r_9).1 18) ((oA o 17 r_9).1 16 0) v2).bind fun r_21 => (p_X9_put fu 30 ((oA (oA o 17 r_9) 18 r_21).1 19) ((oA (oA o 17 r_9) 18 r_21).1 16 0) v3).bind fun r_33 => some (oI (oA (oA (oA o 17 r_9) 18 r_21) 19 r_33) 16 (((oA (oA (oA o 17 r_9) 18 r_21) 19 r_33).1 16 0) + 1))
abbrev rm_X2_addAct : Room := { frames := 1, cells := 0, slots := 0, locals := 22 }
set_option maxHeartbeats 4000000 in
set_option maxRecDepth 100000 in
theorem b_X2_addAct {p : Program} {l : Launch} {e : Env} {s : State} {m : MethodId} {args : Array Value} {below : List Frame} {meth : Method} {c : Code} {ls : Array Slot} {D : va_G} {ct : Nat → ClassId} {G : GT} (a : Nat → Nat) (fu : Nat) (o : Ob) (v1 : Int32) (v2 : Int32) (v3 : Int32) {r : Ob} (hx : p.tables.exec = Jvm.exec) (hb : c.code = cX2_addAct) (hr : meth.sig.returnType = none) (hml : c.maxLocals = 4) (hown : s.vm.findClass RX2 = some m.cls) (htl : ∀ w ∈ wsL_law, w.before args s = true) (hlocks : meth.locks = false) (hK : va_K D vwCl (tyl ct) s) (hN : ∀ w ∈ NW, va_Nw w s) (hX : SX G s s.heap) (hP0 : va_P D vwCl (cs2 ct a o) s.heap) (hf : p_X2_addAct fu o v1 v2 v3 = some r) (hD0 : va_D (GE G) (cs2 ct a o))  (hl : lv_has ls 4 [(0, .ref (a 0)), (1, .int v1), (2, .int v2), (3, .int v3)]) : W p l e rm_X2_addAct s m args below meth c s.heap [] 0 0 (MQ below (Qwr none (fun H => va_P D vwCl (cs2 ct a r) H) (wA (cs2 ct a o))) args s 0 0 (wA (cs2 ct a o))) (F0 m 0 ls []) := by
  generalize hQQ : MQ below (Qwr none (fun H => va_P D vwCl (cs2 ct a r) H) (wA (cs2 ct a o))) args s 0 0 (wA (cs2 ct a o)) = QQ
  have hDx : ∀ (oy : Ob), va_D (GE G) (cs2 ct a oy) := fun oy => D_cr hD0 rfl
  have hDW : ∀ (oy : Ob), va_D (wA (cs2 ct a o)) (cs2 ct a oy) := fun oy => D_cr (D_self hD0) rfl
  have hGE : ∀ q, wA (cs2 ct a o) q → GE G q := wA_GE hD0
  have hP := hP0
  have hS : va_S (wA (cs2 ct a o)) s.heap s.heap [] := va_S.rf
  rw [p_X2_addAct] at hf
  refine lv_aload_n hx hb dX2_addAct_0 rfl (lv_at hl 0 rfl) ?_
  refine va_get (D := D) (ci := 2) (v := .ref (a 10)) (C := RX2) (T := TX2) (N := 20) hx hb htl inlX2 hown hK hP 0 rfl rfl 17 (by decide) (htl _ wq_5_1) (fun _ h9 => h9) rfl dX2_addAct_1 ?_
  refine lv_aload_n hx hb dX2_addAct_4 rfl (lv_at hl 0 rfl) ?_
  refine va_get (D := D) (ci := 2) (v := .int (o.1 16 0)) (C := RX2) (T := TX2) (N := 20) hx hb htl inlX2 hown hK hP 0 rfl rfl 16 (by decide) (htl _ wq_5_0) (fun _ h9 => h9) rfl dX2_addAct_5 ?_
  refine lv_iload_n hx hb dX2_addAct_8 rfl (lv_at hl 1 rfl) ?_
  obtain ⟨r_9, e_9, hf⟩ := ob_bind hf
  have hPX_9 : va_P D vwCl ([((a 10), .inl (ct 0, 30, .inl (o.1 17)))]) s.heap := (P_one hP 10 rfl)
  refine wr_call0 (va_runSN (As := [.ref (a 10), .int (o.1 16 0), .int v1]) (rest := []) ⟨hx, hb, hml, hown, htl⟩ (c_X9_put l D ct G (a 10) fu 30 (o.1 17) (o.1 16 0) v1 e_9 ((hDx o).sub (ws' := [((a 10), .inl (ct 0, 30, .inl (o.1 17)))]) [10] (by decide) rfl)) (cw_X2_X9_put htl hN ⟨Nat.le_of_ble_eq_true rfl, Nat.le_of_ble_eq_true rfl⟩) ⟨Bx_blind, Bx_pre hPX_9 hK hN (hX.stay hS hGE)⟩ rfl rfl hl.1 rfl (lv_room (Nat.le_of_ble_eq_true rfl)) dX2_addAct_9 ⟨Nat.zero_le _, Nat.zero_le _⟩) hS (fun q h => wA_cg (w1 := cs2 ct a o) (w2 := cs2 ct a o) rfl q (wA_sub (w2 := cs2 ct a o) [10] rfl q h)) (fun H_9 locs_9 hB_9 _ hk_9 hS => ?_)
  have hP : va_P D vwCl (cs2 ct a (oA o 17 r_9)) H_9 := P_join hP (hDW o) [10] rfl rfl hk_9 hB_9
  refine lv_aload_n hx hb dX2_addAct_12 rfl (lv_at hl 0 rfl) ?_
  refine va_get (D := D) (ci := 2) (v := .ref (a 11)) (C := RX2) (T := TX2) (N := 20) hx hb htl inlX2 hown hK hP 0 rfl rfl 18 (by decide) (htl _ wq_5_2) (fun _ h9 => h9) rfl dX2_addAct_13 ?_
  refine lv_aload_n hx hb dX2_addAct_16 rfl (lv_at hl 0 rfl) ?_
  refine va_get (D := D) (ci := 2) (v := .int ((oA o 17 r_9).1 16 0)) (C := RX2) (T := TX2) (N := 20) hx hb htl inlX2 hown hK hP 0 rfl rfl 16 (by decide) (htl _ wq_5_0) (fun _ h9 => h9) rfl dX2_addAct_17 ?_
  refine lv_iload_n hx hb dX2_addAct_20 rfl (lv_at hl 2 rfl) ?_
  obtain ⟨r_21, e_21, hf⟩ := ob_bind hf
  have hPX_21 : va_P D vwCl ([((a 11), .inl (ct 0, 30, .inl ((oA o 17 r_9).1 18)))]) H_9 := (P_one hP 11 rfl)
  refine wr_call0 (va_runSN (As := [.ref (a 11), .int ((oA o 17 r_9).1 16 0), .int v2]) (rest := []) ⟨hx, hb, hml, hown, htl⟩ (c_X9_put l D ct G (a 11) fu 30 ((oA o 17 r_9).1 18) ((oA o 17 r_9).1 16 0) v2 e_21 ((hDx (oA o 17 r_9)).sub (ws' := [((a 11), .inl (ct 0, 30, .inl ((oA o 17 r_9).1 18)))]) [11] (by decide) rfl)) (cw_X2_X9_put htl hN ⟨Nat.le_of_ble_eq_true rfl, Nat.le_of_ble_eq_true rfl⟩) ⟨Bx_blind, Bx_pre hPX_21 hK hN (hX.stay hS hGE)⟩ rfl rfl hl.1 rfl (lv_room (Nat.le_of_ble_eq_true rfl)) dX2_addAct_21 ⟨Nat.zero_le _, Nat.zero_le _⟩) hS (fun q h => wA_cg (w1 := cs2 ct a (oA o 17 r_9)) (w2 := cs2 ct a o) rfl q (wA_sub (w2 := cs2 ct a (oA o 17 r_9)) [11] rfl q h)) (fun H_21 locs_21 hB_21 _ hk_21 hS => ?_)
  have hP : va_P D vwCl (cs2 ct a (oA (oA o 17 r_9) 18 r_21)) H_21 := P_join hP (hDW (oA o 17 r_9)) [11] rfl rfl hk_21 hB_21
  refine lv_aload_n hx hb dX2_addAct_24 rfl (lv_at hl 0 rfl) ?_
  refine va_get (D := D) (ci := 2) (v := .ref (a 12)) (C := RX2) (T := TX2) (N := 20) hx hb htl inlX2 hown hK hP 0 rfl rfl 19 (by decide) (htl _ wq_5_3) (fun _ h9 => h9) rfl dX2_addAct_25 ?_
  refine lv_aload_n hx hb dX2_addAct_28 rfl (lv_at hl 0 rfl) ?_
  refine va_get (D := D) (ci := 2) (v := .int ((oA (oA o 17 r_9) 18 r_21).1 16 0)) (C := RX2) (T := TX2) (N := 20) hx hb htl inlX2 hown hK hP 0 rfl rfl 16 (by decide) (htl _ wq_5_0) (fun _ h9 => h9) rfl dX2_addAct_29 ?_
  refine lv_iload_n hx hb dX2_addAct_32 rfl (lv_at hl 3 rfl) ?_
  obtain ⟨r_33, e_33, hf⟩ := ob_bind hf
  have hPX_33 : va_P D vwCl ([((a 12), .inl (ct 0, 30, .inl ((oA (oA o 17 r_9) 18 r_21).1 19)))]) H_21 := (P_one hP 12 rfl)
  refine wr_call0 (va_runSN (As := [.ref (a 12), .int ((oA (oA o 17 r_9) 18 r_21).1 16 0), .int v3]) (rest := []) ⟨hx, hb, hml, hown, htl⟩ (c_X9_put l D ct G (a 12) fu 30 ((oA (oA o 17 r_9) 18 r_21).1 19) ((oA (oA o 17 r_9) 18 r_21).1 16 0) v3 e_33 ((hDx (oA (oA o 17 r_9) 18 r_21)).sub (ws' := [((a 12), .inl (ct 0, 30, .inl ((oA (oA o 17 r_9) 18 r_21).1 19)))]) [12] (by decide) rfl)) (cw_X2_X9_put htl hN ⟨Nat.le_of_ble_eq_true rfl, Nat.le_of_ble_eq_true rfl⟩) ⟨Bx_blind, Bx_pre hPX_33 hK hN (hX.stay hS hGE)⟩ rfl rfl hl.1 rfl (lv_room (Nat.le_of_ble_eq_true rfl)) dX2_addAct_33 ⟨Nat.zero_le _, Nat.zero_le _⟩) hS (fun q h => wA_cg (w1 := cs2 ct a (oA (oA o 17 r_9) 18 r_21)) (w2 := cs2 ct a o) rfl q (wA_sub (w2 := cs2 ct a (oA (oA o 17 r_9) 18 r_21)) [12] rfl q h)) (fun H_33 locs_33 hB_33 _ hk_33 hS => ?_)
  have hP : va_P D vwCl (cs2 ct a (oA (oA (oA o 17 r_9) 18 r_21) 19 r_33)) H_33 := P_join hP (hDW (oA (oA o 17 r_9) 18 r_21)) [12] rfl rfl hk_33 hB_33
  refine lv_aload_n hx hb dX2_addAct_36 rfl (lv_at hl 0 rfl) ?_
  refine lv_dup hx hb dX2_addAct_37 rfl ?_
  refine va_get (D := D) (ci := 2) (v := .int ((oA (oA (oA o 17 r_9) 18 r_21) 19 r_33).1 16 0)) (C := RX2) (T := TX2) (N := 20) hx hb htl inlX2 hown hK hP 0 rfl rfl 16 (by decide) (htl _ wq_5_0) (fun _ h9 => h9) rfl dX2_addAct_38 ?_
  refine lv_iconst (v := 1) hx hb dX2_addAct_41 (by decide) ?_
  refine lv_iadd hx hb dX2_addAct_42 ?_
  refine va_put (D := D) (ci := 2) (v := .int (((oA (oA (oA o 17 r_9) 18 r_21) 19 r_33).1 16 0) + 1)) (ty := .int) (C := RX2) (T := TX2) (N := 20) hx hb htl inlX2 tyX2 tyX2_ok nmX2 hown hK hP (hDW (oA (oA (oA o 17 r_9) 18 r_21) 19 r_33)) hS 0 rfl rfl 16 (by decide) (htl _ wq_5_0) (fun _ h9 => h9) rfl (tyX2_ok 16 (by decide)) rfl rfl (Nat.le_of_ble_eq_true rfl) dX2_addAct_43 (fun H_43 locs_43 hP _ hS => ?_)
  have hP : va_P D vwCl (cs2 ct a (oI (oA (oA (oA o 17 r_9) 18 r_21) 19 r_33) 16 (((oA (oA (oA o 17 r_9) 18 r_21) 19 r_33).1 16 0) + 1))) H_43 := st2_16 hP
  rw [← hQQ]
  cases hf
  exact rw_v hx hb hr hlocks hP hS dX2_addAct_46
theorem c_X2_addAct (l : Launch) (D : va_G) (ct : Nat → ClassId) (G : GT) (a : Nat → Nat) (fu : Nat) (o : Ob) (v1 : Int32) (v2 : Int32) (v3 : Int32) {r : Ob} (hf : p_X2_addAct fu o v1 v2 v3 = some r)  (hD0 : va_D (GE G) (cs2 ct a o)) : Met l yX2_addAct (.code yX2_addAct cX2_addAct 4 none :: wsL_law) rm_X2_addAct (va_Pc [.ref (a 0), .int v1, .int v2, .int v3] (Bx D ct G (cs2 ct a o))) (Qwr none (fun H => va_P D vwCl (cs2 ct a r) H) (wA (cs2 ct a o))) 0 0 (wA (cs2 ct a o)) := by
  refine Met.ofW (cc := cX2_addAct) (maxL := 4) (ret := none) (by decide) rfl ?_
  intro p e s m args below meth c s₁ B hml hv
  obtain ⟨rfl, hP, hK, hN, hX⟩ := hv
  have hts := atoms_spec (ws := .code yX2_addAct cX2_addAct 4 none :: wsL_law) B.pre
  rw [lg_entry_eq]
  exact b_X2_addAct a fu o v1 v2 v3 B.exec B.bytes B.returns hml (findClass_of_methodNamed B.named) (fun w h => hts w (List.mem_cons_of_mem _ h)) B.notSynchronized hK hN hX hP hf hD0  (lv_entry [.ref (a 0), .int v1, .int v2, .int v3] (n := 4) (Nat.le_of_ble_eq_true rfl))
def p_X2_takesTurn (fu : Nat) (o : Ob) (v1 : Int32) (v2 : Int32) : Option (Int32) :=
  (p_X9_pick fu 5 (o.1 11) v1).bind fun r_5 => if r_5 ≤ 0 then some (0 : Int32) else if r_5 = 0 then none else (p_X9_pick fu 5 (o.1 12) v1).bind fun r_21 => if (v2 - v2 / r_5 * r_5) = r_21 then some (1 : Int32) else some (0 : Int32)
abbrev rm_X2_takesTurn : Room := { frames := 1, cells := 0, slots := 0, locals := 21 }
set_option maxHeartbeats 4000000 in
set_option maxRecDepth 100000 in
theorem b_X2_takesTurn {p : Program} {l : Launch} {e : Env} {s : State} {m : MethodId} {args : Array Value} {below : List Frame} {meth : Method} {c : Code} {ls : Array Slot} {D : va_G} {ct : Nat → ClassId} {G : GT} (a : Nat → Nat) (fu : Nat) (o : Ob) (v1 : Int32) (v2 : Int32) {r : Int32} (hx : p.tables.exec = Jvm.exec) (hb : c.code = cX2_takesTurn) (hr : meth.sig.returnType = (some .boolean)) (hml : c.maxLocals = 4) (hown : s.vm.findClass RX2 = some m.cls) (htl : ∀ w ∈ wsL_law, w.before args s = true) (hlocks : meth.locks = false) (hK : va_K D vwCl (tyl ct) s) (hN : ∀ w ∈ NW, va_Nw w s) (hX : SX G s s.heap) (hP0 : va_P D vwCl (cs2 ct a o) s.heap) (hf : p_X2_takesTurn fu o v1 v2 = some r)  (hl : lv_has ls 4 [(0, .ref (a 0)), (1, .int v1), (2, .int v2)]) : W p l e rm_X2_takesTurn s m args below meth c s.heap [] 0 0 (MQ below (Qro (some (.int r))) args s 0 0 (fun _ => False)) (F0 m 0 ls []) := by
  generalize hQQ : MQ below (Qro (some (.int r))) args s 0 0 (fun _ => False) = QQ
  have hP := hP0
  rw [p_X2_takesTurn] at hf
  refine lv_aload_n hx hb dX2_takesTurn_0 rfl (lv_at hl 0 rfl) ?_
  refine va_get (D := D) (ci := 2) (v := .ref (a 6)) (C := RX2) (T := TX2) (N := 20) hx hb htl inlX2 hown hK hP 0 rfl rfl 11 (by decide) (htl _ wq_4_19) (fun _ h9 => h9) rfl dX2_takesTurn_1 ?_
  refine lv_iload_n hx hb dX2_takesTurn_4 rfl (lv_at hl 1 rfl) ?_
  obtain ⟨r_5, e_5, hf⟩ := ob_bind hf
  have hPX_5 : va_P D vwCl ([((a 6), .inl (ct 0, 5, .inl (o.1 11)))]) s.heap := (P_one hP 6 rfl)
  refine ro_call1 (va_runSN (As := [.ref (a 6), .int v1]) (rest := []) ⟨hx, hb, hml, hown, htl⟩ (c_X9_pick l D ct G (a 6) fu 5 (o.1 11) v1 e_5) (cw_X2_X9_pick htl hN ⟨Nat.le_of_ble_eq_true rfl, Nat.le_of_ble_eq_true rfl⟩) ⟨Bx_blind, Bx_pre hPX_5 hK hN hX⟩ rfl rfl hl.1 rfl (lv_room (Nat.le_of_ble_eq_true rfl)) dX2_takesTurn_5 ⟨Nat.zero_le _, Nat.zero_le _⟩) ?_
  refine lv_istore_n (lv' := [(3, .int r_5), (0, .ref (a 0)), (1, .int v1), (2, .int v2)]) hx hb dX2_takesTurn_8 rfl hl (by decide) rfl (fun ls hl => ?_)
  refine lv_iload_n hx hb dX2_takesTurn_9 rfl (lv_at hl 0 rfl) ?_
  refine lv_if_le (tgt := 31) hx hb dX2_takesTurn_10 (by decide) (fun c_10 => ?_) (fun c_10 => ?_)
  · rw [if_pos c_10] at hf
    refine lv_iconst (v := 0) hx hb dX2_takesTurn_31 (by decide) ?_
    rw [← hQQ]
    exact rf_z hx hb hr hlocks rfl hf dX2_takesTurn_32
  rw [if_neg c_10] at hf
  refine lv_iload_n hx hb dX2_takesTurn_13 rfl (lv_at hl 3 rfl) ?_
  refine lv_iload_n hx hb dX2_takesTurn_14 rfl (lv_at hl 0 rfl) ?_
  obtain ⟨hne_15, hf⟩ := ob_ne hf
  refine lv_irem hx hb dX2_takesTurn_15 hne_15 ?_
  refine lv_aload_n hx hb dX2_takesTurn_16 rfl (lv_at hl 1 rfl) ?_
  refine va_get (D := D) (ci := 2) (v := .ref (a 7)) (C := RX2) (T := TX2) (N := 20) hx hb htl inlX2 hown hK hP 0 rfl rfl 12 (by decide) (htl _ wq_4_20) (fun _ h9 => h9) rfl dX2_takesTurn_17 ?_
  refine lv_iload_n hx hb dX2_takesTurn_20 rfl (lv_at hl 2 rfl) ?_
  obtain ⟨r_21, e_21, hf⟩ := ob_bind hf
  have hPX_21 : va_P D vwCl ([((a 7), .inl (ct 0, 5, .inl (o.1 12)))]) s.heap := (P_one hP 7 rfl)
  refine ro_call1 (va_runSN (As := [.ref (a 7), .int v1]) (rest := [.int (v2 - v2 / r_5 * r_5)]) ⟨hx, hb, hml, hown, htl⟩ (c_X9_pick l D ct G (a 7) fu 5 (o.1 12) v1 e_21) (cw_X2_X9_pick htl hN ⟨Nat.le_of_ble_eq_true rfl, Nat.le_of_ble_eq_true rfl⟩) ⟨Bx_blind, Bx_pre hPX_21 hK hN hX⟩ rfl rfl hl.1 rfl (lv_room (Nat.le_of_ble_eq_true rfl)) dX2_takesTurn_21 ⟨Nat.zero_le _, Nat.zero_le _⟩) ?_
  refine lv_icmp_ne (tgt := 31) hx hb dX2_takesTurn_24 (by decide) (fun c_24 => ?_) (fun c_24 => ?_)
  · rw [if_neg c_24] at hf
    refine lv_iconst (v := 0) hx hb dX2_takesTurn_31 (by decide) ?_
    rw [← hQQ]
    exact rf_z hx hb hr hlocks rfl hf dX2_takesTurn_32
  rw [if_pos c_24] at hf
  refine lv_iconst (v := 1) hx hb dX2_takesTurn_27 (by decide) ?_
  refine lv_goto (tgt := 32) hx hb dX2_takesTurn_28 (by decide) ?_
  rw [← hQQ]
  exact rf_z hx hb hr hlocks rfl hf dX2_takesTurn_32
theorem c_X2_takesTurn (l : Launch) (D : va_G) (ct : Nat → ClassId) (G : GT) (a : Nat → Nat) (fu : Nat) (o : Ob) (v1 : Int32) (v2 : Int32) {r : Int32} (hf : p_X2_takesTurn fu o v1 v2 = some r)  : Met l yX2_takesTurn (.code yX2_takesTurn cX2_takesTurn 4 (some .boolean) :: wsL_law) rm_X2_takesTurn (va_Pc [.ref (a 0), .int v1, .int v2] (Bx D ct G (cs2 ct a o))) (Qro (some (.int r))) 0 0 (fun _ => False) := by
  refine Met.ofW (cc := cX2_takesTurn) (maxL := 4) (ret := (some .boolean)) (by decide) rfl ?_
  intro p e s m args below meth c s₁ B hml hv
  obtain ⟨rfl, hP, hK, hN, hX⟩ := hv
  have hts := atoms_spec (ws := .code yX2_takesTurn cX2_takesTurn 4 (some .boolean) :: wsL_law) B.pre
  rw [lg_entry_eq]
  exact b_X2_takesTurn a fu o v1 v2 B.exec B.bytes B.returns hml (findClass_of_methodNamed B.named) (fun w h => hts w (List.mem_cons_of_mem _ h)) B.notSynchronized hK hN hX hP hf   (lv_entry [.ref (a 0), .int v1, .int v2] (n := 4) (Nat.le_of_ble_eq_true rfl))
def p_X3_lay_L17 (fu : Nat)  : Nat → Ob → Int32 → Option (Ob)
  | 0, _, _ => none
  | n + 1, oz, v3 =>
    if (60 : Int32) ≤ v3 then some oz else if inb v3 60 = true then p_X3_lay_L17 fu  n (oLA oz 3 (vp_updL (oz.2 3) v3.toNatClampNeg (0 : Int64))) (v3 + 1) else none
def p_X3_lay (fu : Nat) (o : Ob) (v1 : Int32) (v2 : Int32) : Option (Ob) :=
  p_X3_lay_L17 fu fu (oI (oI (oI o 0 (1 : Int32)) 1 v1) 2 v2) 0
abbrev rm_X3_lay : Room := { frames := 0, cells := 0, slots := 0, locals := 0 }
set_option maxHeartbeats 4000000 in
set_option maxRecDepth 100000 in
theorem b_X3_lay {p : Program} {l : Launch} {e : Env} {s : State} {m : MethodId} {args : Array Value} {below : List Frame} {meth : Method} {c : Code} {ls : Array Slot} {D : va_G} {ct : Nat → ClassId} {G : GT} (a : Nat → Nat) (fu : Nat) (o : Ob) (v1 : Int32) (v2 : Int32) {r : Ob} (hx : p.tables.exec = Jvm.exec) (hb : c.code = cX3_lay) (hr : meth.sig.returnType = none) (hml : c.maxLocals = 4) (hown : s.vm.findClass RX3 = some m.cls) (htl : ∀ w ∈ wsL_law, w.before args s = true) (hlocks : meth.locks = false) (hK : va_K D vwCl (tyl ct) s) (hN : ∀ w ∈ NW, va_Nw w s) (hX : SX G s s.heap) (hP0 : va_P D vwCl (cs3 ct a o) s.heap) (hf : p_X3_lay fu o v1 v2 = some r) (hD0 : va_D (GE G) (cs3 ct a o))  (hl : lv_has ls 4 [(0, .ref (a 0)), (1, .int v1), (2, .int v2)]) : W p l e rm_X3_lay s m args below meth c s.heap [] 0 0 (MQ below (Qwr none (fun H => va_P D vwCl (cs3 ct a r) H) (wA (cs3 ct a o))) args s 0 0 (wA (cs3 ct a o))) (F0 m 0 ls []) := by
  generalize hQQ : MQ below (Qwr none (fun H => va_P D vwCl (cs3 ct a r) H) (wA (cs3 ct a o))) args s 0 0 (wA (cs3 ct a o)) = QQ
  have hDx : ∀ (oy : Ob), va_D (GE G) (cs3 ct a oy) := fun oy => D_cr hD0 rfl
  have hDW : ∀ (oy : Ob), va_D (wA (cs3 ct a o)) (cs3 ct a oy) := fun oy => D_cr (D_self hD0) rfl
  have hGE : ∀ q, wA (cs3 ct a o) q → GE G q := wA_GE hD0
  have hP := hP0
  have hS : va_S (wA (cs3 ct a o)) s.heap s.heap [] := va_S.rf
  have hL17 : ∀ (n : Nat) (oz : Ob) (v3 : Int32), ∀ (H : Heap) (locs : List Loc) (ls : Array Slot), va_P D vwCl (cs3 ct a oz) H → va_S (wA (cs3 ct a o)) s.heap H locs → lv_has ls 4 [(0, .ref (a 0)), (3, .int v3)] → p_X3_lay_L17 fu  n oz v3 = some r → W p l e rm_X3_lay s m args below meth c H locs 0 0 QQ (F0 m 17 ls []) := by
    intro  n
    induction n with
    | zero =>
      intro oz v3 H locs ls hP hS hl hf 
      rw [p_X3_lay_L17] at hf
      cases hf
    | succ n ih =>
      intro oz v3 H locs ls hP hS hl hf 
      rw [p_X3_lay_L17] at hf
      refine lv_iload_n hx hb dX3_lay_17 rfl (lv_at hl 1 rfl) ?_
      refine lv_aload_n hx hb dX3_lay_18 rfl (lv_at hl 0 rfl) ?_
      refine va_get (D := D) (ci := 3) (v := .ref (a 1)) (C := RX3) (T := TX3) (N := 4) hx hb htl inlX3 hown hK hP 0 rfl rfl 3 (by decide) (htl _ wq_6_19) (fun _ h9 => h9) rfl dX3_lay_19 ?_
      refine va_alen (D := D) (tys := tyl ct) (v := 60) hx hb hK hP 1 1 rfl rfl rfl dX3_lay_22 ?_
      refine lv_icmp_ge (tgt := 39) hx hb dX3_lay_23 (by decide) (fun c_23 => ?_) (fun c_23 => ?_)
      · rw [if_pos c_23] at hf
        rw [← hQQ]
        cases hf
        exact rw_v hx hb hr hlocks hP hS dX3_lay_39
      rw [if_neg c_23] at hf
      refine lv_aload_n hx hb dX3_lay_26 rfl (lv_at hl 0 rfl) ?_
      refine va_get (D := D) (ci := 3) (v := .ref (a 1)) (C := RX3) (T := TX3) (N := 4) hx hb htl inlX3 hown hK hP 0 rfl rfl 3 (by decide) (htl _ wq_6_19) (fun _ h9 => h9) rfl dX3_lay_27 ?_
      refine lv_iload_n hx hb dX3_lay_30 rfl (lv_at hl 1 rfl) ?_
      refine lv_lconst (v := 0) hx hb dX3_lay_31 (by decide) ?_
      obtain ⟨hi_32, hf⟩ := ob_in hf
      refine va_last (D := D) (tys := tyl ct) hx hb hK hP (hDW oz) hS 1 1 rfl rfl hi_32 dX3_lay_32 (fun H_32 locs_32 hP _ hS => ?_)
      have hP : va_P D vwCl (cs3 ct a (oLA oz 3 (vp_updL (oz.2 3) v3.toNatClampNeg (0 : Int64)))) H_32 := sa3_3 hP
      refine lv_iinc (v := (v3 + 1)) (lv' := [(3, .int (v3 + 1)), (0, .ref (a 0))]) hx hb dX3_lay_33 hl (k := 1) rfl rfl (by decide) rfl (fun ls hl => ?_)
      refine lv_goto (tgt := 17) hx hb dX3_lay_36 (by decide) ?_
      exact ih (oLA oz 3 (vp_updL (oz.2 3) v3.toNatClampNeg (0 : Int64))) (v3 + 1) _ _ _ hP hS (lv_sub hl [1, 0] rfl) hf 
  rw [p_X3_lay] at hf
  refine lv_aload_n hx hb dX3_lay_0 rfl (lv_at hl 0 rfl) ?_
  refine lv_iconst (v := 1) hx hb dX3_lay_1 (by decide) ?_
  refine va_put (D := D) (ci := 3) (v := .int 1) (ty := .boolean) (C := RX3) (T := TX3) (N := 4) hx hb htl inlX3 tyX3 tyX3_ok nmX3 hown hK hP (hDW o) hS 0 rfl rfl 0 (by decide) (htl _ wq_6_16) (fun _ h9 => h9) rfl (tyX3_ok 0 (by decide)) rfl rfl (Nat.le_of_ble_eq_true rfl) dX3_lay_2 (fun H_2 locs_2 hP _ hS => ?_)
  have hP : va_P D vwCl (cs3 ct a (oI o 0 (1 : Int32))) H_2 := st3_0 hP
  refine lv_aload_n hx hb dX3_lay_5 rfl (lv_at hl 0 rfl) ?_
  refine lv_iload_n hx hb dX3_lay_6 rfl (lv_at hl 1 rfl) ?_
  refine va_put (D := D) (ci := 3) (v := .int v1) (ty := .int) (C := RX3) (T := TX3) (N := 4) hx hb htl inlX3 tyX3 tyX3_ok nmX3 hown hK hP (hDW (oI o 0 (1 : Int32))) hS 0 rfl rfl 1 (by decide) (htl _ wq_6_17) (fun _ h9 => h9) rfl (tyX3_ok 1 (by decide)) rfl rfl (Nat.le_of_ble_eq_true rfl) dX3_lay_7 (fun H_7 locs_7 hP _ hS => ?_)
  have hP : va_P D vwCl (cs3 ct a (oI (oI o 0 (1 : Int32)) 1 v1)) H_7 := st3_1 hP
  refine lv_aload_n hx hb dX3_lay_10 rfl (lv_at hl 0 rfl) ?_
  refine lv_iload_n hx hb dX3_lay_11 rfl (lv_at hl 2 rfl) ?_
  refine va_put (D := D) (ci := 3) (v := .int v2) (ty := .int) (C := RX3) (T := TX3) (N := 4) hx hb htl inlX3 tyX3 tyX3_ok nmX3 hown hK hP (hDW (oI (oI o 0 (1 : Int32)) 1 v1)) hS 0 rfl rfl 2 (by decide) (htl _ wq_6_18) (fun _ h9 => h9) rfl (tyX3_ok 2 (by decide)) rfl rfl (Nat.le_of_ble_eq_true rfl) dX3_lay_12 (fun H_12 locs_12 hP _ hS => ?_)
  have hP : va_P D vwCl (cs3 ct a (oI (oI (oI o 0 (1 : Int32)) 1 v1) 2 v2)) H_12 := st3_2 hP
  refine lv_iconst (v := 0) hx hb dX3_lay_15 (by decide) ?_
  refine lv_istore_n (lv' := [(3, .int 0), (0, .ref (a 0)), (1, .int v1), (2, .int v2)]) hx hb dX3_lay_16 rfl hl (by decide) rfl (fun ls hl => ?_)
  exact hL17 fu (oI (oI (oI o 0 (1 : Int32)) 1 v1) 2 v2) 0 _ _ _ hP hS (lv_sub hl [1, 0] rfl) hf 
theorem c_X3_lay (l : Launch) (D : va_G) (ct : Nat → ClassId) (G : GT) (a : Nat → Nat) (fu : Nat) (o : Ob) (v1 : Int32) (v2 : Int32) {r : Ob} (hf : p_X3_lay fu o v1 v2 = some r)  (hD0 : va_D (GE G) (cs3 ct a o)) : Met l yX3_lay (.code yX3_lay cX3_lay 4 none :: wsL_law) rm_X3_lay (va_Pc [.ref (a 0), .int v1, .int v2] (Bx D ct G (cs3 ct a o))) (Qwr none (fun H => va_P D vwCl (cs3 ct a r) H) (wA (cs3 ct a o))) 0 0 (wA (cs3 ct a o)) := by
  refine Met.ofW (cc := cX3_lay) (maxL := 4) (ret := none) (by decide) rfl ?_
  intro p e s m args below meth c s₁ B hml hv
  obtain ⟨rfl, hP, hK, hN, hX⟩ := hv
  have hts := atoms_spec (ws := .code yX3_lay cX3_lay 4 none :: wsL_law) B.pre
  rw [lg_entry_eq]
  exact b_X3_lay a fu o v1 v2 B.exec B.bytes B.returns hml (findClass_of_methodNamed B.named) (fun w h => hts w (List.mem_cons_of_mem _ h)) B.notSynchronized hK hN hX hP hf hD0  (lv_entry [.ref (a 0), .int v1, .int v2] (n := 4) (Nat.le_of_ble_eq_true rfl))
def p_X3_number (fu : Nat) (o : Ob) (v1 : Int32) : Option (Int64) :=
  if v1 < 0 then some (0 : Int64) else if (60 : Int32) ≤ v1 then some (0 : Int64) else if inb v1 60 = true then some ((o.2 3) v1.toNatClampNeg) else none
abbrev rm_X3_number : Room := { frames := 0, cells := 0, slots := 0, locals := 0 }
set_option maxHeartbeats 4000000 in
set_option maxRecDepth 100000 in
theorem b_X3_number {p : Program} {l : Launch} {e : Env} {s : State} {m : MethodId} {args : Array Value} {below : List Frame} {meth : Method} {c : Code} {ls : Array Slot} {D : va_G} {ct : Nat → ClassId} {G : GT} (a : Nat → Nat) (fu : Nat) (o : Ob) (v1 : Int32) {r : Int64} (hx : p.tables.exec = Jvm.exec) (hb : c.code = cX3_number) (hr : meth.sig.returnType = (some .long)) (hml : c.maxLocals = 2) (hown : s.vm.findClass RX3 = some m.cls) (htl : ∀ w ∈ wsL_law, w.before args s = true) (hlocks : meth.locks = false) (hK : va_K D vwCl (tyl ct) s) (hN : ∀ w ∈ NW, va_Nw w s) (hX : SX G s s.heap) (hP0 : va_P D vwCl (cs3 ct a o) s.heap) (hf : p_X3_number fu o v1 = some r)  (hl : lv_has ls 2 [(0, .ref (a 0)), (1, .int v1)]) : W p l e rm_X3_number s m args below meth c s.heap [] 0 0 (MQ below (Qro (some (.long r))) args s 0 0 (fun _ => False)) (F0 m 0 ls []) := by
  generalize hQQ : MQ below (Qro (some (.long r))) args s 0 0 (fun _ => False) = QQ
  have hP := hP0
  rw [p_X3_number] at hf
  refine lv_iload_n hx hb dX3_number_0 rfl (lv_at hl 1 rfl) ?_
  refine lv_if_lt (tgt := 22) hx hb dX3_number_1 (by decide) (fun c_1 => ?_) (fun c_1 => ?_)
  · rw [if_pos c_1] at hf
    refine lv_lconst (v := 0) hx hb dX3_number_22 (by decide) ?_
    rw [← hQQ]
    exact rf_l hx hb hr hlocks hf dX3_number_23
  rw [if_neg c_1] at hf
  refine lv_iload_n hx hb dX3_number_4 rfl (lv_at hl 1 rfl) ?_
  refine lv_aload_n hx hb dX3_number_5 rfl (lv_at hl 0 rfl) ?_
  refine va_get (D := D) (ci := 3) (v := .ref (a 1)) (C := RX3) (T := TX3) (N := 4) hx hb htl inlX3 hown hK hP 0 rfl rfl 3 (by decide) (htl _ wq_6_19) (fun _ h9 => h9) rfl dX3_number_6 ?_
  refine va_alen (D := D) (tys := tyl ct) (v := 60) hx hb hK hP 1 1 rfl rfl rfl dX3_number_9 ?_
  refine lv_icmp_ge (tgt := 22) hx hb dX3_number_10 (by decide) (fun c_10 => ?_) (fun c_10 => ?_)
  · rw [if_pos c_10] at hf
    refine lv_lconst (v := 0) hx hb dX3_number_22 (by decide) ?_
    rw [← hQQ]
    exact rf_l hx hb hr hlocks hf dX3_number_23
  rw [if_neg c_10] at hf
  refine lv_aload_n hx hb dX3_number_13 rfl (lv_at hl 0 rfl) ?_
  refine va_get (D := D) (ci := 3) (v := .ref (a 1)) (C := RX3) (T := TX3) (N := 4) hx hb htl inlX3 hown hK hP 0 rfl rfl 3 (by decide) (htl _ wq_6_19) (fun _ h9 => h9) rfl dX3_number_14 ?_
  refine lv_iload_n hx hb dX3_number_17 rfl (lv_at hl 1 rfl) ?_
  obtain ⟨hi_18, hf⟩ := ob_in hf
  refine va_lald (D := D) (tys := tyl ct) hx hb hK hP 1 1 rfl rfl hi_18 dX3_number_18 ?_
  refine lv_goto (tgt := 23) hx hb dX3_number_19 (by decide) ?_
  rw [← hQQ]
  exact rf_l hx hb hr hlocks hf dX3_number_23
theorem c_X3_number (l : Launch) (D : va_G) (ct : Nat → ClassId) (G : GT) (a : Nat → Nat) (fu : Nat) (o : Ob) (v1 : Int32) {r : Int64} (hf : p_X3_number fu o v1 = some r)  : Met l yX3_number (.code yX3_number cX3_number 2 (some .long) :: wsL_law) rm_X3_number (va_Pc [.ref (a 0), .int v1] (Bx D ct G (cs3 ct a o))) (Qro (some (.long r))) 0 0 (fun _ => False) := by
  refine Met.ofW (cc := cX3_number) (maxL := 2) (ret := (some .long)) (by decide) rfl ?_
  intro p e s m args below meth c s₁ B hml hv
  obtain ⟨rfl, hP, hK, hN, hX⟩ := hv
  have hts := atoms_spec (ws := .code yX3_number cX3_number 2 (some .long) :: wsL_law) B.pre
  rw [lg_entry_eq]
  exact b_X3_number a fu o v1 B.exec B.bytes B.returns hml (findClass_of_methodNamed B.named) (fun w h => hts w (List.mem_cons_of_mem _ h)) B.notSynchronized hK hN hX hP hf   (lv_entry [.ref (a 0), .int v1] (n := 2) (Nat.le_of_ble_eq_true rfl))
def p_X3_store (fu : Nat) (o : Ob) (v1 : Int32) (v2 : Int64) : Option (Ob) :=
  if v1 < 0 then some o else if (60 : Int32) ≤ v1 then some o else if inb v1 60 = true then some (oLA o 3 (vp_updL (o.2 3) v1.toNatClampNeg v2)) else none
abbrev rm_X3_store : Room := { frames := 0, cells := 0, slots := 0, locals := 0 }
set_option maxHeartbeats 4000000 in
set_option maxRecDepth 100000 in
theorem b_X3_store {p : Program} {l : Launch} {e : Env} {s : State} {m : MethodId} {args : Array Value} {below : List Frame} {meth : Method} {c : Code} {ls : Array Slot} {D : va_G} {ct : Nat → ClassId} {G : GT} (a : Nat → Nat) (fu : Nat) (o : Ob) (v1 : Int32) (v2 : Int64) {r : Ob} (hx : p.tables.exec = Jvm.exec) (hb : c.code = cX3_store) (hr : meth.sig.returnType = none) (hml : c.maxLocals = 4) (hown : s.vm.findClass RX3 = some m.cls) (htl : ∀ w ∈ wsL_law, w.before args s = true) (hlocks : meth.locks = false) (hK : va_K D vwCl (tyl ct) s) (hN : ∀ w ∈ NW, va_Nw w s) (hX : SX G s s.heap) (hP0 : va_P D vwCl (cs3 ct a o) s.heap) (hf : p_X3_store fu o v1 v2 = some r) (hD0 : va_D (GE G) (cs3 ct a o))  (hl : lv_has ls 4 [(0, .ref (a 0)), (1, .int v1), (2, .long v2)]) : W p l e rm_X3_store s m args below meth c s.heap [] 0 0 (MQ below (Qwr none (fun H => va_P D vwCl (cs3 ct a r) H) (wA (cs3 ct a o))) args s 0 0 (wA (cs3 ct a o))) (F0 m 0 ls []) := by
  generalize hQQ : MQ below (Qwr none (fun H => va_P D vwCl (cs3 ct a r) H) (wA (cs3 ct a o))) args s 0 0 (wA (cs3 ct a o)) = QQ
  have hDx : ∀ (oy : Ob), va_D (GE G) (cs3 ct a oy) := fun oy => D_cr hD0 rfl
  have hDW : ∀ (oy : Ob), va_D (wA (cs3 ct a o)) (cs3 ct a oy) := fun oy => D_cr (D_self hD0) rfl
  have hGE : ∀ q, wA (cs3 ct a o) q → GE G q := wA_GE hD0
  have hP := hP0
  have hS : va_S (wA (cs3 ct a o)) s.heap s.heap [] := va_S.rf
  rw [p_X3_store] at hf
  refine lv_iload_n hx hb dX3_store_0 rfl (lv_at hl 1 rfl) ?_
  refine lv_if_lt (tgt := 20) hx hb dX3_store_1 (by decide) (fun c_1 => ?_) (fun c_1 => ?_)
  · rw [if_pos c_1] at hf
    rw [← hQQ]
    cases hf
    exact rw_v hx hb hr hlocks hP hS dX3_store_20
  rw [if_neg c_1] at hf
  refine lv_iload_n hx hb dX3_store_4 rfl (lv_at hl 1 rfl) ?_
  refine lv_aload_n hx hb dX3_store_5 rfl (lv_at hl 0 rfl) ?_
  refine va_get (D := D) (ci := 3) (v := .ref (a 1)) (C := RX3) (T := TX3) (N := 4) hx hb htl inlX3 hown hK hP 0 rfl rfl 3 (by decide) (htl _ wq_6_19) (fun _ h9 => h9) rfl dX3_store_6 ?_
  refine va_alen (D := D) (tys := tyl ct) (v := 60) hx hb hK hP 1 1 rfl rfl rfl dX3_store_9 ?_
  refine lv_icmp_ge (tgt := 20) hx hb dX3_store_10 (by decide) (fun c_10 => ?_) (fun c_10 => ?_)
  · rw [if_pos c_10] at hf
    rw [← hQQ]
    cases hf
    exact rw_v hx hb hr hlocks hP hS dX3_store_20
  rw [if_neg c_10] at hf
  refine lv_aload_n hx hb dX3_store_13 rfl (lv_at hl 0 rfl) ?_
  refine va_get (D := D) (ci := 3) (v := .ref (a 1)) (C := RX3) (T := TX3) (N := 4) hx hb htl inlX3 hown hK hP 0 rfl rfl 3 (by decide) (htl _ wq_6_19) (fun _ h9 => h9) rfl dX3_store_14 ?_
  refine lv_iload_n hx hb dX3_store_17 rfl (lv_at hl 1 rfl) ?_
  refine lv_lload_n hx hb dX3_store_18 rfl (lv_at hl 2 rfl) ?_
  obtain ⟨hi_19, hf⟩ := ob_in hf
  refine va_last (D := D) (tys := tyl ct) hx hb hK hP (hDW o) hS 1 1 rfl rfl hi_19 dX3_store_19 (fun H_19 locs_19 hP _ hS => ?_)
  have hP : va_P D vwCl (cs3 ct a (oLA o 3 (vp_updL (o.2 3) v1.toNatClampNeg v2))) H_19 := sa3_3 hP
  rw [← hQQ]
  cases hf
  exact rw_v hx hb hr hlocks hP hS dX3_store_20
theorem c_X3_store (l : Launch) (D : va_G) (ct : Nat → ClassId) (G : GT) (a : Nat → Nat) (fu : Nat) (o : Ob) (v1 : Int32) (v2 : Int64) {r : Ob} (hf : p_X3_store fu o v1 v2 = some r)  (hD0 : va_D (GE G) (cs3 ct a o)) : Met l yX3_store (.code yX3_store cX3_store 4 none :: wsL_law) rm_X3_store (va_Pc [.ref (a 0), .int v1, .long v2] (Bx D ct G (cs3 ct a o))) (Qwr none (fun H => va_P D vwCl (cs3 ct a r) H) (wA (cs3 ct a o))) 0 0 (wA (cs3 ct a o)) := by
  refine Met.ofW (cc := cX3_store) (maxL := 4) (ret := none) (by decide) rfl ?_
  intro p e s m args below meth c s₁ B hml hv
  obtain ⟨rfl, hP, hK, hN, hX⟩ := hv
  have hts := atoms_spec (ws := .code yX3_store cX3_store 4 none :: wsL_law) B.pre
  rw [lg_entry_eq]
  exact b_X3_store a fu o v1 v2 B.exec B.bytes B.returns hml (findClass_of_methodNamed B.named) (fun w h => hts w (List.mem_cons_of_mem _ h)) B.notSynchronized hK hN hX hP hf hD0  (lv_entry [.ref (a 0), .int v1, .long v2] (n := 4) (Nat.le_of_ble_eq_true rfl))
def p_X3_reachesOver (fu : Nat) (o : Ob) (v1 : Int32) (v2 : Int32) : Option (Int32) :=
  if v1 < 0 then some (0 : Int32) else if v2 < 0 then some (0 : Int32) else if (o.1 2 0) < v1 then some (0 : Int32) else if ((o.1 2 0) - v1) < v2 then some (0 : Int32) else some (1 : Int32)
abbrev rm_X3_reachesOver : Room := { frames := 0, cells := 0, slots := 0, locals := 0 }
set_option maxHeartbeats 4000000 in
set_option maxRecDepth 100000 in
theorem b_X3_reachesOver {p : Program} {l : Launch} {e : Env} {s : State} {m : MethodId} {args : Array Value} {below : List Frame} {meth : Method} {c : Code} {ls : Array Slot} {D : va_G} {ct : Nat → ClassId} {G : GT} (a : Nat → Nat) (fu : Nat) (o : Ob) (v1 : Int32) (v2 : Int32) {r : Int32} (hx : p.tables.exec = Jvm.exec) (hb : c.code = cX3_reachesOver) (hr : meth.sig.returnType = (some .boolean)) (hml : c.maxLocals = 3) (hown : s.vm.findClass RX3 = some m.cls) (htl : ∀ w ∈ wsL_law, w.before args s = true) (hlocks : meth.locks = false) (hK : va_K D vwCl (tyl ct) s) (hN : ∀ w ∈ NW, va_Nw w s) (hX : SX G s s.heap) (hP0 : va_P D vwCl (cs3 ct a o) s.heap) (hf : p_X3_reachesOver fu o v1 v2 = some r)  (hl : lv_has ls 3 [(0, .ref (a 0)), (1, .int v1), (2, .int v2)]) : W p l e rm_X3_reachesOver s m args below meth c s.heap [] 0 0 (MQ below (Qro (some (.int r))) args s 0 0 (fun _ => False)) (F0 m 0 ls []) := by
  generalize hQQ : MQ below (Qro (some (.int r))) args s 0 0 (fun _ => False) = QQ
  have hP := hP0
  rw [p_X3_reachesOver] at hf
  refine lv_iload_n hx hb dX3_reachesOver_0 rfl (lv_at hl 1 rfl) ?_
  refine lv_if_lt (tgt := 30) hx hb dX3_reachesOver_1 (by decide) (fun c_1 => ?_) (fun c_1 => ?_)
  · rw [if_pos c_1] at hf
    refine lv_iconst (v := 0) hx hb dX3_reachesOver_30 (by decide) ?_
    rw [← hQQ]
    exact rf_z hx hb hr hlocks rfl hf dX3_reachesOver_31
  rw [if_neg c_1] at hf
  refine lv_iload_n hx hb dX3_reachesOver_4 rfl (lv_at hl 2 rfl) ?_
  refine lv_if_lt (tgt := 30) hx hb dX3_reachesOver_5 (by decide) (fun c_5 => ?_) (fun c_5 => ?_)
  · rw [if_pos c_5] at hf
    refine lv_iconst (v := 0) hx hb dX3_reachesOver_30 (by decide) ?_
    rw [← hQQ]
    exact rf_z hx hb hr hlocks rfl hf dX3_reachesOver_31
  rw [if_neg c_5] at hf
  refine lv_iload_n hx hb dX3_reachesOver_8 rfl (lv_at hl 1 rfl) ?_
  refine lv_aload_n hx hb dX3_reachesOver_9 rfl (lv_at hl 0 rfl) ?_
  refine va_get (D := D) (ci := 3) (v := .int (o.1 2 0)) (C := RX3) (T := TX3) (N := 4) hx hb htl inlX3 hown hK hP 0 rfl rfl 2 (by decide) (htl _ wq_6_18) (fun _ h9 => h9) rfl dX3_reachesOver_10 ?_
  refine lv_icmp_gt (tgt := 30) hx hb dX3_reachesOver_13 (by decide) (fun c_13 => ?_) (fun c_13 => ?_)
  · rw [if_pos c_13] at hf
    refine lv_iconst (v := 0) hx hb dX3_reachesOver_30 (by decide) ?_
    rw [← hQQ]
    exact rf_z hx hb hr hlocks rfl hf dX3_reachesOver_31
  rw [if_neg c_13] at hf
  refine lv_iload_n hx hb dX3_reachesOver_16 rfl (lv_at hl 2 rfl) ?_
  refine lv_aload_n hx hb dX3_reachesOver_17 rfl (lv_at hl 0 rfl) ?_
  refine va_get (D := D) (ci := 3) (v := .int (o.1 2 0)) (C := RX3) (T := TX3) (N := 4) hx hb htl inlX3 hown hK hP 0 rfl rfl 2 (by decide) (htl _ wq_6_18) (fun _ h9 => h9) rfl dX3_reachesOver_18 ?_
  refine lv_iload_n hx hb dX3_reachesOver_21 rfl (lv_at hl 1 rfl) ?_
  refine lv_isub hx hb dX3_reachesOver_22 ?_
  refine lv_icmp_gt (tgt := 30) hx hb dX3_reachesOver_23 (by decide) (fun c_23 => ?_) (fun c_23 => ?_)
  · rw [if_pos c_23] at hf
    refine lv_iconst (v := 0) hx hb dX3_reachesOver_30 (by decide) ?_
    rw [← hQQ]
    exact rf_z hx hb hr hlocks rfl hf dX3_reachesOver_31
  rw [if_neg c_23] at hf
  refine lv_iconst (v := 1) hx hb dX3_reachesOver_26 (by decide) ?_
  refine lv_goto (tgt := 31) hx hb dX3_reachesOver_27 (by decide) ?_
  rw [← hQQ]
  exact rf_z hx hb hr hlocks rfl hf dX3_reachesOver_31
theorem c_X3_reachesOver (l : Launch) (D : va_G) (ct : Nat → ClassId) (G : GT) (a : Nat → Nat) (fu : Nat) (o : Ob) (v1 : Int32) (v2 : Int32) {r : Int32} (hf : p_X3_reachesOver fu o v1 v2 = some r)  : Met l yX3_reachesOver (.code yX3_reachesOver cX3_reachesOver 3 (some .boolean) :: wsL_law) rm_X3_reachesOver (va_Pc [.ref (a 0), .int v1, .int v2] (Bx D ct G (cs3 ct a o))) (Qro (some (.int r))) 0 0 (fun _ => False) := by
  refine Met.ofW (cc := cX3_reachesOver) (maxL := 3) (ret := (some .boolean)) (by decide) rfl ?_
  intro p e s m args below meth c s₁ B hml hv
  obtain ⟨rfl, hP, hK, hN, hX⟩ := hv
  have hts := atoms_spec (ws := .code yX3_reachesOver cX3_reachesOver 3 (some .boolean) :: wsL_law) B.pre
  rw [lg_entry_eq]
  exact b_X3_reachesOver a fu o v1 v2 B.exec B.bytes B.returns hml (findClass_of_methodNamed B.named) (fun w h => hts w (List.mem_cons_of_mem _ h)) B.notSynchronized hK hN hX hP hf   (lv_entry [.ref (a 0), .int v1, .int v2] (n := 3) (Nat.le_of_ble_eq_true rfl))
theorem hd_X3_number : yX3_number.cls ≠ "java/lang/invoke/MethodHandle" ∧ yX3_number.cls ≠ "java/lang/invoke/VarHandle" ∧ (parseMethodDescriptor yX3_number.desc).map (fun d => d.parameters.length) = some 1 := by decide +kernel
theorem cw_X3_X3_number {R : Room} {s : State} {args : Array Value} (ht : ∀ w ∈ wsL_law, w.before args s = true) (hR : rm_X3_number.frames + 1 ≤ R.frames ∧ 8 + (2 + 11) + rm_X3_number.locals ≤ R.locals) : CallW R s args RX3 RX3 26 yX3_number cX3_number 2 (some .long) ((.code yX3_number cX3_number 2 (some .long)) :: wsL_law) rm_X3_number 0 0 1 := cwV 1 ht (GV wq_47_8 wq_47_9 wq_47_10 wq_3_3 wq_47_11) rfl rfl rfl ⟨rfl, hd_X3_number⟩ hR
def p_X3_tellsSpots_L13 (fu : Nat) (o : Ob)  : Nat → Int32 → Int32 → Option (Int32)
  | 0, _, _ => none
  | n + 1, v1, v2 =>
    if (o.1 2 0) ≤ v2 then some (1 : Int32) else (p_X3_number fu o v2).bind fun r_23 => (p_X3_number fu o (v2 + 1)).bind fun r_31 => if (lg_cmp r_23 0) < 0 then some (0 : Int32) else if (0 : Int32) < (lg_cmp r_23 60) then some (0 : Int32) else if (lg_cmp r_31 0) < 0 then some (0 : Int32) else if (lg_cmp r_31 v1.toInt64) < 0 then p_X3_tellsSpots_L13 fu o  n v1 (v2 + 2) else some (0 : Int32)
def p_X3_tellsSpots (fu : Nat) (o : Ob) (v1 : Int32) : Option (Int32) :=
  if (2 : Int32) = 0 then none else if ((o.1 2 0) - (o.1 2 0) / 2 * 2) = 0 then p_X3_tellsSpots_L13 fu o fu v1 0 else some (0 : Int32)
abbrev rm_X3_tellsSpots : Room := { frames := 1, cells := 0, slots := 0, locals := 21 }
set_option maxHeartbeats 4000000 in
set_option maxRecDepth 100000 in
theorem b_X3_tellsSpots {p : Program} {l : Launch} {e : Env} {s : State} {m : MethodId} {args : Array Value} {below : List Frame} {meth : Method} {c : Code} {ls : Array Slot} {D : va_G} {ct : Nat → ClassId} {G : GT} (a : Nat → Nat) (fu : Nat) (o : Ob) (v1 : Int32) {r : Int32} (hx : p.tables.exec = Jvm.exec) (hb : c.code = cX3_tellsSpots) (hr : meth.sig.returnType = (some .boolean)) (hml : c.maxLocals = 7) (hown : s.vm.findClass RX3 = some m.cls) (htl : ∀ w ∈ wsL_law, w.before args s = true) (hlocks : meth.locks = false) (hK : va_K D vwCl (tyl ct) s) (hN : ∀ w ∈ NW, va_Nw w s) (hX : SX G s s.heap) (hP0 : va_P D vwCl (cs3 ct a o) s.heap) (hf : p_X3_tellsSpots fu o v1 = some r)  (hl : lv_has ls 7 [(0, .ref (a 0)), (1, .int v1)]) : W p l e rm_X3_tellsSpots s m args below meth c s.heap [] 0 0 (MQ below (Qro (some (.int r))) args s 0 0 (fun _ => False)) (F0 m 0 ls []) := by
  generalize hQQ : MQ below (Qro (some (.int r))) args s 0 0 (fun _ => False) = QQ
  have hP := hP0
  have hL13 : ∀ (n : Nat) (v1 : Int32) (v2 : Int32), ∀ (ls : Array Slot), lv_has ls 7 [(0, .ref (a 0)), (1, .int v1), (2, .int v2)] → p_X3_tellsSpots_L13 fu o  n v1 v2 = some r → W p l e rm_X3_tellsSpots s m args below meth c s.heap [] 0 0 QQ (F0 m 13 ls []) := by
    intro  n
    induction n with
    | zero =>
      intro v1 v2 ls hl hf 
      rw [p_X3_tellsSpots_L13] at hf
      cases hf
    | succ n ih =>
      intro v1 v2 ls hl hf 
      rw [p_X3_tellsSpots_L13] at hf
      refine lv_iload_n hx hb dX3_tellsSpots_13 rfl (lv_at hl 2 rfl) ?_
      refine lv_aload_n hx hb dX3_tellsSpots_14 rfl (lv_at hl 0 rfl) ?_
      refine va_get (D := D) (ci := 3) (v := .int (o.1 2 0)) (C := RX3) (T := TX3) (N := 4) hx hb htl inlX3 hown hK hP 0 rfl rfl 2 (by decide) (htl _ wq_6_18) (fun _ h9 => h9) rfl dX3_tellsSpots_15 ?_
      refine lv_icmp_ge (tgt := 73) hx hb dX3_tellsSpots_18 (by decide) (fun c_18 => ?_) (fun c_18 => ?_)
      · rw [if_pos c_18] at hf
        refine lv_iconst (v := 1) hx hb dX3_tellsSpots_73 (by decide) ?_
        rw [← hQQ]
        exact rf_z hx hb hr hlocks rfl hf dX3_tellsSpots_74
      rw [if_neg c_18] at hf
      refine lv_aload_n hx hb dX3_tellsSpots_21 rfl (lv_at hl 0 rfl) ?_
      refine lv_iload_n hx hb dX3_tellsSpots_22 rfl (lv_at hl 2 rfl) ?_
      obtain ⟨r_23, e_23, hf⟩ := ob_bind hf
      have hPX_23 : va_P D vwCl (cs3 ct a o) s.heap := hP
      refine ro_call1 (va_runV (As := [.int v2]) (rest := []) ⟨hx, hb, hml, hown, htl⟩ (c_X3_number l D ct G a fu o v2 e_23) (cw_X3_X3_number htl ⟨Nat.le_of_ble_eq_true rfl, Nat.le_of_ble_eq_true rfl⟩) ⟨Bx_blind, va_recv hK hPX_23 (ci := 3) (q0 := 0) rfl rfl, Bx_pre hPX_23 hK hN hX⟩ rfl rfl hl.1 rfl (lv_room (Nat.le_of_ble_eq_true rfl)) dX3_tellsSpots_23 ⟨Nat.zero_le _, Nat.zero_le _⟩) ?_
      refine lv_lstore_n (lv' := [(3, .long r_23), (0, .ref (a 0)), (1, .int v1), (2, .int v2)]) hx hb dX3_tellsSpots_26 rfl hl (by decide) rfl (fun ls hl => ?_)
      refine lv_aload_n hx hb dX3_tellsSpots_27 rfl (lv_at hl 1 rfl) ?_
      refine lv_iload_n hx hb dX3_tellsSpots_28 rfl (lv_at hl 3 rfl) ?_
      refine lv_iconst (v := 1) hx hb dX3_tellsSpots_29 (by decide) ?_
      refine lv_iadd hx hb dX3_tellsSpots_30 ?_
      obtain ⟨r_31, e_31, hf⟩ := ob_bind hf
      have hPX_31 : va_P D vwCl (cs3 ct a o) s.heap := hP
      refine ro_call1 (va_runV (As := [.int (v2 + 1)]) (rest := []) ⟨hx, hb, hml, hown, htl⟩ (c_X3_number l D ct G a fu o (v2 + 1) e_31) (cw_X3_X3_number htl ⟨Nat.le_of_ble_eq_true rfl, Nat.le_of_ble_eq_true rfl⟩) ⟨Bx_blind, va_recv hK hPX_31 (ci := 3) (q0 := 0) rfl rfl, Bx_pre hPX_31 hK hN hX⟩ rfl rfl hl.1 rfl (lv_room (Nat.le_of_ble_eq_true rfl)) dX3_tellsSpots_31 ⟨Nat.zero_le _, Nat.zero_le _⟩) ?_
      refine lv_lstore (lv' := [(5, .long r_31), (3, .long r_23), (0, .ref (a 0)), (1, .int v1), (2, .int v2)]) hx hb dX3_tellsSpots_34 hl (by decide) rfl (fun ls hl => ?_)
      refine lv_lload_n hx hb dX3_tellsSpots_36 rfl (lv_at hl 1 rfl) ?_
      refine lv_lconst (v := 0) hx hb dX3_tellsSpots_37 (by decide) ?_
      refine W.lcmp hx hb dX3_tellsSpots_38 ?_
      refine lv_if_lt (tgt := 65) hx hb dX3_tellsSpots_39 (by decide) (fun c_39 => ?_) (fun c_39 => ?_)
      · rw [if_pos c_39] at hf
        refine lv_iconst (v := 0) hx hb dX3_tellsSpots_65 (by decide) ?_
        rw [← hQQ]
        exact rf_z hx hb hr hlocks rfl hf dX3_tellsSpots_66
      rw [if_neg c_39] at hf
      refine lv_lload_n hx hb dX3_tellsSpots_42 rfl (lv_at hl 1 rfl) ?_
      refine lv_ldc2 (v := 60) hx hb hown (htl _ wq_47_7) dX3_tellsSpots_43 ?_
      refine W.lcmp hx hb dX3_tellsSpots_46 ?_
      refine lv_if_gt (tgt := 65) hx hb dX3_tellsSpots_47 (by decide) (fun c_47 => ?_) (fun c_47 => ?_)
      · rw [if_pos c_47] at hf
        refine lv_iconst (v := 0) hx hb dX3_tellsSpots_65 (by decide) ?_
        rw [← hQQ]
        exact rf_z hx hb hr hlocks rfl hf dX3_tellsSpots_66
      rw [if_neg c_47] at hf
      refine lv_lload hx hb dX3_tellsSpots_50 (lv_at hl 0 rfl) ?_
      refine lv_lconst (v := 0) hx hb dX3_tellsSpots_52 (by decide) ?_
      refine W.lcmp hx hb dX3_tellsSpots_53 ?_
      refine lv_if_lt (tgt := 65) hx hb dX3_tellsSpots_54 (by decide) (fun c_54 => ?_) (fun c_54 => ?_)
      · rw [if_pos c_54] at hf
        refine lv_iconst (v := 0) hx hb dX3_tellsSpots_65 (by decide) ?_
        rw [← hQQ]
        exact rf_z hx hb hr hlocks rfl hf dX3_tellsSpots_66
      rw [if_neg c_54] at hf
      refine lv_lload hx hb dX3_tellsSpots_57 (lv_at hl 0 rfl) ?_
      refine lv_iload_n hx hb dX3_tellsSpots_59 rfl (lv_at hl 3 rfl) ?_
      refine lv_i2l hx hb dX3_tellsSpots_60 rfl ?_
      refine W.lcmp hx hb dX3_tellsSpots_61 ?_
      refine lv_if_lt (tgt := 67) hx hb dX3_tellsSpots_62 (by decide) (fun c_62 => ?_) (fun c_62 => ?_)
      · rw [if_pos c_62] at hf
        refine lv_iinc (v := (v2 + 2)) (lv' := [(2, .int (v2 + 2)), (5, .long r_31), (3, .long r_23), (0, .ref (a 0)), (1, .int v1)]) hx hb dX3_tellsSpots_67 hl (k := 4) rfl rfl (by decide) rfl (fun ls hl => ?_)
        refine lv_goto (tgt := 13) hx hb dX3_tellsSpots_70 (by decide) ?_
        exact ih v1 (v2 + 2) _ (lv_sub hl [3, 4, 0] rfl) hf 
      rw [if_neg c_62] at hf
      refine lv_iconst (v := 0) hx hb dX3_tellsSpots_65 (by decide) ?_
      rw [← hQQ]
      exact rf_z hx hb hr hlocks rfl hf dX3_tellsSpots_66
  rw [p_X3_tellsSpots] at hf
  refine lv_aload_n hx hb dX3_tellsSpots_0 rfl (lv_at hl 0 rfl) ?_
  refine va_get (D := D) (ci := 3) (v := .int (o.1 2 0)) (C := RX3) (T := TX3) (N := 4) hx hb htl inlX3 hown hK hP 0 rfl rfl 2 (by decide) (htl _ wq_6_18) (fun _ h9 => h9) rfl dX3_tellsSpots_1 ?_
  refine lv_iconst (v := 2) hx hb dX3_tellsSpots_4 (by decide) ?_
  obtain ⟨hne_5, hf⟩ := ob_ne hf
  refine lv_irem hx hb dX3_tellsSpots_5 hne_5 ?_
  refine lv_if_eq (tgt := 11) hx hb dX3_tellsSpots_6 (by decide) (fun c_6 => ?_) (fun c_6 => ?_)
  · rw [if_pos c_6] at hf
    refine lv_iconst (v := 0) hx hb dX3_tellsSpots_11 (by decide) ?_
    refine lv_istore_n (lv' := [(2, .int 0), (0, .ref (a 0)), (1, .int v1)]) hx hb dX3_tellsSpots_12 rfl hl (by decide) rfl (fun ls hl => ?_)
    exact hL13 fu v1 0 _ (lv_sub hl [1, 2, 0] rfl) hf 
  rw [if_neg c_6] at hf
  refine lv_iconst (v := 0) hx hb dX3_tellsSpots_9 (by decide) ?_
  rw [← hQQ]
  exact rf_z hx hb hr hlocks rfl hf dX3_tellsSpots_10
theorem c_X3_tellsSpots (l : Launch) (D : va_G) (ct : Nat → ClassId) (G : GT) (a : Nat → Nat) (fu : Nat) (o : Ob) (v1 : Int32) {r : Int32} (hf : p_X3_tellsSpots fu o v1 = some r)  : Met l yX3_tellsSpots (.code yX3_tellsSpots cX3_tellsSpots 7 (some .boolean) :: wsL_law) rm_X3_tellsSpots (va_Pc [.ref (a 0), .int v1] (Bx D ct G (cs3 ct a o))) (Qro (some (.int r))) 0 0 (fun _ => False) := by
  refine Met.ofW (cc := cX3_tellsSpots) (maxL := 7) (ret := (some .boolean)) (by decide) rfl ?_
  intro p e s m args below meth c s₁ B hml hv
  obtain ⟨rfl, hP, hK, hN, hX⟩ := hv
  have hts := atoms_spec (ws := .code yX3_tellsSpots cX3_tellsSpots 7 (some .boolean) :: wsL_law) B.pre
  rw [lg_entry_eq]
  exact b_X3_tellsSpots a fu o v1 B.exec B.bytes B.returns hml (findClass_of_methodNamed B.named) (fun w h => hts w (List.mem_cons_of_mem _ h)) B.notSynchronized hK hN hX hP hf   (lv_entry [.ref (a 0), .int v1] (n := 7) (Nat.le_of_ble_eq_true rfl))
def p_X3_earliestStep_L5 (fu : Nat) (o : Ob)  : Nat → Int32 → Int32 → Option (Int32)
  | 0, _, _ => none
  | n + 1, v1, v2 =>
    if (o.1 2 0) ≤ v2 then some v1 else (p_X3_number fu o v2).bind fun r_16 => p_X3_earliestStep_L5 fu o  n (if r_16.toInt32 < v1 then r_16.toInt32 else v1) (v2 + 2)
def p_X3_earliestStep (fu : Nat) (o : Ob) : Option (Int32) :=
  p_X3_earliestStep_L5 fu o fu 60 0
abbrev rm_X3_earliestStep : Room := { frames := 1, cells := 0, slots := 0, locals := 21 }
set_option maxHeartbeats 4000000 in
set_option maxRecDepth 100000 in
theorem b_X3_earliestStep {p : Program} {l : Launch} {e : Env} {s : State} {m : MethodId} {args : Array Value} {below : List Frame} {meth : Method} {c : Code} {ls : Array Slot} {D : va_G} {ct : Nat → ClassId} {G : GT} (a : Nat → Nat) (fu : Nat) (o : Ob) {r : Int32} (hx : p.tables.exec = Jvm.exec) (hb : c.code = cX3_earliestStep) (hr : meth.sig.returnType = (some .int)) (hml : c.maxLocals = 3) (hown : s.vm.findClass RX3 = some m.cls) (htl : ∀ w ∈ wsL_law, w.before args s = true) (hlocks : meth.locks = false) (hK : va_K D vwCl (tyl ct) s) (hN : ∀ w ∈ NW, va_Nw w s) (hX : SX G s s.heap) (hP0 : va_P D vwCl (cs3 ct a o) s.heap) (hf : p_X3_earliestStep fu o = some r)  (hl : lv_has ls 3 [(0, .ref (a 0))]) : W p l e rm_X3_earliestStep s m args below meth c s.heap [] 0 0 (MQ below (Qro (some (.int r))) args s 0 0 (fun _ => False)) (F0 m 0 ls []) := by
  generalize hQQ : MQ below (Qro (some (.int r))) args s 0 0 (fun _ => False) = QQ
  have hP := hP0
  have hL5 : ∀ (n : Nat) (v1 : Int32) (v2 : Int32), ∀ (ls : Array Slot), lv_has ls 3 [(0, .ref (a 0)), (1, .int v1), (2, .int v2)] → p_X3_earliestStep_L5 fu o  n v1 v2 = some r → W p l e rm_X3_earliestStep s m args below meth c s.heap [] 0 0 QQ (F0 m 5 ls []) := by
    intro  n
    induction n with
    | zero =>
      intro v1 v2 ls hl hf 
      rw [p_X3_earliestStep_L5] at hf
      cases hf
    | succ n ih =>
      intro v1 v2 ls hl hf 
      rw [p_X3_earliestStep_L5] at hf
      refine lv_iload_n hx hb dX3_earliestStep_5 rfl (lv_at hl 2 rfl) ?_
      refine lv_aload_n hx hb dX3_earliestStep_6 rfl (lv_at hl 0 rfl) ?_
      refine va_get (D := D) (ci := 3) (v := .int (o.1 2 0)) (C := RX3) (T := TX3) (N := 4) hx hb htl inlX3 hown hK hP 0 rfl rfl 2 (by decide) (htl _ wq_6_18) (fun _ h9 => h9) rfl dX3_earliestStep_7 ?_
      refine lv_icmp_ge (tgt := 30) hx hb dX3_earliestStep_10 (by decide) (fun c_10 => ?_) (fun c_10 => ?_)
      · rw [if_pos c_10] at hf
        refine lv_iload_n hx hb dX3_earliestStep_30 rfl (lv_at hl 1 rfl) ?_
        rw [← hQQ]
        exact rf_i hx hb hr hlocks hf dX3_earliestStep_31
      rw [if_neg c_10] at hf
      refine lv_iload_n hx hb dX3_earliestStep_13 rfl (lv_at hl 1 rfl) ?_
      refine lv_aload_n hx hb dX3_earliestStep_14 rfl (lv_at hl 0 rfl) ?_
      refine lv_iload_n hx hb dX3_earliestStep_15 rfl (lv_at hl 2 rfl) ?_
      obtain ⟨r_16, e_16, hf⟩ := ob_bind hf
      have hPX_16 : va_P D vwCl (cs3 ct a o) s.heap := hP
      refine ro_call1 (va_runV (As := [.int v2]) (rest := [.int v1]) ⟨hx, hb, hml, hown, htl⟩ (c_X3_number l D ct G a fu o v2 e_16) (cw_X3_X3_number htl ⟨Nat.le_of_ble_eq_true rfl, Nat.le_of_ble_eq_true rfl⟩) ⟨Bx_blind, va_recv hK hPX_16 (ci := 3) (q0 := 0) rfl rfl, Bx_pre hPX_16 hK hN hX⟩ rfl rfl hl.1 rfl (lv_room (Nat.le_of_ble_eq_true rfl)) dX3_earliestStep_16 ⟨Nat.zero_le _, Nat.zero_le _⟩) ?_
      refine lv_l2i hx hb dX3_earliestStep_19 rfl ?_
      refine va_mmin hx hb (hml.trans hl.1.symm) hown (htl _ wq_47_22) (htl _ wq_12_22) (htl _ wq_12_23) (htl _ wq_13_0) (Nat.le_of_ble_eq_true rfl) (Nat.le_of_ble_eq_true rfl) (Nat.zero_le _) (Nat.zero_le _) dX3_earliestStep_20 ?_
      refine lv_istore_n (lv' := [(1, .int (if r_16.toInt32 < v1 then r_16.toInt32 else v1)), (0, .ref (a 0)), (2, .int v2)]) hx hb dX3_earliestStep_23 rfl hl (by decide) rfl (fun ls hl => ?_)
      refine lv_iinc (v := (v2 + 2)) (lv' := [(2, .int (v2 + 2)), (1, .int (if r_16.toInt32 < v1 then r_16.toInt32 else v1)), (0, .ref (a 0))]) hx hb dX3_earliestStep_24 hl (k := 2) rfl rfl (by decide) rfl (fun ls hl => ?_)
      refine lv_goto (tgt := 5) hx hb dX3_earliestStep_27 (by decide) ?_
      exact ih (if r_16.toInt32 < v1 then r_16.toInt32 else v1) (v2 + 2) _ (lv_sub hl [2, 1, 0] rfl) hf 
  rw [p_X3_earliestStep] at hf
  refine lv_bipush (v := 60) hx hb dX3_earliestStep_0 (by decide) ?_
  refine lv_istore_n (lv' := [(1, .int 60), (0, .ref (a 0))]) hx hb dX3_earliestStep_2 rfl hl (by decide) rfl (fun ls hl => ?_)
  refine lv_iconst (v := 0) hx hb dX3_earliestStep_3 (by decide) ?_
  refine lv_istore_n (lv' := [(2, .int 0), (1, .int 60), (0, .ref (a 0))]) hx hb dX3_earliestStep_4 rfl hl (by decide) rfl (fun ls hl => ?_)
  exact hL5 fu 60 0 _ (lv_sub hl [2, 1, 0] rfl) hf 
theorem c_X3_earliestStep (l : Launch) (D : va_G) (ct : Nat → ClassId) (G : GT) (a : Nat → Nat) (fu : Nat) (o : Ob) {r : Int32} (hf : p_X3_earliestStep fu o = some r)  : Met l yX3_earliestStep (.code yX3_earliestStep cX3_earliestStep 3 (some .int) :: wsL_law) rm_X3_earliestStep (va_Pc [.ref (a 0)] (Bx D ct G (cs3 ct a o))) (Qro (some (.int r))) 0 0 (fun _ => False) := by
  refine Met.ofW (cc := cX3_earliestStep) (maxL := 3) (ret := (some .int)) (by decide) rfl ?_
  intro p e s m args below meth c s₁ B hml hv
  obtain ⟨rfl, hP, hK, hN, hX⟩ := hv
  have hts := atoms_spec (ws := .code yX3_earliestStep cX3_earliestStep 3 (some .int) :: wsL_law) B.pre
  rw [lg_entry_eq]
  exact b_X3_earliestStep a fu o B.exec B.bytes B.returns hml (findClass_of_methodNamed B.named) (fun w h => hts w (List.mem_cons_of_mem _ h)) B.notSynchronized hK hN hX hP hf   (lv_entry [.ref (a 0)] (n := 3) (Nat.le_of_ble_eq_true rfl))
def p_X4_clear_L17 (fu : Nat)  : Nat → Ob → Int32 → Option (Ob)
  | 0, _, _ => none
  | n + 1, oz, v1 =>
    if (732 : Int32) ≤ v1 then some oz else if inb v1 732 = true then p_X4_clear_L17 fu  n (oA oz 3 (upd (oz.1 3) v1.toNatClampNeg (0 : Int32))) (v1 + 1) else none
def p_X4_clear (fu : Nat) (o : Ob) : Option (Ob) :=
  p_X4_clear_L17 fu fu (oI (oI (oI o 0 (0 : Int32)) 1 (0 : Int32)) 2 ((-1) : Int32)) 0
abbrev rm_X4_clear : Room := { frames := 0, cells := 0, slots := 0, locals := 0 }
set_option maxHeartbeats 4000000 in
set_option maxRecDepth 100000 in
theorem b_X4_clear {p : Program} {l : Launch} {e : Env} {s : State} {m : MethodId} {args : Array Value} {below : List Frame} {meth : Method} {c : Code} {ls : Array Slot} {D : va_G} {ct : Nat → ClassId} {G : GT} (a : Nat → Nat) (fu : Nat) (o : Ob) {r : Ob} (hx : p.tables.exec = Jvm.exec) (hb : c.code = cX4_clear) (hr : meth.sig.returnType = none) (hml : c.maxLocals = 2) (hown : s.vm.findClass RX4 = some m.cls) (htl : ∀ w ∈ wsL_law, w.before args s = true) (hlocks : meth.locks = false) (hK : va_K D vwCl (tyl ct) s) (hN : ∀ w ∈ NW, va_Nw w s) (hX : SX G s s.heap) (hP0 : va_P D vwCl (cs4 ct a o) s.heap) (hf : p_X4_clear fu o = some r) (hD0 : va_D (GE G) (cs4 ct a o))  (hl : lv_has ls 2 [(0, .ref (a 0))]) : W p l e rm_X4_clear s m args below meth c s.heap [] 0 0 (MQ below (Qwr none (fun H => va_P D vwCl (cs4 ct a r) H) (wA (cs4 ct a o))) args s 0 0 (wA (cs4 ct a o))) (F0 m 0 ls []) := by
  generalize hQQ : MQ below (Qwr none (fun H => va_P D vwCl (cs4 ct a r) H) (wA (cs4 ct a o))) args s 0 0 (wA (cs4 ct a o)) = QQ
  have hDx : ∀ (oy : Ob), va_D (GE G) (cs4 ct a oy) := fun oy => D_cr hD0 rfl
  have hDW : ∀ (oy : Ob), va_D (wA (cs4 ct a o)) (cs4 ct a oy) := fun oy => D_cr (D_self hD0) rfl
  have hGE : ∀ q, wA (cs4 ct a o) q → GE G q := wA_GE hD0
  have hP := hP0
  have hS : va_S (wA (cs4 ct a o)) s.heap s.heap [] := va_S.rf
  have hL17 : ∀ (n : Nat) (oz : Ob) (v1 : Int32), ∀ (H : Heap) (locs : List Loc) (ls : Array Slot), va_P D vwCl (cs4 ct a oz) H → va_S (wA (cs4 ct a o)) s.heap H locs → lv_has ls 2 [(0, .ref (a 0)), (1, .int v1)] → p_X4_clear_L17 fu  n oz v1 = some r → W p l e rm_X4_clear s m args below meth c H locs 0 0 QQ (F0 m 17 ls []) := by
    intro  n
    induction n with
    | zero =>
      intro oz v1 H locs ls hP hS hl hf 
      rw [p_X4_clear_L17] at hf
      cases hf
    | succ n ih =>
      intro oz v1 H locs ls hP hS hl hf 
      rw [p_X4_clear_L17] at hf
      refine lv_iload_n hx hb dX4_clear_17 rfl (lv_at hl 1 rfl) ?_
      refine lv_aload_n hx hb dX4_clear_18 rfl (lv_at hl 0 rfl) ?_
      refine va_get (D := D) (ci := 4) (v := .ref (a 1)) (C := RX4) (T := TX4) (N := 4) hx hb htl inlX4 hown hK hP 0 rfl rfl 3 (by decide) (htl _ wq_6_4) (fun _ h9 => h9) rfl dX4_clear_19 ?_
      refine va_alen (D := D) (tys := tyl ct) (v := 732) hx hb hK hP 1 0 rfl rfl rfl dX4_clear_22 ?_
      refine lv_icmp_ge (tgt := 39) hx hb dX4_clear_23 (by decide) (fun c_23 => ?_) (fun c_23 => ?_)
      · rw [if_pos c_23] at hf
        rw [← hQQ]
        cases hf
        exact rw_v hx hb hr hlocks hP hS dX4_clear_39
      rw [if_neg c_23] at hf
      refine lv_aload_n hx hb dX4_clear_26 rfl (lv_at hl 0 rfl) ?_
      refine va_get (D := D) (ci := 4) (v := .ref (a 1)) (C := RX4) (T := TX4) (N := 4) hx hb htl inlX4 hown hK hP 0 rfl rfl 3 (by decide) (htl _ wq_6_4) (fun _ h9 => h9) rfl dX4_clear_27 ?_
      refine lv_iload_n hx hb dX4_clear_30 rfl (lv_at hl 1 rfl) ?_
      refine lv_iconst (v := 0) hx hb dX4_clear_31 (by decide) ?_
      obtain ⟨hi_32, hf⟩ := ob_in hf
      refine va_iast (D := D) (tys := tyl ct) hx hb hK hP (hDW oz) hS 1 0 rfl rfl hi_32 dX4_clear_32 (fun H_32 locs_32 hP _ hS => ?_)
      have hP : va_P D vwCl (cs4 ct a (oA oz 3 (upd (oz.1 3) v1.toNatClampNeg (0 : Int32)))) H_32 := sa4_3 hP
      refine lv_iinc (v := (v1 + 1)) (lv' := [(1, .int (v1 + 1)), (0, .ref (a 0))]) hx hb dX4_clear_33 hl (k := 1) rfl rfl (by decide) rfl (fun ls hl => ?_)
      refine lv_goto (tgt := 17) hx hb dX4_clear_36 (by decide) ?_
      exact ih (oA oz 3 (upd (oz.1 3) v1.toNatClampNeg (0 : Int32))) (v1 + 1) _ _ _ hP hS (lv_sub hl [1, 0] rfl) hf 
  rw [p_X4_clear] at hf
  refine lv_aload_n hx hb dX4_clear_0 rfl (lv_at hl 0 rfl) ?_
  refine lv_iconst (v := 0) hx hb dX4_clear_1 (by decide) ?_
  refine va_put (D := D) (ci := 4) (v := .int 0) (ty := .int) (C := RX4) (T := TX4) (N := 4) hx hb htl inlX4 tyX4 tyX4_ok nmX4 hown hK hP (hDW o) hS 0 rfl rfl 0 (by decide) (htl _ wq_6_1) (fun _ h9 => h9) rfl (tyX4_ok 0 (by decide)) rfl rfl (Nat.le_of_ble_eq_true rfl) dX4_clear_2 (fun H_2 locs_2 hP _ hS => ?_)
  have hP : va_P D vwCl (cs4 ct a (oI o 0 (0 : Int32))) H_2 := st4_0 hP
  refine lv_aload_n hx hb dX4_clear_5 rfl (lv_at hl 0 rfl) ?_
  refine lv_iconst (v := 0) hx hb dX4_clear_6 (by decide) ?_
  refine va_put (D := D) (ci := 4) (v := .int 0) (ty := .int) (C := RX4) (T := TX4) (N := 4) hx hb htl inlX4 tyX4 tyX4_ok nmX4 hown hK hP (hDW (oI o 0 (0 : Int32))) hS 0 rfl rfl 1 (by decide) (htl _ wq_6_2) (fun _ h9 => h9) rfl (tyX4_ok 1 (by decide)) rfl rfl (Nat.le_of_ble_eq_true rfl) dX4_clear_7 (fun H_7 locs_7 hP _ hS => ?_)
  have hP : va_P D vwCl (cs4 ct a (oI (oI o 0 (0 : Int32)) 1 (0 : Int32))) H_7 := st4_1 hP
  refine lv_aload_n hx hb dX4_clear_10 rfl (lv_at hl 0 rfl) ?_
  refine lv_iconst (v := (-1)) hx hb dX4_clear_11 (by decide) ?_
  refine va_put (D := D) (ci := 4) (v := .int (-1)) (ty := .int) (C := RX4) (T := TX4) (N := 4) hx hb htl inlX4 tyX4 tyX4_ok nmX4 hown hK hP (hDW (oI (oI o 0 (0 : Int32)) 1 (0 : Int32))) hS 0 rfl rfl 2 (by decide) (htl _ wq_6_3) (fun _ h9 => h9) rfl (tyX4_ok 2 (by decide)) rfl rfl (Nat.le_of_ble_eq_true rfl) dX4_clear_12 (fun H_12 locs_12 hP _ hS => ?_)
  have hP : va_P D vwCl (cs4 ct a (oI (oI (oI o 0 (0 : Int32)) 1 (0 : Int32)) 2 ((-1) : Int32))) H_12 := st4_2 hP
  refine lv_iconst (v := 0) hx hb dX4_clear_15 (by decide) ?_
  refine lv_istore_n (lv' := [(1, .int 0), (0, .ref (a 0))]) hx hb dX4_clear_16 rfl hl (by decide) rfl (fun ls hl => ?_)
  exact hL17 fu (oI (oI (oI o 0 (0 : Int32)) 1 (0 : Int32)) 2 ((-1) : Int32)) 0 _ _ _ hP hS (lv_sub hl [1, 0] rfl) hf 
theorem c_X4_clear (l : Launch) (D : va_G) (ct : Nat → ClassId) (G : GT) (a : Nat → Nat) (fu : Nat) (o : Ob) {r : Ob} (hf : p_X4_clear fu o = some r)  (hD0 : va_D (GE G) (cs4 ct a o)) : Met l yX4_clear (.code yX4_clear cX4_clear 2 none :: wsL_law) rm_X4_clear (va_Pc [.ref (a 0)] (Bx D ct G (cs4 ct a o))) (Qwr none (fun H => va_P D vwCl (cs4 ct a r) H) (wA (cs4 ct a o))) 0 0 (wA (cs4 ct a o)) := by
  refine Met.ofW (cc := cX4_clear) (maxL := 2) (ret := none) (by decide) rfl ?_
  intro p e s m args below meth c s₁ B hml hv
  obtain ⟨rfl, hP, hK, hN, hX⟩ := hv
  have hts := atoms_spec (ws := .code yX4_clear cX4_clear 2 none :: wsL_law) B.pre
  rw [lg_entry_eq]
  exact b_X4_clear a fu o B.exec B.bytes B.returns hml (findClass_of_methodNamed B.named) (fun w h => hts w (List.mem_cons_of_mem _ h)) B.notSynchronized hK hN hX hP hf hD0  (lv_entry [.ref (a 0)] (n := 2) (Nat.le_of_ble_eq_true rfl))
def p_X4_add_J12 (fu : Nat)  (oz : Ob) : Option (Ob) :=
    some (oI oz 0 ((oz.1 0 0) + 1))
def p_X4_add (fu : Nat) (o : Ob) (v1 : Int32) : Option (Ob) :=
  if (o.1 0 0) = 0 then p_X4_add_J12 fu (oI o 2 v1) else p_X4_add_J12 fu o
abbrev rm_X4_add : Room := { frames := 0, cells := 0, slots := 0, locals := 0 }
set_option maxHeartbeats 4000000 in
set_option maxRecDepth 100000 in
theorem b_X4_add {p : Program} {l : Launch} {e : Env} {s : State} {m : MethodId} {args : Array Value} {below : List Frame} {meth : Method} {c : Code} {ls : Array Slot} {D : va_G} {ct : Nat → ClassId} {G : GT} (a : Nat → Nat) (fu : Nat) (o : Ob) (v1 : Int32) {r : Ob} (hx : p.tables.exec = Jvm.exec) (hb : c.code = cX4_add) (hr : meth.sig.returnType = none) (hml : c.maxLocals = 2) (hown : s.vm.findClass RX4 = some m.cls) (htl : ∀ w ∈ wsL_law, w.before args s = true) (hlocks : meth.locks = false) (hK : va_K D vwCl (tyl ct) s) (hN : ∀ w ∈ NW, va_Nw w s) (hX : SX G s s.heap) (hP0 : va_P D vwCl (cs4 ct a o) s.heap) (hf : p_X4_add fu o v1 = some r) (hD0 : va_D (GE G) (cs4 ct a o))  (hl : lv_has ls 2 [(0, .ref (a 0)), (1, .int v1)]) : W p l e rm_X4_add s m args below meth c s.heap [] 0 0 (MQ below (Qwr none (fun H => va_P D vwCl (cs4 ct a r) H) (wA (cs4 ct a o))) args s 0 0 (wA (cs4 ct a o))) (F0 m 0 ls []) := by
  generalize hQQ : MQ below (Qwr none (fun H => va_P D vwCl (cs4 ct a r) H) (wA (cs4 ct a o))) args s 0 0 (wA (cs4 ct a o)) = QQ
  have hDx : ∀ (oy : Ob), va_D (GE G) (cs4 ct a oy) := fun oy => D_cr hD0 rfl
  have hDW : ∀ (oy : Ob), va_D (wA (cs4 ct a o)) (cs4 ct a oy) := fun oy => D_cr (D_self hD0) rfl
  have hGE : ∀ q, wA (cs4 ct a o) q → GE G q := wA_GE hD0
  have hP := hP0
  have hS : va_S (wA (cs4 ct a o)) s.heap s.heap [] := va_S.rf
  have hJ12 : ∀ (oz : Ob), ∀ (H : Heap) (locs : List Loc) (ls : Array Slot), va_P D vwCl (cs4 ct a oz) H → va_S (wA (cs4 ct a o)) s.heap H locs → lv_has ls 2 [(0, .ref (a 0))] → p_X4_add_J12 fu  oz = some r → W p l e rm_X4_add s m args below meth c H locs 0 0 QQ (F0 m 12 ls []) := by
    intro  oz H locs ls hP hS hl hf 
    rw [p_X4_add_J12] at hf
    refine lv_aload_n hx hb dX4_add_12 rfl (lv_at hl 0 rfl) ?_
    refine lv_dup hx hb dX4_add_13 rfl ?_
    refine va_get (D := D) (ci := 4) (v := .int (oz.1 0 0)) (C := RX4) (T := TX4) (N := 4) hx hb htl inlX4 hown hK hP 0 rfl rfl 0 (by decide) (htl _ wq_6_1) (fun _ h9 => h9) rfl dX4_add_14 ?_
    refine lv_iconst (v := 1) hx hb dX4_add_17 (by decide) ?_
    refine lv_iadd hx hb dX4_add_18 ?_
    refine va_put (D := D) (ci := 4) (v := .int ((oz.1 0 0) + 1)) (ty := .int) (C := RX4) (T := TX4) (N := 4) hx hb htl inlX4 tyX4 tyX4_ok nmX4 hown hK hP (hDW oz) hS 0 rfl rfl 0 (by decide) (htl _ wq_6_1) (fun _ h9 => h9) rfl (tyX4_ok 0 (by decide)) rfl rfl (Nat.le_of_ble_eq_true rfl) dX4_add_19 (fun H_19 locs_19 hP _ hS => ?_)
    have hP : va_P D vwCl (cs4 ct a (oI oz 0 ((oz.1 0 0) + 1))) H_19 := st4_0 hP
    rw [← hQQ]
    cases hf
    exact rw_v hx hb hr hlocks hP hS dX4_add_22
  rw [p_X4_add] at hf
  refine lv_aload_n hx hb dX4_add_0 rfl (lv_at hl 0 rfl) ?_
  refine va_get (D := D) (ci := 4) (v := .int (o.1 0 0)) (C := RX4) (T := TX4) (N := 4) hx hb htl inlX4 hown hK hP 0 rfl rfl 0 (by decide) (htl _ wq_6_1) (fun _ h9 => h9) rfl dX4_add_1 ?_
  refine lv_if_ne (tgt := 12) hx hb dX4_add_4 (by decide) (fun c_4 => ?_) (fun c_4 => ?_)
  · rw [if_neg c_4] at hf
    exact hJ12 o _ _ _ hP hS (lv_sub hl [0] rfl) hf 
  rw [if_pos c_4] at hf
  refine lv_aload_n hx hb dX4_add_7 rfl (lv_at hl 0 rfl) ?_
  refine lv_iload_n hx hb dX4_add_8 rfl (lv_at hl 1 rfl) ?_
  refine va_put (D := D) (ci := 4) (v := .int v1) (ty := .int) (C := RX4) (T := TX4) (N := 4) hx hb htl inlX4 tyX4 tyX4_ok nmX4 hown hK hP (hDW o) hS 0 rfl rfl 2 (by decide) (htl _ wq_6_3) (fun _ h9 => h9) rfl (tyX4_ok 2 (by decide)) rfl rfl (Nat.le_of_ble_eq_true rfl) dX4_add_9 (fun H_9 locs_9 hP _ hS => ?_)
  have hP : va_P D vwCl (cs4 ct a (oI o 2 v1)) H_9 := st4_2 hP
  exact hJ12 (oI o 2 v1) _ _ _ hP hS (lv_sub hl [0] rfl) hf 
theorem c_X4_add (l : Launch) (D : va_G) (ct : Nat → ClassId) (G : GT) (a : Nat → Nat) (fu : Nat) (o : Ob) (v1 : Int32) {r : Ob} (hf : p_X4_add fu o v1 = some r)  (hD0 : va_D (GE G) (cs4 ct a o)) : Met l yX4_add (.code yX4_add cX4_add 2 none :: wsL_law) rm_X4_add (va_Pc [.ref (a 0), .int v1] (Bx D ct G (cs4 ct a o))) (Qwr none (fun H => va_P D vwCl (cs4 ct a r) H) (wA (cs4 ct a o))) 0 0 (wA (cs4 ct a o)) := by
  refine Met.ofW (cc := cX4_add) (maxL := 2) (ret := none) (by decide) rfl ?_
  intro p e s m args below meth c s₁ B hml hv
  obtain ⟨rfl, hP, hK, hN, hX⟩ := hv
  have hts := atoms_spec (ws := .code yX4_add cX4_add 2 none :: wsL_law) B.pre
  rw [lg_entry_eq]
  exact b_X4_add a fu o v1 B.exec B.bytes B.returns hml (findClass_of_methodNamed B.named) (fun w h => hts w (List.mem_cons_of_mem _ h)) B.notSynchronized hK hN hX hP hf hD0  (lv_entry [.ref (a 0), .int v1] (n := 2) (Nat.le_of_ble_eq_true rfl))
theorem cw_X5_X9_pick {R : Room} {s : State} {args : Array Value} (ht : ∀ w ∈ wsL_law, w.before args s = true) (hN : ∀ w ∈ NW, va_Nw w s) (hR : rm_X9_pick.frames + 1 ≤ R.frames ∧ 8 + (2 + 11) + rm_X9_pick.locals ≤ R.locals) : va_CN R s args RX5 62 yX9_pick "QuotedRiver" cX9_pick 2 (some .int) ((.code yX9_pick cX9_pick 2 (some .int)) :: wsL_law) rm_X9_pick 0 0 2 ∧ (Cond.static yX9_pick).before args s = true ∧ True := ⟨va_cnB 2 ht (GL wq_13_5) rfl rfl rfl (hN _ nm_129) (ht _ wq_1_2) hd_X9_pick hR, ht _ wq_13_4, trivial⟩
def p_X5_spotAt (fu : Nat) (o : Ob) (v1 : Int32) : Option (Int32) :=
  if v1 < 0 then some ((-2) : Int32) else if (60 : Int32) < v1 then some ((-2) : Int32) else (p_X9_pick fu 61 (o.1 0) v1).bind fun r_15 => some r_15
abbrev rm_X5_spotAt : Room := { frames := 1, cells := 0, slots := 0, locals := 21 }
set_option maxHeartbeats 4000000 in
set_option maxRecDepth 100000 in
theorem b_X5_spotAt {p : Program} {l : Launch} {e : Env} {s : State} {m : MethodId} {args : Array Value} {below : List Frame} {meth : Method} {c : Code} {ls : Array Slot} {D : va_G} {ct : Nat → ClassId} {G : GT} (a : Nat → Nat) (fu : Nat) (o : Ob) (v1 : Int32) {r : Int32} (hx : p.tables.exec = Jvm.exec) (hb : c.code = cX5_spotAt) (hr : meth.sig.returnType = (some .int)) (hml : c.maxLocals = 2) (hown : s.vm.findClass RX5 = some m.cls) (htl : ∀ w ∈ wsL_law, w.before args s = true) (hlocks : meth.locks = false) (hK : va_K D vwCl (tyl ct) s) (hN : ∀ w ∈ NW, va_Nw w s) (hX : SX G s s.heap) (hP0 : va_P D vwCl (cs5 ct a o) s.heap) (hf : p_X5_spotAt fu o v1 = some r)  (hl : lv_has ls 2 [(0, .ref (a 0)), (1, .int v1)]) : W p l e rm_X5_spotAt s m args below meth c s.heap [] 0 0 (MQ below (Qro (some (.int r))) args s 0 0 (fun _ => False)) (F0 m 0 ls []) := by
  generalize hQQ : MQ below (Qro (some (.int r))) args s 0 0 (fun _ => False) = QQ
  have hP := hP0
  rw [p_X5_spotAt] at hf
  refine lv_iload_n hx hb dX5_spotAt_0 rfl (lv_at hl 1 rfl) ?_
  refine lv_if_lt (tgt := 21) hx hb dX5_spotAt_1 (by decide) (fun c_1 => ?_) (fun c_1 => ?_)
  · rw [if_pos c_1] at hf
    refine lv_bipush (v := (-2)) hx hb dX5_spotAt_21 (by decide) ?_
    rw [← hQQ]
    exact rf_i hx hb hr hlocks hf dX5_spotAt_23
  rw [if_neg c_1] at hf
  refine lv_iload_n hx hb dX5_spotAt_4 rfl (lv_at hl 1 rfl) ?_
  refine lv_bipush (v := 60) hx hb dX5_spotAt_5 (by decide) ?_
  refine lv_icmp_gt (tgt := 21) hx hb dX5_spotAt_7 (by decide) (fun c_7 => ?_) (fun c_7 => ?_)
  · rw [if_pos c_7] at hf
    refine lv_bipush (v := (-2)) hx hb dX5_spotAt_21 (by decide) ?_
    rw [← hQQ]
    exact rf_i hx hb hr hlocks hf dX5_spotAt_23
  rw [if_neg c_7] at hf
  refine lv_aload_n hx hb dX5_spotAt_10 rfl (lv_at hl 0 rfl) ?_
  refine va_get (D := D) (ci := 5) (v := .ref (a 1)) (C := RX5) (T := TX5) (N := 9) hx hb htl inlX5 hown hK hP 0 rfl rfl 0 (by decide) (htl _ wq_5_13) (fun _ h9 => h9) rfl dX5_spotAt_11 ?_
  refine lv_iload_n hx hb dX5_spotAt_14 rfl (lv_at hl 1 rfl) ?_
  obtain ⟨r_15, e_15, hf⟩ := ob_bind hf
  have hPX_15 : va_P D vwCl ([((a 1), .inl (ct 0, 61, .inl (o.1 0)))]) s.heap := (P_one hP 1 rfl)
  refine ro_call1 (va_runSN (As := [.ref (a 1), .int v1]) (rest := []) ⟨hx, hb, hml, hown, htl⟩ (c_X9_pick l D ct G (a 1) fu 61 (o.1 0) v1 e_15) (cw_X5_X9_pick htl hN ⟨Nat.le_of_ble_eq_true rfl, Nat.le_of_ble_eq_true rfl⟩) ⟨Bx_blind, Bx_pre hPX_15 hK hN hX⟩ rfl rfl hl.1 rfl (lv_room (Nat.le_of_ble_eq_true rfl)) dX5_spotAt_15 ⟨Nat.zero_le _, Nat.zero_le _⟩) ?_
  refine lv_goto (tgt := 23) hx hb dX5_spotAt_18 (by decide) ?_
  rw [← hQQ]
  exact rf_i hx hb hr hlocks hf dX5_spotAt_23
theorem c_X5_spotAt (l : Launch) (D : va_G) (ct : Nat → ClassId) (G : GT) (a : Nat → Nat) (fu : Nat) (o : Ob) (v1 : Int32) {r : Int32} (hf : p_X5_spotAt fu o v1 = some r)  : Met l yX5_spotAt (.code yX5_spotAt cX5_spotAt 2 (some .int) :: wsL_law) rm_X5_spotAt (va_Pc [.ref (a 0), .int v1] (Bx D ct G (cs5 ct a o))) (Qro (some (.int r))) 0 0 (fun _ => False) := by
  refine Met.ofW (cc := cX5_spotAt) (maxL := 2) (ret := (some .int)) (by decide) rfl ?_
  intro p e s m args below meth c s₁ B hml hv
  obtain ⟨rfl, hP, hK, hN, hX⟩ := hv
  have hts := atoms_spec (ws := .code yX5_spotAt cX5_spotAt 2 (some .int) :: wsL_law) B.pre
  rw [lg_entry_eq]
  exact b_X5_spotAt a fu o v1 B.exec B.bytes B.returns hml (findClass_of_methodNamed B.named) (fun w h => hts w (List.mem_cons_of_mem _ h)) B.notSynchronized hK hN hX hP hf   (lv_entry [.ref (a 0), .int v1] (n := 2) (Nat.le_of_ble_eq_true rfl))
theorem hd_X5_spotAt : yX5_spotAt.cls ≠ "java/lang/invoke/MethodHandle" ∧ yX5_spotAt.cls ≠ "java/lang/invoke/VarHandle" ∧ (parseMethodDescriptor yX5_spotAt.desc).map (fun d => d.parameters.length) = some 1 := by decide +kernel
theorem cw_X4_X5_spotAt {R : Room} {s : State} {args : Array Value} (ht : ∀ w ∈ wsL_law, w.before args s = true) (hN : ∀ w ∈ NW, va_Nw w s) (hR : rm_X5_spotAt.frames + 1 ≤ R.frames ∧ 8 + (2 + 11) + rm_X5_spotAt.locals ≤ R.locals) : va_CN R s args RX4 25 yX5_spotAt "QuotedRiver" cX5_spotAt 2 (some .int) ((.code yX5_spotAt cX5_spotAt 2 (some .int)) :: wsL_law) rm_X5_spotAt 0 0 1 ∧ (Cond.instanceMethod yX5_spotAt).before args s = true ∧ (Cond.selects RX5 yX5_spotAt yX5_spotAt).before args s = true := ⟨va_cnB 1 ht (GL wq_26_13) rfl rfl rfl (hN _ nm_123) (ht _ wq_2_11) hd_X5_spotAt hR, ht _ wq_26_11, ht _ wq_26_12⟩
theorem cw_X4_X9_pick {R : Room} {s : State} {args : Array Value} (ht : ∀ w ∈ wsL_law, w.before args s = true) (hN : ∀ w ∈ NW, va_Nw w s) (hR : rm_X9_pick.frames + 1 ≤ R.frames ∧ 8 + (2 + 11) + rm_X9_pick.locals ≤ R.locals) : va_CN R s args RX4 31 yX9_pick "QuotedRiver" cX9_pick 2 (some .int) ((.code yX9_pick cX9_pick 2 (some .int)) :: wsL_law) rm_X9_pick 0 0 2 ∧ (Cond.static yX9_pick).before args s = true ∧ True := ⟨va_cnB 2 ht (GL wq_13_5) rfl rfl rfl (hN _ nm_124) (ht _ wq_1_2) hd_X9_pick hR, ht _ wq_13_4, trivial⟩
theorem cw_X4_X9_put {R : Room} {s : State} {args : Array Value} (ht : ∀ w ∈ wsL_law, w.before args s = true) (hN : ∀ w ∈ NW, va_Nw w s) (hR : rm_X9_put.frames + 1 ≤ R.frames ∧ 8 + (3 + 11) + rm_X9_put.locals ≤ R.locals) : va_CN R s args RX4 35 yX9_put "QuotedRiver" cX9_put 3 none ((.code yX9_put cX9_put 3 none) :: wsL_law) rm_X9_put 0 0 3 ∧ (Cond.static yX9_put).before args s = true ∧ True := ⟨va_cnB 3 ht (GL wq_8_11) rfl rfl rfl (hN _ nm_125) (ht _ wq_1_2) hd_X9_put hR, ht _ wq_8_10, trivial⟩
def p_X4_note_L2 (fu : Nat) (o1 : Ob)  : Nat → Ob → Int32 → Option (Ob)
  | 0, _, _ => none
  | n + 1, oz, v2 =>
    if (60 : Int32) < v2 then some oz else (p_X5_spotAt fu o1 v2).bind fun r_14 => (p_X9_pick fu 732 (oz.1 3) (((v2 * 12) + r_14) - (-2))).bind fun r_32 => (p_X9_put fu 732 (oz.1 3) (((v2 * 12) + r_14) - (-2)) (r_32 + 1)).bind fun r_37 => p_X4_note_L2 fu o1  n (oA oz 3 r_37) (v2 + 1)
def p_X4_note (fu : Nat) (o : Ob) (o1 : Ob) : Option (Ob) :=
  p_X4_note_L2 fu o1 fu o 0
abbrev rm_X4_note : Room := { frames := 2, cells := 0, slots := 0, locals := 42 }
set_option maxHeartbeats 4000000 in
set_option maxRecDepth 100000 in
theorem b_X4_note {p : Program} {l : Launch} {e : Env} {s : State} {m : MethodId} {args : Array Value} {below : List Frame} {meth : Method} {c : Code} {ls : Array Slot} {D : va_G} {ct : Nat → ClassId} {G : GT} (a : Nat → Nat) (ab : Nat → Nat) (fu : Nat) (o : Ob) (o1 : Ob) {r : Ob} (hx : p.tables.exec = Jvm.exec) (hb : c.code = cX4_note) (hr : meth.sig.returnType = none) (hml : c.maxLocals = 4) (hown : s.vm.findClass RX4 = some m.cls) (htl : ∀ w ∈ wsL_law, w.before args s = true) (hlocks : meth.locks = false) (hK : va_K D vwCl (tyl ct) s) (hN : ∀ w ∈ NW, va_Nw w s) (hX : SX G s s.heap) (hP0 : va_P D vwCl (cs4 ct a o ++ (cs5 ct ab o1)) s.heap) (hf : p_X4_note fu o o1 = some r) (hD0 : va_D (GE G) (cs4 ct a o ++ (cs5 ct ab o1)))  (hl : lv_has ls 4 [(0, .ref (a 0)), (1, .ref (ab 0))]) : W p l e rm_X4_note s m args below meth c s.heap [] 0 0 (MQ below (Qwr none (fun H => va_P D vwCl (cs4 ct a r) H) (wA (cs4 ct a o))) args s 0 0 (wA (cs4 ct a o))) (F0 m 0 ls []) := by
  generalize hQQ : MQ below (Qwr none (fun H => va_P D vwCl (cs4 ct a r) H) (wA (cs4 ct a o))) args s 0 0 (wA (cs4 ct a o)) = QQ
  have hDx : ∀ (oy : Ob), va_D (GE G) (cs4 ct a oy ++ (cs5 ct ab o1)) := fun oy => D_cr hD0 rfl
  have hDW : ∀ (oy : Ob), va_D (wA (cs4 ct a o)) (cs4 ct a oy) := fun oy => D_cr (D_left hD0) rfl
  have hGE : ∀ q, wA (cs4 ct a o) q → GE G q := wA_GEl hD0
  have hP : va_P D vwCl (cs4 ct a o) s.heap := P_left hP0
  have hRR : ∀ (H : Heap) (locs : List Loc), va_S (wA (cs4 ct a o)) s.heap H locs → va_P D vwCl (cs5 ct ab o1) H := fun H locs hS => P_rest hD0 (P_right hP0) hS
  have hS : va_S (wA (cs4 ct a o)) s.heap s.heap [] := va_S.rf
  have hL2 : ∀ (n : Nat) (oz : Ob) (v2 : Int32), ∀ (H : Heap) (locs : List Loc) (ls : Array Slot), va_P D vwCl (cs4 ct a oz) H → va_S (wA (cs4 ct a o)) s.heap H locs → lv_has ls 4 [(0, .ref (a 0)), (1, .ref (ab 0)), (2, .int v2)] → p_X4_note_L2 fu o1  n oz v2 = some r → W p l e rm_X4_note s m args below meth c H locs 0 0 QQ (F0 m 2 ls []) := by
    intro  n
    induction n with
    | zero =>
      intro oz v2 H locs ls hP hS hl hf 
      rw [p_X4_note_L2] at hf
      cases hf
    | succ n ih =>
      intro oz v2 H locs ls hP hS hl hf 
      rw [p_X4_note_L2] at hf
      refine lv_iload_n hx hb dX4_note_2 rfl (lv_at hl 2 rfl) ?_
      refine lv_bipush (v := 60) hx hb dX4_note_3 (by decide) ?_
      refine lv_icmp_gt (tgt := 46) hx hb dX4_note_5 (by decide) (fun c_5 => ?_) (fun c_5 => ?_)
      · rw [if_pos c_5] at hf
        rw [← hQQ]
        cases hf
        exact rw_v hx hb hr hlocks hP hS dX4_note_46
      rw [if_neg c_5] at hf
      refine lv_iload_n hx hb dX4_note_8 rfl (lv_at hl 2 rfl) ?_
      refine lv_bipush (v := 12) hx hb dX4_note_9 (by decide) ?_
      refine lv_imul hx hb dX4_note_11 ?_
      refine lv_aload_n hx hb dX4_note_12 rfl (lv_at hl 1 rfl) ?_
      refine lv_iload_n hx hb dX4_note_13 rfl (lv_at hl 2 rfl) ?_
      obtain ⟨r_14, e_14, hf⟩ := ob_bind hf
      have hPX_14 : va_P D vwCl (cs5 ct ab o1) H := ((hRR _ _ hS).sub (ws' := cs5 ct ab o1) [0, 1] rfl)
      refine ro_call1 (va_runVN (As := [.int v2]) (rest := [.int (v2 * 12)]) ⟨hx, hb, hml, hown, htl⟩ (c_X5_spotAt l D ct G ab fu o1 v2 e_14) (cw_X4_X5_spotAt htl hN ⟨Nat.le_of_ble_eq_true rfl, Nat.le_of_ble_eq_true rfl⟩) ⟨Bx_blind, va_recv hK hPX_14 (ci := 5) (q0 := 0) rfl rfl, Bx_pre hPX_14 hK hN (hX.stay hS hGE)⟩ rfl rfl hl.1 rfl (lv_room (Nat.le_of_ble_eq_true rfl)) dX4_note_14 ⟨Nat.zero_le _, Nat.zero_le _⟩) ?_
      refine lv_iadd hx hb dX4_note_17 ?_
      refine lv_bipush (v := (-2)) hx hb dX4_note_18 (by decide) ?_
      refine lv_isub hx hb dX4_note_20 ?_
      refine lv_istore_n (lv' := [(3, .int (((v2 * 12) + r_14) - (-2))), (0, .ref (a 0)), (1, .ref (ab 0)), (2, .int v2)]) hx hb dX4_note_21 rfl hl (by decide) rfl (fun ls hl => ?_)
      refine lv_aload_n hx hb dX4_note_22 rfl (lv_at hl 1 rfl) ?_
      refine va_get (D := D) (ci := 4) (v := .ref (a 1)) (C := RX4) (T := TX4) (N := 4) hx hb htl inlX4 hown hK hP 0 rfl rfl 3 (by decide) (htl _ wq_6_4) (fun _ h9 => h9) rfl dX4_note_23 ?_
      refine lv_iload_n hx hb dX4_note_26 rfl (lv_at hl 0 rfl) ?_
      refine lv_aload_n hx hb dX4_note_27 rfl (lv_at hl 1 rfl) ?_
      refine va_get (D := D) (ci := 4) (v := .ref (a 1)) (C := RX4) (T := TX4) (N := 4) hx hb htl inlX4 hown hK hP 0 rfl rfl 3 (by decide) (htl _ wq_6_4) (fun _ h9 => h9) rfl dX4_note_28 ?_
      refine lv_iload_n hx hb dX4_note_31 rfl (lv_at hl 0 rfl) ?_
      obtain ⟨r_32, e_32, hf⟩ := ob_bind hf
      have hPX_32 : va_P D vwCl ([((a 1), .inl (ct 0, 732, .inl (oz.1 3)))]) H := (P_one hP 1 rfl)
      refine ro_call1 (va_runSN (As := [.ref (a 1), .int (((v2 * 12) + r_14) - (-2))]) (rest := [.int (((v2 * 12) + r_14) - (-2)), .ref (a 1)]) ⟨hx, hb, hml, hown, htl⟩ (c_X9_pick l D ct G (a 1) fu 732 (oz.1 3) (((v2 * 12) + r_14) - (-2)) e_32) (cw_X4_X9_pick htl hN ⟨Nat.le_of_ble_eq_true rfl, Nat.le_of_ble_eq_true rfl⟩) ⟨Bx_blind, Bx_pre hPX_32 hK hN (hX.stay hS hGE)⟩ rfl rfl hl.1 rfl (lv_room (Nat.le_of_ble_eq_true rfl)) dX4_note_32 ⟨Nat.zero_le _, Nat.zero_le _⟩) ?_
      refine lv_iconst (v := 1) hx hb dX4_note_35 (by decide) ?_
      refine lv_iadd hx hb dX4_note_36 ?_
      obtain ⟨r_37, e_37, hf⟩ := ob_bind hf
      have hPX_37 : va_P D vwCl ([((a 1), .inl (ct 0, 732, .inl (oz.1 3)))]) H := (P_one hP 1 rfl)
      refine wr_call0 (va_runSN (As := [.ref (a 1), .int (((v2 * 12) + r_14) - (-2)), .int (r_32 + 1)]) (rest := []) ⟨hx, hb, hml, hown, htl⟩ (c_X9_put l D ct G (a 1) fu 732 (oz.1 3) (((v2 * 12) + r_14) - (-2)) (r_32 + 1) e_37 ((hDx oz).sub (ws' := [((a 1), .inl (ct 0, 732, .inl (oz.1 3)))]) [1] (by decide) rfl)) (cw_X4_X9_put htl hN ⟨Nat.le_of_ble_eq_true rfl, Nat.le_of_ble_eq_true rfl⟩) ⟨Bx_blind, Bx_pre hPX_37 hK hN (hX.stay hS hGE)⟩ rfl rfl hl.1 rfl (lv_room (Nat.le_of_ble_eq_true rfl)) dX4_note_37 ⟨Nat.zero_le _, Nat.zero_le _⟩) hS (fun q h => wA_cg (w1 := cs4 ct a oz) (w2 := cs4 ct a o) rfl q (wA_sub (w2 := cs4 ct a oz) [1] rfl q h)) (fun H_37 locs_37 hB_37 _ hk_37 hS => ?_)
      have hP : va_P D vwCl (cs4 ct a (oA oz 3 r_37)) H_37 := P_join hP (hDW oz) [1] rfl rfl hk_37 hB_37
      refine lv_iinc (v := (v2 + 1)) (lv' := [(2, .int (v2 + 1)), (3, .int (((v2 * 12) + r_14) - (-2))), (0, .ref (a 0)), (1, .ref (ab 0))]) hx hb dX4_note_40 hl (k := 3) rfl rfl (by decide) rfl (fun ls hl => ?_)
      refine lv_goto (tgt := 2) hx hb dX4_note_43 (by decide) ?_
      exact ih (oA oz 3 r_37) (v2 + 1) _ _ _ hP hS (lv_sub hl [2, 3, 0] rfl) hf 
  rw [p_X4_note] at hf
  refine lv_iconst (v := 0) hx hb dX4_note_0 (by decide) ?_
  refine lv_istore_n (lv' := [(2, .int 0), (0, .ref (a 0)), (1, .ref (ab 0))]) hx hb dX4_note_1 rfl hl (by decide) rfl (fun ls hl => ?_)
  exact hL2 fu o 0 _ _ _ hP hS (lv_sub hl [1, 2, 0] rfl) hf 
theorem c_X4_note (l : Launch) (D : va_G) (ct : Nat → ClassId) (G : GT) (a : Nat → Nat) (ab : Nat → Nat) (fu : Nat) (o : Ob) (o1 : Ob) {r : Ob} (hf : p_X4_note fu o o1 = some r)  (hD0 : va_D (GE G) (cs4 ct a o ++ (cs5 ct ab o1))) : Met l yX4_note (.code yX4_note cX4_note 4 none :: wsL_law) rm_X4_note (va_Pc [.ref (a 0), .ref (ab 0)] (Bx D ct G (cs4 ct a o ++ (cs5 ct ab o1)))) (Qwr none (fun H => va_P D vwCl (cs4 ct a r) H) (wA (cs4 ct a o))) 0 0 (wA (cs4 ct a o)) := by
  refine Met.ofW (cc := cX4_note) (maxL := 4) (ret := none) (by decide) rfl ?_
  intro p e s m args below meth c s₁ B hml hv
  obtain ⟨rfl, hP, hK, hN, hX⟩ := hv
  have hts := atoms_spec (ws := .code yX4_note cX4_note 4 none :: wsL_law) B.pre
  rw [lg_entry_eq]
  exact b_X4_note a ab fu o o1 B.exec B.bytes B.returns hml (findClass_of_methodNamed B.named) (fun w h => hts w (List.mem_cons_of_mem _ h)) B.notSynchronized hK hN hX hP hf hD0  (lv_entry [.ref (a 0), .ref (ab 0)] (n := 4) (Nat.le_of_ble_eq_true rfl))
def p_X4_leftAtWorst_L4 (fu : Nat) (o : Ob)  : Nat → Int32 → Int32 → Int32 → Option (Int32)
  | 0, _, _, _ => none
  | n + 1, v1, v2, v3 =>
    if (12 : Int32) ≤ v3 then some v2 else (p_X9_pick fu 732 (o.1 3) ((v1 * 12) + v3)).bind fun r_21 => p_X4_leftAtWorst_L4 fu o  n v1 (if v2 < r_21 then r_21 else v2) (v3 + 1)
def p_X4_leftAtWorst (fu : Nat) (o : Ob) (v1 : Int32) : Option (Int32) :=
  p_X4_leftAtWorst_L4 fu o fu v1 0 0
abbrev rm_X4_leftAtWorst : Room := { frames := 1, cells := 0, slots := 0, locals := 21 }
set_option maxHeartbeats 4000000 in
set_option maxRecDepth 100000 in
theorem b_X4_leftAtWorst {p : Program} {l : Launch} {e : Env} {s : State} {m : MethodId} {args : Array Value} {below : List Frame} {meth : Method} {c : Code} {ls : Array Slot} {D : va_G} {ct : Nat → ClassId} {G : GT} (a : Nat → Nat) (fu : Nat) (o : Ob) (v1 : Int32) {r : Int32} (hx : p.tables.exec = Jvm.exec) (hb : c.code = cX4_leftAtWorst) (hr : meth.sig.returnType = (some .int)) (hml : c.maxLocals = 4) (hown : s.vm.findClass RX4 = some m.cls) (htl : ∀ w ∈ wsL_law, w.before args s = true) (hlocks : meth.locks = false) (hK : va_K D vwCl (tyl ct) s) (hN : ∀ w ∈ NW, va_Nw w s) (hX : SX G s s.heap) (hP0 : va_P D vwCl (cs4 ct a o) s.heap) (hf : p_X4_leftAtWorst fu o v1 = some r)  (hl : lv_has ls 4 [(0, .ref (a 0)), (1, .int v1)]) : W p l e rm_X4_leftAtWorst s m args below meth c s.heap [] 0 0 (MQ below (Qro (some (.int r))) args s 0 0 (fun _ => False)) (F0 m 0 ls []) := by
  generalize hQQ : MQ below (Qro (some (.int r))) args s 0 0 (fun _ => False) = QQ
  have hP := hP0
  have hL4 : ∀ (n : Nat) (v1 : Int32) (v2 : Int32) (v3 : Int32), ∀ (ls : Array Slot), lv_has ls 4 [(0, .ref (a 0)), (1, .int v1), (2, .int v2), (3, .int v3)] → p_X4_leftAtWorst_L4 fu o  n v1 v2 v3 = some r → W p l e rm_X4_leftAtWorst s m args below meth c s.heap [] 0 0 QQ (F0 m 4 ls []) := by
    intro  n
    induction n with
    | zero =>
      intro v1 v2 v3 ls hl hf 
      rw [p_X4_leftAtWorst_L4] at hf
      cases hf
    | succ n ih =>
      intro v1 v2 v3 ls hl hf 
      rw [p_X4_leftAtWorst_L4] at hf
      refine lv_iload_n hx hb dX4_leftAtWorst_4 rfl (lv_at hl 3 rfl) ?_
      refine lv_bipush (v := 12) hx hb dX4_leftAtWorst_5 (by decide) ?_
      refine lv_icmp_ge (tgt := 34) hx hb dX4_leftAtWorst_7 (by decide) (fun c_7 => ?_) (fun c_7 => ?_)
      · rw [if_pos c_7] at hf
        refine lv_iload_n hx hb dX4_leftAtWorst_34 rfl (lv_at hl 2 rfl) ?_
        rw [← hQQ]
        exact rf_i hx hb hr hlocks hf dX4_leftAtWorst_35
      rw [if_neg c_7] at hf
      refine lv_iload_n hx hb dX4_leftAtWorst_10 rfl (lv_at hl 2 rfl) ?_
      refine lv_aload_n hx hb dX4_leftAtWorst_11 rfl (lv_at hl 0 rfl) ?_
      refine va_get (D := D) (ci := 4) (v := .ref (a 1)) (C := RX4) (T := TX4) (N := 4) hx hb htl inlX4 hown hK hP 0 rfl rfl 3 (by decide) (htl _ wq_6_4) (fun _ h9 => h9) rfl dX4_leftAtWorst_12 ?_
      refine lv_iload_n hx hb dX4_leftAtWorst_15 rfl (lv_at hl 1 rfl) ?_
      refine lv_bipush (v := 12) hx hb dX4_leftAtWorst_16 (by decide) ?_
      refine lv_imul hx hb dX4_leftAtWorst_18 ?_
      refine lv_iload_n hx hb dX4_leftAtWorst_19 rfl (lv_at hl 3 rfl) ?_
      refine lv_iadd hx hb dX4_leftAtWorst_20 ?_
      obtain ⟨r_21, e_21, hf⟩ := ob_bind hf
      have hPX_21 : va_P D vwCl ([((a 1), .inl (ct 0, 732, .inl (o.1 3)))]) s.heap := (P_one hP 1 rfl)
      refine ro_call1 (va_runSN (As := [.ref (a 1), .int ((v1 * 12) + v3)]) (rest := [.int v2]) ⟨hx, hb, hml, hown, htl⟩ (c_X9_pick l D ct G (a 1) fu 732 (o.1 3) ((v1 * 12) + v3) e_21) (cw_X4_X9_pick htl hN ⟨Nat.le_of_ble_eq_true rfl, Nat.le_of_ble_eq_true rfl⟩) ⟨Bx_blind, Bx_pre hPX_21 hK hN hX⟩ rfl rfl hl.1 rfl (lv_room (Nat.le_of_ble_eq_true rfl)) dX4_leftAtWorst_21 ⟨Nat.zero_le _, Nat.zero_le _⟩) ?_
      refine va_mmax hx hb (hml.trans hl.1.symm) hown (htl _ wq_50_11) (htl _ wq_15_21) (htl _ wq_12_23) (htl _ wq_15_22) (Nat.le_of_ble_eq_true rfl) (Nat.le_of_ble_eq_true rfl) (Nat.zero_le _) (Nat.zero_le _) dX4_leftAtWorst_24 ?_
      refine lv_istore_n (lv' := [(2, .int (if v2 < r_21 then r_21 else v2)), (0, .ref (a 0)), (1, .int v1), (3, .int v3)]) hx hb dX4_leftAtWorst_27 rfl hl (by decide) rfl (fun ls hl => ?_)
      refine lv_iinc (v := (v3 + 1)) (lv' := [(3, .int (v3 + 1)), (2, .int (if v2 < r_21 then r_21 else v2)), (0, .ref (a 0)), (1, .int v1)]) hx hb dX4_leftAtWorst_28 hl (k := 3) rfl rfl (by decide) rfl (fun ls hl => ?_)
      refine lv_goto (tgt := 4) hx hb dX4_leftAtWorst_31 (by decide) ?_
      exact ih v1 (if v2 < r_21 then r_21 else v2) (v3 + 1) _ (lv_sub hl [2, 3, 1, 0] rfl) hf 
  rw [p_X4_leftAtWorst] at hf
  refine lv_iconst (v := 0) hx hb dX4_leftAtWorst_0 (by decide) ?_
  refine lv_istore_n (lv' := [(2, .int 0), (0, .ref (a 0)), (1, .int v1)]) hx hb dX4_leftAtWorst_1 rfl hl (by decide) rfl (fun ls hl => ?_)
  refine lv_iconst (v := 0) hx hb dX4_leftAtWorst_2 (by decide) ?_
  refine lv_istore_n (lv' := [(3, .int 0), (2, .int 0), (0, .ref (a 0)), (1, .int v1)]) hx hb dX4_leftAtWorst_3 rfl hl (by decide) rfl (fun ls hl => ?_)
  exact hL4 fu v1 0 0 _ (lv_sub hl [2, 3, 1, 0] rfl) hf 
theorem c_X4_leftAtWorst (l : Launch) (D : va_G) (ct : Nat → ClassId) (G : GT) (a : Nat → Nat) (fu : Nat) (o : Ob) (v1 : Int32) {r : Int32} (hf : p_X4_leftAtWorst fu o v1 = some r)  : Met l yX4_leftAtWorst (.code yX4_leftAtWorst cX4_leftAtWorst 4 (some .int) :: wsL_law) rm_X4_leftAtWorst (va_Pc [.ref (a 0), .int v1] (Bx D ct G (cs4 ct a o))) (Qro (some (.int r))) 0 0 (fun _ => False) := by
  refine Met.ofW (cc := cX4_leftAtWorst) (maxL := 4) (ret := (some .int)) (by decide) rfl ?_
  intro p e s m args below meth c s₁ B hml hv
  obtain ⟨rfl, hP, hK, hN, hX⟩ := hv
  have hts := atoms_spec (ws := .code yX4_leftAtWorst cX4_leftAtWorst 4 (some .int) :: wsL_law) B.pre
  rw [lg_entry_eq]
  exact b_X4_leftAtWorst a fu o v1 B.exec B.bytes B.returns hml (findClass_of_methodNamed B.named) (fun w h => hts w (List.mem_cons_of_mem _ h)) B.notSynchronized hK hN hX hP hf   (lv_entry [.ref (a 0), .int v1] (n := 4) (Nat.le_of_ble_eq_true rfl))
theorem hd_X4_leftAtWorst : yX4_leftAtWorst.cls ≠ "java/lang/invoke/MethodHandle" ∧ yX4_leftAtWorst.cls ≠ "java/lang/invoke/VarHandle" ∧ (parseMethodDescriptor yX4_leftAtWorst.desc).map (fun d => d.parameters.length) = some 1 := by decide +kernel
theorem cw_X4_X4_leftAtWorst {R : Room} {s : State} {args : Array Value} (ht : ∀ w ∈ wsL_law, w.before args s = true) (hR : rm_X4_leftAtWorst.frames + 1 ≤ R.frames ∧ 8 + (4 + 11) + rm_X4_leftAtWorst.locals ≤ R.locals) : CallW R s args RX4 RX4 45 yX4_leftAtWorst cX4_leftAtWorst 4 (some .int) ((.code yX4_leftAtWorst cX4_leftAtWorst 4 (some .int)) :: wsL_law) rm_X4_leftAtWorst 0 0 1 := cwV 1 ht (GV wq_50_7 wq_50_8 wq_50_9 wq_2_18 wq_50_10) rfl rfl rfl ⟨rfl, hd_X4_leftAtWorst⟩ hR
def p_X4_bestStep_L9 (fu : Nat) (o : Ob)  : Nat → Int32 → Int32 → Int32 → Option (Int32)
  | 0, _, _, _ => none
  | n + 1, v1, v2, v3 =>
    if (60 : Int32) < v3 then some v1 else (p_X4_leftAtWorst fu o v3).bind fun r_17 => if v2 ≤ r_17 then p_X4_bestStep_L9 fu o  n v1 v2 (v3 + 1) else p_X4_bestStep_L9 fu o  n v3 r_17 (v3 + 1)
def p_X4_bestStep (fu : Nat) (o : Ob) : Option (Int32) :=
  p_X4_bestStep_L9 fu o fu (-1) (o.1 0 0) 0
abbrev rm_X4_bestStep : Room := { frames := 2, cells := 0, slots := 0, locals := 44 }
set_option maxHeartbeats 4000000 in
set_option maxRecDepth 100000 in
theorem b_X4_bestStep {p : Program} {l : Launch} {e : Env} {s : State} {m : MethodId} {args : Array Value} {below : List Frame} {meth : Method} {c : Code} {ls : Array Slot} {D : va_G} {ct : Nat → ClassId} {G : GT} (a : Nat → Nat) (fu : Nat) (o : Ob) {r : Int32} (hx : p.tables.exec = Jvm.exec) (hb : c.code = cX4_bestStep) (hr : meth.sig.returnType = (some .int)) (hml : c.maxLocals = 5) (hown : s.vm.findClass RX4 = some m.cls) (htl : ∀ w ∈ wsL_law, w.before args s = true) (hlocks : meth.locks = false) (hK : va_K D vwCl (tyl ct) s) (hN : ∀ w ∈ NW, va_Nw w s) (hX : SX G s s.heap) (hP0 : va_P D vwCl (cs4 ct a o) s.heap) (hf : p_X4_bestStep fu o = some r)  (hl : lv_has ls 5 [(0, .ref (a 0))]) : W p l e rm_X4_bestStep s m args below meth c s.heap [] 0 0 (MQ below (Qro (some (.int r))) args s 0 0 (fun _ => False)) (F0 m 0 ls []) := by
  generalize hQQ : MQ below (Qro (some (.int r))) args s 0 0 (fun _ => False) = QQ
  have hP := hP0
  have hL9 : ∀ (n : Nat) (v1 : Int32) (v2 : Int32) (v3 : Int32), ∀ (ls : Array Slot), lv_has ls 5 [(0, .ref (a 0)), (1, .int v1), (2, .int v2), (3, .int v3)] → p_X4_bestStep_L9 fu o  n v1 v2 v3 = some r → W p l e rm_X4_bestStep s m args below meth c s.heap [] 0 0 QQ (F0 m 9 ls []) := by
    intro  n
    induction n with
    | zero =>
      intro v1 v2 v3 ls hl hf 
      rw [p_X4_bestStep_L9] at hf
      cases hf
    | succ n ih =>
      intro v1 v2 v3 ls hl hf 
      rw [p_X4_bestStep_L9] at hf
      refine lv_iload_n hx hb dX4_bestStep_9 rfl (lv_at hl 3 rfl) ?_
      refine lv_bipush (v := 60) hx hb dX4_bestStep_10 (by decide) ?_
      refine lv_icmp_gt (tgt := 39) hx hb dX4_bestStep_12 (by decide) (fun c_12 => ?_) (fun c_12 => ?_)
      · rw [if_pos c_12] at hf
        refine lv_iload_n hx hb dX4_bestStep_39 rfl (lv_at hl 1 rfl) ?_
        rw [← hQQ]
        exact rf_i hx hb hr hlocks hf dX4_bestStep_40
      rw [if_neg c_12] at hf
      refine lv_aload_n hx hb dX4_bestStep_15 rfl (lv_at hl 0 rfl) ?_
      refine lv_iload_n hx hb dX4_bestStep_16 rfl (lv_at hl 3 rfl) ?_
      obtain ⟨r_17, e_17, hf⟩ := ob_bind hf
      have hPX_17 : va_P D vwCl (cs4 ct a o) s.heap := hP
      refine ro_call1 (va_runV (As := [.int v3]) (rest := []) ⟨hx, hb, hml, hown, htl⟩ (c_X4_leftAtWorst l D ct G a fu o v3 e_17) (cw_X4_X4_leftAtWorst htl ⟨Nat.le_of_ble_eq_true rfl, Nat.le_of_ble_eq_true rfl⟩) ⟨Bx_blind, va_recv hK hPX_17 (ci := 4) (q0 := 0) rfl rfl, Bx_pre hPX_17 hK hN hX⟩ rfl rfl hl.1 rfl (lv_room (Nat.le_of_ble_eq_true rfl)) dX4_bestStep_17 ⟨Nat.zero_le _, Nat.zero_le _⟩) ?_
      refine lv_istore (lv' := [(4, .int r_17), (0, .ref (a 0)), (1, .int v1), (2, .int v2), (3, .int v3)]) hx hb dX4_bestStep_20 hl (by decide) rfl (fun ls hl => ?_)
      refine lv_iload hx hb dX4_bestStep_22 (lv_at hl 0 rfl) ?_
      refine lv_iload_n hx hb dX4_bestStep_24 rfl (lv_at hl 3 rfl) ?_
      refine lv_icmp_ge (tgt := 33) hx hb dX4_bestStep_25 (by decide) (fun c_25 => ?_) (fun c_25 => ?_)
      · rw [if_pos c_25] at hf
        refine lv_iinc (v := (v3 + 1)) (lv' := [(3, .int (v3 + 1)), (4, .int r_17), (0, .ref (a 0)), (1, .int v1), (2, .int v2)]) hx hb dX4_bestStep_33 hl (k := 4) rfl rfl (by decide) rfl (fun ls hl => ?_)
        refine lv_goto (tgt := 9) hx hb dX4_bestStep_36 (by decide) ?_
        exact ih v1 v2 (v3 + 1) _ (lv_sub hl [2, 3, 4, 0] rfl) hf 
      rw [if_neg c_25] at hf
      refine lv_iload hx hb dX4_bestStep_28 (lv_at hl 0 rfl) ?_
      refine lv_istore_n (lv' := [(2, .int r_17), (4, .int r_17), (0, .ref (a 0)), (1, .int v1), (3, .int v3)]) hx hb dX4_bestStep_30 rfl hl (by decide) rfl (fun ls hl => ?_)
      refine lv_iload_n hx hb dX4_bestStep_31 rfl (lv_at hl 4 rfl) ?_
      refine lv_istore_n (lv' := [(1, .int v3), (2, .int r_17), (4, .int r_17), (0, .ref (a 0)), (3, .int v3)]) hx hb dX4_bestStep_32 rfl hl (by decide) rfl (fun ls hl => ?_)
      refine lv_iinc (v := (v3 + 1)) (lv' := [(3, .int (v3 + 1)), (1, .int v3), (2, .int r_17), (4, .int r_17), (0, .ref (a 0))]) hx hb dX4_bestStep_33 hl (k := 4) rfl rfl (by decide) rfl (fun ls hl => ?_)
      refine lv_goto (tgt := 9) hx hb dX4_bestStep_36 (by decide) ?_
      exact ih v3 r_17 (v3 + 1) _ (lv_sub hl [4, 1, 2, 0] rfl) hf 
  rw [p_X4_bestStep] at hf
  refine lv_iconst (v := (-1)) hx hb dX4_bestStep_0 (by decide) ?_
  refine lv_istore_n (lv' := [(1, .int (-1)), (0, .ref (a 0))]) hx hb dX4_bestStep_1 rfl hl (by decide) rfl (fun ls hl => ?_)
  refine lv_aload_n hx hb dX4_bestStep_2 rfl (lv_at hl 1 rfl) ?_
  refine va_get (D := D) (ci := 4) (v := .int (o.1 0 0)) (C := RX4) (T := TX4) (N := 4) hx hb htl inlX4 hown hK hP 0 rfl rfl 0 (by decide) (htl _ wq_6_1) (fun _ h9 => h9) rfl dX4_bestStep_3 ?_
  refine lv_istore_n (lv' := [(2, .int (o.1 0 0)), (1, .int (-1)), (0, .ref (a 0))]) hx hb dX4_bestStep_6 rfl hl (by decide) rfl (fun ls hl => ?_)
  refine lv_iconst (v := 0) hx hb dX4_bestStep_7 (by decide) ?_
  refine lv_istore_n (lv' := [(3, .int 0), (2, .int (o.1 0 0)), (1, .int (-1)), (0, .ref (a 0))]) hx hb dX4_bestStep_8 rfl hl (by decide) rfl (fun ls hl => ?_)
  exact hL9 fu (-1) (o.1 0 0) 0 _ (lv_sub hl [3, 2, 1, 0] rfl) hf 
theorem c_X4_bestStep (l : Launch) (D : va_G) (ct : Nat → ClassId) (G : GT) (a : Nat → Nat) (fu : Nat) (o : Ob) {r : Int32} (hf : p_X4_bestStep fu o = some r)  : Met l yX4_bestStep (.code yX4_bestStep cX4_bestStep 5 (some .int) :: wsL_law) rm_X4_bestStep (va_Pc [.ref (a 0)] (Bx D ct G (cs4 ct a o))) (Qro (some (.int r))) 0 0 (fun _ => False) := by
  refine Met.ofW (cc := cX4_bestStep) (maxL := 5) (ret := (some .int)) (by decide) rfl ?_
  intro p e s m args below meth c s₁ B hml hv
  obtain ⟨rfl, hP, hK, hN, hX⟩ := hv
  have hts := atoms_spec (ws := .code yX4_bestStep cX4_bestStep 5 (some .int) :: wsL_law) B.pre
  rw [lg_entry_eq]
  exact b_X4_bestStep a fu o B.exec B.bytes B.returns hml (findClass_of_methodNamed B.named) (fun w h => hts w (List.mem_cons_of_mem _ h)) B.notSynchronized hK hN hX hP hf   (lv_entry [.ref (a 0)] (n := 5) (Nat.le_of_ble_eq_true rfl))
theorem hd_X4_bestStep : yX4_bestStep.cls ≠ "java/lang/invoke/MethodHandle" ∧ yX4_bestStep.cls ≠ "java/lang/invoke/VarHandle" ∧ (parseMethodDescriptor yX4_bestStep.desc).map (fun d => d.parameters.length) = some 0 := by decide +kernel
theorem cw_X4_X4_bestStep {R : Room} {s : State} {args : Array Value} (ht : ∀ w ∈ wsL_law, w.before args s = true) (hR : rm_X4_bestStep.frames + 1 ≤ R.frames ∧ 8 + (5 + 11) + rm_X4_bestStep.locals ≤ R.locals) : CallW R s args RX4 RX4 48 yX4_bestStep cX4_bestStep 5 (some .int) ((.code yX4_bestStep cX4_bestStep 5 (some .int)) :: wsL_law) rm_X4_bestStep 0 0 0 := cwV 0 ht (GV wq_51_4 wq_50_4 wq_50_5 wq_2_18 wq_50_6) rfl rfl rfl ⟨rfl, hd_X4_bestStep⟩ hR
def p_X4_leastLeft (fu : Nat) (o : Ob) : Option (Int32) :=
  (p_X4_bestStep fu o).bind fun r_1 => if r_1 = ((-1) : Int32) then some (o.1 0 0) else (p_X4_leftAtWorst fu o r_1).bind fun r_19 => some r_19
abbrev rm_X4_leastLeft : Room := { frames := 3, cells := 0, slots := 0, locals := 68 }
set_option maxHeartbeats 4000000 in
set_option maxRecDepth 100000 in
theorem b_X4_leastLeft {p : Program} {l : Launch} {e : Env} {s : State} {m : MethodId} {args : Array Value} {below : List Frame} {meth : Method} {c : Code} {ls : Array Slot} {D : va_G} {ct : Nat → ClassId} {G : GT} (a : Nat → Nat) (fu : Nat) (o : Ob) {r : Int32} (hx : p.tables.exec = Jvm.exec) (hb : c.code = cX4_leastLeft) (hr : meth.sig.returnType = (some .int)) (hml : c.maxLocals = 2) (hown : s.vm.findClass RX4 = some m.cls) (htl : ∀ w ∈ wsL_law, w.before args s = true) (hlocks : meth.locks = false) (hK : va_K D vwCl (tyl ct) s) (hN : ∀ w ∈ NW, va_Nw w s) (hX : SX G s s.heap) (hP0 : va_P D vwCl (cs4 ct a o) s.heap) (hf : p_X4_leastLeft fu o = some r)  (hl : lv_has ls 2 [(0, .ref (a 0))]) : W p l e rm_X4_leastLeft s m args below meth c s.heap [] 0 0 (MQ below (Qro (some (.int r))) args s 0 0 (fun _ => False)) (F0 m 0 ls []) := by
  generalize hQQ : MQ below (Qro (some (.int r))) args s 0 0 (fun _ => False) = QQ
  have hP := hP0
  rw [p_X4_leastLeft] at hf
  refine lv_aload_n hx hb dX4_leastLeft_0 rfl (lv_at hl 0 rfl) ?_
  obtain ⟨r_1, e_1, hf⟩ := ob_bind hf
  have hPX_1 : va_P D vwCl (cs4 ct a o) s.heap := hP
  refine ro_call1 (va_runV (As := []) (rest := []) ⟨hx, hb, hml, hown, htl⟩ (c_X4_bestStep l D ct G a fu o e_1) (cw_X4_X4_bestStep htl ⟨Nat.le_of_ble_eq_true rfl, Nat.le_of_ble_eq_true rfl⟩) ⟨Bx_blind, va_recv hK hPX_1 (ci := 4) (q0 := 0) rfl rfl, Bx_pre hPX_1 hK hN hX⟩ rfl rfl hl.1 rfl (lv_room (Nat.le_of_ble_eq_true rfl)) dX4_leastLeft_1 ⟨Nat.zero_le _, Nat.zero_le _⟩) ?_
  refine lv_istore_n (lv' := [(1, .int r_1), (0, .ref (a 0))]) hx hb dX4_leastLeft_4 rfl hl (by decide) rfl (fun ls hl => ?_)
  refine lv_iload_n hx hb dX4_leastLeft_5 rfl (lv_at hl 0 rfl) ?_
  refine lv_iconst (v := (-1)) hx hb dX4_leastLeft_6 (by decide) ?_
  refine lv_icmp_ne (tgt := 17) hx hb dX4_leastLeft_7 (by decide) (fun c_7 => ?_) (fun c_7 => ?_)
  rotate_left 1
  · rw [if_pos c_7] at hf
    refine lv_aload_n hx hb dX4_leastLeft_10 rfl (lv_at hl 1 rfl) ?_
    refine va_get (D := D) (ci := 4) (v := .int (o.1 0 0)) (C := RX4) (T := TX4) (N := 4) hx hb htl inlX4 hown hK hP 0 rfl rfl 0 (by decide) (htl _ wq_6_1) (fun _ h9 => h9) rfl dX4_leastLeft_11 ?_
    refine lv_goto (tgt := 22) hx hb dX4_leastLeft_14 (by decide) ?_
    rw [← hQQ]
    exact rf_i hx hb hr hlocks hf dX4_leastLeft_22
  rw [if_neg c_7] at hf
  refine lv_aload_n hx hb dX4_leastLeft_17 rfl (lv_at hl 1 rfl) ?_
  refine lv_iload_n hx hb dX4_leastLeft_18 rfl (lv_at hl 0 rfl) ?_
  obtain ⟨r_19, e_19, hf⟩ := ob_bind hf
  have hPX_19 : va_P D vwCl (cs4 ct a o) s.heap := hP
  refine ro_call1 (va_runV (As := [.int r_1]) (rest := []) ⟨hx, hb, hml, hown, htl⟩ (c_X4_leftAtWorst l D ct G a fu o r_1 e_19) (cw_X4_X4_leftAtWorst htl ⟨Nat.le_of_ble_eq_true rfl, Nat.le_of_ble_eq_true rfl⟩) ⟨Bx_blind, va_recv hK hPX_19 (ci := 4) (q0 := 0) rfl rfl, Bx_pre hPX_19 hK hN hX⟩ rfl rfl hl.1 rfl (lv_room (Nat.le_of_ble_eq_true rfl)) dX4_leastLeft_19 ⟨Nat.zero_le _, Nat.zero_le _⟩) ?_
  rw [← hQQ]
  exact rf_i hx hb hr hlocks hf dX4_leastLeft_22
theorem c_X4_leastLeft (l : Launch) (D : va_G) (ct : Nat → ClassId) (G : GT) (a : Nat → Nat) (fu : Nat) (o : Ob) {r : Int32} (hf : p_X4_leastLeft fu o = some r)  : Met l yX4_leastLeft (.code yX4_leastLeft cX4_leastLeft 2 (some .int) :: wsL_law) rm_X4_leastLeft (va_Pc [.ref (a 0)] (Bx D ct G (cs4 ct a o))) (Qro (some (.int r))) 0 0 (fun _ => False) := by
  refine Met.ofW (cc := cX4_leastLeft) (maxL := 2) (ret := (some .int)) (by decide) rfl ?_
  intro p e s m args below meth c s₁ B hml hv
  obtain ⟨rfl, hP, hK, hN, hX⟩ := hv
  have hts := atoms_spec (ws := .code yX4_leastLeft cX4_leastLeft 2 (some .int) :: wsL_law) B.pre
  rw [lg_entry_eq]
  exact b_X4_leastLeft a fu o B.exec B.bytes B.returns hml (findClass_of_methodNamed B.named) (fun w h => hts w (List.mem_cons_of_mem _ h)) B.notSynchronized hK hN hX hP hf   (lv_entry [.ref (a 0)] (n := 2) (Nat.le_of_ble_eq_true rfl))
def p_X9_bit (fu : Nat) (v0 : Int32) : Option (Int32) :=
  if v0 < 0 then some (0 : Int32) else if (10 : Int32) < v0 then some (0 : Int32) else some ((1 : Int32) <<< (v0 &&& 31))
abbrev rm_X9_bit : Room := { frames := 0, cells := 0, slots := 0, locals := 0 }
set_option maxHeartbeats 4000000 in
set_option maxRecDepth 100000 in
theorem b_X9_bit {p : Program} {l : Launch} {e : Env} {s : State} {m : MethodId} {args : Array Value} {below : List Frame} {meth : Method} {c : Code} {ls : Array Slot} {D : va_G} {ct : Nat → ClassId} {G : GT}  (fu : Nat) (v0 : Int32) {r : Int32} (hx : p.tables.exec = Jvm.exec) (hb : c.code = cX9_bit) (hr : meth.sig.returnType = (some .int)) (hml : c.maxLocals = 1) (hown : s.vm.findClass RX9 = some m.cls) (htl : ∀ w ∈ wsL_law, w.before args s = true) (hlocks : meth.locks = false) (hK : va_K D vwCl (tyl ct) s) (hN : ∀ w ∈ NW, va_Nw w s) (hX : SX G s s.heap) (hP0 : va_P D vwCl ([]) s.heap) (hf : p_X9_bit fu v0 = some r)  (hl : lv_has ls 1 [(0, .int v0)]) : W p l e rm_X9_bit s m args below meth c s.heap [] 0 0 (MQ below (Qro (some (.int r))) args s 0 0 (fun _ => False)) (F0 m 0 ls []) := by
  generalize hQQ : MQ below (Qro (some (.int r))) args s 0 0 (fun _ => False) = QQ
  have hP := hP0
  rw [p_X9_bit] at hf
  refine lv_iload_n hx hb dX9_bit_0 rfl (lv_at hl 0 rfl) ?_
  refine lv_if_lt (tgt := 16) hx hb dX9_bit_1 (by decide) (fun c_1 => ?_) (fun c_1 => ?_)
  · rw [if_pos c_1] at hf
    refine lv_iconst (v := 0) hx hb dX9_bit_16 (by decide) ?_
    rw [← hQQ]
    exact rf_i hx hb hr hlocks hf dX9_bit_17
  rw [if_neg c_1] at hf
  refine lv_iload_n hx hb dX9_bit_4 rfl (lv_at hl 0 rfl) ?_
  refine lv_bipush (v := 10) hx hb dX9_bit_5 (by decide) ?_
  refine lv_icmp_gt (tgt := 16) hx hb dX9_bit_7 (by decide) (fun c_7 => ?_) (fun c_7 => ?_)
  · rw [if_pos c_7] at hf
    refine lv_iconst (v := 0) hx hb dX9_bit_16 (by decide) ?_
    rw [← hQQ]
    exact rf_i hx hb hr hlocks hf dX9_bit_17
  rw [if_neg c_7] at hf
  refine lv_iconst (v := 1) hx hb dX9_bit_10 (by decide) ?_
  refine lv_iload_n hx hb dX9_bit_11 rfl (lv_at hl 0 rfl) ?_
  refine lv_ishl hx hb dX9_bit_12 ?_
  refine lv_goto (tgt := 17) hx hb dX9_bit_13 (by decide) ?_
  rw [← hQQ]
  exact rf_i hx hb hr hlocks hf dX9_bit_17
theorem c_X9_bit (l : Launch) (D : va_G) (ct : Nat → ClassId) (G : GT)  (fu : Nat) (v0 : Int32) {r : Int32} (hf : p_X9_bit fu v0 = some r)  : Met l yX9_bit (.code yX9_bit cX9_bit 1 (some .int) :: wsL_law) rm_X9_bit (va_Pc [.int v0] (Bx D ct G ([]))) (Qro (some (.int r))) 0 0 (fun _ => False) := by
  refine Met.ofW (cc := cX9_bit) (maxL := 1) (ret := (some .int)) (by decide) rfl ?_
  intro p e s m args below meth c s₁ B hml hv
  obtain ⟨rfl, hP, hK, hN, hX⟩ := hv
  have hts := atoms_spec (ws := .code yX9_bit cX9_bit 1 (some .int) :: wsL_law) B.pre
  rw [lg_entry_eq]
  exact b_X9_bit  fu v0 B.exec B.bytes B.returns hml (findClass_of_methodNamed B.named) (fun w h => hts w (List.mem_cons_of_mem _ h)) B.notSynchronized hK hN hX hP hf   (lv_entry [.int v0] (n := 1) (Nat.le_of_ble_eq_true rfl))
theorem hd_X9_bit : yX9_bit.cls ≠ "java/lang/invoke/MethodHandle" ∧ yX9_bit.cls ≠ "java/lang/invoke/VarHandle" ∧ (parseMethodDescriptor yX9_bit.desc).map (fun d => d.parameters.length) = some 1 := by decide +kernel
theorem cw_X5_X9_bit {R : Room} {s : State} {args : Array Value} (ht : ∀ w ∈ wsL_law, w.before args s = true) (hN : ∀ w ∈ NW, va_Nw w s) (hR : rm_X9_bit.frames + 1 ≤ R.frames ∧ 8 + (1 + 11) + rm_X9_bit.locals ≤ R.locals) : va_CN R s args RX5 44 yX9_bit "QuotedRiver" cX9_bit 1 (some .int) ((.code yX9_bit cX9_bit 1 (some .int)) :: wsL_law) rm_X9_bit 0 0 1 ∧ (Cond.static yX9_bit).before args s = true ∧ True := ⟨va_cnB 1 ht (GL wq_15_15) rfl rfl rfl (hN _ nm_126) (ht _ wq_1_2) hd_X9_bit hR, ht _ wq_15_14, trivial⟩
def p_X5_arrive (fu : Nat) (o : Ob) (v1 : Int32) (v2 : Int32) : Option (Ob) :=
  if v2 ≤ (60 : Int32) then if v1 = ((-1) : Int32) then some (oI o 4 v2) else (p_X9_bit fu v1).bind fun r_25 => if ((o.1 1 0) &&& r_25) = 0 then (p_X9_bit fu v1).bind fun r_38 => some (oI (oI o 1 ((o.1 1 0) ||| r_38)) 2 v1) else if (o.1 3 0) = ((-1) : Int32) then some (oI o 3 v2) else some o else some o
abbrev rm_X5_arrive : Room := { frames := 1, cells := 0, slots := 0, locals := 20 }
set_option maxHeartbeats 4000000 in
set_option maxRecDepth 100000 in
theorem b_X5_arrive {p : Program} {l : Launch} {e : Env} {s : State} {m : MethodId} {args : Array Value} {below : List Frame} {meth : Method} {c : Code} {ls : Array Slot} {D : va_G} {ct : Nat → ClassId} {G : GT} (a : Nat → Nat) (fu : Nat) (o : Ob) (v1 : Int32) (v2 : Int32) {r : Ob} (hx : p.tables.exec = Jvm.exec) (hb : c.code = cX5_arrive) (hr : meth.sig.returnType = none) (hml : c.maxLocals = 3) (hown : s.vm.findClass RX5 = some m.cls) (htl : ∀ w ∈ wsL_law, w.before args s = true) (hlocks : meth.locks = false) (hK : va_K D vwCl (tyl ct) s) (hN : ∀ w ∈ NW, va_Nw w s) (hX : SX G s s.heap) (hP0 : va_P D vwCl (cs5 ct a o) s.heap) (hf : p_X5_arrive fu o v1 v2 = some r) (hD0 : va_D (GE G) (cs5 ct a o))  (hl : lv_has ls 3 [(0, .ref (a 0)), (1, .int v1), (2, .int v2)]) : W p l e rm_X5_arrive s m args below meth c s.heap [] 0 0 (MQ below (Qwr none (fun H => va_P D vwCl (cs5 ct a r) H) (wA (cs5 ct a o))) args s 0 0 (wA (cs5 ct a o))) (F0 m 0 ls []) := by
  generalize hQQ : MQ below (Qwr none (fun H => va_P D vwCl (cs5 ct a r) H) (wA (cs5 ct a o))) args s 0 0 (wA (cs5 ct a o)) = QQ
  have hDx : ∀ (oy : Ob), va_D (GE G) (cs5 ct a oy) := fun oy => D_cr hD0 rfl
  have hDW : ∀ (oy : Ob), va_D (wA (cs5 ct a o)) (cs5 ct a oy) := fun oy => D_cr (D_self hD0) rfl
  have hGE : ∀ q, wA (cs5 ct a o) q → GE G q := wA_GE hD0
  have hP := hP0
  have hS : va_S (wA (cs5 ct a o)) s.heap s.heap [] := va_S.rf
  rw [p_X5_arrive] at hf
  refine lv_iload_n hx hb dX5_arrive_0 rfl (lv_at hl 2 rfl) ?_
  refine lv_bipush (v := 60) hx hb dX5_arrive_1 (by decide) ?_
  refine lv_icmp_le (tgt := 7) hx hb dX5_arrive_3 (by decide) (fun c_3 => ?_) (fun c_3 => ?_)
  rotate_left 1
  · rw [if_neg c_3] at hf
    rw [← hQQ]
    cases hf
    exact rw_v hx hb hr hlocks hP hS dX5_arrive_6
  rw [if_pos c_3] at hf
  refine lv_iload_n hx hb dX5_arrive_7 rfl (lv_at hl 1 rfl) ?_
  refine lv_iconst (v := (-1)) hx hb dX5_arrive_8 (by decide) ?_
  refine lv_icmp_ne (tgt := 20) hx hb dX5_arrive_9 (by decide) (fun c_9 => ?_) (fun c_9 => ?_)
  rotate_left 1
  · rw [if_pos c_9] at hf
    refine lv_aload_n hx hb dX5_arrive_12 rfl (lv_at hl 0 rfl) ?_
    refine lv_iload_n hx hb dX5_arrive_13 rfl (lv_at hl 2 rfl) ?_
    refine va_put (D := D) (ci := 5) (v := .int v2) (ty := .int) (C := RX5) (T := TX5) (N := 9) hx hb htl inlX5 tyX5 tyX5_ok nmX5 hown hK hP (hDW o) hS 0 rfl rfl 4 (by decide) (htl _ wq_5_17) (fun _ h9 => h9) rfl (tyX5_ok 4 (by decide)) rfl rfl (Nat.le_of_ble_eq_true rfl) dX5_arrive_14 (fun H_14 locs_14 hP _ hS => ?_)
    have hP : va_P D vwCl (cs5 ct a (oI o 4 v2)) H_14 := st5_4 hP
    refine lv_goto (tgt := 66) hx hb dX5_arrive_17 (by decide) ?_
    rw [← hQQ]
    cases hf
    exact rw_v hx hb hr hlocks hP hS dX5_arrive_66
  rw [if_neg c_9] at hf
  refine lv_aload_n hx hb dX5_arrive_20 rfl (lv_at hl 0 rfl) ?_
  refine va_get (D := D) (ci := 5) (v := .int (o.1 1 0)) (C := RX5) (T := TX5) (N := 9) hx hb htl inlX5 hown hK hP 0 rfl rfl 1 (by decide) (htl _ wq_5_14) (fun _ h9 => h9) rfl dX5_arrive_21 ?_
  refine lv_iload_n hx hb dX5_arrive_24 rfl (lv_at hl 1 rfl) ?_
  obtain ⟨r_25, e_25, hf⟩ := ob_bind hf
  have hPX_25 : va_P D vwCl ([]) s.heap := P_nil
  refine ro_call1 (va_runSN (As := [.int v1]) (rest := [.int (o.1 1 0)]) ⟨hx, hb, hml, hown, htl⟩ (c_X9_bit l D ct G fu v1 e_25) (cw_X5_X9_bit htl hN ⟨Nat.le_of_ble_eq_true rfl, Nat.le_of_ble_eq_true rfl⟩) ⟨Bx_blind, Bx_pre hPX_25 hK hN (hX.stay hS hGE)⟩ rfl rfl hl.1 rfl (lv_room (Nat.le_of_ble_eq_true rfl)) dX5_arrive_25 ⟨Nat.zero_le _, Nat.zero_le _⟩) ?_
  refine lv_iand hx hb dX5_arrive_28 ?_
  refine lv_if_ne (tgt := 53) hx hb dX5_arrive_29 (by decide) (fun c_29 => ?_) (fun c_29 => ?_)
  · rw [if_neg c_29] at hf
    refine lv_aload_n hx hb dX5_arrive_53 rfl (lv_at hl 0 rfl) ?_
    refine va_get (D := D) (ci := 5) (v := .int (o.1 3 0)) (C := RX5) (T := TX5) (N := 9) hx hb htl inlX5 hown hK hP 0 rfl rfl 3 (by decide) (htl _ wq_5_16) (fun _ h9 => h9) rfl dX5_arrive_54 ?_
    refine lv_iconst (v := (-1)) hx hb dX5_arrive_57 (by decide) ?_
    refine lv_icmp_ne (tgt := 66) hx hb dX5_arrive_58 (by decide) (fun c_58 => ?_) (fun c_58 => ?_)
    · rw [if_neg c_58] at hf
      rw [← hQQ]
      cases hf
      exact rw_v hx hb hr hlocks hP hS dX5_arrive_66
    rw [if_pos c_58] at hf
    refine lv_aload_n hx hb dX5_arrive_61 rfl (lv_at hl 0 rfl) ?_
    refine lv_iload_n hx hb dX5_arrive_62 rfl (lv_at hl 2 rfl) ?_
    refine va_put (D := D) (ci := 5) (v := .int v2) (ty := .int) (C := RX5) (T := TX5) (N := 9) hx hb htl inlX5 tyX5 tyX5_ok nmX5 hown hK hP (hDW o) hS 0 rfl rfl 3 (by decide) (htl _ wq_5_16) (fun _ h9 => h9) rfl (tyX5_ok 3 (by decide)) rfl rfl (Nat.le_of_ble_eq_true rfl) dX5_arrive_63 (fun H_63 locs_63 hP _ hS => ?_)
    have hP : va_P D vwCl (cs5 ct a (oI o 3 v2)) H_63 := st5_3 hP
    rw [← hQQ]
    cases hf
    exact rw_v hx hb hr hlocks hP hS dX5_arrive_66
  rw [if_pos c_29] at hf
  refine lv_aload_n hx hb dX5_arrive_32 rfl (lv_at hl 0 rfl) ?_
  refine lv_dup hx hb dX5_arrive_33 rfl ?_
  refine va_get (D := D) (ci := 5) (v := .int (o.1 1 0)) (C := RX5) (T := TX5) (N := 9) hx hb htl inlX5 hown hK hP 0 rfl rfl 1 (by decide) (htl _ wq_5_14) (fun _ h9 => h9) rfl dX5_arrive_34 ?_
  refine lv_iload_n hx hb dX5_arrive_37 rfl (lv_at hl 1 rfl) ?_
  obtain ⟨r_38, e_38, hf⟩ := ob_bind hf
  have hPX_38 : va_P D vwCl ([]) s.heap := P_nil
  refine ro_call1 (va_runSN (As := [.int v1]) (rest := [.int (o.1 1 0), .ref (a 0)]) ⟨hx, hb, hml, hown, htl⟩ (c_X9_bit l D ct G fu v1 e_38) (cw_X5_X9_bit htl hN ⟨Nat.le_of_ble_eq_true rfl, Nat.le_of_ble_eq_true rfl⟩) ⟨Bx_blind, Bx_pre hPX_38 hK hN (hX.stay hS hGE)⟩ rfl rfl hl.1 rfl (lv_room (Nat.le_of_ble_eq_true rfl)) dX5_arrive_38 ⟨Nat.zero_le _, Nat.zero_le _⟩) ?_
  refine lv_ior hx hb dX5_arrive_41 ?_
  refine va_put (D := D) (ci := 5) (v := .int ((o.1 1 0) ||| r_38)) (ty := .int) (C := RX5) (T := TX5) (N := 9) hx hb htl inlX5 tyX5 tyX5_ok nmX5 hown hK hP (hDW o) hS 0 rfl rfl 1 (by decide) (htl _ wq_5_14) (fun _ h9 => h9) rfl (tyX5_ok 1 (by decide)) rfl rfl (Nat.le_of_ble_eq_true rfl) dX5_arrive_42 (fun H_42 locs_42 hP _ hS => ?_)
  have hP : va_P D vwCl (cs5 ct a (oI o 1 ((o.1 1 0) ||| r_38))) H_42 := st5_1 hP
  refine lv_aload_n hx hb dX5_arrive_45 rfl (lv_at hl 0 rfl) ?_
  refine lv_iload_n hx hb dX5_arrive_46 rfl (lv_at hl 1 rfl) ?_
  refine va_put (D := D) (ci := 5) (v := .int v1) (ty := .int) (C := RX5) (T := TX5) (N := 9) hx hb htl inlX5 tyX5 tyX5_ok nmX5 hown hK hP (hDW (oI o 1 ((o.1 1 0) ||| r_38))) hS 0 rfl rfl 2 (by decide) (htl _ wq_5_15) (fun _ h9 => h9) rfl (tyX5_ok 2 (by decide)) rfl rfl (Nat.le_of_ble_eq_true rfl) dX5_arrive_47 (fun H_47 locs_47 hP _ hS => ?_)
  have hP : va_P D vwCl (cs5 ct a (oI (oI o 1 ((o.1 1 0) ||| r_38)) 2 v1)) H_47 := st5_2 hP
  refine lv_goto (tgt := 66) hx hb dX5_arrive_50 (by decide) ?_
  rw [← hQQ]
  cases hf
  exact rw_v hx hb hr hlocks hP hS dX5_arrive_66
theorem c_X5_arrive (l : Launch) (D : va_G) (ct : Nat → ClassId) (G : GT) (a : Nat → Nat) (fu : Nat) (o : Ob) (v1 : Int32) (v2 : Int32) {r : Ob} (hf : p_X5_arrive fu o v1 v2 = some r)  (hD0 : va_D (GE G) (cs5 ct a o)) : Met l yX5_arrive (.code yX5_arrive cX5_arrive 3 none :: wsL_law) rm_X5_arrive (va_Pc [.ref (a 0), .int v1, .int v2] (Bx D ct G (cs5 ct a o))) (Qwr none (fun H => va_P D vwCl (cs5 ct a r) H) (wA (cs5 ct a o))) 0 0 (wA (cs5 ct a o)) := by
  refine Met.ofW (cc := cX5_arrive) (maxL := 3) (ret := none) (by decide) rfl ?_
  intro p e s m args below meth c s₁ B hml hv
  obtain ⟨rfl, hP, hK, hN, hX⟩ := hv
  have hts := atoms_spec (ws := .code yX5_arrive cX5_arrive 3 none :: wsL_law) B.pre
  rw [lg_entry_eq]
  exact b_X5_arrive a fu o v1 v2 B.exec B.bytes B.returns hml (findClass_of_methodNamed B.named) (fun w h => hts w (List.mem_cons_of_mem _ h)) B.notSynchronized hK hN hX hP hf hD0  (lv_entry [.ref (a 0), .int v1, .int v2] (n := 3) (Nat.le_of_ble_eq_true rfl))
theorem hd_X2_takesTurn : yX2_takesTurn.cls ≠ "java/lang/invoke/MethodHandle" ∧ yX2_takesTurn.cls ≠ "java/lang/invoke/VarHandle" ∧ (parseMethodDescriptor yX2_takesTurn.desc).map (fun d => d.parameters.length) = some 2 := by decide +kernel
theorem cw_X5_X2_takesTurn {R : Room} {s : State} {args : Array Value} (ht : ∀ w ∈ wsL_law, w.before args s = true) (hN : ∀ w ∈ NW, va_Nw w s) (hR : rm_X2_takesTurn.frames + 1 ≤ R.frames ∧ 8 + (4 + 11) + rm_X2_takesTurn.locals ≤ R.locals) : va_CN R s args RX5 86 yX2_takesTurn "QuotedRiver" cX2_takesTurn 4 (some .boolean) ((.code yX2_takesTurn cX2_takesTurn 4 (some .boolean)) :: wsL_law) rm_X2_takesTurn 0 0 2 ∧ (Cond.instanceMethod yX2_takesTurn).before args s = true ∧ (Cond.selects RX2 yX2_takesTurn yX2_takesTurn).before args s = true := ⟨va_cnB 2 ht (GL wq_26_6) rfl rfl rfl (hN _ nm_130) (ht _ wq_1_23) hd_X2_takesTurn hR, ht _ wq_26_4, ht _ wq_26_5⟩
def p_X5_depart_J38 (fu : Nat) (o1 : Ob) (c13 : Ob → Int32 → Int32 → Int32 → Int32 → Option (Int32 × Ob)) (c68 : Ob → Int32 → Option (Int32 × Ob)) (oz : Ob) (v2 : Int32) (v3 : Int32) (v4 : Int32) (v5 : Int32) (s0 : Int32) : Option (Int32 × Ob) :=
    if s0 = 0 then c13 oz v2 v3 v4 (v5 + 1) else (p_X9_pick fu 5 (o1.1 9) v5).bind fun r_51 => if r_51 = v2 then (p_X2_takesTurn fu o1 v5 v3).bind fun r_62 => if r_62 = 0 then c13 oz v2 v3 v4 (v5 + 1) else c68 oz v5 else c13 oz v2 v3 v4 (v5 + 1)
def p_X5_depart_L13 (fu : Nat) (o1 : Ob) (c68 : Ob → Int32 → Option (Int32 × Ob)) : Nat → Ob → Int32 → Int32 → Int32 → Int32 → Option (Int32 × Ob)
  | 0, _, _, _, _, _ => none
  | n + 1, oz, v2, v3, v4, v5 =>
    if (o1.1 8 0) ≤ v5 then (p_X9_pick fu 10 (o1.1 5) v2).bind fun r_113 => some (r_113, oz) else (p_X9_bit fu v5).bind fun r_26 => if (v4 &&& r_26) = 0 then p_X5_depart_J38 fu o1 (fun oz v2 v3 v4 v5 => p_X5_depart_L13 fu o1 c68 n oz v2 v3 v4 v5) c68 oz v2 v3 v4 v5 1 else p_X5_depart_J38 fu o1 (fun oz v2 v3 v4 v5 => p_X5_depart_L13 fu o1 c68 n oz v2 v3 v4 v5) c68 oz v2 v3 v4 v5 0
def p_X5_depart (fu : Nat) (o : Ob) (o1 : Ob) (v2 : Int32) (v3 : Int32) (v4 : Int32) : Option (Int32 × Ob) :=
  p_X5_depart_L13 fu o1 (fun oz v5 => (p_X9_bit fu v5).bind fun r_85 => (p_X9_pick fu 5 (o1.1 10) v5).bind fun r_98 => some (r_98, (oI (oI oz 7 ((oz.1 7 0) + 1)) 8 (((oI oz 7 ((oz.1 7 0) + 1)).1 8 0) ||| r_85)))) fu (oI o 6 ((o.1 6 0) + 1)) v2 v3 v4 0
abbrev rm_X5_depart : Room := { frames := 2, cells := 0, slots := 0, locals := 44 }
set_option maxHeartbeats 4000000 in
set_option maxRecDepth 100000 in
theorem b_X5_depart {p : Program} {l : Launch} {e : Env} {s : State} {m : MethodId} {args : Array Value} {below : List Frame} {meth : Method} {c : Code} {ls : Array Slot} {D : va_G} {ct : Nat → ClassId} {G : GT} (a : Nat → Nat) (ab : Nat → Nat) (fu : Nat) (o : Ob) (o1 : Ob) (v2 : Int32) (v3 : Int32) (v4 : Int32) {r : Int32 × Ob} (hx : p.tables.exec = Jvm.exec) (hb : c.code = cX5_depart) (hr : meth.sig.returnType = (some .int)) (hml : c.maxLocals = 7) (hown : s.vm.findClass RX5 = some m.cls) (htl : ∀ w ∈ wsL_law, w.before args s = true) (hlocks : meth.locks = false) (hK : va_K D vwCl (tyl ct) s) (hN : ∀ w ∈ NW, va_Nw w s) (hX : SX G s s.heap) (hP0 : va_P D vwCl (cs5 ct a o ++ (cs2 ct ab o1)) s.heap) (hf : p_X5_depart fu o o1 v2 v3 v4 = some r) (hD0 : va_D (GE G) (cs5 ct a o ++ (cs2 ct ab o1)))  (hl : lv_has ls 7 [(0, .ref (a 0)), (1, .ref (ab 0)), (2, .int v2), (3, .int v3), (4, .int v4)]) : W p l e rm_X5_depart s m args below meth c s.heap [] 0 0 (MQ below (Qwr (some (.int r.1)) (fun H => va_P D vwCl (cs5 ct a r.2) H) (wA (cs5 ct a o))) args s 0 0 (wA (cs5 ct a o))) (F0 m 0 ls []) := by
  generalize hQQ : MQ below (Qwr (some (.int r.1)) (fun H => va_P D vwCl (cs5 ct a r.2) H) (wA (cs5 ct a o))) args s 0 0 (wA (cs5 ct a o)) = QQ
  have hDx : ∀ (oy : Ob), va_D (GE G) (cs5 ct a oy ++ (cs2 ct ab o1)) := fun oy => D_cr hD0 rfl
  have hDW : ∀ (oy : Ob), va_D (wA (cs5 ct a o)) (cs5 ct a oy) := fun oy => D_cr (D_left hD0) rfl
  have hGE : ∀ q, wA (cs5 ct a o) q → GE G q := wA_GEl hD0
  have hP : va_P D vwCl (cs5 ct a o) s.heap := P_left hP0
  have hRR : ∀ (H : Heap) (locs : List Loc), va_S (wA (cs5 ct a o)) s.heap H locs → va_P D vwCl (cs2 ct ab o1) H := fun H locs hS => P_rest hD0 (P_right hP0) hS
  have hS : va_S (wA (cs5 ct a o)) s.heap s.heap [] := va_S.rf
  have hJ38 : ∀ (c13 : Ob → Int32 → Int32 → Int32 → Int32 → Option (Int32 × Ob)) (c68 : Ob → Int32 → Option (Int32 × Ob)) (oz : Ob) (v2 : Int32) (v3 : Int32) (v4 : Int32) (v5 : Int32) (s0 : Int32), ∀ (H : Heap) (locs : List Loc) (ls : Array Slot), va_P D vwCl (cs5 ct a oz) H → va_S (wA (cs5 ct a o)) s.heap H locs → lv_has ls 7 [(0, .ref (a 0)), (1, .ref (ab 0)), (2, .int v2), (3, .int v3), (4, .int v4), (5, .int v5)] → p_X5_depart_J38 fu o1 c13 c68 oz v2 v3 v4 v5 s0 = some r → (∀ (oz : Ob) (v2 : Int32) (v3 : Int32) (v4 : Int32) (v5 : Int32), ∀ (H : Heap) (locs : List Loc) (ls : Array Slot), va_P D vwCl (cs5 ct a oz) H → va_S (wA (cs5 ct a o)) s.heap H locs → lv_has ls 7 [(0, .ref (a 0)), (1, .ref (ab 0)), (2, .int v2), (3, .int v3), (4, .int v4), (5, .int v5)] → c13 oz v2 v3 v4 v5 = some r → W p l e rm_X5_depart s m args below meth c H locs 0 0 QQ (F0 m 13 ls [])) → (∀ (oz : Ob) (v5 : Int32), ∀ (H : Heap) (locs : List Loc) (ls : Array Slot), va_P D vwCl (cs5 ct a oz) H → va_S (wA (cs5 ct a o)) s.heap H locs → lv_has ls 7 [(0, .ref (a 0)), (1, .ref (ab 0)), (5, .int v5)] → c68 oz v5 = some r → W p l e rm_X5_depart s m args below meth c H locs 0 0 QQ (F0 m 68 ls [])) → W p l e rm_X5_depart s m args below meth c H locs 0 0 QQ (F0 m 38 ls [.int s0]) := by
    intro c13 c68 oz v2 v3 v4 v5 s0 H locs ls hP hS hl hf k13 k68
    rw [p_X5_depart_J38] at hf
    refine lv_istore (lv' := [(6, .int s0), (0, .ref (a 0)), (1, .ref (ab 0)), (2, .int v2), (3, .int v3), (4, .int v4), (5, .int v5)]) hx hb dX5_depart_38 hl (by decide) rfl (fun ls hl => ?_)
    refine lv_iload hx hb dX5_depart_40 (lv_at hl 0 rfl) ?_
    refine lv_if_eq (tgt := 102) hx hb dX5_depart_42 (by decide) (fun c_42 => ?_) (fun c_42 => ?_)
    · rw [if_pos c_42] at hf
      refine lv_iinc (v := (v5 + 1)) (lv' := [(5, .int (v5 + 1)), (6, .int s0), (0, .ref (a 0)), (1, .ref (ab 0)), (2, .int v2), (3, .int v3), (4, .int v4)]) hx hb dX5_depart_102 hl (k := 6) rfl rfl (by decide) rfl (fun ls hl => ?_)
      refine lv_goto (tgt := 13) hx hb dX5_depart_105 (by decide) ?_
      exact k13 oz v2 v3 v4 (v5 + 1) _ _ _ hP hS (lv_sub hl [2, 3, 4, 5, 6, 0] rfl) hf
    rw [if_neg c_42] at hf
    refine lv_aload_n hx hb dX5_depart_45 rfl (lv_at hl 2 rfl) ?_
    refine va_getN (D := D) (ci := 2) (v := .ref (ab 4)) (C := RX2) (T := TX2) (N := 20) hx hb htl inlX2 hown hK (hRR _ _ hS) 0 rfl rfl 9 (by decide) (va_Nw.use rfl (hN _ nm_60)) (fun _ h9 => h9) rfl dX5_depart_46 ?_
    refine lv_iload hx hb dX5_depart_49 (lv_at hl 6 rfl) ?_
    obtain ⟨r_51, e_51, hf⟩ := ob_bind hf
    have hPX_51 : va_P D vwCl ([((ab 4), .inl (ct 0, 5, .inl (o1.1 9)))]) H := (P_one (hRR _ _ hS) 4 rfl)
    refine ro_call1 (va_runSN (As := [.ref (ab 4), .int v5]) (rest := []) ⟨hx, hb, hml, hown, htl⟩ (c_X9_pick l D ct G (ab 4) fu 5 (o1.1 9) v5 e_51) (cw_X5_X9_pick htl hN ⟨Nat.le_of_ble_eq_true rfl, Nat.le_of_ble_eq_true rfl⟩) ⟨Bx_blind, Bx_pre hPX_51 hK hN (hX.stay hS hGE)⟩ rfl rfl hl.1 rfl (lv_room (Nat.le_of_ble_eq_true rfl)) dX5_depart_51 ⟨Nat.zero_le _, Nat.zero_le _⟩) ?_
    refine lv_iload_n hx hb dX5_depart_54 rfl (lv_at hl 3 rfl) ?_
    refine lv_icmp_ne (tgt := 102) hx hb dX5_depart_55 (by decide) (fun c_55 => ?_) (fun c_55 => ?_)
    · rw [if_neg c_55] at hf
      refine lv_iinc (v := (v5 + 1)) (lv' := [(5, .int (v5 + 1)), (6, .int s0), (0, .ref (a 0)), (1, .ref (ab 0)), (2, .int v2), (3, .int v3), (4, .int v4)]) hx hb dX5_depart_102 hl (k := 6) rfl rfl (by decide) rfl (fun ls hl => ?_)
      refine lv_goto (tgt := 13) hx hb dX5_depart_105 (by decide) ?_
      exact k13 oz v2 v3 v4 (v5 + 1) _ _ _ hP hS (lv_sub hl [2, 3, 4, 5, 6, 0] rfl) hf
    rw [if_pos c_55] at hf
    refine lv_aload_n hx hb dX5_depart_58 rfl (lv_at hl 2 rfl) ?_
    refine lv_iload hx hb dX5_depart_59 (lv_at hl 6 rfl) ?_
    refine lv_iload_n hx hb dX5_depart_61 rfl (lv_at hl 4 rfl) ?_
    obtain ⟨r_62, e_62, hf⟩ := ob_bind hf
    have hPX_62 : va_P D vwCl (cs2 ct ab o1) H := ((hRR _ _ hS).sub (ws' := cs2 ct ab o1) [0, 1, 2, 3, 4, 5, 6, 7, 8, 9, 10, 11, 12] rfl)
    refine ro_call1 (va_runVN (As := [.int v5, .int v3]) (rest := []) ⟨hx, hb, hml, hown, htl⟩ (c_X2_takesTurn l D ct G ab fu o1 v5 v3 e_62) (cw_X5_X2_takesTurn htl hN ⟨Nat.le_of_ble_eq_true rfl, Nat.le_of_ble_eq_true rfl⟩) ⟨Bx_blind, va_recv hK hPX_62 (ci := 2) (q0 := 0) rfl rfl, Bx_pre hPX_62 hK hN (hX.stay hS hGE)⟩ rfl rfl hl.1 rfl (lv_room (Nat.le_of_ble_eq_true rfl)) dX5_depart_62 ⟨Nat.zero_le _, Nat.zero_le _⟩) ?_
    refine lv_if_eq (tgt := 102) hx hb dX5_depart_65 (by decide) (fun c_65 => ?_) (fun c_65 => ?_)
    rotate_left 1
    · rw [if_neg c_65] at hf
      exact k68 oz v5 _ _ _ hP hS (lv_sub hl [1, 2, 6] rfl) hf
    rw [if_pos c_65] at hf
    refine lv_iinc (v := (v5 + 1)) (lv' := [(5, .int (v5 + 1)), (6, .int s0), (0, .ref (a 0)), (1, .ref (ab 0)), (2, .int v2), (3, .int v3), (4, .int v4)]) hx hb dX5_depart_102 hl (k := 6) rfl rfl (by decide) rfl (fun ls hl => ?_)
    refine lv_goto (tgt := 13) hx hb dX5_depart_105 (by decide) ?_
    exact k13 oz v2 v3 v4 (v5 + 1) _ _ _ hP hS (lv_sub hl [2, 3, 4, 5, 6, 0] rfl) hf
  have hL13 : ∀ (c68 : Ob → Int32 → Option (Int32 × Ob)) (n : Nat) (oz : Ob) (v2 : Int32) (v3 : Int32) (v4 : Int32) (v5 : Int32), ∀ (H : Heap) (locs : List Loc) (ls : Array Slot), va_P D vwCl (cs5 ct a oz) H → va_S (wA (cs5 ct a o)) s.heap H locs → lv_has ls 7 [(0, .ref (a 0)), (1, .ref (ab 0)), (2, .int v2), (3, .int v3), (4, .int v4), (5, .int v5)] → p_X5_depart_L13 fu o1 c68 n oz v2 v3 v4 v5 = some r → (∀ (oz : Ob) (v5 : Int32), ∀ (H : Heap) (locs : List Loc) (ls : Array Slot), va_P D vwCl (cs5 ct a oz) H → va_S (wA (cs5 ct a o)) s.heap H locs → lv_has ls 7 [(0, .ref (a 0)), (1, .ref (ab 0)), (5, .int v5)] → c68 oz v5 = some r → W p l e rm_X5_depart s m args below meth c H locs 0 0 QQ (F0 m 68 ls [])) → W p l e rm_X5_depart s m args below meth c H locs 0 0 QQ (F0 m 13 ls []) := by
    intro c68 n
    induction n with
    | zero =>
      intro oz v2 v3 v4 v5 H locs ls hP hS hl hf k68
      rw [p_X5_depart_L13] at hf
      cases hf
    | succ n ih =>
      intro oz v2 v3 v4 v5 H locs ls hP hS hl hf k68
      rw [p_X5_depart_L13] at hf
      refine lv_iload hx hb dX5_depart_13 (lv_at hl 5 rfl) ?_
      refine lv_aload_n hx hb dX5_depart_15 rfl (lv_at hl 1 rfl) ?_
      refine va_getN (D := D) (ci := 2) (v := .int (o1.1 8 0)) (C := RX2) (T := TX2) (N := 20) hx hb htl inlX2 hown hK (hRR _ _ hS) 0 rfl rfl 8 (by decide) (va_Nw.use rfl (hN _ nm_59)) (fun _ h9 => h9) rfl dX5_depart_16 ?_
      refine lv_icmp_ge (tgt := 108) hx hb dX5_depart_19 (by decide) (fun c_19 => ?_) (fun c_19 => ?_)
      · rw [if_pos c_19] at hf
        refine lv_aload_n hx hb dX5_depart_108 rfl (lv_at hl 1 rfl) ?_
        refine va_getN (D := D) (ci := 2) (v := .ref (ab 1)) (C := RX2) (T := TX2) (N := 20) hx hb htl inlX2 hown hK (hRR _ _ hS) 0 rfl rfl 5 (by decide) (va_Nw.use rfl (hN _ nm_62)) (fun _ h9 => h9) rfl dX5_depart_109 ?_
        refine lv_iload_n hx hb dX5_depart_112 rfl (lv_at hl 2 rfl) ?_
        obtain ⟨r_113, e_113, hf⟩ := ob_bind hf
        have hPX_113 : va_P D vwCl ([((ab 1), .inl (ct 0, 10, .inl (o1.1 5)))]) H := (P_one (hRR _ _ hS) 1 rfl)
        refine ro_call1 (va_runSN (As := [.ref (ab 1), .int v2]) (rest := []) ⟨hx, hb, hml, hown, htl⟩ (c_X9_pick l D ct G (ab 1) fu 10 (o1.1 5) v2 e_113) (cw_X5_X9_pick htl hN ⟨Nat.le_of_ble_eq_true rfl, Nat.le_of_ble_eq_true rfl⟩) ⟨Bx_blind, Bx_pre hPX_113 hK hN (hX.stay hS hGE)⟩ rfl rfl hl.1 rfl (lv_room (Nat.le_of_ble_eq_true rfl)) dX5_depart_113 ⟨Nat.zero_le _, Nat.zero_le _⟩) ?_
        rw [← hQQ]
        cases hf
        exact rw_i hx hb hr hlocks hP hS dX5_depart_116
      rw [if_neg c_19] at hf
      refine lv_iload hx hb dX5_depart_22 (lv_at hl 4 rfl) ?_
      refine lv_iload hx hb dX5_depart_24 (lv_at hl 5 rfl) ?_
      obtain ⟨r_26, e_26, hf⟩ := ob_bind hf
      have hPX_26 : va_P D vwCl ([]) H := P_nil
      refine ro_call1 (va_runSN (As := [.int v5]) (rest := [.int v4]) ⟨hx, hb, hml, hown, htl⟩ (c_X9_bit l D ct G fu v5 e_26) (cw_X5_X9_bit htl hN ⟨Nat.le_of_ble_eq_true rfl, Nat.le_of_ble_eq_true rfl⟩) ⟨Bx_blind, Bx_pre hPX_26 hK hN (hX.stay hS hGE)⟩ rfl rfl hl.1 rfl (lv_room (Nat.le_of_ble_eq_true rfl)) dX5_depart_26 ⟨Nat.zero_le _, Nat.zero_le _⟩) ?_
      refine lv_iand hx hb dX5_depart_29 ?_
      refine lv_if_ne (tgt := 37) hx hb dX5_depart_30 (by decide) (fun c_30 => ?_) (fun c_30 => ?_)
      · rw [if_neg c_30] at hf
        refine lv_iconst (v := 0) hx hb dX5_depart_37 (by decide) ?_
        exact hJ38 _ _ oz v2 v3 v4 v5 0 _ _ _ hP hS (lv_sub hl [0, 1, 2, 3, 4, 5] rfl) hf (fun oz v2 v3 v4 v5 H locs ls hP hS hl hf => ih oz v2 v3 v4 v5 H locs ls hP hS hl hf k68) k68
      rw [if_pos c_30] at hf
      refine lv_iconst (v := 1) hx hb dX5_depart_33 (by decide) ?_
      refine lv_goto (tgt := 38) hx hb dX5_depart_34 (by decide) ?_
      exact hJ38 _ _ oz v2 v3 v4 v5 1 _ _ _ hP hS (lv_sub hl [0, 1, 2, 3, 4, 5] rfl) hf (fun oz v2 v3 v4 v5 H locs ls hP hS hl hf => ih oz v2 v3 v4 v5 H locs ls hP hS hl hf k68) k68
  rw [p_X5_depart] at hf
  refine lv_aload_n hx hb dX5_depart_0 rfl (lv_at hl 0 rfl) ?_
  refine lv_dup hx hb dX5_depart_1 rfl ?_
  refine va_get (D := D) (ci := 5) (v := .int (o.1 6 0)) (C := RX5) (T := TX5) (N := 9) hx hb htl inlX5 hown hK hP 0 rfl rfl 6 (by decide) (htl _ wq_5_19) (fun _ h9 => h9) rfl dX5_depart_2 ?_
  refine lv_iconst (v := 1) hx hb dX5_depart_5 (by decide) ?_
  refine lv_iadd hx hb dX5_depart_6 ?_
  refine va_put (D := D) (ci := 5) (v := .int ((o.1 6 0) + 1)) (ty := .int) (C := RX5) (T := TX5) (N := 9) hx hb htl inlX5 tyX5 tyX5_ok nmX5 hown hK hP (hDW o) hS 0 rfl rfl 6 (by decide) (htl _ wq_5_19) (fun _ h9 => h9) rfl (tyX5_ok 6 (by decide)) rfl rfl (Nat.le_of_ble_eq_true rfl) dX5_depart_7 (fun H_7 locs_7 hP _ hS => ?_)
  have hP : va_P D vwCl (cs5 ct a (oI o 6 ((o.1 6 0) + 1))) H_7 := st5_6 hP
  refine lv_iconst (v := 0) hx hb dX5_depart_10 (by decide) ?_
  refine lv_istore (lv' := [(5, .int 0), (0, .ref (a 0)), (1, .ref (ab 0)), (2, .int v2), (3, .int v3), (4, .int v4)]) hx hb dX5_depart_11 hl (by decide) rfl (fun ls hl => ?_)
  refine hL13 _ fu (oI o 6 ((o.1 6 0) + 1)) v2 v3 v4 0 _ _ _ hP hS (lv_sub hl [1, 2, 3, 4, 5, 0] rfl) hf (fun oz v5 H locs ls hP hS hl hf => ?_)
  refine lv_aload_n hx hb dX5_depart_68 rfl (lv_at hl 0 rfl) ?_
  refine lv_dup hx hb dX5_depart_69 rfl ?_
  refine va_get (D := D) (ci := 5) (v := .int (oz.1 7 0)) (C := RX5) (T := TX5) (N := 9) hx hb htl inlX5 hown hK hP 0 rfl rfl 7 (by decide) (htl _ wq_5_20) (fun _ h9 => h9) rfl dX5_depart_70 ?_
  refine lv_iconst (v := 1) hx hb dX5_depart_73 (by decide) ?_
  refine lv_iadd hx hb dX5_depart_74 ?_
  refine va_put (D := D) (ci := 5) (v := .int ((oz.1 7 0) + 1)) (ty := .int) (C := RX5) (T := TX5) (N := 9) hx hb htl inlX5 tyX5 tyX5_ok nmX5 hown hK hP (hDW oz) hS 0 rfl rfl 7 (by decide) (htl _ wq_5_20) (fun _ h9 => h9) rfl (tyX5_ok 7 (by decide)) rfl rfl (Nat.le_of_ble_eq_true rfl) dX5_depart_75 (fun H_75 locs_75 hP _ hS => ?_)
  have hP : va_P D vwCl (cs5 ct a (oI oz 7 ((oz.1 7 0) + 1))) H_75 := st5_7 hP
  refine lv_aload_n hx hb dX5_depart_78 rfl (lv_at hl 0 rfl) ?_
  refine lv_dup hx hb dX5_depart_79 rfl ?_
  refine va_get (D := D) (ci := 5) (v := .int ((oI oz 7 ((oz.1 7 0) + 1)).1 8 0)) (C := RX5) (T := TX5) (N := 9) hx hb htl inlX5 hown hK hP 0 rfl rfl 8 (by decide) (htl _ wq_5_21) (fun _ h9 => h9) rfl dX5_depart_80 ?_
  refine lv_iload hx hb dX5_depart_83 (lv_at hl 2 rfl) ?_
  obtain ⟨r_85, e_85, hf⟩ := ob_bind hf
  have hPX_85 : va_P D vwCl ([]) H_75 := P_nil
  refine ro_call1 (va_runSN (As := [.int v5]) (rest := [.int ((oI oz 7 ((oz.1 7 0) + 1)).1 8 0), .ref (a 0)]) ⟨hx, hb, hml, hown, htl⟩ (c_X9_bit l D ct G fu v5 e_85) (cw_X5_X9_bit htl hN ⟨Nat.le_of_ble_eq_true rfl, Nat.le_of_ble_eq_true rfl⟩) ⟨Bx_blind, Bx_pre hPX_85 hK hN (hX.stay hS hGE)⟩ rfl rfl hl.1 rfl (lv_room (Nat.le_of_ble_eq_true rfl)) dX5_depart_85 ⟨Nat.zero_le _, Nat.zero_le _⟩) ?_
  refine lv_ior hx hb dX5_depart_88 ?_
  refine va_put (D := D) (ci := 5) (v := .int (((oI oz 7 ((oz.1 7 0) + 1)).1 8 0) ||| r_85)) (ty := .int) (C := RX5) (T := TX5) (N := 9) hx hb htl inlX5 tyX5 tyX5_ok nmX5 hown hK hP (hDW (oI oz 7 ((oz.1 7 0) + 1))) hS 0 rfl rfl 8 (by decide) (htl _ wq_5_21) (fun _ h9 => h9) rfl (tyX5_ok 8 (by decide)) rfl rfl (Nat.le_of_ble_eq_true rfl) dX5_depart_89 (fun H_89 locs_89 hP _ hS => ?_)
  have hP : va_P D vwCl (cs5 ct a (oI (oI oz 7 ((oz.1 7 0) + 1)) 8 (((oI oz 7 ((oz.1 7 0) + 1)).1 8 0) ||| r_85))) H_89 := st5_8 hP
  refine lv_aload_n hx hb dX5_depart_92 rfl (lv_at hl 1 rfl) ?_
  refine va_getN (D := D) (ci := 2) (v := .ref (ab 5)) (C := RX2) (T := TX2) (N := 20) hx hb htl inlX2 hown hK (hRR _ _ hS) 0 rfl rfl 10 (by decide) (va_Nw.use rfl (hN _ nm_61)) (fun _ h9 => h9) rfl dX5_depart_93 ?_
  refine lv_iload hx hb dX5_depart_96 (lv_at hl 2 rfl) ?_
  obtain ⟨r_98, e_98, hf⟩ := ob_bind hf
  have hPX_98 : va_P D vwCl ([((ab 5), .inl (ct 0, 5, .inl (o1.1 10)))]) H_89 := (P_one (hRR _ _ hS) 5 rfl)
  refine ro_call1 (va_runSN (As := [.ref (ab 5), .int v5]) (rest := []) ⟨hx, hb, hml, hown, htl⟩ (c_X9_pick l D ct G (ab 5) fu 5 (o1.1 10) v5 e_98) (cw_X5_X9_pick htl hN ⟨Nat.le_of_ble_eq_true rfl, Nat.le_of_ble_eq_true rfl⟩) ⟨Bx_blind, Bx_pre hPX_98 hK hN (hX.stay hS hGE)⟩ rfl rfl hl.1 rfl (lv_room (Nat.le_of_ble_eq_true rfl)) dX5_depart_98 ⟨Nat.zero_le _, Nat.zero_le _⟩) ?_
  rw [← hQQ]
  cases hf
  exact rw_i hx hb hr hlocks hP hS dX5_depart_101
theorem c_X5_depart (l : Launch) (D : va_G) (ct : Nat → ClassId) (G : GT) (a : Nat → Nat) (ab : Nat → Nat) (fu : Nat) (o : Ob) (o1 : Ob) (v2 : Int32) (v3 : Int32) (v4 : Int32) {r : Int32 × Ob} (hf : p_X5_depart fu o o1 v2 v3 v4 = some r)  (hD0 : va_D (GE G) (cs5 ct a o ++ (cs2 ct ab o1))) : Met l yX5_depart (.code yX5_depart cX5_depart 7 (some .int) :: wsL_law) rm_X5_depart (va_Pc [.ref (a 0), .ref (ab 0), .int v2, .int v3, .int v4] (Bx D ct G (cs5 ct a o ++ (cs2 ct ab o1)))) (Qwr (some (.int r.1)) (fun H => va_P D vwCl (cs5 ct a r.2) H) (wA (cs5 ct a o))) 0 0 (wA (cs5 ct a o)) := by
  refine Met.ofW (cc := cX5_depart) (maxL := 7) (ret := (some .int)) (by decide) rfl ?_
  intro p e s m args below meth c s₁ B hml hv
  obtain ⟨rfl, hP, hK, hN, hX⟩ := hv
  have hts := atoms_spec (ws := .code yX5_depart cX5_depart 7 (some .int) :: wsL_law) B.pre
  rw [lg_entry_eq]
  exact b_X5_depart a ab fu o o1 v2 v3 v4 B.exec B.bytes B.returns hml (findClass_of_methodNamed B.named) (fun w h => hts w (List.mem_cons_of_mem _ h)) B.notSynchronized hK hN hX hP hf hD0  (lv_entry [.ref (a 0), .ref (ab 0), .int v2, .int v3, .int v4] (n := 7) (Nat.le_of_ble_eq_true rfl))
theorem cw_X5_X9_put {R : Room} {s : State} {args : Array Value} (ht : ∀ w ∈ wsL_law, w.before args s = true) (hN : ∀ w ∈ NW, va_Nw w s) (hR : rm_X9_put.frames + 1 ≤ R.frames ∧ 8 + (3 + 11) + rm_X9_put.locals ≤ R.locals) : va_CN R s args RX5 48 yX9_put "QuotedRiver" cX9_put 3 none ((.code yX9_put cX9_put 3 none) :: wsL_law) rm_X9_put 0 0 3 ∧ (Cond.static yX9_put).before args s = true ∧ True := ⟨va_cnB 3 ht (GL wq_8_11) rfl rfl rfl (hN _ nm_127) (ht _ wq_1_2) hd_X9_put hR, ht _ wq_8_10, trivial⟩
def p_X5_forget_L2 (fu : Nat) (c23 : Ob → Option (Ob)) : Nat → Ob → Int32 → Int32 → Option (Ob)
  | 0, _, _, _ => none
  | n + 1, oz, v1, v2 =>
    if v1 ≤ v2 then c23 oz else (p_X9_put fu 61 (oz.1 0) v2 ((-2) : Int32)).bind fun r_14 => p_X5_forget_L2 fu c23 n (oA oz 0 r_14) v1 (v2 + 1)
def p_X5_forget (fu : Nat) (o : Ob) (v1 : Int32) : Option (Ob) :=
  p_X5_forget_L2 fu (fun oz => some (oI (oI (oI (oI (oI (oI oz 3 ((-1) : Int32)) 4 ((-1) : Int32)) 5 (0 : Int32)) 6 (0 : Int32)) 7 (0 : Int32)) 8 (0 : Int32))) fu o v1 0
abbrev rm_X5_forget : Room := { frames := 1, cells := 0, slots := 0, locals := 22 }
set_option maxHeartbeats 4000000 in
set_option maxRecDepth 100000 in
theorem b_X5_forget {p : Program} {l : Launch} {e : Env} {s : State} {m : MethodId} {args : Array Value} {below : List Frame} {meth : Method} {c : Code} {ls : Array Slot} {D : va_G} {ct : Nat → ClassId} {G : GT} (a : Nat → Nat) (fu : Nat) (o : Ob) (v1 : Int32) {r : Ob} (hx : p.tables.exec = Jvm.exec) (hb : c.code = cX5_forget) (hr : meth.sig.returnType = none) (hml : c.maxLocals = 3) (hown : s.vm.findClass RX5 = some m.cls) (htl : ∀ w ∈ wsL_law, w.before args s = true) (hlocks : meth.locks = false) (hK : va_K D vwCl (tyl ct) s) (hN : ∀ w ∈ NW, va_Nw w s) (hX : SX G s s.heap) (hP0 : va_P D vwCl (cs5 ct a o) s.heap) (hf : p_X5_forget fu o v1 = some r) (hD0 : va_D (GE G) (cs5 ct a o))  (hl : lv_has ls 3 [(0, .ref (a 0)), (1, .int v1)]) : W p l e rm_X5_forget s m args below meth c s.heap [] 0 0 (MQ below (Qwr none (fun H => va_P D vwCl (cs5 ct a r) H) (wA (cs5 ct a o))) args s 0 0 (wA (cs5 ct a o))) (F0 m 0 ls []) := by
  generalize hQQ : MQ below (Qwr none (fun H => va_P D vwCl (cs5 ct a r) H) (wA (cs5 ct a o))) args s 0 0 (wA (cs5 ct a o)) = QQ
  have hDx : ∀ (oy : Ob), va_D (GE G) (cs5 ct a oy) := fun oy => D_cr hD0 rfl
  have hDW : ∀ (oy : Ob), va_D (wA (cs5 ct a o)) (cs5 ct a oy) := fun oy => D_cr (D_self hD0) rfl
  have hGE : ∀ q, wA (cs5 ct a o) q → GE G q := wA_GE hD0
  have hP := hP0
  have hS : va_S (wA (cs5 ct a o)) s.heap s.heap [] := va_S.rf
  have hL2 : ∀ (c23 : Ob → Option (Ob)) (n : Nat) (oz : Ob) (v1 : Int32) (v2 : Int32), ∀ (H : Heap) (locs : List Loc) (ls : Array Slot), va_P D vwCl (cs5 ct a oz) H → va_S (wA (cs5 ct a o)) s.heap H locs → lv_has ls 3 [(0, .ref (a 0)), (1, .int v1), (2, .int v2)] → p_X5_forget_L2 fu c23 n oz v1 v2 = some r → (∀ (oz : Ob), ∀ (H : Heap) (locs : List Loc) (ls : Array Slot), va_P D vwCl (cs5 ct a oz) H → va_S (wA (cs5 ct a o)) s.heap H locs → lv_has ls 3 [(0, .ref (a 0))] → c23 oz = some r → W p l e rm_X5_forget s m args below meth c H locs 0 0 QQ (F0 m 23 ls [])) → W p l e rm_X5_forget s m args below meth c H locs 0 0 QQ (F0 m 2 ls []) := by
    intro c23 n
    induction n with
    | zero =>
      intro oz v1 v2 H locs ls hP hS hl hf k23
      rw [p_X5_forget_L2] at hf
      cases hf
    | succ n ih =>
      intro oz v1 v2 H locs ls hP hS hl hf k23
      rw [p_X5_forget_L2] at hf
      refine lv_iload_n hx hb dX5_forget_2 rfl (lv_at hl 2 rfl) ?_
      refine lv_iload_n hx hb dX5_forget_3 rfl (lv_at hl 1 rfl) ?_
      refine lv_icmp_ge (tgt := 23) hx hb dX5_forget_4 (by decide) (fun c_4 => ?_) (fun c_4 => ?_)
      · rw [if_pos c_4] at hf
        exact k23 oz _ _ _ hP hS (lv_sub hl [0] rfl) hf
      rw [if_neg c_4] at hf
      refine lv_aload_n hx hb dX5_forget_7 rfl (lv_at hl 0 rfl) ?_
      refine va_get (D := D) (ci := 5) (v := .ref (a 1)) (C := RX5) (T := TX5) (N := 9) hx hb htl inlX5 hown hK hP 0 rfl rfl 0 (by decide) (htl _ wq_5_13) (fun _ h9 => h9) rfl dX5_forget_8 ?_
      refine lv_iload_n hx hb dX5_forget_11 rfl (lv_at hl 2 rfl) ?_
      refine lv_bipush (v := (-2)) hx hb dX5_forget_12 (by decide) ?_
      obtain ⟨r_14, e_14, hf⟩ := ob_bind hf
      have hPX_14 : va_P D vwCl ([((a 1), .inl (ct 0, 61, .inl (oz.1 0)))]) H := (P_one hP 1 rfl)
      refine wr_call0 (va_runSN (As := [.ref (a 1), .int v2, .int (-2)]) (rest := []) ⟨hx, hb, hml, hown, htl⟩ (c_X9_put l D ct G (a 1) fu 61 (oz.1 0) v2 ((-2) : Int32) e_14 ((hDx oz).sub (ws' := [((a 1), .inl (ct 0, 61, .inl (oz.1 0)))]) [1] (by decide) rfl)) (cw_X5_X9_put htl hN ⟨Nat.le_of_ble_eq_true rfl, Nat.le_of_ble_eq_true rfl⟩) ⟨Bx_blind, Bx_pre hPX_14 hK hN (hX.stay hS hGE)⟩ rfl rfl hl.1 rfl (lv_room (Nat.le_of_ble_eq_true rfl)) dX5_forget_14 ⟨Nat.zero_le _, Nat.zero_le _⟩) hS (fun q h => wA_cg (w1 := cs5 ct a oz) (w2 := cs5 ct a o) rfl q (wA_sub (w2 := cs5 ct a oz) [1] rfl q h)) (fun H_14 locs_14 hB_14 _ hk_14 hS => ?_)
      have hP : va_P D vwCl (cs5 ct a (oA oz 0 r_14)) H_14 := P_join hP (hDW oz) [1] rfl rfl hk_14 hB_14
      refine lv_iinc (v := (v2 + 1)) (lv' := [(2, .int (v2 + 1)), (0, .ref (a 0)), (1, .int v1)]) hx hb dX5_forget_17 hl (k := 2) rfl rfl (by decide) rfl (fun ls hl => ?_)
      refine lv_goto (tgt := 2) hx hb dX5_forget_20 (by decide) ?_
      exact ih (oA oz 0 r_14) v1 (v2 + 1) _ _ _ hP hS (lv_sub hl [1, 2, 0] rfl) hf k23
  rw [p_X5_forget] at hf
  refine lv_iconst (v := 0) hx hb dX5_forget_0 (by decide) ?_
  refine lv_istore_n (lv' := [(2, .int 0), (0, .ref (a 0)), (1, .int v1)]) hx hb dX5_forget_1 rfl hl (by decide) rfl (fun ls hl => ?_)
  refine hL2 _ fu o v1 0 _ _ _ hP hS (lv_sub hl [1, 2, 0] rfl) hf (fun oz H locs ls hP hS hl hf => ?_)
  refine lv_aload_n hx hb dX5_forget_23 rfl (lv_at hl 0 rfl) ?_
  refine lv_iconst (v := (-1)) hx hb dX5_forget_24 (by decide) ?_
  refine va_put (D := D) (ci := 5) (v := .int (-1)) (ty := .int) (C := RX5) (T := TX5) (N := 9) hx hb htl inlX5 tyX5 tyX5_ok nmX5 hown hK hP (hDW oz) hS 0 rfl rfl 3 (by decide) (htl _ wq_5_16) (fun _ h9 => h9) rfl (tyX5_ok 3 (by decide)) rfl rfl (Nat.le_of_ble_eq_true rfl) dX5_forget_25 (fun H_25 locs_25 hP _ hS => ?_)
  have hP : va_P D vwCl (cs5 ct a (oI oz 3 ((-1) : Int32))) H_25 := st5_3 hP
  refine lv_aload_n hx hb dX5_forget_28 rfl (lv_at hl 0 rfl) ?_
  refine lv_iconst (v := (-1)) hx hb dX5_forget_29 (by decide) ?_
  refine va_put (D := D) (ci := 5) (v := .int (-1)) (ty := .int) (C := RX5) (T := TX5) (N := 9) hx hb htl inlX5 tyX5 tyX5_ok nmX5 hown hK hP (hDW (oI oz 3 ((-1) : Int32))) hS 0 rfl rfl 4 (by decide) (htl _ wq_5_17) (fun _ h9 => h9) rfl (tyX5_ok 4 (by decide)) rfl rfl (Nat.le_of_ble_eq_true rfl) dX5_forget_30 (fun H_30 locs_30 hP _ hS => ?_)
  have hP : va_P D vwCl (cs5 ct a (oI (oI oz 3 ((-1) : Int32)) 4 ((-1) : Int32))) H_30 := st5_4 hP
  refine lv_aload_n hx hb dX5_forget_33 rfl (lv_at hl 0 rfl) ?_
  refine lv_iconst (v := 0) hx hb dX5_forget_34 (by decide) ?_
  refine va_put (D := D) (ci := 5) (v := .int 0) (ty := .int) (C := RX5) (T := TX5) (N := 9) hx hb htl inlX5 tyX5 tyX5_ok nmX5 hown hK hP (hDW (oI (oI oz 3 ((-1) : Int32)) 4 ((-1) : Int32))) hS 0 rfl rfl 5 (by decide) (htl _ wq_5_18) (fun _ h9 => h9) rfl (tyX5_ok 5 (by decide)) rfl rfl (Nat.le_of_ble_eq_true rfl) dX5_forget_35 (fun H_35 locs_35 hP _ hS => ?_)
  have hP : va_P D vwCl (cs5 ct a (oI (oI (oI oz 3 ((-1) : Int32)) 4 ((-1) : Int32)) 5 (0 : Int32))) H_35 := st5_5 hP
  refine lv_aload_n hx hb dX5_forget_38 rfl (lv_at hl 0 rfl) ?_
  refine lv_iconst (v := 0) hx hb dX5_forget_39 (by decide) ?_
  refine va_put (D := D) (ci := 5) (v := .int 0) (ty := .int) (C := RX5) (T := TX5) (N := 9) hx hb htl inlX5 tyX5 tyX5_ok nmX5 hown hK hP (hDW (oI (oI (oI oz 3 ((-1) : Int32)) 4 ((-1) : Int32)) 5 (0 : Int32))) hS 0 rfl rfl 6 (by decide) (htl _ wq_5_19) (fun _ h9 => h9) rfl (tyX5_ok 6 (by decide)) rfl rfl (Nat.le_of_ble_eq_true rfl) dX5_forget_40 (fun H_40 locs_40 hP _ hS => ?_)
  have hP : va_P D vwCl (cs5 ct a (oI (oI (oI (oI oz 3 ((-1) : Int32)) 4 ((-1) : Int32)) 5 (0 : Int32)) 6 (0 : Int32))) H_40 := st5_6 hP
  refine lv_aload_n hx hb dX5_forget_43 rfl (lv_at hl 0 rfl) ?_
  refine lv_iconst (v := 0) hx hb dX5_forget_44 (by decide) ?_
  refine va_put (D := D) (ci := 5) (v := .int 0) (ty := .int) (C := RX5) (T := TX5) (N := 9) hx hb htl inlX5 tyX5 tyX5_ok nmX5 hown hK hP (hDW (oI (oI (oI (oI oz 3 ((-1) : Int32)) 4 ((-1) : Int32)) 5 (0 : Int32)) 6 (0 : Int32))) hS 0 rfl rfl 7 (by decide) (htl _ wq_5_20) (fun _ h9 => h9) rfl (tyX5_ok 7 (by decide)) rfl rfl (Nat.le_of_ble_eq_true rfl) dX5_forget_45 (fun H_45 locs_45 hP _ hS => ?_)
  have hP : va_P D vwCl (cs5 ct a (oI (oI (oI (oI (oI oz 3 ((-1) : Int32)) 4 ((-1) : Int32)) 5 (0 : Int32)) 6 (0 : Int32)) 7 (0 : Int32))) H_45 := st5_7 hP
  refine lv_aload_n hx hb dX5_forget_48 rfl (lv_at hl 0 rfl) ?_
  refine lv_iconst (v := 0) hx hb dX5_forget_49 (by decide) ?_
  refine va_put (D := D) (ci := 5) (v := .int 0) (ty := .int) (C := RX5) (T := TX5) (N := 9) hx hb htl inlX5 tyX5 tyX5_ok nmX5 hown hK hP (hDW (oI (oI (oI (oI (oI oz 3 ((-1) : Int32)) 4 ((-1) : Int32)) 5 (0 : Int32)) 6 (0 : Int32)) 7 (0 : Int32))) hS 0 rfl rfl 8 (by decide) (htl _ wq_5_21) (fun _ h9 => h9) rfl (tyX5_ok 8 (by decide)) rfl rfl (Nat.le_of_ble_eq_true rfl) dX5_forget_50 (fun H_50 locs_50 hP _ hS => ?_)
  have hP : va_P D vwCl (cs5 ct a (oI (oI (oI (oI (oI (oI oz 3 ((-1) : Int32)) 4 ((-1) : Int32)) 5 (0 : Int32)) 6 (0 : Int32)) 7 (0 : Int32)) 8 (0 : Int32))) H_50 := st5_8 hP
  rw [← hQQ]
  cases hf
  exact rw_v hx hb hr hlocks hP hS dX5_forget_53
theorem c_X5_forget (l : Launch) (D : va_G) (ct : Nat → ClassId) (G : GT) (a : Nat → Nat) (fu : Nat) (o : Ob) (v1 : Int32) {r : Ob} (hf : p_X5_forget fu o v1 = some r)  (hD0 : va_D (GE G) (cs5 ct a o)) : Met l yX5_forget (.code yX5_forget cX5_forget 3 none :: wsL_law) rm_X5_forget (va_Pc [.ref (a 0), .int v1] (Bx D ct G (cs5 ct a o))) (Qwr none (fun H => va_P D vwCl (cs5 ct a r) H) (wA (cs5 ct a o))) 0 0 (wA (cs5 ct a o)) := by
  refine Met.ofW (cc := cX5_forget) (maxL := 3) (ret := none) (by decide) rfl ?_
  intro p e s m args below meth c s₁ B hml hv
  obtain ⟨rfl, hP, hK, hN, hX⟩ := hv
  have hts := atoms_spec (ws := .code yX5_forget cX5_forget 3 none :: wsL_law) B.pre
  rw [lg_entry_eq]
  exact b_X5_forget a fu o v1 B.exec B.bytes B.returns hml (findClass_of_methodNamed B.named) (fun w h => hts w (List.mem_cons_of_mem _ h)) B.notSynchronized hK hN hX hP hf hD0  (lv_entry [.ref (a 0), .int v1] (n := 3) (Nat.le_of_ble_eq_true rfl))
theorem cw_X8_X9_pick {R : Room} {s : State} {args : Array Value} (ht : ∀ w ∈ wsL_law, w.before args s = true) (hN : ∀ w ∈ NW, va_Nw w s) (hR : rm_X9_pick.frames + 1 ≤ R.frames ∧ 8 + (2 + 11) + rm_X9_pick.locals ≤ R.locals) : va_CN R s args RX8 22 yX9_pick "QuotedRiver" cX9_pick 2 (some .int) ((.code yX9_pick cX9_pick 2 (some .int)) :: wsL_law) rm_X9_pick 0 0 2 ∧ (Cond.static yX9_pick).before args s = true ∧ True := ⟨va_cnB 2 ht (GL wq_13_5) rfl rfl rfl (hN _ nm_136) (ht _ wq_1_2) hd_X9_pick hR, ht _ wq_13_4, trivial⟩
def p_X8_levelAt (fu : Nat) (o : Ob) (v1 : Int32) : Option (Int32) :=
  (p_X9_pick fu 61 (o.1 1) v1).bind fun r_5 => some r_5
abbrev rm_X8_levelAt : Room := { frames := 1, cells := 0, slots := 0, locals := 21 }
set_option maxHeartbeats 4000000 in
set_option maxRecDepth 100000 in
theorem b_X8_levelAt {p : Program} {l : Launch} {e : Env} {s : State} {m : MethodId} {args : Array Value} {below : List Frame} {meth : Method} {c : Code} {ls : Array Slot} {D : va_G} {ct : Nat → ClassId} {G : GT} (a : Nat → Nat) (fu : Nat) (o : Ob) (v1 : Int32) {r : Int32} (hx : p.tables.exec = Jvm.exec) (hb : c.code = cX8_levelAt) (hr : meth.sig.returnType = (some .int)) (hml : c.maxLocals = 2) (hown : s.vm.findClass RX8 = some m.cls) (htl : ∀ w ∈ wsL_law, w.before args s = true) (hlocks : meth.locks = false) (hK : va_K D vwCl (tyl ct) s) (hN : ∀ w ∈ NW, va_Nw w s) (hX : SX G s s.heap) (hP0 : va_P D vwCl (cs8 ct a o) s.heap) (hf : p_X8_levelAt fu o v1 = some r)  (hl : lv_has ls 2 [(0, .ref (a 0)), (1, .int v1)]) : W p l e rm_X8_levelAt s m args below meth c s.heap [] 0 0 (MQ below (Qro (some (.int r))) args s 0 0 (fun _ => False)) (F0 m 0 ls []) := by
  generalize hQQ : MQ below (Qro (some (.int r))) args s 0 0 (fun _ => False) = QQ
  have hP := hP0
  rw [p_X8_levelAt] at hf
  refine lv_aload_n hx hb dX8_levelAt_0 rfl (lv_at hl 0 rfl) ?_
  refine va_get (D := D) (ci := 8) (v := .ref (a 2)) (C := RX8) (T := TX8) (N := 3) hx hb htl inlX8 hown hK hP 0 rfl rfl 1 (by decide) (htl _ wq_5_8) (fun _ h9 => h9) rfl dX8_levelAt_1 ?_
  refine lv_iload_n hx hb dX8_levelAt_4 rfl (lv_at hl 1 rfl) ?_
  obtain ⟨r_5, e_5, hf⟩ := ob_bind hf
  have hPX_5 : va_P D vwCl ([((a 2), .inl (ct 0, 61, .inl (o.1 1)))]) s.heap := (P_one hP 2 rfl)
  refine ro_call1 (va_runSN (As := [.ref (a 2), .int v1]) (rest := []) ⟨hx, hb, hml, hown, htl⟩ (c_X9_pick l D ct G (a 2) fu 61 (o.1 1) v1 e_5) (cw_X8_X9_pick htl hN ⟨Nat.le_of_ble_eq_true rfl, Nat.le_of_ble_eq_true rfl⟩) ⟨Bx_blind, Bx_pre hPX_5 hK hN hX⟩ rfl rfl hl.1 rfl (lv_room (Nat.le_of_ble_eq_true rfl)) dX8_levelAt_5 ⟨Nat.zero_le _, Nat.zero_le _⟩) ?_
  rw [← hQQ]
  exact rf_i hx hb hr hlocks hf dX8_levelAt_8
theorem c_X8_levelAt (l : Launch) (D : va_G) (ct : Nat → ClassId) (G : GT) (a : Nat → Nat) (fu : Nat) (o : Ob) (v1 : Int32) {r : Int32} (hf : p_X8_levelAt fu o v1 = some r)  : Met l yX8_levelAt (.code yX8_levelAt cX8_levelAt 2 (some .int) :: wsL_law) rm_X8_levelAt (va_Pc [.ref (a 0), .int v1] (Bx D ct G (cs8 ct a o))) (Qro (some (.int r))) 0 0 (fun _ => False) := by
  refine Met.ofW (cc := cX8_levelAt) (maxL := 2) (ret := (some .int)) (by decide) rfl ?_
  intro p e s m args below meth c s₁ B hml hv
  obtain ⟨rfl, hP, hK, hN, hX⟩ := hv
  have hts := atoms_spec (ws := .code yX8_levelAt cX8_levelAt 2 (some .int) :: wsL_law) B.pre
  rw [lg_entry_eq]
  exact b_X8_levelAt a fu o v1 B.exec B.bytes B.returns hml (findClass_of_methodNamed B.named) (fun w h => hts w (List.mem_cons_of_mem _ h)) B.notSynchronized hK hN hX hP hf   (lv_entry [.ref (a 0), .int v1] (n := 2) (Nat.le_of_ble_eq_true rfl))
theorem hd_X5_forget : yX5_forget.cls ≠ "java/lang/invoke/MethodHandle" ∧ yX5_forget.cls ≠ "java/lang/invoke/VarHandle" ∧ (parseMethodDescriptor yX5_forget.desc).map (fun d => d.parameters.length) = some 1 := by decide +kernel
theorem cw_X5_X5_forget {R : Room} {s : State} {args : Array Value} (ht : ∀ w ∈ wsL_law, w.before args s = true) (hR : rm_X5_forget.frames + 1 ≤ R.frames ∧ 8 + (3 + 11) + rm_X5_forget.locals ≤ R.locals) : CallW R s args RX5 RX5 40 yX5_forget cX5_forget 3 none ((.code yX5_forget cX5_forget 3 none) :: wsL_law) rm_X5_forget 0 0 1 := cwV 1 ht (GV wq_25_20 wq_25_21 wq_25_22 wq_2_11 wq_25_23) rfl rfl rfl ⟨rfl, hd_X5_forget⟩ hR
theorem hd_X8_levelAt : yX8_levelAt.cls ≠ "java/lang/invoke/MethodHandle" ∧ yX8_levelAt.cls ≠ "java/lang/invoke/VarHandle" ∧ (parseMethodDescriptor yX8_levelAt.desc).map (fun d => d.parameters.length) = some 1 := by decide +kernel
theorem cw_X5_X8_levelAt {R : Room} {s : State} {args : Array Value} (ht : ∀ w ∈ wsL_law, w.before args s = true) (hN : ∀ w ∈ NW, va_Nw w s) (hR : rm_X8_levelAt.frames + 1 ≤ R.frames ∧ 8 + (2 + 11) + rm_X8_levelAt.locals ≤ R.locals) : va_CN R s args RX5 52 yX8_levelAt "QuotedRiver" cX8_levelAt 2 (some .int) ((.code yX8_levelAt cX8_levelAt 2 (some .int)) :: wsL_law) rm_X8_levelAt 0 0 1 ∧ (Cond.instanceMethod yX8_levelAt).before args s = true ∧ (Cond.selects RX8 yX8_levelAt yX8_levelAt).before args s = true := ⟨va_cnB 1 ht (GL wq_22_12) rfl rfl rfl (hN _ nm_128) (ht _ wq_2_6) hd_X8_levelAt hR, ht _ wq_22_10, ht _ wq_22_11⟩
theorem hd_X5_depart : yX5_depart.cls ≠ "java/lang/invoke/MethodHandle" ∧ yX5_depart.cls ≠ "java/lang/invoke/VarHandle" ∧ (parseMethodDescriptor yX5_depart.desc).map (fun d => d.parameters.length) = some 4 := by decide +kernel
theorem cw_X5_X5_depart {R : Room} {s : State} {args : Array Value} (ht : ∀ w ∈ wsL_law, w.before args s = true) (hR : rm_X5_depart.frames + 1 ≤ R.frames ∧ 8 + (7 + 11) + rm_X5_depart.locals ≤ R.locals) : CallW R s args RX5 RX5 72 yX5_depart cX5_depart 7 (some .int) ((.code yX5_depart cX5_depart 7 (some .int)) :: wsL_law) rm_X5_depart 0 0 4 := cwV 4 ht (GV wq_26_0 wq_26_1 wq_26_2 wq_2_11 wq_26_3) rfl rfl rfl ⟨rfl, hd_X5_depart⟩ hR
theorem hd_X5_arrive : yX5_arrive.cls ≠ "java/lang/invoke/MethodHandle" ∧ yX5_arrive.cls ≠ "java/lang/invoke/VarHandle" ∧ (parseMethodDescriptor yX5_arrive.desc).map (fun d => d.parameters.length) = some 2 := by decide +kernel
theorem cw_X5_X5_arrive {R : Room} {s : State} {args : Array Value} (ht : ∀ w ∈ wsL_law, w.before args s = true) (hR : rm_X5_arrive.frames + 1 ≤ R.frames ∧ 8 + (3 + 11) + rm_X5_arrive.locals ≤ R.locals) : CallW R s args RX5 RX5 76 yX5_arrive cX5_arrive 3 none ((.code yX5_arrive cX5_arrive 3 none) :: wsL_law) rm_X5_arrive 0 0 2 := cwV 2 ht (GV wq_26_7 wq_26_8 wq_26_9 wq_2_11 wq_26_10) rfl rfl rfl ⟨rfl, hd_X5_arrive⟩ hR
def p_X5_drift_L29 (fu : Nat) (o1 : Ob) (o2 : Ob)  : Nat → Ob → Int32 → Int32 → Int32 → Option (Ob)
  | 0, _, _, _, _ => none
  | n + 1, oz, v5, v6, v7 =>
    if (60 : Int32) < v7 then some oz else (p_X9_put fu 61 (oz.1 0) v7 v5).bind fun r_44 => if v5 = ((-1) : Int32) then p_X5_drift_L29 fu o1 o2  n (oA oz 0 r_44) v5 v6 (v7 + 1) else (p_X8_levelAt fu o2 v7).bind fun r_59 => (p_X9_pick fu 10 (o1.1 7) v5).bind fun r_68 => if r_68 ≤ r_59 then (p_X9_pick fu 10 (o1.1 6) v5).bind fun r_98 => if r_98 ≤ (v6 + 1) then (p_X5_depart fu (oA oz 0 r_44) o1 v5 v7 (o2.1 2 0)).bind fun r_117 => (p_X5_arrive fu r_117.2 r_117.1 (v7 + 1)).bind fun r_132 => p_X5_drift_L29 fu o1 o2  n r_132 r_117.1 0 (v7 + 1) else p_X5_drift_L29 fu o1 o2  n (oA oz 0 r_44) v5 (v6 + 1) (v7 + 1) else p_X5_drift_L29 fu o1 o2  n (oI (oA oz 0 r_44) 5 (((oA oz 0 r_44).1 5 0) + 1)) v5 v6 (v7 + 1)
def p_X5_drift (fu : Nat) (o : Ob) (o1 : Ob) (o2 : Ob) (v3 : Int32) (v4 : Int32) : Option (Ob) :=
  (p_X5_forget fu o v4).bind fun r_3 => (p_X9_bit fu v3).bind fun r_8 => p_X5_drift_L29 fu o1 o2 fu (oI (oI r_3 1 r_8) 2 v3) v3 0 v4
abbrev rm_X5_drift : Room := { frames := 3, cells := 0, slots := 0, locals := 70 }
set_option maxHeartbeats 4000000 in
set_option maxRecDepth 100000 in
theorem b_X5_drift {p : Program} {l : Launch} {e : Env} {s : State} {m : MethodId} {args : Array Value} {below : List Frame} {meth : Method} {c : Code} {ls : Array Slot} {D : va_G} {ct : Nat → ClassId} {G : GT} (a : Nat → Nat) (ab : Nat → Nat) (ac : Nat → Nat) (fu : Nat) (o : Ob) (o1 : Ob) (o2 : Ob) (v3 : Int32) (v4 : Int32) {r : Ob} (hx : p.tables.exec = Jvm.exec) (hb : c.code = cX5_drift) (hr : meth.sig.returnType = none) (hml : c.maxLocals = 8) (hown : s.vm.findClass RX5 = some m.cls) (htl : ∀ w ∈ wsL_law, w.before args s = true) (hlocks : meth.locks = false) (hK : va_K D vwCl (tyl ct) s) (hN : ∀ w ∈ NW, va_Nw w s) (hX : SX G s s.heap) (hP0 : va_P D vwCl (cs5 ct a o ++ (cs2 ct ab o1 ++ (cs8 ct ac o2))) s.heap) (hf : p_X5_drift fu o o1 o2 v3 v4 = some r) (hD0 : va_D (GE G) (cs5 ct a o ++ (cs2 ct ab o1 ++ (cs8 ct ac o2))))  (hl : lv_has ls 8 [(0, .ref (a 0)), (1, .ref (ab 0)), (2, .ref (ac 0)), (3, .int v3), (4, .int v4)]) : W p l e rm_X5_drift s m args below meth c s.heap [] 0 0 (MQ below (Qwr none (fun H => va_P D vwCl (cs5 ct a r) H) (wA (cs5 ct a o))) args s 0 0 (wA (cs5 ct a o))) (F0 m 0 ls []) := by
  generalize hQQ : MQ below (Qwr none (fun H => va_P D vwCl (cs5 ct a r) H) (wA (cs5 ct a o))) args s 0 0 (wA (cs5 ct a o)) = QQ
  have hDx : ∀ (oy : Ob), va_D (GE G) (cs5 ct a oy ++ (cs2 ct ab o1 ++ (cs8 ct ac o2))) := fun oy => D_cr hD0 rfl
  have hDW : ∀ (oy : Ob), va_D (wA (cs5 ct a o)) (cs5 ct a oy) := fun oy => D_cr (D_left hD0) rfl
  have hGE : ∀ q, wA (cs5 ct a o) q → GE G q := wA_GEl hD0
  have hP : va_P D vwCl (cs5 ct a o) s.heap := P_left hP0
  have hRR : ∀ (H : Heap) (locs : List Loc), va_S (wA (cs5 ct a o)) s.heap H locs → va_P D vwCl (cs2 ct ab o1 ++ (cs8 ct ac o2)) H := fun H locs hS => P_rest hD0 (P_right hP0) hS
  have hS : va_S (wA (cs5 ct a o)) s.heap s.heap [] := va_S.rf
  have hL29 : ∀ (n : Nat) (oz : Ob) (v5 : Int32) (v6 : Int32) (v7 : Int32), ∀ (H : Heap) (locs : List Loc) (ls : Array Slot), va_P D vwCl (cs5 ct a oz) H → va_S (wA (cs5 ct a o)) s.heap H locs → lv_has ls 8 [(0, .ref (a 0)), (1, .ref (ab 0)), (2, .ref (ac 0)), (5, .int v5), (6, .int v6), (7, .int v7)] → p_X5_drift_L29 fu o1 o2  n oz v5 v6 v7 = some r → W p l e rm_X5_drift s m args below meth c H locs 0 0 QQ (F0 m 29 ls []) := by
    intro  n
    induction n with
    | zero =>
      intro oz v5 v6 v7 H locs ls hP hS hl hf 
      rw [p_X5_drift_L29] at hf
      cases hf
    | succ n ih =>
      intro oz v5 v6 v7 H locs ls hP hS hl hf 
      rw [p_X5_drift_L29] at hf
      refine lv_iload hx hb dX5_drift_29 (lv_at hl 5 rfl) ?_
      refine lv_bipush (v := 60) hx hb dX5_drift_31 (by decide) ?_
      refine lv_icmp_gt (tgt := 141) hx hb dX5_drift_33 (by decide) (fun c_33 => ?_) (fun c_33 => ?_)
      · rw [if_pos c_33] at hf
        rw [← hQQ]
        cases hf
        exact rw_v hx hb hr hlocks hP hS dX5_drift_141
      rw [if_neg c_33] at hf
      refine lv_aload_n hx hb dX5_drift_36 rfl (lv_at hl 0 rfl) ?_
      refine va_get (D := D) (ci := 5) (v := .ref (a 1)) (C := RX5) (T := TX5) (N := 9) hx hb htl inlX5 hown hK hP 0 rfl rfl 0 (by decide) (htl _ wq_5_13) (fun _ h9 => h9) rfl dX5_drift_37 ?_
      refine lv_iload hx hb dX5_drift_40 (lv_at hl 5 rfl) ?_
      refine lv_iload hx hb dX5_drift_42 (lv_at hl 3 rfl) ?_
      obtain ⟨r_44, e_44, hf⟩ := ob_bind hf
      have hPX_44 : va_P D vwCl ([((a 1), .inl (ct 0, 61, .inl (oz.1 0)))]) H := (P_one hP 1 rfl)
      refine wr_call0 (va_runSN (As := [.ref (a 1), .int v7, .int v5]) (rest := []) ⟨hx, hb, hml, hown, htl⟩ (c_X9_put l D ct G (a 1) fu 61 (oz.1 0) v7 v5 e_44 ((hDx oz).sub (ws' := [((a 1), .inl (ct 0, 61, .inl (oz.1 0)))]) [1] (by decide) rfl)) (cw_X5_X9_put htl hN ⟨Nat.le_of_ble_eq_true rfl, Nat.le_of_ble_eq_true rfl⟩) ⟨Bx_blind, Bx_pre hPX_44 hK hN (hX.stay hS hGE)⟩ rfl rfl hl.1 rfl (lv_room (Nat.le_of_ble_eq_true rfl)) dX5_drift_44 ⟨Nat.zero_le _, Nat.zero_le _⟩) hS (fun q h => wA_cg (w1 := cs5 ct a oz) (w2 := cs5 ct a o) rfl q (wA_sub (w2 := cs5 ct a oz) [1] rfl q h)) (fun H_44 locs_44 hB_44 _ hk_44 hS => ?_)
      have hP : va_P D vwCl (cs5 ct a (oA oz 0 r_44)) H_44 := P_join hP (hDW oz) [1] rfl rfl hk_44 hB_44
      refine lv_iload hx hb dX5_drift_47 (lv_at hl 3 rfl) ?_
      refine lv_iconst (v := (-1)) hx hb dX5_drift_49 (by decide) ?_
      refine lv_icmp_ne (tgt := 56) hx hb dX5_drift_50 (by decide) (fun c_50 => ?_) (fun c_50 => ?_)
      rotate_left 1
      · rw [if_pos c_50] at hf
        refine lv_goto (tgt := 135) hx hb dX5_drift_53 (by decide) ?_
        refine lv_iinc (v := (v7 + 1)) (lv' := [(7, .int (v7 + 1)), (0, .ref (a 0)), (1, .ref (ab 0)), (2, .ref (ac 0)), (5, .int v5), (6, .int v6)]) hx hb dX5_drift_135 hl (k := 5) rfl rfl (by decide) rfl (fun ls hl => ?_)
        refine lv_goto (tgt := 29) hx hb dX5_drift_138 (by decide) ?_
        exact ih (oA oz 0 r_44) v5 v6 (v7 + 1) _ _ _ hP hS (lv_sub hl [1, 2, 3, 4, 5, 0] rfl) hf 
      rw [if_neg c_50] at hf
      refine lv_aload_n hx hb dX5_drift_56 rfl (lv_at hl 2 rfl) ?_
      refine lv_iload hx hb dX5_drift_57 (lv_at hl 5 rfl) ?_
      obtain ⟨r_59, e_59, hf⟩ := ob_bind hf
      have hPX_59 : va_P D vwCl (cs8 ct ac o2) H_44 := ((hRR _ _ hS).sub (ws' := cs8 ct ac o2) [13, 14, 15] rfl)
      refine ro_call1 (va_runVN (As := [.int v7]) (rest := []) ⟨hx, hb, hml, hown, htl⟩ (c_X8_levelAt l D ct G ac fu o2 v7 e_59) (cw_X5_X8_levelAt htl hN ⟨Nat.le_of_ble_eq_true rfl, Nat.le_of_ble_eq_true rfl⟩) ⟨Bx_blind, va_recv hK hPX_59 (ci := 8) (q0 := 0) rfl rfl, Bx_pre hPX_59 hK hN (hX.stay hS hGE)⟩ rfl rfl hl.1 rfl (lv_room (Nat.le_of_ble_eq_true rfl)) dX5_drift_59 ⟨Nat.zero_le _, Nat.zero_le _⟩) ?_
      refine lv_aload_n hx hb dX5_drift_62 rfl (lv_at hl 1 rfl) ?_
      refine va_getN (D := D) (ci := 2) (v := .ref (ab 3)) (C := RX2) (T := TX2) (N := 20) hx hb htl inlX2 hown hK (hRR _ _ hS) 0 rfl rfl 7 (by decide) (va_Nw.use rfl (hN _ nm_56)) (fun _ h9 => h9) rfl dX5_drift_63 ?_
      refine lv_iload hx hb dX5_drift_66 (lv_at hl 3 rfl) ?_
      obtain ⟨r_68, e_68, hf⟩ := ob_bind hf
      have hPX_68 : va_P D vwCl ([((ab 3), .inl (ct 0, 10, .inl (o1.1 7)))]) H_44 := (P_one (hRR _ _ hS) 3 rfl)
      refine ro_call1 (va_runSN (As := [.ref (ab 3), .int v5]) (rest := [.int r_59]) ⟨hx, hb, hml, hown, htl⟩ (c_X9_pick l D ct G (ab 3) fu 10 (o1.1 7) v5 e_68) (cw_X5_X9_pick htl hN ⟨Nat.le_of_ble_eq_true rfl, Nat.le_of_ble_eq_true rfl⟩) ⟨Bx_blind, Bx_pre hPX_68 hK hN (hX.stay hS hGE)⟩ rfl rfl hl.1 rfl (lv_room (Nat.le_of_ble_eq_true rfl)) dX5_drift_68 ⟨Nat.zero_le _, Nat.zero_le _⟩) ?_
      refine lv_icmp_ge (tgt := 87) hx hb dX5_drift_71 (by decide) (fun c_71 => ?_) (fun c_71 => ?_)
      rotate_left 1
      · rw [if_neg c_71] at hf
        refine lv_aload_n hx hb dX5_drift_74 rfl (lv_at hl 0 rfl) ?_
        refine lv_dup hx hb dX5_drift_75 rfl ?_
        refine va_get (D := D) (ci := 5) (v := .int ((oA oz 0 r_44).1 5 0)) (C := RX5) (T := TX5) (N := 9) hx hb htl inlX5 hown hK hP 0 rfl rfl 5 (by decide) (htl _ wq_5_18) (fun _ h9 => h9) rfl dX5_drift_76 ?_
        refine lv_iconst (v := 1) hx hb dX5_drift_79 (by decide) ?_
        refine lv_iadd hx hb dX5_drift_80 ?_
        refine va_put (D := D) (ci := 5) (v := .int (((oA oz 0 r_44).1 5 0) + 1)) (ty := .int) (C := RX5) (T := TX5) (N := 9) hx hb htl inlX5 tyX5 tyX5_ok nmX5 hown hK hP (hDW (oA oz 0 r_44)) hS 0 rfl rfl 5 (by decide) (htl _ wq_5_18) (fun _ h9 => h9) rfl (tyX5_ok 5 (by decide)) rfl rfl (Nat.le_of_ble_eq_true rfl) dX5_drift_81 (fun H_81 locs_81 hP _ hS => ?_)
        have hP : va_P D vwCl (cs5 ct a (oI (oA oz 0 r_44) 5 (((oA oz 0 r_44).1 5 0) + 1))) H_81 := st5_5 hP
        refine lv_goto (tgt := 135) hx hb dX5_drift_84 (by decide) ?_
        refine lv_iinc (v := (v7 + 1)) (lv' := [(7, .int (v7 + 1)), (0, .ref (a 0)), (1, .ref (ab 0)), (2, .ref (ac 0)), (5, .int v5), (6, .int v6)]) hx hb dX5_drift_135 hl (k := 5) rfl rfl (by decide) rfl (fun ls hl => ?_)
        refine lv_goto (tgt := 29) hx hb dX5_drift_138 (by decide) ?_
        exact ih (oI (oA oz 0 r_44) 5 (((oA oz 0 r_44).1 5 0) + 1)) v5 v6 (v7 + 1) _ _ _ hP hS (lv_sub hl [1, 2, 3, 4, 5, 0] rfl) hf 
      rw [if_pos c_71] at hf
      refine lv_iinc (v := (v6 + 1)) (lv' := [(6, .int (v6 + 1)), (0, .ref (a 0)), (1, .ref (ab 0)), (2, .ref (ac 0)), (5, .int v5), (7, .int v7)]) hx hb dX5_drift_87 hl (k := 4) rfl rfl (by decide) rfl (fun ls hl => ?_)
      refine lv_iload hx hb dX5_drift_90 (lv_at hl 0 rfl) ?_
      refine lv_aload_n hx hb dX5_drift_92 rfl (lv_at hl 2 rfl) ?_
      refine va_getN (D := D) (ci := 2) (v := .ref (ab 2)) (C := RX2) (T := TX2) (N := 20) hx hb htl inlX2 hown hK (hRR _ _ hS) 0 rfl rfl 6 (by decide) (va_Nw.use rfl (hN _ nm_57)) (fun _ h9 => h9) rfl dX5_drift_93 ?_
      refine lv_iload hx hb dX5_drift_96 (lv_at hl 4 rfl) ?_
      obtain ⟨r_98, e_98, hf⟩ := ob_bind hf
      have hPX_98 : va_P D vwCl ([((ab 2), .inl (ct 0, 10, .inl (o1.1 6)))]) H_44 := (P_one (hRR _ _ hS) 2 rfl)
      refine ro_call1 (va_runSN (As := [.ref (ab 2), .int v5]) (rest := [.int (v6 + 1)]) ⟨hx, hb, hml, hown, htl⟩ (c_X9_pick l D ct G (ab 2) fu 10 (o1.1 6) v5 e_98) (cw_X5_X9_pick htl hN ⟨Nat.le_of_ble_eq_true rfl, Nat.le_of_ble_eq_true rfl⟩) ⟨Bx_blind, Bx_pre hPX_98 hK hN (hX.stay hS hGE)⟩ rfl rfl hl.1 rfl (lv_room (Nat.le_of_ble_eq_true rfl)) dX5_drift_98 ⟨Nat.zero_le _, Nat.zero_le _⟩) ?_
      refine lv_icmp_ge (tgt := 107) hx hb dX5_drift_101 (by decide) (fun c_101 => ?_) (fun c_101 => ?_)
      rotate_left 1
      · rw [if_neg c_101] at hf
        refine lv_goto (tgt := 135) hx hb dX5_drift_104 (by decide) ?_
        refine lv_iinc (v := (v7 + 1)) (lv' := [(7, .int (v7 + 1)), (6, .int (v6 + 1)), (0, .ref (a 0)), (1, .ref (ab 0)), (2, .ref (ac 0)), (5, .int v5)]) hx hb dX5_drift_135 hl (k := 5) rfl rfl (by decide) rfl (fun ls hl => ?_)
        refine lv_goto (tgt := 29) hx hb dX5_drift_138 (by decide) ?_
        exact ih (oA oz 0 r_44) v5 (v6 + 1) (v7 + 1) _ _ _ hP hS (lv_sub hl [2, 3, 4, 5, 1, 0] rfl) hf 
      rw [if_pos c_101] at hf
      refine lv_aload_n hx hb dX5_drift_107 rfl (lv_at hl 1 rfl) ?_
      refine lv_aload_n hx hb dX5_drift_108 rfl (lv_at hl 2 rfl) ?_
      refine lv_iload hx hb dX5_drift_109 (lv_at hl 4 rfl) ?_
      refine lv_iload hx hb dX5_drift_111 (lv_at hl 5 rfl) ?_
      refine lv_aload_n hx hb dX5_drift_113 rfl (lv_at hl 3 rfl) ?_
      refine va_getN (D := D) (ci := 8) (v := .int (o2.1 2 0)) (C := RX8) (T := TX8) (N := 3) hx hb htl inlX8 hown hK (hRR _ _ hS) 13 rfl rfl 2 (by decide) (va_Nw.use rfl (hN _ nm_58)) (fun _ h9 => h9) rfl dX5_drift_114 ?_
      obtain ⟨r_117, e_117, hf⟩ := ob_bind hf
      have hPX_117 : va_P D vwCl (cs5 ct a (oA oz 0 r_44) ++ (cs2 ct ab o1)) H_44 := (va_P.app hP ((hRR _ _ hS).sub (ws' := cs2 ct ab o1) [0, 1, 2, 3, 4, 5, 6, 7, 8, 9, 10, 11, 12] rfl))
      refine wr_call1 (va_runV (As := [.ref (ab 0), .int v5, .int v7, .int (o2.1 2 0)]) (rest := []) ⟨hx, hb, hml, hown, htl⟩ (c_X5_depart l D ct G a ab fu (oA oz 0 r_44) o1 v5 v7 (o2.1 2 0) e_117 ((hDx (oA oz 0 r_44)).sub (ws' := cs5 ct a (oA oz 0 r_44) ++ (cs2 ct ab o1)) [0, 1, 2, 3, 4, 5, 6, 7, 8, 9, 10, 11, 12, 13, 14] (by decide) rfl)) (cw_X5_X5_depart htl ⟨Nat.le_of_ble_eq_true rfl, Nat.le_of_ble_eq_true rfl⟩) ⟨Bx_blind, va_recv hK hPX_117 (ci := 5) (q0 := 0) rfl rfl, Bx_pre hPX_117 hK hN (hX.stay hS hGE)⟩ rfl rfl hl.1 rfl (lv_room (Nat.le_of_ble_eq_true rfl)) dX5_drift_117 ⟨Nat.zero_le _, Nat.zero_le _⟩) hS (wA_cg rfl) (fun H_117 locs_117 hB_117 _ hk_117 hS => ?_)
      have hP : va_P D vwCl (cs5 ct a r_117.2) H_117 := hB_117
      refine lv_istore (lv' := [(5, .int r_117.1), (6, .int (v6 + 1)), (0, .ref (a 0)), (1, .ref (ab 0)), (2, .ref (ac 0)), (7, .int v7)]) hx hb dX5_drift_120 hl (by decide) rfl (fun ls hl => ?_)
      refine lv_iconst (v := 0) hx hb dX5_drift_122 (by decide) ?_
      refine lv_istore (lv' := [(6, .int 0), (5, .int r_117.1), (0, .ref (a 0)), (1, .ref (ab 0)), (2, .ref (ac 0)), (7, .int v7)]) hx hb dX5_drift_123 hl (by decide) rfl (fun ls hl => ?_)
      refine lv_aload_n hx hb dX5_drift_125 rfl (lv_at hl 2 rfl) ?_
      refine lv_iload hx hb dX5_drift_126 (lv_at hl 1 rfl) ?_
      refine lv_iload hx hb dX5_drift_128 (lv_at hl 5 rfl) ?_
      refine lv_iconst (v := 1) hx hb dX5_drift_130 (by decide) ?_
      refine lv_iadd hx hb dX5_drift_131 ?_
      obtain ⟨r_132, e_132, hf⟩ := ob_bind hf
      have hPX_132 : va_P D vwCl (cs5 ct a r_117.2) H_117 := hP
      refine wr_call0 (va_runV (As := [.int r_117.1, .int (v7 + 1)]) (rest := []) ⟨hx, hb, hml, hown, htl⟩ (c_X5_arrive l D ct G a fu r_117.2 r_117.1 (v7 + 1) e_132 ((hDx r_117.2).sub (ws' := cs5 ct a r_117.2) [0, 1] (by decide) rfl)) (cw_X5_X5_arrive htl ⟨Nat.le_of_ble_eq_true rfl, Nat.le_of_ble_eq_true rfl⟩) ⟨Bx_blind, va_recv hK hPX_132 (ci := 5) (q0 := 0) rfl rfl, Bx_pre hPX_132 hK hN (hX.stay hS hGE)⟩ rfl rfl hl.1 rfl (lv_room (Nat.le_of_ble_eq_true rfl)) dX5_drift_132 ⟨Nat.zero_le _, Nat.zero_le _⟩) hS (wA_cg rfl) (fun H_132 locs_132 hB_132 _ hk_132 hS => ?_)
      have hP : va_P D vwCl (cs5 ct a r_132) H_132 := hB_132
      refine lv_iinc (v := (v7 + 1)) (lv' := [(7, .int (v7 + 1)), (6, .int 0), (5, .int r_117.1), (0, .ref (a 0)), (1, .ref (ab 0)), (2, .ref (ac 0))]) hx hb dX5_drift_135 hl (k := 5) rfl rfl (by decide) rfl (fun ls hl => ?_)
      refine lv_goto (tgt := 29) hx hb dX5_drift_138 (by decide) ?_
      exact ih r_132 r_117.1 0 (v7 + 1) _ _ _ hP hS (lv_sub hl [3, 4, 5, 2, 1, 0] rfl) hf 
  rw [p_X5_drift] at hf
  refine lv_aload_n hx hb dX5_drift_0 rfl (lv_at hl 0 rfl) ?_
  refine lv_iload hx hb dX5_drift_1 (lv_at hl 4 rfl) ?_
  obtain ⟨r_3, e_3, hf⟩ := ob_bind hf
  have hPX_3 : va_P D vwCl (cs5 ct a o) s.heap := hP
  refine wr_call0 (va_runV (As := [.int v4]) (rest := []) ⟨hx, hb, hml, hown, htl⟩ (c_X5_forget l D ct G a fu o v4 e_3 ((hDx o).sub (ws' := cs5 ct a o) [0, 1] (by decide) rfl)) (cw_X5_X5_forget htl ⟨Nat.le_of_ble_eq_true rfl, Nat.le_of_ble_eq_true rfl⟩) ⟨Bx_blind, va_recv hK hPX_3 (ci := 5) (q0 := 0) rfl rfl, Bx_pre hPX_3 hK hN (hX.stay hS hGE)⟩ rfl rfl hl.1 rfl (lv_room (Nat.le_of_ble_eq_true rfl)) dX5_drift_3 ⟨Nat.zero_le _, Nat.zero_le _⟩) hS (wA_cg rfl) (fun H_3 locs_3 hB_3 _ hk_3 hS => ?_)
  have hP : va_P D vwCl (cs5 ct a r_3) H_3 := hB_3
  refine lv_aload_n hx hb dX5_drift_6 rfl (lv_at hl 0 rfl) ?_
  refine lv_iload_n hx hb dX5_drift_7 rfl (lv_at hl 3 rfl) ?_
  obtain ⟨r_8, e_8, hf⟩ := ob_bind hf
  have hPX_8 : va_P D vwCl ([]) H_3 := P_nil
  refine ro_call1 (va_runSN (As := [.int v3]) (rest := [.ref (a 0)]) ⟨hx, hb, hml, hown, htl⟩ (c_X9_bit l D ct G fu v3 e_8) (cw_X5_X9_bit htl hN ⟨Nat.le_of_ble_eq_true rfl, Nat.le_of_ble_eq_true rfl⟩) ⟨Bx_blind, Bx_pre hPX_8 hK hN (hX.stay hS hGE)⟩ rfl rfl hl.1 rfl (lv_room (Nat.le_of_ble_eq_true rfl)) dX5_drift_8 ⟨Nat.zero_le _, Nat.zero_le _⟩) ?_
  refine va_put (D := D) (ci := 5) (v := .int r_8) (ty := .int) (C := RX5) (T := TX5) (N := 9) hx hb htl inlX5 tyX5 tyX5_ok nmX5 hown hK hP (hDW r_3) hS 0 rfl rfl 1 (by decide) (htl _ wq_5_14) (fun _ h9 => h9) rfl (tyX5_ok 1 (by decide)) rfl rfl (Nat.le_of_ble_eq_true rfl) dX5_drift_11 (fun H_11 locs_11 hP _ hS => ?_)
  have hP : va_P D vwCl (cs5 ct a (oI r_3 1 r_8)) H_11 := st5_1 hP
  refine lv_aload_n hx hb dX5_drift_14 rfl (lv_at hl 0 rfl) ?_
  refine lv_iload_n hx hb dX5_drift_15 rfl (lv_at hl 3 rfl) ?_
  refine va_put (D := D) (ci := 5) (v := .int v3) (ty := .int) (C := RX5) (T := TX5) (N := 9) hx hb htl inlX5 tyX5 tyX5_ok nmX5 hown hK hP (hDW (oI r_3 1 r_8)) hS 0 rfl rfl 2 (by decide) (htl _ wq_5_15) (fun _ h9 => h9) rfl (tyX5_ok 2 (by decide)) rfl rfl (Nat.le_of_ble_eq_true rfl) dX5_drift_16 (fun H_16 locs_16 hP _ hS => ?_)
  have hP : va_P D vwCl (cs5 ct a (oI (oI r_3 1 r_8) 2 v3)) H_16 := st5_2 hP
  refine lv_iload_n hx hb dX5_drift_19 rfl (lv_at hl 3 rfl) ?_
  refine lv_istore (lv' := [(5, .int v3), (0, .ref (a 0)), (1, .ref (ab 0)), (2, .ref (ac 0)), (3, .int v3), (4, .int v4)]) hx hb dX5_drift_20 hl (by decide) rfl (fun ls hl => ?_)
  refine lv_iconst (v := 0) hx hb dX5_drift_22 (by decide) ?_
  refine lv_istore (lv' := [(6, .int 0), (5, .int v3), (0, .ref (a 0)), (1, .ref (ab 0)), (2, .ref (ac 0)), (3, .int v3), (4, .int v4)]) hx hb dX5_drift_23 hl (by decide) rfl (fun ls hl => ?_)
  refine lv_iload hx hb dX5_drift_25 (lv_at hl 6 rfl) ?_
  refine lv_istore (lv' := [(7, .int v4), (6, .int 0), (5, .int v3), (0, .ref (a 0)), (1, .ref (ab 0)), (2, .ref (ac 0)), (3, .int v3), (4, .int v4)]) hx hb dX5_drift_27 hl (by decide) rfl (fun ls hl => ?_)
  exact hL29 fu (oI (oI r_3 1 r_8) 2 v3) v3 0 v4 _ _ _ hP hS (lv_sub hl [3, 4, 5, 2, 1, 0] rfl) hf 
theorem c_X5_drift (l : Launch) (D : va_G) (ct : Nat → ClassId) (G : GT) (a : Nat → Nat) (ab : Nat → Nat) (ac : Nat → Nat) (fu : Nat) (o : Ob) (o1 : Ob) (o2 : Ob) (v3 : Int32) (v4 : Int32) {r : Ob} (hf : p_X5_drift fu o o1 o2 v3 v4 = some r)  (hD0 : va_D (GE G) (cs5 ct a o ++ (cs2 ct ab o1 ++ (cs8 ct ac o2)))) : Met l yX5_drift (.code yX5_drift cX5_drift 8 none :: wsL_law) rm_X5_drift (va_Pc [.ref (a 0), .ref (ab 0), .ref (ac 0), .int v3, .int v4] (Bx D ct G (cs5 ct a o ++ (cs2 ct ab o1 ++ (cs8 ct ac o2))))) (Qwr none (fun H => va_P D vwCl (cs5 ct a r) H) (wA (cs5 ct a o))) 0 0 (wA (cs5 ct a o)) := by
  refine Met.ofW (cc := cX5_drift) (maxL := 8) (ret := none) (by decide) rfl ?_
  intro p e s m args below meth c s₁ B hml hv
  obtain ⟨rfl, hP, hK, hN, hX⟩ := hv
  have hts := atoms_spec (ws := .code yX5_drift cX5_drift 8 none :: wsL_law) B.pre
  rw [lg_entry_eq]
  exact b_X5_drift a ab ac fu o o1 o2 v3 v4 B.exec B.bytes B.returns hml (findClass_of_methodNamed B.named) (fun w h => hts w (List.mem_cons_of_mem _ h)) B.notSynchronized hK hN hX hP hf hD0  (lv_entry [.ref (a 0), .ref (ab 0), .ref (ac 0), .int v3, .int v4] (n := 8) (Nat.le_of_ble_eq_true rfl))
theorem cw_X5_X5_spotAt {R : Room} {s : State} {args : Array Value} (ht : ∀ w ∈ wsL_law, w.before args s = true) (hR : rm_X5_spotAt.frames + 1 ≤ R.frames ∧ 8 + (2 + 11) + rm_X5_spotAt.locals ≤ R.locals) : CallW R s args RX5 RX5 96 yX5_spotAt cX5_spotAt 2 (some .int) ((.code yX5_spotAt cX5_spotAt 2 (some .int)) :: wsL_law) rm_X5_spotAt 0 0 1 := cwV 1 ht (GV wq_28_4 wq_26_11 wq_26_12 wq_2_11 wq_26_13) rfl rfl rfl ⟨rfl, hd_X5_spotAt⟩ hR
def p_X5_firstIn_L2 (fu : Nat) (o : Ob)  : Nat → Int32 → Int32 → Option (Int32)
  | 0, _, _ => none
  | n + 1, v1, v2 =>
    if (60 : Int32) < v2 then some ((-1) : Int32) else (p_X5_spotAt fu o v2).bind fun r_10 => if r_10 = v1 then some v2 else p_X5_firstIn_L2 fu o  n v1 (v2 + 1)
def p_X5_firstIn (fu : Nat) (o : Ob) (v1 : Int32) : Option (Int32) :=
  p_X5_firstIn_L2 fu o fu v1 0
abbrev rm_X5_firstIn : Room := { frames := 2, cells := 0, slots := 0, locals := 42 }
set_option maxHeartbeats 4000000 in
set_option maxRecDepth 100000 in
theorem b_X5_firstIn {p : Program} {l : Launch} {e : Env} {s : State} {m : MethodId} {args : Array Value} {below : List Frame} {meth : Method} {c : Code} {ls : Array Slot} {D : va_G} {ct : Nat → ClassId} {G : GT} (a : Nat → Nat) (fu : Nat) (o : Ob) (v1 : Int32) {r : Int32} (hx : p.tables.exec = Jvm.exec) (hb : c.code = cX5_firstIn) (hr : meth.sig.returnType = (some .int)) (hml : c.maxLocals = 3) (hown : s.vm.findClass RX5 = some m.cls) (htl : ∀ w ∈ wsL_law, w.before args s = true) (hlocks : meth.locks = false) (hK : va_K D vwCl (tyl ct) s) (hN : ∀ w ∈ NW, va_Nw w s) (hX : SX G s s.heap) (hP0 : va_P D vwCl (cs5 ct a o) s.heap) (hf : p_X5_firstIn fu o v1 = some r)  (hl : lv_has ls 3 [(0, .ref (a 0)), (1, .int v1)]) : W p l e rm_X5_firstIn s m args below meth c s.heap [] 0 0 (MQ below (Qro (some (.int r))) args s 0 0 (fun _ => False)) (F0 m 0 ls []) := by
  generalize hQQ : MQ below (Qro (some (.int r))) args s 0 0 (fun _ => False) = QQ
  have hP := hP0
  have hL2 : ∀ (n : Nat) (v1 : Int32) (v2 : Int32), ∀ (ls : Array Slot), lv_has ls 3 [(0, .ref (a 0)), (1, .int v1), (2, .int v2)] → p_X5_firstIn_L2 fu o  n v1 v2 = some r → W p l e rm_X5_firstIn s m args below meth c s.heap [] 0 0 QQ (F0 m 2 ls []) := by
    intro  n
    induction n with
    | zero =>
      intro v1 v2 ls hl hf 
      rw [p_X5_firstIn_L2] at hf
      cases hf
    | succ n ih =>
      intro v1 v2 ls hl hf 
      rw [p_X5_firstIn_L2] at hf
      refine lv_iload_n hx hb dX5_firstIn_2 rfl (lv_at hl 2 rfl) ?_
      refine lv_bipush (v := 60) hx hb dX5_firstIn_3 (by decide) ?_
      refine lv_icmp_gt (tgt := 25) hx hb dX5_firstIn_5 (by decide) (fun c_5 => ?_) (fun c_5 => ?_)
      · rw [if_pos c_5] at hf
        refine lv_iconst (v := (-1)) hx hb dX5_firstIn_25 (by decide) ?_
        rw [← hQQ]
        exact rf_i hx hb hr hlocks hf dX5_firstIn_26
      rw [if_neg c_5] at hf
      refine lv_aload_n hx hb dX5_firstIn_8 rfl (lv_at hl 0 rfl) ?_
      refine lv_iload_n hx hb dX5_firstIn_9 rfl (lv_at hl 2 rfl) ?_
      obtain ⟨r_10, e_10, hf⟩ := ob_bind hf
      have hPX_10 : va_P D vwCl (cs5 ct a o) s.heap := hP
      refine ro_call1 (va_runV (As := [.int v2]) (rest := []) ⟨hx, hb, hml, hown, htl⟩ (c_X5_spotAt l D ct G a fu o v2 e_10) (cw_X5_X5_spotAt htl ⟨Nat.le_of_ble_eq_true rfl, Nat.le_of_ble_eq_true rfl⟩) ⟨Bx_blind, va_recv hK hPX_10 (ci := 5) (q0 := 0) rfl rfl, Bx_pre hPX_10 hK hN hX⟩ rfl rfl hl.1 rfl (lv_room (Nat.le_of_ble_eq_true rfl)) dX5_firstIn_10 ⟨Nat.zero_le _, Nat.zero_le _⟩) ?_
      refine lv_iload_n hx hb dX5_firstIn_13 rfl (lv_at hl 1 rfl) ?_
      refine lv_icmp_ne (tgt := 19) hx hb dX5_firstIn_14 (by decide) (fun c_14 => ?_) (fun c_14 => ?_)
      · rw [if_neg c_14] at hf
        refine lv_iinc (v := (v2 + 1)) (lv' := [(2, .int (v2 + 1)), (0, .ref (a 0)), (1, .int v1)]) hx hb dX5_firstIn_19 hl (k := 2) rfl rfl (by decide) rfl (fun ls hl => ?_)
        refine lv_goto (tgt := 2) hx hb dX5_firstIn_22 (by decide) ?_
        exact ih v1 (v2 + 1) _ (lv_sub hl [1, 2, 0] rfl) hf 
      rw [if_pos c_14] at hf
      refine lv_iload_n hx hb dX5_firstIn_17 rfl (lv_at hl 2 rfl) ?_
      rw [← hQQ]
      exact rf_i hx hb hr hlocks hf dX5_firstIn_18
  rw [p_X5_firstIn] at hf
  refine lv_iconst (v := 0) hx hb dX5_firstIn_0 (by decide) ?_
  refine lv_istore_n (lv' := [(2, .int 0), (0, .ref (a 0)), (1, .int v1)]) hx hb dX5_firstIn_1 rfl hl (by decide) rfl (fun ls hl => ?_)
  exact hL2 fu v1 0 _ (lv_sub hl [1, 2, 0] rfl) hf 
theorem c_X5_firstIn (l : Launch) (D : va_G) (ct : Nat → ClassId) (G : GT) (a : Nat → Nat) (fu : Nat) (o : Ob) (v1 : Int32) {r : Int32} (hf : p_X5_firstIn fu o v1 = some r)  : Met l yX5_firstIn (.code yX5_firstIn cX5_firstIn 3 (some .int) :: wsL_law) rm_X5_firstIn (va_Pc [.ref (a 0), .int v1] (Bx D ct G (cs5 ct a o))) (Qro (some (.int r))) 0 0 (fun _ => False) := by
  refine Met.ofW (cc := cX5_firstIn) (maxL := 3) (ret := (some .int)) (by decide) rfl ?_
  intro p e s m args below meth c s₁ B hml hv
  obtain ⟨rfl, hP, hK, hN, hX⟩ := hv
  have hts := atoms_spec (ws := .code yX5_firstIn cX5_firstIn 3 (some .int) :: wsL_law) B.pre
  rw [lg_entry_eq]
  exact b_X5_firstIn a fu o v1 B.exec B.bytes B.returns hml (findClass_of_methodNamed B.named) (fun w h => hts w (List.mem_cons_of_mem _ h)) B.notSynchronized hK hN hX hP hf   (lv_entry [.ref (a 0), .int v1] (n := 3) (Nat.le_of_ble_eq_true rfl))
def p_X5_visitedAhead_L5 (fu : Nat) (o : Ob)  : Nat → Int32 → Int32 → Int32 → Option (Int32)
  | 0, _, _, _ => none
  | n + 1, v2, v3, v4 =>
    if v2 ≤ v4 then some v3 else (p_X5_spotAt fu o v4).bind fun r_15 => (p_X9_bit fu r_15).bind fun r_18 => p_X5_visitedAhead_L5 fu o  n v2 (v3 ||| r_18) (v4 + 1)
def p_X5_visitedAhead (fu : Nat) (o : Ob) (v1 : Int32) (v2 : Int32) : Option (Int32) :=
  p_X5_visitedAhead_L5 fu o fu v2 0 v1
abbrev rm_X5_visitedAhead : Room := { frames := 2, cells := 0, slots := 0, locals := 42 }
set_option maxHeartbeats 4000000 in
set_option maxRecDepth 100000 in
theorem b_X5_visitedAhead {p : Program} {l : Launch} {e : Env} {s : State} {m : MethodId} {args : Array Value} {below : List Frame} {meth : Method} {c : Code} {ls : Array Slot} {D : va_G} {ct : Nat → ClassId} {G : GT} (a : Nat → Nat) (fu : Nat) (o : Ob) (v1 : Int32) (v2 : Int32) {r : Int32} (hx : p.tables.exec = Jvm.exec) (hb : c.code = cX5_visitedAhead) (hr : meth.sig.returnType = (some .int)) (hml : c.maxLocals = 5) (hown : s.vm.findClass RX5 = some m.cls) (htl : ∀ w ∈ wsL_law, w.before args s = true) (hlocks : meth.locks = false) (hK : va_K D vwCl (tyl ct) s) (hN : ∀ w ∈ NW, va_Nw w s) (hX : SX G s s.heap) (hP0 : va_P D vwCl (cs5 ct a o) s.heap) (hf : p_X5_visitedAhead fu o v1 v2 = some r)  (hl : lv_has ls 5 [(0, .ref (a 0)), (1, .int v1), (2, .int v2)]) : W p l e rm_X5_visitedAhead s m args below meth c s.heap [] 0 0 (MQ below (Qro (some (.int r))) args s 0 0 (fun _ => False)) (F0 m 0 ls []) := by
  generalize hQQ : MQ below (Qro (some (.int r))) args s 0 0 (fun _ => False) = QQ
  have hP := hP0
  have hL5 : ∀ (n : Nat) (v2 : Int32) (v3 : Int32) (v4 : Int32), ∀ (ls : Array Slot), lv_has ls 5 [(0, .ref (a 0)), (2, .int v2), (3, .int v3), (4, .int v4)] → p_X5_visitedAhead_L5 fu o  n v2 v3 v4 = some r → W p l e rm_X5_visitedAhead s m args below meth c s.heap [] 0 0 QQ (F0 m 5 ls []) := by
    intro  n
    induction n with
    | zero =>
      intro v2 v3 v4 ls hl hf 
      rw [p_X5_visitedAhead_L5] at hf
      cases hf
    | succ n ih =>
      intro v2 v3 v4 ls hl hf 
      rw [p_X5_visitedAhead_L5] at hf
      refine lv_iload hx hb dX5_visitedAhead_5 (lv_at hl 3 rfl) ?_
      refine lv_iload_n hx hb dX5_visitedAhead_7 rfl (lv_at hl 1 rfl) ?_
      refine lv_icmp_ge (tgt := 29) hx hb dX5_visitedAhead_8 (by decide) (fun c_8 => ?_) (fun c_8 => ?_)
      · rw [if_pos c_8] at hf
        refine lv_iload_n hx hb dX5_visitedAhead_29 rfl (lv_at hl 2 rfl) ?_
        rw [← hQQ]
        exact rf_i hx hb hr hlocks hf dX5_visitedAhead_30
      rw [if_neg c_8] at hf
      refine lv_iload_n hx hb dX5_visitedAhead_11 rfl (lv_at hl 2 rfl) ?_
      refine lv_aload_n hx hb dX5_visitedAhead_12 rfl (lv_at hl 0 rfl) ?_
      refine lv_iload hx hb dX5_visitedAhead_13 (lv_at hl 3 rfl) ?_
      obtain ⟨r_15, e_15, hf⟩ := ob_bind hf
      have hPX_15 : va_P D vwCl (cs5 ct a o) s.heap := hP
      refine ro_call1 (va_runV (As := [.int v4]) (rest := [.int v3]) ⟨hx, hb, hml, hown, htl⟩ (c_X5_spotAt l D ct G a fu o v4 e_15) (cw_X5_X5_spotAt htl ⟨Nat.le_of_ble_eq_true rfl, Nat.le_of_ble_eq_true rfl⟩) ⟨Bx_blind, va_recv hK hPX_15 (ci := 5) (q0 := 0) rfl rfl, Bx_pre hPX_15 hK hN hX⟩ rfl rfl hl.1 rfl (lv_room (Nat.le_of_ble_eq_true rfl)) dX5_visitedAhead_15 ⟨Nat.zero_le _, Nat.zero_le _⟩) ?_
      obtain ⟨r_18, e_18, hf⟩ := ob_bind hf
      have hPX_18 : va_P D vwCl ([]) s.heap := P_nil
      refine ro_call1 (va_runSN (As := [.int r_15]) (rest := [.int v3]) ⟨hx, hb, hml, hown, htl⟩ (c_X9_bit l D ct G fu r_15 e_18) (cw_X5_X9_bit htl hN ⟨Nat.le_of_ble_eq_true rfl, Nat.le_of_ble_eq_true rfl⟩) ⟨Bx_blind, Bx_pre hPX_18 hK hN hX⟩ rfl rfl hl.1 rfl (lv_room (Nat.le_of_ble_eq_true rfl)) dX5_visitedAhead_18 ⟨Nat.zero_le _, Nat.zero_le _⟩) ?_
      refine lv_ior hx hb dX5_visitedAhead_21 ?_
      refine lv_istore_n (lv' := [(3, .int (v3 ||| r_18)), (0, .ref (a 0)), (2, .int v2), (4, .int v4)]) hx hb dX5_visitedAhead_22 rfl hl (by decide) rfl (fun ls hl => ?_)
      refine lv_iinc (v := (v4 + 1)) (lv' := [(4, .int (v4 + 1)), (3, .int (v3 ||| r_18)), (0, .ref (a 0)), (2, .int v2)]) hx hb dX5_visitedAhead_23 hl (k := 3) rfl rfl (by decide) rfl (fun ls hl => ?_)
      refine lv_goto (tgt := 5) hx hb dX5_visitedAhead_26 (by decide) ?_
      exact ih v2 (v3 ||| r_18) (v4 + 1) _ (lv_sub hl [2, 3, 1, 0] rfl) hf 
  rw [p_X5_visitedAhead] at hf
  refine lv_iconst (v := 0) hx hb dX5_visitedAhead_0 (by decide) ?_
  refine lv_istore_n (lv' := [(3, .int 0), (0, .ref (a 0)), (1, .int v1), (2, .int v2)]) hx hb dX5_visitedAhead_1 rfl hl (by decide) rfl (fun ls hl => ?_)
  refine lv_iload_n hx hb dX5_visitedAhead_2 rfl (lv_at hl 2 rfl) ?_
  refine lv_istore (lv' := [(4, .int v1), (3, .int 0), (0, .ref (a 0)), (1, .int v1), (2, .int v2)]) hx hb dX5_visitedAhead_3 hl (by decide) rfl (fun ls hl => ?_)
  exact hL5 fu v2 0 v1 _ (lv_sub hl [2, 4, 1, 0] rfl) hf 
theorem c_X5_visitedAhead (l : Launch) (D : va_G) (ct : Nat → ClassId) (G : GT) (a : Nat → Nat) (fu : Nat) (o : Ob) (v1 : Int32) (v2 : Int32) {r : Int32} (hf : p_X5_visitedAhead fu o v1 v2 = some r)  : Met l yX5_visitedAhead (.code yX5_visitedAhead cX5_visitedAhead 5 (some .int) :: wsL_law) rm_X5_visitedAhead (va_Pc [.ref (a 0), .int v1, .int v2] (Bx D ct G (cs5 ct a o))) (Qro (some (.int r))) 0 0 (fun _ => False) := by
  refine Met.ofW (cc := cX5_visitedAhead) (maxL := 5) (ret := (some .int)) (by decide) rfl ?_
  intro p e s m args below meth c s₁ B hml hv
  obtain ⟨rfl, hP, hK, hN, hX⟩ := hv
  have hts := atoms_spec (ws := .code yX5_visitedAhead cX5_visitedAhead 5 (some .int) :: wsL_law) B.pre
  rw [lg_entry_eq]
  exact b_X5_visitedAhead a fu o v1 v2 B.exec B.bytes B.returns hml (findClass_of_methodNamed B.named) (fun w h => hts w (List.mem_cons_of_mem _ h)) B.notSynchronized hK hN hX hP hf   (lv_entry [.ref (a 0), .int v1, .int v2] (n := 5) (Nat.le_of_ble_eq_true rfl))
theorem cw_X5_X3_number {R : Room} {s : State} {args : Array Value} (ht : ∀ w ∈ wsL_law, w.before args s = true) (hN : ∀ w ∈ NW, va_Nw w s) (hR : rm_X3_number.frames + 1 ≤ R.frames ∧ 8 + (2 + 11) + rm_X3_number.locals ≤ R.locals) : va_CN R s args RX5 104 yX3_number "QuotedRiver" cX3_number 2 (some .long) ((.code yX3_number cX3_number 2 (some .long)) :: wsL_law) rm_X3_number 0 0 1 ∧ (Cond.instanceMethod yX3_number).before args s = true ∧ (Cond.selects RX3 yX3_number yX3_number).before args s = true := ⟨va_cnB 1 ht (GL wq_47_11) rfl rfl rfl (hN _ nm_131) (ht _ wq_3_3) hd_X3_number hR, ht _ wq_47_9, ht _ wq_47_10⟩
def p_X5_wasSeen_L2 (fu : Nat) (o : Ob) (o1 : Ob)  : Nat → Int32 → Option (Int32)
  | 0, _ => none
  | n + 1, v2 =>
    if (o1.1 2 0) ≤ (v2 + 1) then some (1 : Int32) else (p_X3_number fu o1 v2).bind fun r_15 => (p_X5_spotAt fu o r_15.toInt32).bind fun r_19 => (p_X3_number fu o1 (v2 + 1)).bind fun r_26 => if r_19 = r_26.toInt32 then p_X5_wasSeen_L2 fu o o1  n (v2 + 2) else some (0 : Int32)
def p_X5_wasSeen (fu : Nat) (o : Ob) (o1 : Ob) : Option (Int32) :=
  p_X5_wasSeen_L2 fu o o1 fu 0
abbrev rm_X5_wasSeen : Room := { frames := 2, cells := 0, slots := 0, locals := 42 }
set_option maxHeartbeats 4000000 in
set_option maxRecDepth 100000 in
theorem b_X5_wasSeen {p : Program} {l : Launch} {e : Env} {s : State} {m : MethodId} {args : Array Value} {below : List Frame} {meth : Method} {c : Code} {ls : Array Slot} {D : va_G} {ct : Nat → ClassId} {G : GT} (a : Nat → Nat) (ab : Nat → Nat) (fu : Nat) (o : Ob) (o1 : Ob) {r : Int32} (hx : p.tables.exec = Jvm.exec) (hb : c.code = cX5_wasSeen) (hr : meth.sig.returnType = (some .boolean)) (hml : c.maxLocals = 3) (hown : s.vm.findClass RX5 = some m.cls) (htl : ∀ w ∈ wsL_law, w.before args s = true) (hlocks : meth.locks = false) (hK : va_K D vwCl (tyl ct) s) (hN : ∀ w ∈ NW, va_Nw w s) (hX : SX G s s.heap) (hP0 : va_P D vwCl (cs5 ct a o ++ (cs3 ct ab o1)) s.heap) (hf : p_X5_wasSeen fu o o1 = some r)  (hl : lv_has ls 3 [(0, .ref (a 0)), (1, .ref (ab 0))]) : W p l e rm_X5_wasSeen s m args below meth c s.heap [] 0 0 (MQ below (Qro (some (.int r))) args s 0 0 (fun _ => False)) (F0 m 0 ls []) := by
  generalize hQQ : MQ below (Qro (some (.int r))) args s 0 0 (fun _ => False) = QQ
  have hP := hP0
  have hL2 : ∀ (n : Nat) (v2 : Int32), ∀ (ls : Array Slot), lv_has ls 3 [(0, .ref (a 0)), (1, .ref (ab 0)), (2, .int v2)] → p_X5_wasSeen_L2 fu o o1  n v2 = some r → W p l e rm_X5_wasSeen s m args below meth c s.heap [] 0 0 QQ (F0 m 2 ls []) := by
    intro  n
    induction n with
    | zero =>
      intro v2 ls hl hf 
      rw [p_X5_wasSeen_L2] at hf
      cases hf
    | succ n ih =>
      intro v2 ls hl hf 
      rw [p_X5_wasSeen_L2] at hf
      refine lv_iload_n hx hb dX5_wasSeen_2 rfl (lv_at hl 2 rfl) ?_
      refine lv_iconst (v := 1) hx hb dX5_wasSeen_3 (by decide) ?_
      refine lv_iadd hx hb dX5_wasSeen_4 ?_
      refine lv_aload_n hx hb dX5_wasSeen_5 rfl (lv_at hl 1 rfl) ?_
      refine va_getN (D := D) (ci := 3) (v := .int (o1.1 2 0)) (C := RX3) (T := TX3) (N := 4) hx hb htl inlX3 hown hK hP 2 rfl rfl 2 (by decide) (va_Nw.use rfl (hN _ nm_63)) (fun _ h9 => h9) rfl dX5_wasSeen_6 ?_
      refine lv_icmp_ge (tgt := 41) hx hb dX5_wasSeen_9 (by decide) (fun c_9 => ?_) (fun c_9 => ?_)
      · rw [if_pos c_9] at hf
        refine lv_iconst (v := 1) hx hb dX5_wasSeen_41 (by decide) ?_
        rw [← hQQ]
        exact rf_z hx hb hr hlocks rfl hf dX5_wasSeen_42
      rw [if_neg c_9] at hf
      refine lv_aload_n hx hb dX5_wasSeen_12 rfl (lv_at hl 0 rfl) ?_
      refine lv_aload_n hx hb dX5_wasSeen_13 rfl (lv_at hl 1 rfl) ?_
      refine lv_iload_n hx hb dX5_wasSeen_14 rfl (lv_at hl 2 rfl) ?_
      obtain ⟨r_15, e_15, hf⟩ := ob_bind hf
      have hPX_15 : va_P D vwCl (cs3 ct ab o1) s.heap := (hP.sub (ws' := cs3 ct ab o1) [2, 3] rfl)
      refine ro_call1 (va_runVN (As := [.int v2]) (rest := [.ref (a 0)]) ⟨hx, hb, hml, hown, htl⟩ (c_X3_number l D ct G ab fu o1 v2 e_15) (cw_X5_X3_number htl hN ⟨Nat.le_of_ble_eq_true rfl, Nat.le_of_ble_eq_true rfl⟩) ⟨Bx_blind, va_recv hK hPX_15 (ci := 3) (q0 := 0) rfl rfl, Bx_pre hPX_15 hK hN hX⟩ rfl rfl hl.1 rfl (lv_room (Nat.le_of_ble_eq_true rfl)) dX5_wasSeen_15 ⟨Nat.zero_le _, Nat.zero_le _⟩) ?_
      refine lv_l2i hx hb dX5_wasSeen_18 rfl ?_
      obtain ⟨r_19, e_19, hf⟩ := ob_bind hf
      have hPX_19 : va_P D vwCl (cs5 ct a o) s.heap := (P_left hP)
      refine ro_call1 (va_runV (As := [.int r_15.toInt32]) (rest := []) ⟨hx, hb, hml, hown, htl⟩ (c_X5_spotAt l D ct G a fu o r_15.toInt32 e_19) (cw_X5_X5_spotAt htl ⟨Nat.le_of_ble_eq_true rfl, Nat.le_of_ble_eq_true rfl⟩) ⟨Bx_blind, va_recv hK hPX_19 (ci := 5) (q0 := 0) rfl rfl, Bx_pre hPX_19 hK hN hX⟩ rfl rfl hl.1 rfl (lv_room (Nat.le_of_ble_eq_true rfl)) dX5_wasSeen_19 ⟨Nat.zero_le _, Nat.zero_le _⟩) ?_
      refine lv_aload_n hx hb dX5_wasSeen_22 rfl (lv_at hl 1 rfl) ?_
      refine lv_iload_n hx hb dX5_wasSeen_23 rfl (lv_at hl 2 rfl) ?_
      refine lv_iconst (v := 1) hx hb dX5_wasSeen_24 (by decide) ?_
      refine lv_iadd hx hb dX5_wasSeen_25 ?_
      obtain ⟨r_26, e_26, hf⟩ := ob_bind hf
      have hPX_26 : va_P D vwCl (cs3 ct ab o1) s.heap := (hP.sub (ws' := cs3 ct ab o1) [2, 3] rfl)
      refine ro_call1 (va_runVN (As := [.int (v2 + 1)]) (rest := [.int r_19]) ⟨hx, hb, hml, hown, htl⟩ (c_X3_number l D ct G ab fu o1 (v2 + 1) e_26) (cw_X5_X3_number htl hN ⟨Nat.le_of_ble_eq_true rfl, Nat.le_of_ble_eq_true rfl⟩) ⟨Bx_blind, va_recv hK hPX_26 (ci := 3) (q0 := 0) rfl rfl, Bx_pre hPX_26 hK hN hX⟩ rfl rfl hl.1 rfl (lv_room (Nat.le_of_ble_eq_true rfl)) dX5_wasSeen_26 ⟨Nat.zero_le _, Nat.zero_le _⟩) ?_
      refine lv_l2i hx hb dX5_wasSeen_29 rfl ?_
      refine lv_icmp_eq (tgt := 35) hx hb dX5_wasSeen_30 (by decide) (fun c_30 => ?_) (fun c_30 => ?_)
      · rw [if_pos c_30] at hf
        refine lv_iinc (v := (v2 + 2)) (lv' := [(2, .int (v2 + 2)), (0, .ref (a 0)), (1, .ref (ab 0))]) hx hb dX5_wasSeen_35 hl (k := 2) rfl rfl (by decide) rfl (fun ls hl => ?_)
        refine lv_goto (tgt := 2) hx hb dX5_wasSeen_38 (by decide) ?_
        exact ih (v2 + 2) _ (lv_sub hl [1, 2, 0] rfl) hf 
      rw [if_neg c_30] at hf
      refine lv_iconst (v := 0) hx hb dX5_wasSeen_33 (by decide) ?_
      rw [← hQQ]
      exact rf_z hx hb hr hlocks rfl hf dX5_wasSeen_34
  rw [p_X5_wasSeen] at hf
  refine lv_iconst (v := 0) hx hb dX5_wasSeen_0 (by decide) ?_
  refine lv_istore_n (lv' := [(2, .int 0), (0, .ref (a 0)), (1, .ref (ab 0))]) hx hb dX5_wasSeen_1 rfl hl (by decide) rfl (fun ls hl => ?_)
  exact hL2 fu 0 _ (lv_sub hl [1, 2, 0] rfl) hf 
theorem c_X5_wasSeen (l : Launch) (D : va_G) (ct : Nat → ClassId) (G : GT) (a : Nat → Nat) (ab : Nat → Nat) (fu : Nat) (o : Ob) (o1 : Ob) {r : Int32} (hf : p_X5_wasSeen fu o o1 = some r)  : Met l yX5_wasSeen (.code yX5_wasSeen cX5_wasSeen 3 (some .boolean) :: wsL_law) rm_X5_wasSeen (va_Pc [.ref (a 0), .ref (ab 0)] (Bx D ct G (cs5 ct a o ++ (cs3 ct ab o1)))) (Qro (some (.int r))) 0 0 (fun _ => False) := by
  refine Met.ofW (cc := cX5_wasSeen) (maxL := 3) (ret := (some .boolean)) (by decide) rfl ?_
  intro p e s m args below meth c s₁ B hml hv
  obtain ⟨rfl, hP, hK, hN, hX⟩ := hv
  have hts := atoms_spec (ws := .code yX5_wasSeen cX5_wasSeen 3 (some .boolean) :: wsL_law) B.pre
  rw [lg_entry_eq]
  exact b_X5_wasSeen a ab fu o o1 B.exec B.bytes B.returns hml (findClass_of_methodNamed B.named) (fun w h => hts w (List.mem_cons_of_mem _ h)) B.notSynchronized hK hN hX hP hf   (lv_entry [.ref (a 0), .ref (ab 0)] (n := 3) (Nat.le_of_ble_eq_true rfl))
theorem cw_X6_X9_put {R : Room} {s : State} {args : Array Value} (ht : ∀ w ∈ wsL_law, w.before args s = true) (hN : ∀ w ∈ NW, va_Nw w s) (hR : rm_X9_put.frames + 1 ≤ R.frames ∧ 8 + (3 + 11) + rm_X9_put.locals ≤ R.locals) : va_CN R s args RX6 19 yX9_put "QuotedRiver" cX9_put 3 none ((.code yX9_put cX9_put 3 none) :: wsL_law) rm_X9_put 0 0 3 ∧ (Cond.static yX9_put).before args s = true ∧ True := ⟨va_cnB 3 ht (GL wq_8_11) rfl rfl rfl (hN _ nm_132) (ht _ wq_1_2) hd_X9_put hR, ht _ wq_8_10, trivial⟩
def p_X6_append_L3 (fu : Nat)  : Nat → Ob → Int32 → Int32 → Option (Ob)
  | 0, _, _, _ => none
  | n + 1, oz, v1, v2 =>
    if v2 < 0 then some oz else (p_X9_put fu 700 (oz.1 0) (oz.1 1 0) ((((v1).toUInt32 >>> ((v2).toUInt32 &&& Int32.toUInt32 31)).toInt32) &&& 255)).bind fun r_22 => p_X6_append_L3 fu  n (oI (oA oz 0 r_22) 1 (((oA oz 0 r_22).1 1 0) + 1)) v1 (v2 + (-8))
def p_X6_append (fu : Nat) (o : Ob) (v1 : Int32) : Option (Ob) :=
  p_X6_append_L3 fu fu o v1 24
abbrev rm_X6_append : Room := { frames := 1, cells := 0, slots := 0, locals := 22 }
set_option maxHeartbeats 4000000 in
set_option maxRecDepth 100000 in
theorem b_X6_append {p : Program} {l : Launch} {e : Env} {s : State} {m : MethodId} {args : Array Value} {below : List Frame} {meth : Method} {c : Code} {ls : Array Slot} {D : va_G} {ct : Nat → ClassId} {G : GT} (a : Nat → Nat) (fu : Nat) (o : Ob) (v1 : Int32) {r : Ob} (hx : p.tables.exec = Jvm.exec) (hb : c.code = cX6_append) (hr : meth.sig.returnType = none) (hml : c.maxLocals = 3) (hown : s.vm.findClass RX6 = some m.cls) (htl : ∀ w ∈ wsL_law, w.before args s = true) (hlocks : meth.locks = false) (hK : va_K D vwCl (tyl ct) s) (hN : ∀ w ∈ NW, va_Nw w s) (hX : SX G s s.heap) (hP0 : va_P D vwCl (cs6 ct a o) s.heap) (hf : p_X6_append fu o v1 = some r) (hD0 : va_D (GE G) (cs6 ct a o))  (hl : lv_has ls 3 [(0, .ref (a 0)), (1, .int v1)]) : W p l e rm_X6_append s m args below meth c s.heap [] 0 0 (MQ below (Qwr none (fun H => va_P D vwCl (cs6 ct a r) H) (wA (cs6 ct a o))) args s 0 0 (wA (cs6 ct a o))) (F0 m 0 ls []) := by
  generalize hQQ : MQ below (Qwr none (fun H => va_P D vwCl (cs6 ct a r) H) (wA (cs6 ct a o))) args s 0 0 (wA (cs6 ct a o)) = QQ
  have hDx : ∀ (oy : Ob), va_D (GE G) (cs6 ct a oy) := fun oy => D_cr hD0 rfl
  have hDW : ∀ (oy : Ob), va_D (wA (cs6 ct a o)) (cs6 ct a oy) := fun oy => D_cr (D_self hD0) rfl
  have hGE : ∀ q, wA (cs6 ct a o) q → GE G q := wA_GE hD0
  have hP := hP0
  have hS : va_S (wA (cs6 ct a o)) s.heap s.heap [] := va_S.rf
  have hL3 : ∀ (n : Nat) (oz : Ob) (v1 : Int32) (v2 : Int32), ∀ (H : Heap) (locs : List Loc) (ls : Array Slot), va_P D vwCl (cs6 ct a oz) H → va_S (wA (cs6 ct a o)) s.heap H locs → lv_has ls 3 [(0, .ref (a 0)), (1, .int v1), (2, .int v2)] → p_X6_append_L3 fu  n oz v1 v2 = some r → W p l e rm_X6_append s m args below meth c H locs 0 0 QQ (F0 m 3 ls []) := by
    intro  n
    induction n with
    | zero =>
      intro oz v1 v2 H locs ls hP hS hl hf 
      rw [p_X6_append_L3] at hf
      cases hf
    | succ n ih =>
      intro oz v1 v2 H locs ls hP hS hl hf 
      rw [p_X6_append_L3] at hf
      refine lv_iload_n hx hb dX6_append_3 rfl (lv_at hl 2 rfl) ?_
      refine lv_if_lt (tgt := 41) hx hb dX6_append_4 (by decide) (fun c_4 => ?_) (fun c_4 => ?_)
      · rw [if_pos c_4] at hf
        rw [← hQQ]
        cases hf
        exact rw_v hx hb hr hlocks hP hS dX6_append_41
      rw [if_neg c_4] at hf
      refine lv_aload_n hx hb dX6_append_7 rfl (lv_at hl 0 rfl) ?_
      refine va_get (D := D) (ci := 6) (v := .ref (a 1)) (C := RX6) (T := TX6) (N := 2) hx hb htl inlX6 hown hK hP 0 rfl rfl 0 (by decide) (htl _ wq_3_7) (fun _ h9 => h9) rfl dX6_append_8 ?_
      refine lv_aload_n hx hb dX6_append_11 rfl (lv_at hl 0 rfl) ?_
      refine va_get (D := D) (ci := 6) (v := .int (oz.1 1 0)) (C := RX6) (T := TX6) (N := 2) hx hb htl inlX6 hown hK hP 0 rfl rfl 1 (by decide) (htl _ wq_3_8) (fun _ h9 => h9) rfl dX6_append_12 ?_
      refine lv_iload_n hx hb dX6_append_15 rfl (lv_at hl 1 rfl) ?_
      refine lv_iload_n hx hb dX6_append_16 rfl (lv_at hl 2 rfl) ?_
      refine lv_iushr hx hb dX6_append_17 rfl ?_
      refine lv_sipush (v := 255) hx hb dX6_append_18 (by decide) ?_
      refine lv_iand hx hb dX6_append_21 ?_
      obtain ⟨r_22, e_22, hf⟩ := ob_bind hf
      have hPX_22 : va_P D vwCl ([((a 1), .inl (ct 0, 700, .inl (oz.1 0)))]) H := (P_one hP 1 rfl)
      refine wr_call0 (va_runSN (As := [.ref (a 1), .int (oz.1 1 0), .int ((((v1).toUInt32 >>> ((v2).toUInt32 &&& Int32.toUInt32 31)).toInt32) &&& 255)]) (rest := []) ⟨hx, hb, hml, hown, htl⟩ (c_X9_put l D ct G (a 1) fu 700 (oz.1 0) (oz.1 1 0) ((((v1).toUInt32 >>> ((v2).toUInt32 &&& Int32.toUInt32 31)).toInt32) &&& 255) e_22 ((hDx oz).sub (ws' := [((a 1), .inl (ct 0, 700, .inl (oz.1 0)))]) [1] (by decide) rfl)) (cw_X6_X9_put htl hN ⟨Nat.le_of_ble_eq_true rfl, Nat.le_of_ble_eq_true rfl⟩) ⟨Bx_blind, Bx_pre hPX_22 hK hN (hX.stay hS hGE)⟩ rfl rfl hl.1 rfl (lv_room (Nat.le_of_ble_eq_true rfl)) dX6_append_22 ⟨Nat.zero_le _, Nat.zero_le _⟩) hS (fun q h => wA_cg (w1 := cs6 ct a oz) (w2 := cs6 ct a o) rfl q (wA_sub (w2 := cs6 ct a oz) [1] rfl q h)) (fun H_22 locs_22 hB_22 _ hk_22 hS => ?_)
      have hP : va_P D vwCl (cs6 ct a (oA oz 0 r_22)) H_22 := P_join hP (hDW oz) [1] rfl rfl hk_22 hB_22
      refine lv_aload_n hx hb dX6_append_25 rfl (lv_at hl 0 rfl) ?_
      refine lv_dup hx hb dX6_append_26 rfl ?_
      refine va_get (D := D) (ci := 6) (v := .int ((oA oz 0 r_22).1 1 0)) (C := RX6) (T := TX6) (N := 2) hx hb htl inlX6 hown hK hP 0 rfl rfl 1 (by decide) (htl _ wq_3_8) (fun _ h9 => h9) rfl dX6_append_27 ?_
      refine lv_iconst (v := 1) hx hb dX6_append_30 (by decide) ?_
      refine lv_iadd hx hb dX6_append_31 ?_
      refine va_put (D := D) (ci := 6) (v := .int (((oA oz 0 r_22).1 1 0) + 1)) (ty := .int) (C := RX6) (T := TX6) (N := 2) hx hb htl inlX6 tyX6 tyX6_ok nmX6 hown hK hP (hDW (oA oz 0 r_22)) hS 0 rfl rfl 1 (by decide) (htl _ wq_3_8) (fun _ h9 => h9) rfl (tyX6_ok 1 (by decide)) rfl rfl (Nat.le_of_ble_eq_true rfl) dX6_append_32 (fun H_32 locs_32 hP _ hS => ?_)
      have hP : va_P D vwCl (cs6 ct a (oI (oA oz 0 r_22) 1 (((oA oz 0 r_22).1 1 0) + 1))) H_32 := st6_1 hP
      refine lv_iinc (v := (v2 + (-8))) (lv' := [(2, .int (v2 + (-8))), (0, .ref (a 0)), (1, .int v1)]) hx hb dX6_append_35 hl (k := 2) rfl rfl (by decide) rfl (fun ls hl => ?_)
      refine lv_goto (tgt := 3) hx hb dX6_append_38 (by decide) ?_
      exact ih (oI (oA oz 0 r_22) 1 (((oA oz 0 r_22).1 1 0) + 1)) v1 (v2 + (-8)) _ _ _ hP hS (lv_sub hl [1, 2, 0] rfl) hf 
  rw [p_X6_append] at hf
  refine lv_bipush (v := 24) hx hb dX6_append_0 (by decide) ?_
  refine lv_istore_n (lv' := [(2, .int 24), (0, .ref (a 0)), (1, .int v1)]) hx hb dX6_append_2 rfl hl (by decide) rfl (fun ls hl => ?_)
  exact hL3 fu o v1 24 _ _ _ hP hS (lv_sub hl [1, 2, 0] rfl) hf 
theorem c_X6_append (l : Launch) (D : va_G) (ct : Nat → ClassId) (G : GT) (a : Nat → Nat) (fu : Nat) (o : Ob) (v1 : Int32) {r : Ob} (hf : p_X6_append fu o v1 = some r)  (hD0 : va_D (GE G) (cs6 ct a o)) : Met l yX6_append (.code yX6_append cX6_append 3 none :: wsL_law) rm_X6_append (va_Pc [.ref (a 0), .int v1] (Bx D ct G (cs6 ct a o))) (Qwr none (fun H => va_P D vwCl (cs6 ct a r) H) (wA (cs6 ct a o))) 0 0 (wA (cs6 ct a o)) := by
  refine Met.ofW (cc := cX6_append) (maxL := 3) (ret := none) (by decide) rfl ?_
  intro p e s m args below meth c s₁ B hml hv
  obtain ⟨rfl, hP, hK, hN, hX⟩ := hv
  have hts := atoms_spec (ws := .code yX6_append cX6_append 3 none :: wsL_law) B.pre
  rw [lg_entry_eq]
  exact b_X6_append a fu o v1 B.exec B.bytes B.returns hml (findClass_of_methodNamed B.named) (fun w h => hts w (List.mem_cons_of_mem _ h)) B.notSynchronized hK hN hX hP hf hD0  (lv_entry [.ref (a 0), .int v1] (n := 3) (Nat.le_of_ble_eq_true rfl))
def p_X8_rainAt (fu : Nat) (o : Ob) (v1 : Int32) : Option (Int32) :=
  (p_X9_pick fu 61 (o.1 0) v1).bind fun r_5 => some r_5
abbrev rm_X8_rainAt : Room := { frames := 1, cells := 0, slots := 0, locals := 21 }
set_option maxHeartbeats 4000000 in
set_option maxRecDepth 100000 in
theorem b_X8_rainAt {p : Program} {l : Launch} {e : Env} {s : State} {m : MethodId} {args : Array Value} {below : List Frame} {meth : Method} {c : Code} {ls : Array Slot} {D : va_G} {ct : Nat → ClassId} {G : GT} (a : Nat → Nat) (fu : Nat) (o : Ob) (v1 : Int32) {r : Int32} (hx : p.tables.exec = Jvm.exec) (hb : c.code = cX8_rainAt) (hr : meth.sig.returnType = (some .int)) (hml : c.maxLocals = 2) (hown : s.vm.findClass RX8 = some m.cls) (htl : ∀ w ∈ wsL_law, w.before args s = true) (hlocks : meth.locks = false) (hK : va_K D vwCl (tyl ct) s) (hN : ∀ w ∈ NW, va_Nw w s) (hX : SX G s s.heap) (hP0 : va_P D vwCl (cs8 ct a o) s.heap) (hf : p_X8_rainAt fu o v1 = some r)  (hl : lv_has ls 2 [(0, .ref (a 0)), (1, .int v1)]) : W p l e rm_X8_rainAt s m args below meth c s.heap [] 0 0 (MQ below (Qro (some (.int r))) args s 0 0 (fun _ => False)) (F0 m 0 ls []) := by
  generalize hQQ : MQ below (Qro (some (.int r))) args s 0 0 (fun _ => False) = QQ
  have hP := hP0
  rw [p_X8_rainAt] at hf
  refine lv_aload_n hx hb dX8_rainAt_0 rfl (lv_at hl 0 rfl) ?_
  refine va_get (D := D) (ci := 8) (v := .ref (a 1)) (C := RX8) (T := TX8) (N := 3) hx hb htl inlX8 hown hK hP 0 rfl rfl 0 (by decide) (htl _ wq_5_7) (fun _ h9 => h9) rfl dX8_rainAt_1 ?_
  refine lv_iload_n hx hb dX8_rainAt_4 rfl (lv_at hl 1 rfl) ?_
  obtain ⟨r_5, e_5, hf⟩ := ob_bind hf
  have hPX_5 : va_P D vwCl ([((a 1), .inl (ct 0, 61, .inl (o.1 0)))]) s.heap := (P_one hP 1 rfl)
  refine ro_call1 (va_runSN (As := [.ref (a 1), .int v1]) (rest := []) ⟨hx, hb, hml, hown, htl⟩ (c_X9_pick l D ct G (a 1) fu 61 (o.1 0) v1 e_5) (cw_X8_X9_pick htl hN ⟨Nat.le_of_ble_eq_true rfl, Nat.le_of_ble_eq_true rfl⟩) ⟨Bx_blind, Bx_pre hPX_5 hK hN hX⟩ rfl rfl hl.1 rfl (lv_room (Nat.le_of_ble_eq_true rfl)) dX8_rainAt_5 ⟨Nat.zero_le _, Nat.zero_le _⟩) ?_
  rw [← hQQ]
  exact rf_i hx hb hr hlocks hf dX8_rainAt_8
theorem c_X8_rainAt (l : Launch) (D : va_G) (ct : Nat → ClassId) (G : GT) (a : Nat → Nat) (fu : Nat) (o : Ob) (v1 : Int32) {r : Int32} (hf : p_X8_rainAt fu o v1 = some r)  : Met l yX8_rainAt (.code yX8_rainAt cX8_rainAt 2 (some .int) :: wsL_law) rm_X8_rainAt (va_Pc [.ref (a 0), .int v1] (Bx D ct G (cs8 ct a o))) (Qro (some (.int r))) 0 0 (fun _ => False) := by
  refine Met.ofW (cc := cX8_rainAt) (maxL := 2) (ret := (some .int)) (by decide) rfl ?_
  intro p e s m args below meth c s₁ B hml hv
  obtain ⟨rfl, hP, hK, hN, hX⟩ := hv
  have hts := atoms_spec (ws := .code yX8_rainAt cX8_rainAt 2 (some .int) :: wsL_law) B.pre
  rw [lg_entry_eq]
  exact b_X8_rainAt a fu o v1 B.exec B.bytes B.returns hml (findClass_of_methodNamed B.named) (fun w h => hts w (List.mem_cons_of_mem _ h)) B.notSynchronized hK hN hX hP hf   (lv_entry [.ref (a 0), .int v1] (n := 2) (Nat.le_of_ble_eq_true rfl))
theorem cw_X8_X9_put {R : Room} {s : State} {args : Array Value} (ht : ∀ w ∈ wsL_law, w.before args s = true) (hN : ∀ w ∈ NW, va_Nw w s) (hR : rm_X9_put.frames + 1 ≤ R.frames ∧ 8 + (3 + 11) + rm_X9_put.locals ≤ R.locals) : va_CN R s args RX8 26 yX9_put "QuotedRiver" cX9_put 3 none ((.code yX9_put cX9_put 3 none) :: wsL_law) rm_X9_put 0 0 3 ∧ (Cond.static yX9_put).before args s = true ∧ True := ⟨va_cnB 3 ht (GL wq_8_11) rfl rfl rfl (hN _ nm_137) (ht _ wq_1_2) hd_X9_put hR, ht _ wq_8_10, trivial⟩
def p_X8_addRain (fu : Nat) (o : Ob) (v1 : Int32) (v2 : Int32) : Option (Ob) :=
  (p_X9_pick fu 61 (o.1 0) v1).bind fun r_10 => (p_X9_put fu 61 (o.1 0) v1 (r_10 + v2)).bind fun r_15 => some (oA o 0 r_15)
abbrev rm_X8_addRain : Room := { frames := 1, cells := 0, slots := 0, locals := 22 }
set_option maxHeartbeats 4000000 in
set_option maxRecDepth 100000 in
theorem b_X8_addRain {p : Program} {l : Launch} {e : Env} {s : State} {m : MethodId} {args : Array Value} {below : List Frame} {meth : Method} {c : Code} {ls : Array Slot} {D : va_G} {ct : Nat → ClassId} {G : GT} (a : Nat → Nat) (fu : Nat) (o : Ob) (v1 : Int32) (v2 : Int32) {r : Ob} (hx : p.tables.exec = Jvm.exec) (hb : c.code = cX8_addRain) (hr : meth.sig.returnType = none) (hml : c.maxLocals = 3) (hown : s.vm.findClass RX8 = some m.cls) (htl : ∀ w ∈ wsL_law, w.before args s = true) (hlocks : meth.locks = false) (hK : va_K D vwCl (tyl ct) s) (hN : ∀ w ∈ NW, va_Nw w s) (hX : SX G s s.heap) (hP0 : va_P D vwCl (cs8 ct a o) s.heap) (hf : p_X8_addRain fu o v1 v2 = some r) (hD0 : va_D (GE G) (cs8 ct a o))  (hl : lv_has ls 3 [(0, .ref (a 0)), (1, .int v1), (2, .int v2)]) : W p l e rm_X8_addRain s m args below meth c s.heap [] 0 0 (MQ below (Qwr none (fun H => va_P D vwCl (cs8 ct a r) H) (wA (cs8 ct a o))) args s 0 0 (wA (cs8 ct a o))) (F0 m 0 ls []) := by
  generalize hQQ : MQ below (Qwr none (fun H => va_P D vwCl (cs8 ct a r) H) (wA (cs8 ct a o))) args s 0 0 (wA (cs8 ct a o)) = QQ
  have hDx : ∀ (oy : Ob), va_D (GE G) (cs8 ct a oy) := fun oy => D_cr hD0 rfl
  have hDW : ∀ (oy : Ob), va_D (wA (cs8 ct a o)) (cs8 ct a oy) := fun oy => D_cr (D_self hD0) rfl
  have hGE : ∀ q, wA (cs8 ct a o) q → GE G q := wA_GE hD0
  have hP := hP0
  have hS : va_S (wA (cs8 ct a o)) s.heap s.heap [] := va_S.rf
  rw [p_X8_addRain] at hf
  refine lv_aload_n hx hb dX8_addRain_0 rfl (lv_at hl 0 rfl) ?_
  refine va_get (D := D) (ci := 8) (v := .ref (a 1)) (C := RX8) (T := TX8) (N := 3) hx hb htl inlX8 hown hK hP 0 rfl rfl 0 (by decide) (htl _ wq_5_7) (fun _ h9 => h9) rfl dX8_addRain_1 ?_
  refine lv_iload_n hx hb dX8_addRain_4 rfl (lv_at hl 1 rfl) ?_
  refine lv_aload_n hx hb dX8_addRain_5 rfl (lv_at hl 0 rfl) ?_
  refine va_get (D := D) (ci := 8) (v := .ref (a 1)) (C := RX8) (T := TX8) (N := 3) hx hb htl inlX8 hown hK hP 0 rfl rfl 0 (by decide) (htl _ wq_5_7) (fun _ h9 => h9) rfl dX8_addRain_6 ?_
  refine lv_iload_n hx hb dX8_addRain_9 rfl (lv_at hl 1 rfl) ?_
  obtain ⟨r_10, e_10, hf⟩ := ob_bind hf
  have hPX_10 : va_P D vwCl ([((a 1), .inl (ct 0, 61, .inl (o.1 0)))]) s.heap := (P_one hP 1 rfl)
  refine ro_call1 (va_runSN (As := [.ref (a 1), .int v1]) (rest := [.int v1, .ref (a 1)]) ⟨hx, hb, hml, hown, htl⟩ (c_X9_pick l D ct G (a 1) fu 61 (o.1 0) v1 e_10) (cw_X8_X9_pick htl hN ⟨Nat.le_of_ble_eq_true rfl, Nat.le_of_ble_eq_true rfl⟩) ⟨Bx_blind, Bx_pre hPX_10 hK hN (hX.stay hS hGE)⟩ rfl rfl hl.1 rfl (lv_room (Nat.le_of_ble_eq_true rfl)) dX8_addRain_10 ⟨Nat.zero_le _, Nat.zero_le _⟩) ?_
  refine lv_iload_n hx hb dX8_addRain_13 rfl (lv_at hl 2 rfl) ?_
  refine lv_iadd hx hb dX8_addRain_14 ?_
  obtain ⟨r_15, e_15, hf⟩ := ob_bind hf
  have hPX_15 : va_P D vwCl ([((a 1), .inl (ct 0, 61, .inl (o.1 0)))]) s.heap := (P_one hP 1 rfl)
  refine wr_call0 (va_runSN (As := [.ref (a 1), .int v1, .int (r_10 + v2)]) (rest := []) ⟨hx, hb, hml, hown, htl⟩ (c_X9_put l D ct G (a 1) fu 61 (o.1 0) v1 (r_10 + v2) e_15 ((hDx o).sub (ws' := [((a 1), .inl (ct 0, 61, .inl (o.1 0)))]) [1] (by decide) rfl)) (cw_X8_X9_put htl hN ⟨Nat.le_of_ble_eq_true rfl, Nat.le_of_ble_eq_true rfl⟩) ⟨Bx_blind, Bx_pre hPX_15 hK hN (hX.stay hS hGE)⟩ rfl rfl hl.1 rfl (lv_room (Nat.le_of_ble_eq_true rfl)) dX8_addRain_15 ⟨Nat.zero_le _, Nat.zero_le _⟩) hS (fun q h => wA_cg (w1 := cs8 ct a o) (w2 := cs8 ct a o) rfl q (wA_sub (w2 := cs8 ct a o) [1] rfl q h)) (fun H_15 locs_15 hB_15 _ hk_15 hS => ?_)
  have hP : va_P D vwCl (cs8 ct a (oA o 0 r_15)) H_15 := P_join hP (hDW o) [1] rfl rfl hk_15 hB_15
  rw [← hQQ]
  cases hf
  exact rw_v hx hb hr hlocks hP hS dX8_addRain_18
theorem c_X8_addRain (l : Launch) (D : va_G) (ct : Nat → ClassId) (G : GT) (a : Nat → Nat) (fu : Nat) (o : Ob) (v1 : Int32) (v2 : Int32) {r : Ob} (hf : p_X8_addRain fu o v1 v2 = some r)  (hD0 : va_D (GE G) (cs8 ct a o)) : Met l yX8_addRain (.code yX8_addRain cX8_addRain 3 none :: wsL_law) rm_X8_addRain (va_Pc [.ref (a 0), .int v1, .int v2] (Bx D ct G (cs8 ct a o))) (Qwr none (fun H => va_P D vwCl (cs8 ct a r) H) (wA (cs8 ct a o))) 0 0 (wA (cs8 ct a o)) := by
  refine Met.ofW (cc := cX8_addRain) (maxL := 3) (ret := none) (by decide) rfl ?_
  intro p e s m args below meth c s₁ B hml hv
  obtain ⟨rfl, hP, hK, hN, hX⟩ := hv
  have hts := atoms_spec (ws := .code yX8_addRain cX8_addRain 3 none :: wsL_law) B.pre
  rw [lg_entry_eq]
  exact b_X8_addRain a fu o v1 v2 B.exec B.bytes B.returns hml (findClass_of_methodNamed B.named) (fun w h => hts w (List.mem_cons_of_mem _ h)) B.notSynchronized hK hN hX hP hf hD0  (lv_entry [.ref (a 0), .int v1, .int v2] (n := 3) (Nat.le_of_ble_eq_true rfl))
theorem cw_X8_X9_copy {R : Room} {s : State} {args : Array Value} (ht : ∀ w ∈ wsL_law, w.before args s = true) (hN : ∀ w ∈ NW, va_Nw w s) (hR : rm_X9_copy.frames + 1 ≤ R.frames ∧ 8 + (3 + 11) + rm_X9_copy.locals ≤ R.locals) : va_CN R s args RX8 30 yX9_copy "QuotedRiver" cX9_copy 3 none ((.code yX9_copy cX9_copy 3 none) :: wsL_law) rm_X9_copy 0 0 2 ∧ (Cond.static yX9_copy).before args s = true ∧ True := ⟨va_cnB 2 ht (GL wq_15_2) rfl rfl rfl (hN _ nm_138) (ht _ wq_1_2) hd_X9_copy hR, ht _ wq_15_1, trivial⟩
def p_X8_become (fu : Nat) (o : Ob) (o1 : Ob) : Option (Ob) :=
  (p_X9_copy fu 61 (o1.1 0) 61 (o.1 0)).bind fun r_8 => (p_X9_copy fu 61 (o1.1 1) 61 ((oA o 0 r_8).1 1)).bind fun r_19 => some (oI (oA (oA o 0 r_8) 1 r_19) 2 (o1.1 2 0))
abbrev rm_X8_become : Room := { frames := 1, cells := 0, slots := 0, locals := 22 }
set_option maxHeartbeats 4000000 in
set_option maxRecDepth 100000 in
theorem b_X8_become {p : Program} {l : Launch} {e : Env} {s : State} {m : MethodId} {args : Array Value} {below : List Frame} {meth : Method} {c : Code} {ls : Array Slot} {D : va_G} {ct : Nat → ClassId} {G : GT} (a : Nat → Nat) (ab : Nat → Nat) (fu : Nat) (o : Ob) (o1 : Ob) {r : Ob} (hx : p.tables.exec = Jvm.exec) (hb : c.code = cX8_become) (hr : meth.sig.returnType = none) (hml : c.maxLocals = 2) (hown : s.vm.findClass RX8 = some m.cls) (htl : ∀ w ∈ wsL_law, w.before args s = true) (hlocks : meth.locks = false) (hK : va_K D vwCl (tyl ct) s) (hN : ∀ w ∈ NW, va_Nw w s) (hX : SX G s s.heap) (hP0 : va_P D vwCl (cs8 ct a o ++ (cs8 ct ab o1)) s.heap) (hf : p_X8_become fu o o1 = some r) (hD0 : va_D (GE G) (cs8 ct a o ++ (cs8 ct ab o1)))  (hl : lv_has ls 2 [(0, .ref (a 0)), (1, .ref (ab 0))]) : W p l e rm_X8_become s m args below meth c s.heap [] 0 0 (MQ below (Qwr none (fun H => va_P D vwCl (cs8 ct a r) H) (wA (cs8 ct a o))) args s 0 0 (wA (cs8 ct a o))) (F0 m 0 ls []) := by
  generalize hQQ : MQ below (Qwr none (fun H => va_P D vwCl (cs8 ct a r) H) (wA (cs8 ct a o))) args s 0 0 (wA (cs8 ct a o)) = QQ
  have hDx : ∀ (oy : Ob), va_D (GE G) (cs8 ct a oy ++ (cs8 ct ab o1)) := fun oy => D_cr hD0 rfl
  have hDW : ∀ (oy : Ob), va_D (wA (cs8 ct a o)) (cs8 ct a oy) := fun oy => D_cr (D_left hD0) rfl
  have hGE : ∀ q, wA (cs8 ct a o) q → GE G q := wA_GEl hD0
  have hP : va_P D vwCl (cs8 ct a o) s.heap := P_left hP0
  have hRR : ∀ (H : Heap) (locs : List Loc), va_S (wA (cs8 ct a o)) s.heap H locs → va_P D vwCl (cs8 ct ab o1) H := fun H locs hS => P_rest hD0 (P_right hP0) hS
  have hS : va_S (wA (cs8 ct a o)) s.heap s.heap [] := va_S.rf
  rw [p_X8_become] at hf
  refine lv_aload_n hx hb dX8_become_0 rfl (lv_at hl 1 rfl) ?_
  refine va_get (D := D) (ci := 8) (v := .ref (ab 1)) (C := RX8) (T := TX8) (N := 3) hx hb htl inlX8 hown hK (hRR _ _ hS) 0 rfl rfl 0 (by decide) (htl _ wq_5_7) (fun _ h9 => h9) rfl dX8_become_1 ?_
  refine lv_aload_n hx hb dX8_become_4 rfl (lv_at hl 0 rfl) ?_
  refine va_get (D := D) (ci := 8) (v := .ref (a 1)) (C := RX8) (T := TX8) (N := 3) hx hb htl inlX8 hown hK hP 0 rfl rfl 0 (by decide) (htl _ wq_5_7) (fun _ h9 => h9) rfl dX8_become_5 ?_
  obtain ⟨r_8, e_8, hf⟩ := ob_bind hf
  have hPX_8 : va_P D vwCl ([((a 1), .inl (ct 0, 61, .inl (o.1 0)))] ++ ([((ab 1), .inl (ct 0, 61, .inl (o1.1 0)))])) s.heap := (va_P.app (P_one hP 1 rfl) (P_one (hRR _ _ hS) 1 rfl))
  refine wr_call0 (va_runSN (As := [.ref (ab 1), .ref (a 1)]) (rest := []) ⟨hx, hb, hml, hown, htl⟩ (c_X9_copy l D ct G (ab 1) (a 1) fu 61 (o1.1 0) 61 (o.1 0) e_8 ((hDx o).sub (ws' := [((a 1), .inl (ct 0, 61, .inl (o.1 0)))] ++ ([((ab 1), .inl (ct 0, 61, .inl (o1.1 0)))])) [1, 4] (by decide) rfl)) (cw_X8_X9_copy htl hN ⟨Nat.le_of_ble_eq_true rfl, Nat.le_of_ble_eq_true rfl⟩) ⟨Bx_blind, Bx_pre hPX_8 hK hN (hX.stay hS hGE)⟩ rfl rfl hl.1 rfl (lv_room (Nat.le_of_ble_eq_true rfl)) dX8_become_8 ⟨Nat.zero_le _, Nat.zero_le _⟩) hS (fun q h => wA_cg (w1 := cs8 ct a o) (w2 := cs8 ct a o) rfl q (wA_sub (w2 := cs8 ct a o) [1] rfl q h)) (fun H_8 locs_8 hB_8 _ hk_8 hS => ?_)
  have hP : va_P D vwCl (cs8 ct a (oA o 0 r_8)) H_8 := P_join hP (hDW o) [1] rfl rfl hk_8 hB_8
  refine lv_aload_n hx hb dX8_become_11 rfl (lv_at hl 1 rfl) ?_
  refine va_get (D := D) (ci := 8) (v := .ref (ab 2)) (C := RX8) (T := TX8) (N := 3) hx hb htl inlX8 hown hK (hRR _ _ hS) 0 rfl rfl 1 (by decide) (htl _ wq_5_8) (fun _ h9 => h9) rfl dX8_become_12 ?_
  refine lv_aload_n hx hb dX8_become_15 rfl (lv_at hl 0 rfl) ?_
  refine va_get (D := D) (ci := 8) (v := .ref (a 2)) (C := RX8) (T := TX8) (N := 3) hx hb htl inlX8 hown hK hP 0 rfl rfl 1 (by decide) (htl _ wq_5_8) (fun _ h9 => h9) rfl dX8_become_16 ?_
  obtain ⟨r_19, e_19, hf⟩ := ob_bind hf
  have hPX_19 : va_P D vwCl ([((a 2), .inl (ct 0, 61, .inl ((oA o 0 r_8).1 1)))] ++ ([((ab 2), .inl (ct 0, 61, .inl (o1.1 1)))])) H_8 := (va_P.app (P_one hP 2 rfl) (P_one (hRR _ _ hS) 2 rfl))
  refine wr_call0 (va_runSN (As := [.ref (ab 2), .ref (a 2)]) (rest := []) ⟨hx, hb, hml, hown, htl⟩ (c_X9_copy l D ct G (ab 2) (a 2) fu 61 (o1.1 1) 61 ((oA o 0 r_8).1 1) e_19 ((hDx (oA o 0 r_8)).sub (ws' := [((a 2), .inl (ct 0, 61, .inl ((oA o 0 r_8).1 1)))] ++ ([((ab 2), .inl (ct 0, 61, .inl (o1.1 1)))])) [2, 5] (by decide) rfl)) (cw_X8_X9_copy htl hN ⟨Nat.le_of_ble_eq_true rfl, Nat.le_of_ble_eq_true rfl⟩) ⟨Bx_blind, Bx_pre hPX_19 hK hN (hX.stay hS hGE)⟩ rfl rfl hl.1 rfl (lv_room (Nat.le_of_ble_eq_true rfl)) dX8_become_19 ⟨Nat.zero_le _, Nat.zero_le _⟩) hS (fun q h => wA_cg (w1 := cs8 ct a (oA o 0 r_8)) (w2 := cs8 ct a o) rfl q (wA_sub (w2 := cs8 ct a (oA o 0 r_8)) [2] rfl q h)) (fun H_19 locs_19 hB_19 _ hk_19 hS => ?_)
  have hP : va_P D vwCl (cs8 ct a (oA (oA o 0 r_8) 1 r_19)) H_19 := P_join hP (hDW (oA o 0 r_8)) [2] rfl rfl hk_19 hB_19
  refine lv_aload_n hx hb dX8_become_22 rfl (lv_at hl 0 rfl) ?_
  refine lv_aload_n hx hb dX8_become_23 rfl (lv_at hl 1 rfl) ?_
  refine va_get (D := D) (ci := 8) (v := .int (o1.1 2 0)) (C := RX8) (T := TX8) (N := 3) hx hb htl inlX8 hown hK (hRR _ _ hS) 0 rfl rfl 2 (by decide) (htl _ wq_5_9) (fun _ h9 => h9) rfl dX8_become_24 ?_
  refine va_put (D := D) (ci := 8) (v := .int (o1.1 2 0)) (ty := .int) (C := RX8) (T := TX8) (N := 3) hx hb htl inlX8 tyX8 tyX8_ok nmX8 hown hK hP (hDW (oA (oA o 0 r_8) 1 r_19)) hS 0 rfl rfl 2 (by decide) (htl _ wq_5_9) (fun _ h9 => h9) rfl (tyX8_ok 2 (by decide)) rfl rfl (Nat.le_of_ble_eq_true rfl) dX8_become_27 (fun H_27 locs_27 hP _ hS => ?_)
  have hP : va_P D vwCl (cs8 ct a (oI (oA (oA o 0 r_8) 1 r_19) 2 (o1.1 2 0))) H_27 := st8_2 hP
  rw [← hQQ]
  cases hf
  exact rw_v hx hb hr hlocks hP hS dX8_become_30
theorem c_X8_become (l : Launch) (D : va_G) (ct : Nat → ClassId) (G : GT) (a : Nat → Nat) (ab : Nat → Nat) (fu : Nat) (o : Ob) (o1 : Ob) {r : Ob} (hf : p_X8_become fu o o1 = some r)  (hD0 : va_D (GE G) (cs8 ct a o ++ (cs8 ct ab o1))) : Met l yX8_become (.code yX8_become cX8_become 2 none :: wsL_law) rm_X8_become (va_Pc [.ref (a 0), .ref (ab 0)] (Bx D ct G (cs8 ct a o ++ (cs8 ct ab o1)))) (Qwr none (fun H => va_P D vwCl (cs8 ct a r) H) (wA (cs8 ct a o))) 0 0 (wA (cs8 ct a o)) := by
  refine Met.ofW (cc := cX8_become) (maxL := 2) (ret := none) (by decide) rfl ?_
  intro p e s m args below meth c s₁ B hml hv
  obtain ⟨rfl, hP, hK, hN, hX⟩ := hv
  have hts := atoms_spec (ws := .code yX8_become cX8_become 2 none :: wsL_law) B.pre
  rw [lg_entry_eq]
  exact b_X8_become a ab fu o o1 B.exec B.bytes B.returns hml (findClass_of_methodNamed B.named) (fun w h => hts w (List.mem_cons_of_mem _ h)) B.notSynchronized hK hN hX hP hf hD0  (lv_entry [.ref (a 0), .ref (ab 0)] (n := 2) (Nat.le_of_ble_eq_true rfl))
theorem hd_X8_rainAt : yX8_rainAt.cls ≠ "java/lang/invoke/MethodHandle" ∧ yX8_rainAt.cls ≠ "java/lang/invoke/VarHandle" ∧ (parseMethodDescriptor yX8_rainAt.desc).map (fun d => d.parameters.length) = some 1 := by decide +kernel
theorem cw_X8_X8_rainAt {R : Room} {s : State} {args : Array Value} (ht : ∀ w ∈ wsL_law, w.before args s = true) (hR : rm_X8_rainAt.frames + 1 ≤ R.frames ∧ 8 + (2 + 11) + rm_X8_rainAt.locals ≤ R.locals) : CallW R s args RX8 RX8 75 yX8_rainAt cX8_rainAt 2 (some .int) ((.code yX8_rainAt cX8_rainAt 2 (some .int)) :: wsL_law) rm_X8_rainAt 0 0 1 := cwV 1 ht (GV wq_15_23 wq_16_0 wq_16_1 wq_2_6 wq_16_2) rfl rfl rfl ⟨rfl, hd_X8_rainAt⟩ hR
def p_X8_fall_L19 (fu : Nat)  : Nat → Ob → Int32 → Int32 → Option (Ob)
  | 0, _, _, _ => none
  | n + 1, oz, v2, v3 =>
    if (60 : Int32) < v3 then some oz else (p_X8_rainAt fu oz v3).bind fun r_34 => (p_X9_put fu 61 (oz.1 1) v3 ((if (0 : Int32) < (v2 - 1) then (v2 - 1) else (0 : Int32)) + r_34)).bind fun r_45 => p_X8_fall_L19 fu  n (oA oz 1 r_45) ((if (0 : Int32) < (v2 - 1) then (v2 - 1) else (0 : Int32)) + r_34) (v3 + 1)
def p_X8_fall (fu : Nat) (o : Ob) (v1 : Int32) : Option (Ob) :=
  (p_X8_rainAt fu o (0 : Int32)).bind fun r_3 => (p_X9_put fu 61 (o.1 1) (0 : Int32) (v1 + r_3)).bind fun r_14 => p_X8_fall_L19 fu fu (oA o 1 r_14) (v1 + r_3) 1
abbrev rm_X8_fall : Room := { frames := 2, cells := 0, slots := 0, locals := 42 }
set_option maxHeartbeats 4000000 in
set_option maxRecDepth 100000 in
theorem b_X8_fall {p : Program} {l : Launch} {e : Env} {s : State} {m : MethodId} {args : Array Value} {below : List Frame} {meth : Method} {c : Code} {ls : Array Slot} {D : va_G} {ct : Nat → ClassId} {G : GT} (a : Nat → Nat) (fu : Nat) (o : Ob) (v1 : Int32) {r : Ob} (hx : p.tables.exec = Jvm.exec) (hb : c.code = cX8_fall) (hr : meth.sig.returnType = none) (hml : c.maxLocals = 4) (hown : s.vm.findClass RX8 = some m.cls) (htl : ∀ w ∈ wsL_law, w.before args s = true) (hlocks : meth.locks = false) (hK : va_K D vwCl (tyl ct) s) (hN : ∀ w ∈ NW, va_Nw w s) (hX : SX G s s.heap) (hP0 : va_P D vwCl (cs8 ct a o) s.heap) (hf : p_X8_fall fu o v1 = some r) (hD0 : va_D (GE G) (cs8 ct a o))  (hl : lv_has ls 4 [(0, .ref (a 0)), (1, .int v1)]) : W p l e rm_X8_fall s m args below meth c s.heap [] 0 0 (MQ below (Qwr none (fun H => va_P D vwCl (cs8 ct a r) H) (wA (cs8 ct a o))) args s 0 0 (wA (cs8 ct a o))) (F0 m 0 ls []) := by
  generalize hQQ : MQ below (Qwr none (fun H => va_P D vwCl (cs8 ct a r) H) (wA (cs8 ct a o))) args s 0 0 (wA (cs8 ct a o)) = QQ
  have hDx : ∀ (oy : Ob), va_D (GE G) (cs8 ct a oy) := fun oy => D_cr hD0 rfl
  have hDW : ∀ (oy : Ob), va_D (wA (cs8 ct a o)) (cs8 ct a oy) := fun oy => D_cr (D_self hD0) rfl
  have hGE : ∀ q, wA (cs8 ct a o) q → GE G q := wA_GE hD0
  have hP := hP0
  have hS : va_S (wA (cs8 ct a o)) s.heap s.heap [] := va_S.rf
  have hL19 : ∀ (n : Nat) (oz : Ob) (v2 : Int32) (v3 : Int32), ∀ (H : Heap) (locs : List Loc) (ls : Array Slot), va_P D vwCl (cs8 ct a oz) H → va_S (wA (cs8 ct a o)) s.heap H locs → lv_has ls 4 [(0, .ref (a 0)), (2, .int v2), (3, .int v3)] → p_X8_fall_L19 fu  n oz v2 v3 = some r → W p l e rm_X8_fall s m args below meth c H locs 0 0 QQ (F0 m 19 ls []) := by
    intro  n
    induction n with
    | zero =>
      intro oz v2 v3 H locs ls hP hS hl hf 
      rw [p_X8_fall_L19] at hf
      cases hf
    | succ n ih =>
      intro oz v2 v3 H locs ls hP hS hl hf 
      rw [p_X8_fall_L19] at hf
      refine lv_iload_n hx hb dX8_fall_19 rfl (lv_at hl 2 rfl) ?_
      refine lv_bipush (v := 60) hx hb dX8_fall_20 (by decide) ?_
      refine lv_icmp_gt (tgt := 54) hx hb dX8_fall_22 (by decide) (fun c_22 => ?_) (fun c_22 => ?_)
      · rw [if_pos c_22] at hf
        rw [← hQQ]
        cases hf
        exact rw_v hx hb hr hlocks hP hS dX8_fall_54
      rw [if_neg c_22] at hf
      refine lv_iconst (v := 0) hx hb dX8_fall_25 (by decide) ?_
      refine lv_iload_n hx hb dX8_fall_26 rfl (lv_at hl 1 rfl) ?_
      refine lv_iconst (v := 1) hx hb dX8_fall_27 (by decide) ?_
      refine lv_isub hx hb dX8_fall_28 ?_
      refine va_mmax hx hb (hml.trans hl.1.symm) hown (htl _ wq_15_20) (htl _ wq_15_21) (htl _ wq_12_23) (htl _ wq_15_22) (Nat.le_of_ble_eq_true rfl) (Nat.le_of_ble_eq_true rfl) (Nat.zero_le _) (Nat.zero_le _) dX8_fall_29 ?_
      refine lv_aload_n hx hb dX8_fall_32 rfl (lv_at hl 0 rfl) ?_
      refine lv_iload_n hx hb dX8_fall_33 rfl (lv_at hl 2 rfl) ?_
      obtain ⟨r_34, e_34, hf⟩ := ob_bind hf
      have hPX_34 : va_P D vwCl (cs8 ct a oz) H := hP
      refine ro_call1 (va_runV (As := [.int v3]) (rest := [.int (if (0 : Int32) < (v2 - 1) then (v2 - 1) else (0 : Int32))]) ⟨hx, hb, hml, hown, htl⟩ (c_X8_rainAt l D ct G a fu oz v3 e_34) (cw_X8_X8_rainAt htl ⟨Nat.le_of_ble_eq_true rfl, Nat.le_of_ble_eq_true rfl⟩) ⟨Bx_blind, va_recv hK hPX_34 (ci := 8) (q0 := 0) rfl rfl, Bx_pre hPX_34 hK hN (hX.stay hS hGE)⟩ rfl rfl hl.1 rfl (lv_room (Nat.le_of_ble_eq_true rfl)) dX8_fall_34 ⟨Nat.zero_le _, Nat.zero_le _⟩) ?_
      refine lv_iadd hx hb dX8_fall_37 ?_
      refine lv_istore_n (lv' := [(2, .int ((if (0 : Int32) < (v2 - 1) then (v2 - 1) else (0 : Int32)) + r_34)), (0, .ref (a 0)), (3, .int v3)]) hx hb dX8_fall_38 rfl hl (by decide) rfl (fun ls hl => ?_)
      refine lv_aload_n hx hb dX8_fall_39 rfl (lv_at hl 1 rfl) ?_
      refine va_get (D := D) (ci := 8) (v := .ref (a 2)) (C := RX8) (T := TX8) (N := 3) hx hb htl inlX8 hown hK hP 0 rfl rfl 1 (by decide) (htl _ wq_5_8) (fun _ h9 => h9) rfl dX8_fall_40 ?_
      refine lv_iload_n hx hb dX8_fall_43 rfl (lv_at hl 2 rfl) ?_
      refine lv_iload_n hx hb dX8_fall_44 rfl (lv_at hl 0 rfl) ?_
      obtain ⟨r_45, e_45, hf⟩ := ob_bind hf
      have hPX_45 : va_P D vwCl ([((a 2), .inl (ct 0, 61, .inl (oz.1 1)))]) H := (P_one hP 2 rfl)
      refine wr_call0 (va_runSN (As := [.ref (a 2), .int v3, .int ((if (0 : Int32) < (v2 - 1) then (v2 - 1) else (0 : Int32)) + r_34)]) (rest := []) ⟨hx, hb, hml, hown, htl⟩ (c_X9_put l D ct G (a 2) fu 61 (oz.1 1) v3 ((if (0 : Int32) < (v2 - 1) then (v2 - 1) else (0 : Int32)) + r_34) e_45 ((hDx oz).sub (ws' := [((a 2), .inl (ct 0, 61, .inl (oz.1 1)))]) [2] (by decide) rfl)) (cw_X8_X9_put htl hN ⟨Nat.le_of_ble_eq_true rfl, Nat.le_of_ble_eq_true rfl⟩) ⟨Bx_blind, Bx_pre hPX_45 hK hN (hX.stay hS hGE)⟩ rfl rfl hl.1 rfl (lv_room (Nat.le_of_ble_eq_true rfl)) dX8_fall_45 ⟨Nat.zero_le _, Nat.zero_le _⟩) hS (fun q h => wA_cg (w1 := cs8 ct a oz) (w2 := cs8 ct a o) rfl q (wA_sub (w2 := cs8 ct a oz) [2] rfl q h)) (fun H_45 locs_45 hB_45 _ hk_45 hS => ?_)
      have hP : va_P D vwCl (cs8 ct a (oA oz 1 r_45)) H_45 := P_join hP (hDW oz) [2] rfl rfl hk_45 hB_45
      refine lv_iinc (v := (v3 + 1)) (lv' := [(3, .int (v3 + 1)), (2, .int ((if (0 : Int32) < (v2 - 1) then (v2 - 1) else (0 : Int32)) + r_34)), (0, .ref (a 0))]) hx hb dX8_fall_48 hl (k := 2) rfl rfl (by decide) rfl (fun ls hl => ?_)
      refine lv_goto (tgt := 19) hx hb dX8_fall_51 (by decide) ?_
      exact ih (oA oz 1 r_45) ((if (0 : Int32) < (v2 - 1) then (v2 - 1) else (0 : Int32)) + r_34) (v3 + 1) _ _ _ hP hS (lv_sub hl [2, 1, 0] rfl) hf 
  rw [p_X8_fall] at hf
  refine lv_iload_n hx hb dX8_fall_0 rfl (lv_at hl 1 rfl) ?_
  refine lv_aload_n hx hb dX8_fall_1 rfl (lv_at hl 0 rfl) ?_
  refine lv_iconst (v := 0) hx hb dX8_fall_2 (by decide) ?_
  obtain ⟨r_3, e_3, hf⟩ := ob_bind hf
  have hPX_3 : va_P D vwCl (cs8 ct a o) s.heap := hP
  refine ro_call1 (va_runV (As := [.int 0]) (rest := [.int v1]) ⟨hx, hb, hml, hown, htl⟩ (c_X8_rainAt l D ct G a fu o (0 : Int32) e_3) (cw_X8_X8_rainAt htl ⟨Nat.le_of_ble_eq_true rfl, Nat.le_of_ble_eq_true rfl⟩) ⟨Bx_blind, va_recv hK hPX_3 (ci := 8) (q0 := 0) rfl rfl, Bx_pre hPX_3 hK hN (hX.stay hS hGE)⟩ rfl rfl hl.1 rfl (lv_room (Nat.le_of_ble_eq_true rfl)) dX8_fall_3 ⟨Nat.zero_le _, Nat.zero_le _⟩) ?_
  refine lv_iadd hx hb dX8_fall_6 ?_
  refine lv_istore_n (lv' := [(2, .int (v1 + r_3)), (0, .ref (a 0)), (1, .int v1)]) hx hb dX8_fall_7 rfl hl (by decide) rfl (fun ls hl => ?_)
  refine lv_aload_n hx hb dX8_fall_8 rfl (lv_at hl 1 rfl) ?_
  refine va_get (D := D) (ci := 8) (v := .ref (a 2)) (C := RX8) (T := TX8) (N := 3) hx hb htl inlX8 hown hK hP 0 rfl rfl 1 (by decide) (htl _ wq_5_8) (fun _ h9 => h9) rfl dX8_fall_9 ?_
  refine lv_iconst (v := 0) hx hb dX8_fall_12 (by decide) ?_
  refine lv_iload_n hx hb dX8_fall_13 rfl (lv_at hl 0 rfl) ?_
  obtain ⟨r_14, e_14, hf⟩ := ob_bind hf
  have hPX_14 : va_P D vwCl ([((a 2), .inl (ct 0, 61, .inl (o.1 1)))]) s.heap := (P_one hP 2 rfl)
  refine wr_call0 (va_runSN (As := [.ref (a 2), .int 0, .int (v1 + r_3)]) (rest := []) ⟨hx, hb, hml, hown, htl⟩ (c_X9_put l D ct G (a 2) fu 61 (o.1 1) (0 : Int32) (v1 + r_3) e_14 ((hDx o).sub (ws' := [((a 2), .inl (ct 0, 61, .inl (o.1 1)))]) [2] (by decide) rfl)) (cw_X8_X9_put htl hN ⟨Nat.le_of_ble_eq_true rfl, Nat.le_of_ble_eq_true rfl⟩) ⟨Bx_blind, Bx_pre hPX_14 hK hN (hX.stay hS hGE)⟩ rfl rfl hl.1 rfl (lv_room (Nat.le_of_ble_eq_true rfl)) dX8_fall_14 ⟨Nat.zero_le _, Nat.zero_le _⟩) hS (fun q h => wA_cg (w1 := cs8 ct a o) (w2 := cs8 ct a o) rfl q (wA_sub (w2 := cs8 ct a o) [2] rfl q h)) (fun H_14 locs_14 hB_14 _ hk_14 hS => ?_)
  have hP : va_P D vwCl (cs8 ct a (oA o 1 r_14)) H_14 := P_join hP (hDW o) [2] rfl rfl hk_14 hB_14
  refine lv_iconst (v := 1) hx hb dX8_fall_17 (by decide) ?_
  refine lv_istore_n (lv' := [(3, .int 1), (2, .int (v1 + r_3)), (0, .ref (a 0)), (1, .int v1)]) hx hb dX8_fall_18 rfl hl (by decide) rfl (fun ls hl => ?_)
  exact hL19 fu (oA o 1 r_14) (v1 + r_3) 1 _ _ _ hP hS (lv_sub hl [2, 1, 0] rfl) hf 
theorem c_X8_fall (l : Launch) (D : va_G) (ct : Nat → ClassId) (G : GT) (a : Nat → Nat) (fu : Nat) (o : Ob) (v1 : Int32) {r : Ob} (hf : p_X8_fall fu o v1 = some r)  (hD0 : va_D (GE G) (cs8 ct a o)) : Met l yX8_fall (.code yX8_fall cX8_fall 4 none :: wsL_law) rm_X8_fall (va_Pc [.ref (a 0), .int v1] (Bx D ct G (cs8 ct a o))) (Qwr none (fun H => va_P D vwCl (cs8 ct a r) H) (wA (cs8 ct a o))) 0 0 (wA (cs8 ct a o)) := by
  refine Met.ofW (cc := cX8_fall) (maxL := 4) (ret := none) (by decide) rfl ?_
  intro p e s m args below meth c s₁ B hml hv
  obtain ⟨rfl, hP, hK, hN, hX⟩ := hv
  have hts := atoms_spec (ws := .code yX8_fall cX8_fall 4 none :: wsL_law) B.pre
  rw [lg_entry_eq]
  exact b_X8_fall a fu o v1 B.exec B.bytes B.returns hml (findClass_of_methodNamed B.named) (fun w h => hts w (List.mem_cons_of_mem _ h)) B.notSynchronized hK hN hX hP hf hD0  (lv_entry [.ref (a 0), .int v1] (n := 4) (Nat.le_of_ble_eq_true rfl))
theorem cw_X8_X9_bit {R : Room} {s : State} {args : Array Value} (ht : ∀ w ∈ wsL_law, w.before args s = true) (hN : ∀ w ∈ NW, va_Nw w s) (hR : rm_X9_bit.frames + 1 ≤ R.frames ∧ 8 + (1 + 11) + rm_X9_bit.locals ≤ R.locals) : va_CN R s args RX8 71 yX9_bit "QuotedRiver" cX9_bit 1 (some .int) ((.code yX9_bit cX9_bit 1 (some .int)) :: wsL_law) rm_X9_bit 0 0 1 ∧ (Cond.static yX9_bit).before args s = true ∧ True := ⟨va_cnB 1 ht (GL wq_15_15) rfl rfl rfl (hN _ nm_139) (ht _ wq_1_2) hd_X9_bit hR, ht _ wq_15_14, trivial⟩
theorem hd_X8_addRain : yX8_addRain.cls ≠ "java/lang/invoke/MethodHandle" ∧ yX8_addRain.cls ≠ "java/lang/invoke/VarHandle" ∧ (parseMethodDescriptor yX8_addRain.desc).map (fun d => d.parameters.length) = some 2 := by decide +kernel
theorem cw_X8_X8_addRain {R : Room} {s : State} {args : Array Value} (ht : ∀ w ∈ wsL_law, w.before args s = true) (hR : rm_X8_addRain.frames + 1 ≤ R.frames ∧ 8 + (3 + 11) + rm_X8_addRain.locals ≤ R.locals) : CallW R s args RX8 RX8 44 yX8_addRain cX8_addRain 3 none ((.code yX8_addRain cX8_addRain 3 none) :: wsL_law) rm_X8_addRain 0 0 2 := cwV 2 ht (GV wq_15_6 wq_15_7 wq_15_8 wq_2_6 wq_15_9) rfl rfl rfl ⟨rfl, hd_X8_addRain⟩ hR
def p_X8_redo (fu : Nat) (o : Ob) (v1 : Int32) (v2 : Int32) (v3 : Int32) : Option (Ob) :=
  if v1 = (2 : Int32) then (p_X8_addRain fu o v2 v3).bind fun r_8 => some r_8 else if v3 = (1 : Int32) then (p_X9_bit fu v2).bind fun r_25 => some (oI o 2 ((o.1 2 0) ||| r_25)) else (p_X9_bit fu v2).bind fun r_41 => some (oI o 2 ((o.1 2 0) &&& (r_41 ^^^ (-1))))
abbrev rm_X8_redo : Room := { frames := 2, cells := 0, slots := 0, locals := 44 }
set_option maxHeartbeats 4000000 in
set_option maxRecDepth 100000 in
theorem b_X8_redo {p : Program} {l : Launch} {e : Env} {s : State} {m : MethodId} {args : Array Value} {below : List Frame} {meth : Method} {c : Code} {ls : Array Slot} {D : va_G} {ct : Nat → ClassId} {G : GT} (a : Nat → Nat) (fu : Nat) (o : Ob) (v1 : Int32) (v2 : Int32) (v3 : Int32) {r : Ob} (hx : p.tables.exec = Jvm.exec) (hb : c.code = cX8_redo) (hr : meth.sig.returnType = none) (hml : c.maxLocals = 4) (hown : s.vm.findClass RX8 = some m.cls) (htl : ∀ w ∈ wsL_law, w.before args s = true) (hlocks : meth.locks = false) (hK : va_K D vwCl (tyl ct) s) (hN : ∀ w ∈ NW, va_Nw w s) (hX : SX G s s.heap) (hP0 : va_P D vwCl (cs8 ct a o) s.heap) (hf : p_X8_redo fu o v1 v2 v3 = some r) (hD0 : va_D (GE G) (cs8 ct a o))  (hl : lv_has ls 4 [(0, .ref (a 0)), (1, .int v1), (2, .int v2), (3, .int v3)]) : W p l e rm_X8_redo s m args below meth c s.heap [] 0 0 (MQ below (Qwr none (fun H => va_P D vwCl (cs8 ct a r) H) (wA (cs8 ct a o))) args s 0 0 (wA (cs8 ct a o))) (F0 m 0 ls []) := by
  generalize hQQ : MQ below (Qwr none (fun H => va_P D vwCl (cs8 ct a r) H) (wA (cs8 ct a o))) args s 0 0 (wA (cs8 ct a o)) = QQ
  have hDx : ∀ (oy : Ob), va_D (GE G) (cs8 ct a oy) := fun oy => D_cr hD0 rfl
  have hDW : ∀ (oy : Ob), va_D (wA (cs8 ct a o)) (cs8 ct a oy) := fun oy => D_cr (D_self hD0) rfl
  have hGE : ∀ q, wA (cs8 ct a o) q → GE G q := wA_GE hD0
  have hP := hP0
  have hS : va_S (wA (cs8 ct a o)) s.heap s.heap [] := va_S.rf
  rw [p_X8_redo] at hf
  refine lv_iload_n hx hb dX8_redo_0 rfl (lv_at hl 1 rfl) ?_
  refine lv_iconst (v := 2) hx hb dX8_redo_1 (by decide) ?_
  refine lv_icmp_ne (tgt := 14) hx hb dX8_redo_2 (by decide) (fun c_2 => ?_) (fun c_2 => ?_)
  rotate_left 1
  · rw [if_pos c_2] at hf
    refine lv_aload_n hx hb dX8_redo_5 rfl (lv_at hl 0 rfl) ?_
    refine lv_iload_n hx hb dX8_redo_6 rfl (lv_at hl 2 rfl) ?_
    refine lv_iload_n hx hb dX8_redo_7 rfl (lv_at hl 3 rfl) ?_
    obtain ⟨r_8, e_8, hf⟩ := ob_bind hf
    have hPX_8 : va_P D vwCl (cs8 ct a o) s.heap := hP
    refine wr_call0 (va_runV (As := [.int v2, .int v3]) (rest := []) ⟨hx, hb, hml, hown, htl⟩ (c_X8_addRain l D ct G a fu o v2 v3 e_8 (hDx o)) (cw_X8_X8_addRain htl ⟨Nat.le_of_ble_eq_true rfl, Nat.le_of_ble_eq_true rfl⟩) ⟨Bx_blind, va_recv hK hPX_8 (ci := 8) (q0 := 0) rfl rfl, Bx_pre hPX_8 hK hN (hX.stay hS hGE)⟩ rfl rfl hl.1 rfl (lv_room (Nat.le_of_ble_eq_true rfl)) dX8_redo_8 ⟨Nat.zero_le _, Nat.zero_le _⟩) hS (wA_cg rfl) (fun H_8 locs_8 hB_8 _ hk_8 hS => ?_)
    have hP : va_P D vwCl (cs8 ct a r_8) H_8 := hB_8
    refine lv_goto (tgt := 50) hx hb dX8_redo_11 (by decide) ?_
    rw [← hQQ]
    cases hf
    exact rw_v hx hb hr hlocks hP hS dX8_redo_50
  rw [if_neg c_2] at hf
  refine lv_iload_n hx hb dX8_redo_14 rfl (lv_at hl 3 rfl) ?_
  refine lv_iconst (v := 1) hx hb dX8_redo_15 (by decide) ?_
  refine lv_icmp_ne (tgt := 35) hx hb dX8_redo_16 (by decide) (fun c_16 => ?_) (fun c_16 => ?_)
  rotate_left 1
  · rw [if_pos c_16] at hf
    refine lv_aload_n hx hb dX8_redo_19 rfl (lv_at hl 0 rfl) ?_
    refine lv_dup hx hb dX8_redo_20 rfl ?_
    refine va_get (D := D) (ci := 8) (v := .int (o.1 2 0)) (C := RX8) (T := TX8) (N := 3) hx hb htl inlX8 hown hK hP 0 rfl rfl 2 (by decide) (htl _ wq_5_9) (fun _ h9 => h9) rfl dX8_redo_21 ?_
    refine lv_iload_n hx hb dX8_redo_24 rfl (lv_at hl 2 rfl) ?_
    obtain ⟨r_25, e_25, hf⟩ := ob_bind hf
    have hPX_25 : va_P D vwCl ([]) s.heap := P_nil
    refine ro_call1 (va_runSN (As := [.int v2]) (rest := [.int (o.1 2 0), .ref (a 0)]) ⟨hx, hb, hml, hown, htl⟩ (c_X9_bit l D ct G fu v2 e_25) (cw_X8_X9_bit htl hN ⟨Nat.le_of_ble_eq_true rfl, Nat.le_of_ble_eq_true rfl⟩) ⟨Bx_blind, Bx_pre hPX_25 hK hN (hX.stay hS hGE)⟩ rfl rfl hl.1 rfl (lv_room (Nat.le_of_ble_eq_true rfl)) dX8_redo_25 ⟨Nat.zero_le _, Nat.zero_le _⟩) ?_
    refine lv_ior hx hb dX8_redo_28 ?_
    refine va_put (D := D) (ci := 8) (v := .int ((o.1 2 0) ||| r_25)) (ty := .int) (C := RX8) (T := TX8) (N := 3) hx hb htl inlX8 tyX8 tyX8_ok nmX8 hown hK hP (hDW o) hS 0 rfl rfl 2 (by decide) (htl _ wq_5_9) (fun _ h9 => h9) rfl (tyX8_ok 2 (by decide)) rfl rfl (Nat.le_of_ble_eq_true rfl) dX8_redo_29 (fun H_29 locs_29 hP _ hS => ?_)
    have hP : va_P D vwCl (cs8 ct a (oI o 2 ((o.1 2 0) ||| r_25))) H_29 := st8_2 hP
    refine lv_goto (tgt := 50) hx hb dX8_redo_32 (by decide) ?_
    rw [← hQQ]
    cases hf
    exact rw_v hx hb hr hlocks hP hS dX8_redo_50
  rw [if_neg c_16] at hf
  refine lv_aload_n hx hb dX8_redo_35 rfl (lv_at hl 0 rfl) ?_
  refine lv_dup hx hb dX8_redo_36 rfl ?_
  refine va_get (D := D) (ci := 8) (v := .int (o.1 2 0)) (C := RX8) (T := TX8) (N := 3) hx hb htl inlX8 hown hK hP 0 rfl rfl 2 (by decide) (htl _ wq_5_9) (fun _ h9 => h9) rfl dX8_redo_37 ?_
  refine lv_iload_n hx hb dX8_redo_40 rfl (lv_at hl 2 rfl) ?_
  obtain ⟨r_41, e_41, hf⟩ := ob_bind hf
  have hPX_41 : va_P D vwCl ([]) s.heap := P_nil
  refine ro_call1 (va_runSN (As := [.int v2]) (rest := [.int (o.1 2 0), .ref (a 0)]) ⟨hx, hb, hml, hown, htl⟩ (c_X9_bit l D ct G fu v2 e_41) (cw_X8_X9_bit htl hN ⟨Nat.le_of_ble_eq_true rfl, Nat.le_of_ble_eq_true rfl⟩) ⟨Bx_blind, Bx_pre hPX_41 hK hN (hX.stay hS hGE)⟩ rfl rfl hl.1 rfl (lv_room (Nat.le_of_ble_eq_true rfl)) dX8_redo_41 ⟨Nat.zero_le _, Nat.zero_le _⟩) ?_
  refine lv_iconst (v := (-1)) hx hb dX8_redo_44 (by decide) ?_
  refine lv_ixor hx hb dX8_redo_45 ?_
  refine lv_iand hx hb dX8_redo_46 ?_
  refine va_put (D := D) (ci := 8) (v := .int ((o.1 2 0) &&& (r_41 ^^^ (-1)))) (ty := .int) (C := RX8) (T := TX8) (N := 3) hx hb htl inlX8 tyX8 tyX8_ok nmX8 hown hK hP (hDW o) hS 0 rfl rfl 2 (by decide) (htl _ wq_5_9) (fun _ h9 => h9) rfl (tyX8_ok 2 (by decide)) rfl rfl (Nat.le_of_ble_eq_true rfl) dX8_redo_47 (fun H_47 locs_47 hP _ hS => ?_)
  have hP : va_P D vwCl (cs8 ct a (oI o 2 ((o.1 2 0) &&& (r_41 ^^^ (-1))))) H_47 := st8_2 hP
  rw [← hQQ]
  cases hf
  exact rw_v hx hb hr hlocks hP hS dX8_redo_50
theorem c_X8_redo (l : Launch) (D : va_G) (ct : Nat → ClassId) (G : GT) (a : Nat → Nat) (fu : Nat) (o : Ob) (v1 : Int32) (v2 : Int32) (v3 : Int32) {r : Ob} (hf : p_X8_redo fu o v1 v2 v3 = some r)  (hD0 : va_D (GE G) (cs8 ct a o)) : Met l yX8_redo (.code yX8_redo cX8_redo 4 none :: wsL_law) rm_X8_redo (va_Pc [.ref (a 0), .int v1, .int v2, .int v3] (Bx D ct G (cs8 ct a o))) (Qwr none (fun H => va_P D vwCl (cs8 ct a r) H) (wA (cs8 ct a o))) 0 0 (wA (cs8 ct a o)) := by
  refine Met.ofW (cc := cX8_redo) (maxL := 4) (ret := none) (by decide) rfl ?_
  intro p e s m args below meth c s₁ B hml hv
  obtain ⟨rfl, hP, hK, hN, hX⟩ := hv
  have hts := atoms_spec (ws := .code yX8_redo cX8_redo 4 none :: wsL_law) B.pre
  rw [lg_entry_eq]
  exact b_X8_redo a fu o v1 v2 v3 B.exec B.bytes B.returns hml (findClass_of_methodNamed B.named) (fun w h => hts w (List.mem_cons_of_mem _ h)) B.notSynchronized hK hN hX hP hf hD0  (lv_entry [.ref (a 0), .int v1, .int v2, .int v3] (n := 4) (Nat.le_of_ble_eq_true rfl))
theorem hd_X8_fall : yX8_fall.cls ≠ "java/lang/invoke/MethodHandle" ∧ yX8_fall.cls ≠ "java/lang/invoke/VarHandle" ∧ (parseMethodDescriptor yX8_fall.desc).map (fun d => d.parameters.length) = some 1 := by decide +kernel
theorem cw_X8_X8_fall {R : Room} {s : State} {args : Array Value} (ht : ∀ w ∈ wsL_law, w.before args s = true) (hR : rm_X8_fall.frames + 1 ≤ R.frames ∧ 8 + (4 + 11) + rm_X8_fall.locals ≤ R.locals) : CallW R s args RX8 RX8 67 yX8_fall cX8_fall 4 none ((.code yX8_fall cX8_fall 4 none) :: wsL_law) rm_X8_fall 0 0 1 := cwV 1 ht (GV wq_15_16 wq_15_17 wq_15_18 wq_2_6 wq_15_19) rfl rfl rfl ⟨rfl, hd_X8_fall⟩ hR
theorem hd_X8_redo : yX8_redo.cls ≠ "java/lang/invoke/MethodHandle" ∧ yX8_redo.cls ≠ "java/lang/invoke/VarHandle" ∧ (parseMethodDescriptor yX8_redo.desc).map (fun d => d.parameters.length) = some 3 := by decide +kernel
theorem cw_X8_X8_redo {R : Room} {s : State} {args : Array Value} (ht : ∀ w ∈ wsL_law, w.before args s = true) (hR : rm_X8_redo.frames + 1 ≤ R.frames ∧ 8 + (4 + 11) + rm_X8_redo.locals ≤ R.locals) : CallW R s args RX8 RX8 60 yX8_redo cX8_redo 4 none ((.code yX8_redo cX8_redo 4 none) :: wsL_law) rm_X8_redo 0 0 3 := cwV 3 ht (GV wq_15_10 wq_15_11 wq_15_12 wq_2_6 wq_15_13) rfl rfl rfl ⟨rfl, hd_X8_redo⟩ hR
def p_X8_settle_L2 (fu : Nat) (o1 : Ob) (c23 : Ob → Option (Ob)) : Nat → Ob → Int32 → Option (Ob)
  | 0, _, _ => none
  | n + 1, oz, v2 =>
    if (60 : Int32) < v2 then c23 oz else (p_X9_put fu 61 (oz.1 0) v2 (0 : Int32)).bind fun r_14 => p_X8_settle_L2 fu o1 c23 n (oA oz 0 r_14) (v2 + 1)
def p_X8_settle_L25 (fu : Nat) (o1 : Ob) (c59 : Ob → Option (Ob)) : Nat → Ob → Int32 → Option (Ob)
  | 0, _, _ => none
  | n + 1, oz, v2 =>
    if (o1.1 13 0) ≤ v2 then c59 oz else (p_X9_pick fu 5 (o1.1 15) v2).bind fun r_39 => (p_X9_pick fu 5 (o1.1 14) v2).bind fun r_47 => (p_X8_addRain fu oz r_39 r_47).bind fun r_50 => p_X8_settle_L25 fu o1 c59 n r_50 (v2 + 1)
def p_X8_settle_L66 (fu : Nat) (o1 : Ob)  : Nat → Ob → Int32 → Option (Ob)
  | 0, _, _ => none
  | n + 1, oz, v2 =>
    if (o1.1 16 0) ≤ v2 then (p_X8_fall fu oz (o1.1 1 0)).bind fun r_113 => some r_113 else (p_X9_pick fu 30 (o1.1 17) v2).bind fun r_80 => (p_X9_pick fu 30 (o1.1 18) v2).bind fun r_88 => (p_X9_pick fu 30 (o1.1 19) v2).bind fun r_96 => (p_X8_redo fu oz r_80 r_88 r_96).bind fun r_99 => p_X8_settle_L66 fu o1  n r_99 (v2 + 1)
def p_X8_settle (fu : Nat) (o : Ob) (o1 : Ob) : Option (Ob) :=
  p_X8_settle_L2 fu o1 (fun oz => p_X8_settle_L25 fu o1 (fun oz => p_X8_settle_L66 fu o1 fu (oI oz 2 (0 : Int32)) 0) fu oz 0) fu o 0
abbrev rm_X8_settle : Room := { frames := 3, cells := 0, slots := 0, locals := 67 }
set_option maxHeartbeats 4000000 in
set_option maxRecDepth 100000 in
theorem b_X8_settle {p : Program} {l : Launch} {e : Env} {s : State} {m : MethodId} {args : Array Value} {below : List Frame} {meth : Method} {c : Code} {ls : Array Slot} {D : va_G} {ct : Nat → ClassId} {G : GT} (a : Nat → Nat) (ab : Nat → Nat) (fu : Nat) (o : Ob) (o1 : Ob) {r : Ob} (hx : p.tables.exec = Jvm.exec) (hb : c.code = cX8_settle) (hr : meth.sig.returnType = none) (hml : c.maxLocals = 3) (hown : s.vm.findClass RX8 = some m.cls) (htl : ∀ w ∈ wsL_law, w.before args s = true) (hlocks : meth.locks = false) (hK : va_K D vwCl (tyl ct) s) (hN : ∀ w ∈ NW, va_Nw w s) (hX : SX G s s.heap) (hP0 : va_P D vwCl (cs8 ct a o ++ (cs2 ct ab o1)) s.heap) (hf : p_X8_settle fu o o1 = some r) (hD0 : va_D (GE G) (cs8 ct a o ++ (cs2 ct ab o1)))  (hl : lv_has ls 3 [(0, .ref (a 0)), (1, .ref (ab 0))]) : W p l e rm_X8_settle s m args below meth c s.heap [] 0 0 (MQ below (Qwr none (fun H => va_P D vwCl (cs8 ct a r) H) (wA (cs8 ct a o))) args s 0 0 (wA (cs8 ct a o))) (F0 m 0 ls []) := by
  generalize hQQ : MQ below (Qwr none (fun H => va_P D vwCl (cs8 ct a r) H) (wA (cs8 ct a o))) args s 0 0 (wA (cs8 ct a o)) = QQ
  have hDx : ∀ (oy : Ob), va_D (GE G) (cs8 ct a oy ++ (cs2 ct ab o1)) := fun oy => D_cr hD0 rfl
  have hDW : ∀ (oy : Ob), va_D (wA (cs8 ct a o)) (cs8 ct a oy) := fun oy => D_cr (D_left hD0) rfl
  have hGE : ∀ q, wA (cs8 ct a o) q → GE G q := wA_GEl hD0
  have hP : va_P D vwCl (cs8 ct a o) s.heap := P_left hP0
  have hRR : ∀ (H : Heap) (locs : List Loc), va_S (wA (cs8 ct a o)) s.heap H locs → va_P D vwCl (cs2 ct ab o1) H := fun H locs hS => P_rest hD0 (P_right hP0) hS
  have hS : va_S (wA (cs8 ct a o)) s.heap s.heap [] := va_S.rf
  have hL2 : ∀ (c23 : Ob → Option (Ob)) (n : Nat) (oz : Ob) (v2 : Int32), ∀ (H : Heap) (locs : List Loc) (ls : Array Slot), va_P D vwCl (cs8 ct a oz) H → va_S (wA (cs8 ct a o)) s.heap H locs → lv_has ls 3 [(0, .ref (a 0)), (1, .ref (ab 0)), (2, .int v2)] → p_X8_settle_L2 fu o1 c23 n oz v2 = some r → (∀ (oz : Ob), ∀ (H : Heap) (locs : List Loc) (ls : Array Slot), va_P D vwCl (cs8 ct a oz) H → va_S (wA (cs8 ct a o)) s.heap H locs → lv_has ls 3 [(0, .ref (a 0)), (1, .ref (ab 0))] → c23 oz = some r → W p l e rm_X8_settle s m args below meth c H locs 0 0 QQ (F0 m 23 ls [])) → W p l e rm_X8_settle s m args below meth c H locs 0 0 QQ (F0 m 2 ls []) := by
    intro c23 n
    induction n with
    | zero =>
      intro oz v2 H locs ls hP hS hl hf k23
      rw [p_X8_settle_L2] at hf
      cases hf
    | succ n ih =>
      intro oz v2 H locs ls hP hS hl hf k23
      rw [p_X8_settle_L2] at hf
      refine lv_iload_n hx hb dX8_settle_2 rfl (lv_at hl 2 rfl) ?_
      refine lv_bipush (v := 60) hx hb dX8_settle_3 (by decide) ?_
      refine lv_icmp_gt (tgt := 23) hx hb dX8_settle_5 (by decide) (fun c_5 => ?_) (fun c_5 => ?_)
      · rw [if_pos c_5] at hf
        exact k23 oz _ _ _ hP hS (lv_sub hl [0, 1] rfl) hf
      rw [if_neg c_5] at hf
      refine lv_aload_n hx hb dX8_settle_8 rfl (lv_at hl 0 rfl) ?_
      refine va_get (D := D) (ci := 8) (v := .ref (a 1)) (C := RX8) (T := TX8) (N := 3) hx hb htl inlX8 hown hK hP 0 rfl rfl 0 (by decide) (htl _ wq_5_7) (fun _ h9 => h9) rfl dX8_settle_9 ?_
      refine lv_iload_n hx hb dX8_settle_12 rfl (lv_at hl 2 rfl) ?_
      refine lv_iconst (v := 0) hx hb dX8_settle_13 (by decide) ?_
      obtain ⟨r_14, e_14, hf⟩ := ob_bind hf
      have hPX_14 : va_P D vwCl ([((a 1), .inl (ct 0, 61, .inl (oz.1 0)))]) H := (P_one hP 1 rfl)
      refine wr_call0 (va_runSN (As := [.ref (a 1), .int v2, .int 0]) (rest := []) ⟨hx, hb, hml, hown, htl⟩ (c_X9_put l D ct G (a 1) fu 61 (oz.1 0) v2 (0 : Int32) e_14 ((hDx oz).sub (ws' := [((a 1), .inl (ct 0, 61, .inl (oz.1 0)))]) [1] (by decide) rfl)) (cw_X8_X9_put htl hN ⟨Nat.le_of_ble_eq_true rfl, Nat.le_of_ble_eq_true rfl⟩) ⟨Bx_blind, Bx_pre hPX_14 hK hN (hX.stay hS hGE)⟩ rfl rfl hl.1 rfl (lv_room (Nat.le_of_ble_eq_true rfl)) dX8_settle_14 ⟨Nat.zero_le _, Nat.zero_le _⟩) hS (fun q h => wA_cg (w1 := cs8 ct a oz) (w2 := cs8 ct a o) rfl q (wA_sub (w2 := cs8 ct a oz) [1] rfl q h)) (fun H_14 locs_14 hB_14 _ hk_14 hS => ?_)
      have hP : va_P D vwCl (cs8 ct a (oA oz 0 r_14)) H_14 := P_join hP (hDW oz) [1] rfl rfl hk_14 hB_14
      refine lv_iinc (v := (v2 + 1)) (lv' := [(2, .int (v2 + 1)), (0, .ref (a 0)), (1, .ref (ab 0))]) hx hb dX8_settle_17 hl (k := 2) rfl rfl (by decide) rfl (fun ls hl => ?_)
      refine lv_goto (tgt := 2) hx hb dX8_settle_20 (by decide) ?_
      exact ih (oA oz 0 r_14) (v2 + 1) _ _ _ hP hS (lv_sub hl [1, 2, 0] rfl) hf k23
  have hL25 : ∀ (c59 : Ob → Option (Ob)) (n : Nat) (oz : Ob) (v2 : Int32), ∀ (H : Heap) (locs : List Loc) (ls : Array Slot), va_P D vwCl (cs8 ct a oz) H → va_S (wA (cs8 ct a o)) s.heap H locs → lv_has ls 3 [(0, .ref (a 0)), (1, .ref (ab 0)), (2, .int v2)] → p_X8_settle_L25 fu o1 c59 n oz v2 = some r → (∀ (oz : Ob), ∀ (H : Heap) (locs : List Loc) (ls : Array Slot), va_P D vwCl (cs8 ct a oz) H → va_S (wA (cs8 ct a o)) s.heap H locs → lv_has ls 3 [(0, .ref (a 0)), (1, .ref (ab 0))] → c59 oz = some r → W p l e rm_X8_settle s m args below meth c H locs 0 0 QQ (F0 m 59 ls [])) → W p l e rm_X8_settle s m args below meth c H locs 0 0 QQ (F0 m 25 ls []) := by
    intro c59 n
    induction n with
    | zero =>
      intro oz v2 H locs ls hP hS hl hf k59
      rw [p_X8_settle_L25] at hf
      cases hf
    | succ n ih =>
      intro oz v2 H locs ls hP hS hl hf k59
      rw [p_X8_settle_L25] at hf
      refine lv_iload_n hx hb dX8_settle_25 rfl (lv_at hl 2 rfl) ?_
      refine lv_aload_n hx hb dX8_settle_26 rfl (lv_at hl 1 rfl) ?_
      refine va_getN (D := D) (ci := 2) (v := .int (o1.1 13 0)) (C := RX2) (T := TX2) (N := 20) hx hb htl inlX2 hown hK (hRR _ _ hS) 0 rfl rfl 13 (by decide) (va_Nw.use rfl (hN _ nm_65)) (fun _ h9 => h9) rfl dX8_settle_27 ?_
      refine lv_icmp_ge (tgt := 59) hx hb dX8_settle_30 (by decide) (fun c_30 => ?_) (fun c_30 => ?_)
      · rw [if_pos c_30] at hf
        exact k59 oz _ _ _ hP hS (lv_sub hl [0, 1] rfl) hf
      rw [if_neg c_30] at hf
      refine lv_aload_n hx hb dX8_settle_33 rfl (lv_at hl 0 rfl) ?_
      refine lv_aload_n hx hb dX8_settle_34 rfl (lv_at hl 1 rfl) ?_
      refine va_getN (D := D) (ci := 2) (v := .ref (ab 9)) (C := RX2) (T := TX2) (N := 20) hx hb htl inlX2 hown hK (hRR _ _ hS) 0 rfl rfl 15 (by decide) (va_Nw.use rfl (hN _ nm_66)) (fun _ h9 => h9) rfl dX8_settle_35 ?_
      refine lv_iload_n hx hb dX8_settle_38 rfl (lv_at hl 2 rfl) ?_
      obtain ⟨r_39, e_39, hf⟩ := ob_bind hf
      have hPX_39 : va_P D vwCl ([((ab 9), .inl (ct 0, 5, .inl (o1.1 15)))]) H := (P_one (hRR _ _ hS) 9 rfl)
      refine ro_call1 (va_runSN (As := [.ref (ab 9), .int v2]) (rest := [.ref (a 0)]) ⟨hx, hb, hml, hown, htl⟩ (c_X9_pick l D ct G (ab 9) fu 5 (o1.1 15) v2 e_39) (cw_X8_X9_pick htl hN ⟨Nat.le_of_ble_eq_true rfl, Nat.le_of_ble_eq_true rfl⟩) ⟨Bx_blind, Bx_pre hPX_39 hK hN (hX.stay hS hGE)⟩ rfl rfl hl.1 rfl (lv_room (Nat.le_of_ble_eq_true rfl)) dX8_settle_39 ⟨Nat.zero_le _, Nat.zero_le _⟩) ?_
      refine lv_aload_n hx hb dX8_settle_42 rfl (lv_at hl 1 rfl) ?_
      refine va_getN (D := D) (ci := 2) (v := .ref (ab 8)) (C := RX2) (T := TX2) (N := 20) hx hb htl inlX2 hown hK (hRR _ _ hS) 0 rfl rfl 14 (by decide) (va_Nw.use rfl (hN _ nm_67)) (fun _ h9 => h9) rfl dX8_settle_43 ?_
      refine lv_iload_n hx hb dX8_settle_46 rfl (lv_at hl 2 rfl) ?_
      obtain ⟨r_47, e_47, hf⟩ := ob_bind hf
      have hPX_47 : va_P D vwCl ([((ab 8), .inl (ct 0, 5, .inl (o1.1 14)))]) H := (P_one (hRR _ _ hS) 8 rfl)
      refine ro_call1 (va_runSN (As := [.ref (ab 8), .int v2]) (rest := [.int r_39, .ref (a 0)]) ⟨hx, hb, hml, hown, htl⟩ (c_X9_pick l D ct G (ab 8) fu 5 (o1.1 14) v2 e_47) (cw_X8_X9_pick htl hN ⟨Nat.le_of_ble_eq_true rfl, Nat.le_of_ble_eq_true rfl⟩) ⟨Bx_blind, Bx_pre hPX_47 hK hN (hX.stay hS hGE)⟩ rfl rfl hl.1 rfl (lv_room (Nat.le_of_ble_eq_true rfl)) dX8_settle_47 ⟨Nat.zero_le _, Nat.zero_le _⟩) ?_
      obtain ⟨r_50, e_50, hf⟩ := ob_bind hf
      have hPX_50 : va_P D vwCl (cs8 ct a oz) H := hP
      refine wr_call0 (va_runV (As := [.int r_39, .int r_47]) (rest := []) ⟨hx, hb, hml, hown, htl⟩ (c_X8_addRain l D ct G a fu oz r_39 r_47 e_50 ((hDx oz).sub (ws' := cs8 ct a oz) [0, 1, 2] (by decide) rfl)) (cw_X8_X8_addRain htl ⟨Nat.le_of_ble_eq_true rfl, Nat.le_of_ble_eq_true rfl⟩) ⟨Bx_blind, va_recv hK hPX_50 (ci := 8) (q0 := 0) rfl rfl, Bx_pre hPX_50 hK hN (hX.stay hS hGE)⟩ rfl rfl hl.1 rfl (lv_room (Nat.le_of_ble_eq_true rfl)) dX8_settle_50 ⟨Nat.zero_le _, Nat.zero_le _⟩) hS (wA_cg rfl) (fun H_50 locs_50 hB_50 _ hk_50 hS => ?_)
      have hP : va_P D vwCl (cs8 ct a r_50) H_50 := hB_50
      refine lv_iinc (v := (v2 + 1)) (lv' := [(2, .int (v2 + 1)), (0, .ref (a 0)), (1, .ref (ab 0))]) hx hb dX8_settle_53 hl (k := 2) rfl rfl (by decide) rfl (fun ls hl => ?_)
      refine lv_goto (tgt := 25) hx hb dX8_settle_56 (by decide) ?_
      exact ih r_50 (v2 + 1) _ _ _ hP hS (lv_sub hl [1, 2, 0] rfl) hf k59
  have hL66 : ∀ (n : Nat) (oz : Ob) (v2 : Int32), ∀ (H : Heap) (locs : List Loc) (ls : Array Slot), va_P D vwCl (cs8 ct a oz) H → va_S (wA (cs8 ct a o)) s.heap H locs → lv_has ls 3 [(0, .ref (a 0)), (1, .ref (ab 0)), (2, .int v2)] → p_X8_settle_L66 fu o1  n oz v2 = some r → W p l e rm_X8_settle s m args below meth c H locs 0 0 QQ (F0 m 66 ls []) := by
    intro  n
    induction n with
    | zero =>
      intro oz v2 H locs ls hP hS hl hf 
      rw [p_X8_settle_L66] at hf
      cases hf
    | succ n ih =>
      intro oz v2 H locs ls hP hS hl hf 
      rw [p_X8_settle_L66] at hf
      refine lv_iload_n hx hb dX8_settle_66 rfl (lv_at hl 2 rfl) ?_
      refine lv_aload_n hx hb dX8_settle_67 rfl (lv_at hl 1 rfl) ?_
      refine va_getN (D := D) (ci := 2) (v := .int (o1.1 16 0)) (C := RX2) (T := TX2) (N := 20) hx hb htl inlX2 hown hK (hRR _ _ hS) 0 rfl rfl 16 (by decide) (va_Nw.use rfl (hN _ nm_68)) (fun _ h9 => h9) rfl dX8_settle_68 ?_
      refine lv_icmp_ge (tgt := 108) hx hb dX8_settle_71 (by decide) (fun c_71 => ?_) (fun c_71 => ?_)
      · rw [if_pos c_71] at hf
        refine lv_aload_n hx hb dX8_settle_108 rfl (lv_at hl 0 rfl) ?_
        refine lv_aload_n hx hb dX8_settle_109 rfl (lv_at hl 1 rfl) ?_
        refine va_getN (D := D) (ci := 2) (v := .int (o1.1 1 0)) (C := RX2) (T := TX2) (N := 20) hx hb htl inlX2 hown hK (hRR _ _ hS) 0 rfl rfl 1 (by decide) (va_Nw.use rfl (hN _ nm_72)) (fun _ h9 => h9) rfl dX8_settle_110 ?_
        obtain ⟨r_113, e_113, hf⟩ := ob_bind hf
        have hPX_113 : va_P D vwCl (cs8 ct a oz) H := hP
        refine wr_call0 (va_runV (As := [.int (o1.1 1 0)]) (rest := []) ⟨hx, hb, hml, hown, htl⟩ (c_X8_fall l D ct G a fu oz (o1.1 1 0) e_113 ((hDx oz).sub (ws' := cs8 ct a oz) [0, 1, 2] (by decide) rfl)) (cw_X8_X8_fall htl ⟨Nat.le_of_ble_eq_true rfl, Nat.le_of_ble_eq_true rfl⟩) ⟨Bx_blind, va_recv hK hPX_113 (ci := 8) (q0 := 0) rfl rfl, Bx_pre hPX_113 hK hN (hX.stay hS hGE)⟩ rfl rfl hl.1 rfl (lv_room (Nat.le_of_ble_eq_true rfl)) dX8_settle_113 ⟨Nat.zero_le _, Nat.zero_le _⟩) hS (wA_cg rfl) (fun H_113 locs_113 hB_113 _ hk_113 hS => ?_)
        have hP : va_P D vwCl (cs8 ct a r_113) H_113 := hB_113
        rw [← hQQ]
        cases hf
        exact rw_v hx hb hr hlocks hP hS dX8_settle_116
      rw [if_neg c_71] at hf
      refine lv_aload_n hx hb dX8_settle_74 rfl (lv_at hl 0 rfl) ?_
      refine lv_aload_n hx hb dX8_settle_75 rfl (lv_at hl 1 rfl) ?_
      refine va_getN (D := D) (ci := 2) (v := .ref (ab 10)) (C := RX2) (T := TX2) (N := 20) hx hb htl inlX2 hown hK (hRR _ _ hS) 0 rfl rfl 17 (by decide) (va_Nw.use rfl (hN _ nm_69)) (fun _ h9 => h9) rfl dX8_settle_76 ?_
      refine lv_iload_n hx hb dX8_settle_79 rfl (lv_at hl 2 rfl) ?_
      obtain ⟨r_80, e_80, hf⟩ := ob_bind hf
      have hPX_80 : va_P D vwCl ([((ab 10), .inl (ct 0, 30, .inl (o1.1 17)))]) H := (P_one (hRR _ _ hS) 10 rfl)
      refine ro_call1 (va_runSN (As := [.ref (ab 10), .int v2]) (rest := [.ref (a 0)]) ⟨hx, hb, hml, hown, htl⟩ (c_X9_pick l D ct G (ab 10) fu 30 (o1.1 17) v2 e_80) (cw_X8_X9_pick htl hN ⟨Nat.le_of_ble_eq_true rfl, Nat.le_of_ble_eq_true rfl⟩) ⟨Bx_blind, Bx_pre hPX_80 hK hN (hX.stay hS hGE)⟩ rfl rfl hl.1 rfl (lv_room (Nat.le_of_ble_eq_true rfl)) dX8_settle_80 ⟨Nat.zero_le _, Nat.zero_le _⟩) ?_
      refine lv_aload_n hx hb dX8_settle_83 rfl (lv_at hl 1 rfl) ?_
      refine va_getN (D := D) (ci := 2) (v := .ref (ab 11)) (C := RX2) (T := TX2) (N := 20) hx hb htl inlX2 hown hK (hRR _ _ hS) 0 rfl rfl 18 (by decide) (va_Nw.use rfl (hN _ nm_70)) (fun _ h9 => h9) rfl dX8_settle_84 ?_
      refine lv_iload_n hx hb dX8_settle_87 rfl (lv_at hl 2 rfl) ?_
      obtain ⟨r_88, e_88, hf⟩ := ob_bind hf
      have hPX_88 : va_P D vwCl ([((ab 11), .inl (ct 0, 30, .inl (o1.1 18)))]) H := (P_one (hRR _ _ hS) 11 rfl)
      refine ro_call1 (va_runSN (As := [.ref (ab 11), .int v2]) (rest := [.int r_80, .ref (a 0)]) ⟨hx, hb, hml, hown, htl⟩ (c_X9_pick l D ct G (ab 11) fu 30 (o1.1 18) v2 e_88) (cw_X8_X9_pick htl hN ⟨Nat.le_of_ble_eq_true rfl, Nat.le_of_ble_eq_true rfl⟩) ⟨Bx_blind, Bx_pre hPX_88 hK hN (hX.stay hS hGE)⟩ rfl rfl hl.1 rfl (lv_room (Nat.le_of_ble_eq_true rfl)) dX8_settle_88 ⟨Nat.zero_le _, Nat.zero_le _⟩) ?_
      refine lv_aload_n hx hb dX8_settle_91 rfl (lv_at hl 1 rfl) ?_
      refine va_getN (D := D) (ci := 2) (v := .ref (ab 12)) (C := RX2) (T := TX2) (N := 20) hx hb htl inlX2 hown hK (hRR _ _ hS) 0 rfl rfl 19 (by decide) (va_Nw.use rfl (hN _ nm_71)) (fun _ h9 => h9) rfl dX8_settle_92 ?_
      refine lv_iload_n hx hb dX8_settle_95 rfl (lv_at hl 2 rfl) ?_
      obtain ⟨r_96, e_96, hf⟩ := ob_bind hf
      have hPX_96 : va_P D vwCl ([((ab 12), .inl (ct 0, 30, .inl (o1.1 19)))]) H := (P_one (hRR _ _ hS) 12 rfl)
      refine ro_call1 (va_runSN (As := [.ref (ab 12), .int v2]) (rest := [.int r_88, .int r_80, .ref (a 0)]) ⟨hx, hb, hml, hown, htl⟩ (c_X9_pick l D ct G (ab 12) fu 30 (o1.1 19) v2 e_96) (cw_X8_X9_pick htl hN ⟨Nat.le_of_ble_eq_true rfl, Nat.le_of_ble_eq_true rfl⟩) ⟨Bx_blind, Bx_pre hPX_96 hK hN (hX.stay hS hGE)⟩ rfl rfl hl.1 rfl (lv_room (Nat.le_of_ble_eq_true rfl)) dX8_settle_96 ⟨Nat.zero_le _, Nat.zero_le _⟩) ?_
      obtain ⟨r_99, e_99, hf⟩ := ob_bind hf
      have hPX_99 : va_P D vwCl (cs8 ct a oz) H := hP
      refine wr_call0 (va_runV (As := [.int r_80, .int r_88, .int r_96]) (rest := []) ⟨hx, hb, hml, hown, htl⟩ (c_X8_redo l D ct G a fu oz r_80 r_88 r_96 e_99 ((hDx oz).sub (ws' := cs8 ct a oz) [0, 1, 2] (by decide) rfl)) (cw_X8_X8_redo htl ⟨Nat.le_of_ble_eq_true rfl, Nat.le_of_ble_eq_true rfl⟩) ⟨Bx_blind, va_recv hK hPX_99 (ci := 8) (q0 := 0) rfl rfl, Bx_pre hPX_99 hK hN (hX.stay hS hGE)⟩ rfl rfl hl.1 rfl (lv_room (Nat.le_of_ble_eq_true rfl)) dX8_settle_99 ⟨Nat.zero_le _, Nat.zero_le _⟩) hS (wA_cg rfl) (fun H_99 locs_99 hB_99 _ hk_99 hS => ?_)
      have hP : va_P D vwCl (cs8 ct a r_99) H_99 := hB_99
      refine lv_iinc (v := (v2 + 1)) (lv' := [(2, .int (v2 + 1)), (0, .ref (a 0)), (1, .ref (ab 0))]) hx hb dX8_settle_102 hl (k := 2) rfl rfl (by decide) rfl (fun ls hl => ?_)
      refine lv_goto (tgt := 66) hx hb dX8_settle_105 (by decide) ?_
      exact ih r_99 (v2 + 1) _ _ _ hP hS (lv_sub hl [1, 2, 0] rfl) hf 
  rw [p_X8_settle] at hf
  refine lv_iconst (v := 0) hx hb dX8_settle_0 (by decide) ?_
  refine lv_istore_n (lv' := [(2, .int 0), (0, .ref (a 0)), (1, .ref (ab 0))]) hx hb dX8_settle_1 rfl hl (by decide) rfl (fun ls hl => ?_)
  refine hL2 _ fu o 0 _ _ _ hP hS (lv_sub hl [1, 2, 0] rfl) hf (fun oz H locs ls hP hS hl hf => ?_)
  refine lv_iconst (v := 0) hx hb dX8_settle_23 (by decide) ?_
  refine lv_istore_n (lv' := [(2, .int 0), (0, .ref (a 0)), (1, .ref (ab 0))]) hx hb dX8_settle_24 rfl hl (by decide) rfl (fun ls hl => ?_)
  refine hL25 _ fu oz 0 _ _ _ hP hS (lv_sub hl [1, 2, 0] rfl) hf (fun oz H locs ls hP hS hl hf => ?_)
  refine lv_aload_n hx hb dX8_settle_59 rfl (lv_at hl 0 rfl) ?_
  refine lv_iconst (v := 0) hx hb dX8_settle_60 (by decide) ?_
  refine va_put (D := D) (ci := 8) (v := .int 0) (ty := .int) (C := RX8) (T := TX8) (N := 3) hx hb htl inlX8 tyX8 tyX8_ok nmX8 hown hK hP (hDW oz) hS 0 rfl rfl 2 (by decide) (htl _ wq_5_9) (fun _ h9 => h9) rfl (tyX8_ok 2 (by decide)) rfl rfl (Nat.le_of_ble_eq_true rfl) dX8_settle_61 (fun H_61 locs_61 hP _ hS => ?_)
  have hP : va_P D vwCl (cs8 ct a (oI oz 2 (0 : Int32))) H_61 := st8_2 hP
  refine lv_iconst (v := 0) hx hb dX8_settle_64 (by decide) ?_
  refine lv_istore_n (lv' := [(2, .int 0), (0, .ref (a 0)), (1, .ref (ab 0))]) hx hb dX8_settle_65 rfl hl (by decide) rfl (fun ls hl => ?_)
  exact hL66 fu (oI oz 2 (0 : Int32)) 0 _ _ _ hP hS (lv_sub hl [1, 2, 0] rfl) hf 
theorem c_X8_settle (l : Launch) (D : va_G) (ct : Nat → ClassId) (G : GT) (a : Nat → Nat) (ab : Nat → Nat) (fu : Nat) (o : Ob) (o1 : Ob) {r : Ob} (hf : p_X8_settle fu o o1 = some r)  (hD0 : va_D (GE G) (cs8 ct a o ++ (cs2 ct ab o1))) : Met l yX8_settle (.code yX8_settle cX8_settle 3 none :: wsL_law) rm_X8_settle (va_Pc [.ref (a 0), .ref (ab 0)] (Bx D ct G (cs8 ct a o ++ (cs2 ct ab o1)))) (Qwr none (fun H => va_P D vwCl (cs8 ct a r) H) (wA (cs8 ct a o))) 0 0 (wA (cs8 ct a o)) := by
  refine Met.ofW (cc := cX8_settle) (maxL := 3) (ret := none) (by decide) rfl ?_
  intro p e s m args below meth c s₁ B hml hv
  obtain ⟨rfl, hP, hK, hN, hX⟩ := hv
  have hts := atoms_spec (ws := .code yX8_settle cX8_settle 3 none :: wsL_law) B.pre
  rw [lg_entry_eq]
  exact b_X8_settle a ab fu o o1 B.exec B.bytes B.returns hml (findClass_of_methodNamed B.named) (fun w h => hts w (List.mem_cons_of_mem _ h)) B.notSynchronized hK hN hX hP hf hD0  (lv_entry [.ref (a 0), .ref (ab 0)] (n := 3) (Nat.le_of_ble_eq_true rfl))
def p_X9_isStep (fu : Nat) (v0 : Int32) : Option (Int32) :=
  if v0 < 0 then some (0 : Int32) else if (60 : Int32) < v0 then some (0 : Int32) else some (1 : Int32)
abbrev rm_X9_isStep : Room := { frames := 0, cells := 0, slots := 0, locals := 0 }
set_option maxHeartbeats 4000000 in
set_option maxRecDepth 100000 in
theorem b_X9_isStep {p : Program} {l : Launch} {e : Env} {s : State} {m : MethodId} {args : Array Value} {below : List Frame} {meth : Method} {c : Code} {ls : Array Slot} {D : va_G} {ct : Nat → ClassId} {G : GT}  (fu : Nat) (v0 : Int32) {r : Int32} (hx : p.tables.exec = Jvm.exec) (hb : c.code = cX9_isStep) (hr : meth.sig.returnType = (some .boolean)) (hml : c.maxLocals = 1) (hown : s.vm.findClass RX9 = some m.cls) (htl : ∀ w ∈ wsL_law, w.before args s = true) (hlocks : meth.locks = false) (hK : va_K D vwCl (tyl ct) s) (hN : ∀ w ∈ NW, va_Nw w s) (hX : SX G s s.heap) (hP0 : va_P D vwCl ([]) s.heap) (hf : p_X9_isStep fu v0 = some r)  (hl : lv_has ls 1 [(0, .int v0)]) : W p l e rm_X9_isStep s m args below meth c s.heap [] 0 0 (MQ below (Qro (some (.int r))) args s 0 0 (fun _ => False)) (F0 m 0 ls []) := by
  generalize hQQ : MQ below (Qro (some (.int r))) args s 0 0 (fun _ => False) = QQ
  have hP := hP0
  rw [p_X9_isStep] at hf
  refine lv_iload_n hx hb dX9_isStep_0 rfl (lv_at hl 0 rfl) ?_
  refine lv_if_lt (tgt := 14) hx hb dX9_isStep_1 (by decide) (fun c_1 => ?_) (fun c_1 => ?_)
  · rw [if_pos c_1] at hf
    refine lv_iconst (v := 0) hx hb dX9_isStep_14 (by decide) ?_
    rw [← hQQ]
    exact rf_z hx hb hr hlocks rfl hf dX9_isStep_15
  rw [if_neg c_1] at hf
  refine lv_iload_n hx hb dX9_isStep_4 rfl (lv_at hl 0 rfl) ?_
  refine lv_bipush (v := 60) hx hb dX9_isStep_5 (by decide) ?_
  refine lv_icmp_gt (tgt := 14) hx hb dX9_isStep_7 (by decide) (fun c_7 => ?_) (fun c_7 => ?_)
  · rw [if_pos c_7] at hf
    refine lv_iconst (v := 0) hx hb dX9_isStep_14 (by decide) ?_
    rw [← hQQ]
    exact rf_z hx hb hr hlocks rfl hf dX9_isStep_15
  rw [if_neg c_7] at hf
  refine lv_iconst (v := 1) hx hb dX9_isStep_10 (by decide) ?_
  refine lv_goto (tgt := 15) hx hb dX9_isStep_11 (by decide) ?_
  rw [← hQQ]
  exact rf_z hx hb hr hlocks rfl hf dX9_isStep_15
theorem c_X9_isStep (l : Launch) (D : va_G) (ct : Nat → ClassId) (G : GT)  (fu : Nat) (v0 : Int32) {r : Int32} (hf : p_X9_isStep fu v0 = some r)  : Met l yX9_isStep (.code yX9_isStep cX9_isStep 1 (some .boolean) :: wsL_law) rm_X9_isStep (va_Pc [.int v0] (Bx D ct G ([]))) (Qro (some (.int r))) 0 0 (fun _ => False) := by
  refine Met.ofW (cc := cX9_isStep) (maxL := 1) (ret := (some .boolean)) (by decide) rfl ?_
  intro p e s m args below meth c s₁ B hml hv
  obtain ⟨rfl, hP, hK, hN, hX⟩ := hv
  have hts := atoms_spec (ws := .code yX9_isStep cX9_isStep 1 (some .boolean) :: wsL_law) B.pre
  rw [lg_entry_eq]
  exact b_X9_isStep  fu v0 B.exec B.bytes B.returns hml (findClass_of_methodNamed B.named) (fun w h => hts w (List.mem_cons_of_mem _ h)) B.notSynchronized hK hN hX hP hf   (lv_entry [.int v0] (n := 1) (Nat.le_of_ble_eq_true rfl))
def p_J6_bitCount_0f7a4 (fu : Nat) (v0 : Int32) : Option (Int32) :=
  some ((((((((v0 - ((((v0).toUInt32 >>> (((1 : Int32)).toUInt32 &&& Int32.toUInt32 31)).toInt32) &&& 1431655765)) &&& 858993459) + (((((v0 - ((((v0).toUInt32 >>> (((1 : Int32)).toUInt32 &&& Int32.toUInt32 31)).toInt32) &&& 1431655765))).toUInt32 >>> (((2 : Int32)).toUInt32 &&& Int32.toUInt32 31)).toInt32) &&& 858993459)) + ((((((v0 - ((((v0).toUInt32 >>> (((1 : Int32)).toUInt32 &&& Int32.toUInt32 31)).toInt32) &&& 1431655765)) &&& 858993459) + (((((v0 - ((((v0).toUInt32 >>> (((1 : Int32)).toUInt32 &&& Int32.toUInt32 31)).toInt32) &&& 1431655765))).toUInt32 >>> (((2 : Int32)).toUInt32 &&& Int32.toUInt32 31)).toInt32) &&& 858993459))).toUInt32 >>> (((4 : Int32)).toUInt32 &&& Int32.toUInt32 31)).toInt32)) &&& 252645135) + ((((((((v0 - ((((v0).toUInt32 >>> (((1 : Int32)).toUInt32 &&& Int32.toUInt32 31)).toInt32) &&& 1431655765)) &&& 858993459) + (((((v0 - ((((v0).toUInt32 >>> (((1 : Int32)).toUInt32 &&& Int32.toUInt32 31)).toInt32) &&& 1431655765))).toUInt32 >>> (((2 : Int32)).toUInt32 &&& Int32.toUInt32 31)).toInt32) &&& 858993459)) + ((((((v0 - ((((v0).toUInt32 >>> (((1 : Int32)).toUInt32 &&& Int32.toUInt32 31)).toInt32) &&& 1431655765)) &&& 858993459) + (((((v0 - ((((v0).toUInt32 >>> (((1 : Int32)).toUInt32 &&& Int32.toUInt32 31)).toInt32) &&& 1431655765))).toUInt32 >>> (((2 : Int32)).toUInt32 &&& Int32.toUInt32 31)).toInt32) &&& 858993459))).toUInt32 >>> (((4 : Int32)).toUInt32 &&& Int32.toUInt32 31)).toInt32)) &&& 252645135)).toUInt32 >>> (((8 : Int32)).toUInt32 &&& Int32.toUInt32 31)).toInt32)) + (((((((((v0 - ((((v0).toUInt32 >>> (((1 : Int32)).toUInt32 &&& Int32.toUInt32 31)).toInt32) &&& 1431655765)) &&& 858993459) + (((((v0 - ((((v0).toUInt32 >>> (((1 : Int32)).toUInt32 &&& Int32.toUInt32 31)).toInt32) &&& 1431655765))).toUInt32 >>> (((2 : Int32)).toUInt32 &&& Int32.toUInt32 31)).toInt32) &&& 858993459)) + ((((((v0 - ((((v0).toUInt32 >>> (((1 : Int32)).toUInt32 &&& Int32.toUInt32 31)).toInt32) &&& 1431655765)) &&& 858993459) + (((((v0 - ((((v0).toUInt32 >>> (((1 : Int32)).toUInt32 &&& Int32.toUInt32 31)).toInt32) &&& 1431655765))).toUInt32 >>> (((2 : Int32)).toUInt32 &&& Int32.toUInt32 31)).toInt32) &&& 858993459))).toUInt32 >>> (((4 : Int32)).toUInt32 &&& Int32.toUInt32 31)).toInt32)) &&& 252645135) + ((((((((v0 - ((((v0).toUInt32 >>> (((1 : Int32)).toUInt32 &&& Int32.toUInt32 31)).toInt32) &&& 1431655765)) &&& 858993459) + (((((v0 - ((((v0).toUInt32 >>> (((1 : Int32)).toUInt32 &&& Int32.toUInt32 31)).toInt32) &&& 1431655765))).toUInt32 >>> (((2 : Int32)).toUInt32 &&& Int32.toUInt32 31)).toInt32) &&& 858993459)) + ((((((v0 - ((((v0).toUInt32 >>> (((1 : Int32)).toUInt32 &&& Int32.toUInt32 31)).toInt32) &&& 1431655765)) &&& 858993459) + (((((v0 - ((((v0).toUInt32 >>> (((1 : Int32)).toUInt32 &&& Int32.toUInt32 31)).toInt32) &&& 1431655765))).toUInt32 >>> (((2 : Int32)).toUInt32 &&& Int32.toUInt32 31)).toInt32) &&& 858993459))).toUInt32 >>> (((4 : Int32)).toUInt32 &&& Int32.toUInt32 31)).toInt32)) &&& 252645135)).toUInt32 >>> (((8 : Int32)).toUInt32 &&& Int32.toUInt32 31)).toInt32))).toUInt32 >>> (((16 : Int32)).toUInt32 &&& Int32.toUInt32 31)).toInt32)) &&& 63)
abbrev rm_J6_bitCount_0f7a4 : Room := { frames := 0, cells := 0, slots := 0, locals := 0 }
set_option maxHeartbeats 4000000 in
set_option maxRecDepth 100000 in
theorem b_J6_bitCount_0f7a4 {p : Program} {l : Launch} {e : Env} {s : State} {m : MethodId} {args : Array Value} {below : List Frame} {meth : Method} {c : Code} {ls : Array Slot} {D : va_G} {ct : Nat → ClassId} {G : GT}  (fu : Nat) (v0 : Int32) {r : Int32} (hx : p.tables.exec = Jvm.exec) (hb : c.code = cJ6_bitCount_0f7a4) (hr : meth.sig.returnType = (some .int)) (hml : c.maxLocals = 1) (hown : s.vm.findClass RJ6 = some m.cls) (htl : ∀ w ∈ wsL_law, w.before args s = true) (hlocks : meth.locks = false) (hK : va_K D vwCl (tyl ct) s) (hN : ∀ w ∈ NW, va_Nw w s) (hX : SX G s s.heap) (hP0 : va_P D vwCl ([]) s.heap) (hf : p_J6_bitCount_0f7a4 fu v0 = some r)  (hl : lv_has ls 1 [(0, .int v0)]) : W p l e rm_J6_bitCount_0f7a4 s m args below meth c s.heap [] 0 0 (MQ below (Qro (some (.int r))) args s 0 0 (fun _ => False)) (F0 m 0 ls []) := by
  generalize hQQ : MQ below (Qro (some (.int r))) args s 0 0 (fun _ => False) = QQ
  have hP := hP0
  rw [p_J6_bitCount_0f7a4] at hf
  refine lv_iload_n hx hb dJ6_bitCount_0f7a4_0 rfl (lv_at hl 0 rfl) ?_
  refine lv_iload_n hx hb dJ6_bitCount_0f7a4_1 rfl (lv_at hl 0 rfl) ?_
  refine lv_iconst (v := 1) hx hb dJ6_bitCount_0f7a4_2 (by decide) ?_
  refine lv_iushr hx hb dJ6_bitCount_0f7a4_3 rfl ?_
  refine lv_ldcw (v := 1431655765) hx hb hown (htl _ wq_44_15) dJ6_bitCount_0f7a4_4 ?_
  refine lv_iand hx hb dJ6_bitCount_0f7a4_7 ?_
  refine lv_isub hx hb dJ6_bitCount_0f7a4_8 ?_
  refine lv_istore_n (lv' := [(0, .int (v0 - ((((v0).toUInt32 >>> (((1 : Int32)).toUInt32 &&& Int32.toUInt32 31)).toInt32) &&& 1431655765)))]) hx hb dJ6_bitCount_0f7a4_9 rfl hl (by decide) rfl (fun ls hl => ?_)
  refine lv_iload_n hx hb dJ6_bitCount_0f7a4_10 rfl (lv_at hl 0 rfl) ?_
  refine lv_ldcw (v := 858993459) hx hb hown (htl _ wq_44_16) dJ6_bitCount_0f7a4_11 ?_
  refine lv_iand hx hb dJ6_bitCount_0f7a4_14 ?_
  refine lv_iload_n hx hb dJ6_bitCount_0f7a4_15 rfl (lv_at hl 0 rfl) ?_
  refine lv_iconst (v := 2) hx hb dJ6_bitCount_0f7a4_16 (by decide) ?_
  refine lv_iushr hx hb dJ6_bitCount_0f7a4_17 rfl ?_
  refine lv_ldcw (v := 858993459) hx hb hown (htl _ wq_44_16) dJ6_bitCount_0f7a4_18 ?_
  refine lv_iand hx hb dJ6_bitCount_0f7a4_21 ?_
  refine lv_iadd hx hb dJ6_bitCount_0f7a4_22 ?_
  refine lv_istore_n (lv' := [(0, .int (((v0 - ((((v0).toUInt32 >>> (((1 : Int32)).toUInt32 &&& Int32.toUInt32 31)).toInt32) &&& 1431655765)) &&& 858993459) + (((((v0 - ((((v0).toUInt32 >>> (((1 : Int32)).toUInt32 &&& Int32.toUInt32 31)).toInt32) &&& 1431655765))).toUInt32 >>> (((2 : Int32)).toUInt32 &&& Int32.toUInt32 31)).toInt32) &&& 858993459)))]) hx hb dJ6_bitCount_0f7a4_23 rfl hl (by decide) rfl (fun ls hl => ?_)
  refine lv_iload_n hx hb dJ6_bitCount_0f7a4_24 rfl (lv_at hl 0 rfl) ?_
  refine lv_iload_n hx hb dJ6_bitCount_0f7a4_25 rfl (lv_at hl 0 rfl) ?_
  refine lv_iconst (v := 4) hx hb dJ6_bitCount_0f7a4_26 (by decide) ?_
  refine lv_iushr hx hb dJ6_bitCount_0f7a4_27 rfl ?_
  refine lv_iadd hx hb dJ6_bitCount_0f7a4_28 ?_
  refine lv_ldcw (v := 252645135) hx hb hown (htl _ wq_44_17) dJ6_bitCount_0f7a4_29 ?_
  refine lv_iand hx hb dJ6_bitCount_0f7a4_32 ?_
  refine lv_istore_n (lv' := [(0, .int (((((v0 - ((((v0).toUInt32 >>> (((1 : Int32)).toUInt32 &&& Int32.toUInt32 31)).toInt32) &&& 1431655765)) &&& 858993459) + (((((v0 - ((((v0).toUInt32 >>> (((1 : Int32)).toUInt32 &&& Int32.toUInt32 31)).toInt32) &&& 1431655765))).toUInt32 >>> (((2 : Int32)).toUInt32 &&& Int32.toUInt32 31)).toInt32) &&& 858993459)) + ((((((v0 - ((((v0).toUInt32 >>> (((1 : Int32)).toUInt32 &&& Int32.toUInt32 31)).toInt32) &&& 1431655765)) &&& 858993459) + (((((v0 - ((((v0).toUInt32 >>> (((1 : Int32)).toUInt32 &&& Int32.toUInt32 31)).toInt32) &&& 1431655765))).toUInt32 >>> (((2 : Int32)).toUInt32 &&& Int32.toUInt32 31)).toInt32) &&& 858993459))).toUInt32 >>> (((4 : Int32)).toUInt32 &&& Int32.toUInt32 31)).toInt32)) &&& 252645135))]) hx hb dJ6_bitCount_0f7a4_33 rfl hl (by decide) rfl (fun ls hl => ?_)
  refine lv_iload_n hx hb dJ6_bitCount_0f7a4_34 rfl (lv_at hl 0 rfl) ?_
  refine lv_iload_n hx hb dJ6_bitCount_0f7a4_35 rfl (lv_at hl 0 rfl) ?_
  refine lv_bipush (v := 8) hx hb dJ6_bitCount_0f7a4_36 (by decide) ?_
  refine lv_iushr hx hb dJ6_bitCount_0f7a4_38 rfl ?_
  refine lv_iadd hx hb dJ6_bitCount_0f7a4_39 ?_
  refine lv_istore_n (lv' := [(0, .int ((((((v0 - ((((v0).toUInt32 >>> (((1 : Int32)).toUInt32 &&& Int32.toUInt32 31)).toInt32) &&& 1431655765)) &&& 858993459) + (((((v0 - ((((v0).toUInt32 >>> (((1 : Int32)).toUInt32 &&& Int32.toUInt32 31)).toInt32) &&& 1431655765))).toUInt32 >>> (((2 : Int32)).toUInt32 &&& Int32.toUInt32 31)).toInt32) &&& 858993459)) + ((((((v0 - ((((v0).toUInt32 >>> (((1 : Int32)).toUInt32 &&& Int32.toUInt32 31)).toInt32) &&& 1431655765)) &&& 858993459) + (((((v0 - ((((v0).toUInt32 >>> (((1 : Int32)).toUInt32 &&& Int32.toUInt32 31)).toInt32) &&& 1431655765))).toUInt32 >>> (((2 : Int32)).toUInt32 &&& Int32.toUInt32 31)).toInt32) &&& 858993459))).toUInt32 >>> (((4 : Int32)).toUInt32 &&& Int32.toUInt32 31)).toInt32)) &&& 252645135) + ((((((((v0 - ((((v0).toUInt32 >>> (((1 : Int32)).toUInt32 &&& Int32.toUInt32 31)).toInt32) &&& 1431655765)) &&& 858993459) + (((((v0 - ((((v0).toUInt32 >>> (((1 : Int32)).toUInt32 &&& Int32.toUInt32 31)).toInt32) &&& 1431655765))).toUInt32 >>> (((2 : Int32)).toUInt32 &&& Int32.toUInt32 31)).toInt32) &&& 858993459)) + ((((((v0 - ((((v0).toUInt32 >>> (((1 : Int32)).toUInt32 &&& Int32.toUInt32 31)).toInt32) &&& 1431655765)) &&& 858993459) + (((((v0 - ((((v0).toUInt32 >>> (((1 : Int32)).toUInt32 &&& Int32.toUInt32 31)).toInt32) &&& 1431655765))).toUInt32 >>> (((2 : Int32)).toUInt32 &&& Int32.toUInt32 31)).toInt32) &&& 858993459))).toUInt32 >>> (((4 : Int32)).toUInt32 &&& Int32.toUInt32 31)).toInt32)) &&& 252645135)).toUInt32 >>> (((8 : Int32)).toUInt32 &&& Int32.toUInt32 31)).toInt32)))]) hx hb dJ6_bitCount_0f7a4_40 rfl hl (by decide) rfl (fun ls hl => ?_)
  refine lv_iload_n hx hb dJ6_bitCount_0f7a4_41 rfl (lv_at hl 0 rfl) ?_
  refine lv_iload_n hx hb dJ6_bitCount_0f7a4_42 rfl (lv_at hl 0 rfl) ?_
  refine lv_bipush (v := 16) hx hb dJ6_bitCount_0f7a4_43 (by decide) ?_
  refine lv_iushr hx hb dJ6_bitCount_0f7a4_45 rfl ?_
  refine lv_iadd hx hb dJ6_bitCount_0f7a4_46 ?_
  refine lv_istore_n (lv' := [(0, .int (((((((v0 - ((((v0).toUInt32 >>> (((1 : Int32)).toUInt32 &&& Int32.toUInt32 31)).toInt32) &&& 1431655765)) &&& 858993459) + (((((v0 - ((((v0).toUInt32 >>> (((1 : Int32)).toUInt32 &&& Int32.toUInt32 31)).toInt32) &&& 1431655765))).toUInt32 >>> (((2 : Int32)).toUInt32 &&& Int32.toUInt32 31)).toInt32) &&& 858993459)) + ((((((v0 - ((((v0).toUInt32 >>> (((1 : Int32)).toUInt32 &&& Int32.toUInt32 31)).toInt32) &&& 1431655765)) &&& 858993459) + (((((v0 - ((((v0).toUInt32 >>> (((1 : Int32)).toUInt32 &&& Int32.toUInt32 31)).toInt32) &&& 1431655765))).toUInt32 >>> (((2 : Int32)).toUInt32 &&& Int32.toUInt32 31)).toInt32) &&& 858993459))).toUInt32 >>> (((4 : Int32)).toUInt32 &&& Int32.toUInt32 31)).toInt32)) &&& 252645135) + ((((((((v0 - ((((v0).toUInt32 >>> (((1 : Int32)).toUInt32 &&& Int32.toUInt32 31)).toInt32) &&& 1431655765)) &&& 858993459) + (((((v0 - ((((v0).toUInt32 >>> (((1 : Int32)).toUInt32 &&& Int32.toUInt32 31)).toInt32) &&& 1431655765))).toUInt32 >>> (((2 : Int32)).toUInt32 &&& Int32.toUInt32 31)).toInt32) &&& 858993459)) + ((((((v0 - ((((v0).toUInt32 >>> (((1 : Int32)).toUInt32 &&& Int32.toUInt32 31)).toInt32) &&& 1431655765)) &&& 858993459) + (((((v0 - ((((v0).toUInt32 >>> (((1 : Int32)).toUInt32 &&& Int32.toUInt32 31)).toInt32) &&& 1431655765))).toUInt32 >>> (((2 : Int32)).toUInt32 &&& Int32.toUInt32 31)).toInt32) &&& 858993459))).toUInt32 >>> (((4 : Int32)).toUInt32 &&& Int32.toUInt32 31)).toInt32)) &&& 252645135)).toUInt32 >>> (((8 : Int32)).toUInt32 &&& Int32.toUInt32 31)).toInt32)) + (((((((((v0 - ((((v0).toUInt32 >>> (((1 : Int32)).toUInt32 &&& Int32.toUInt32 31)).toInt32) &&& 1431655765)) &&& 858993459) + (((((v0 - ((((v0).toUInt32 >>> (((1 : Int32)).toUInt32 &&& Int32.toUInt32 31)).toInt32) &&& 1431655765))).toUInt32 >>> (((2 : Int32)).toUInt32 &&& Int32.toUInt32 31)).toInt32) &&& 858993459)) + ((((((v0 - ((((v0).toUInt32 >>> (((1 : Int32)).toUInt32 &&& Int32.toUInt32 31)).toInt32) &&& 1431655765)) &&& 858993459) + (((((v0 - ((((v0).toUInt32 >>> (((1 : Int32)).toUInt32 &&& Int32.toUInt32 31)).toInt32) &&& 1431655765))).toUInt32 >>> (((2 : Int32)).toUInt32 &&& Int32.toUInt32 31)).toInt32) &&& 858993459))).toUInt32 >>> (((4 : Int32)).toUInt32 &&& Int32.toUInt32 31)).toInt32)) &&& 252645135) + ((((((((v0 - ((((v0).toUInt32 >>> (((1 : Int32)).toUInt32 &&& Int32.toUInt32 31)).toInt32) &&& 1431655765)) &&& 858993459) + (((((v0 - ((((v0).toUInt32 >>> (((1 : Int32)).toUInt32 &&& Int32.toUInt32 31)).toInt32) &&& 1431655765))).toUInt32 >>> (((2 : Int32)).toUInt32 &&& Int32.toUInt32 31)).toInt32) &&& 858993459)) + ((((((v0 - ((((v0).toUInt32 >>> (((1 : Int32)).toUInt32 &&& Int32.toUInt32 31)).toInt32) &&& 1431655765)) &&& 858993459) + (((((v0 - ((((v0).toUInt32 >>> (((1 : Int32)).toUInt32 &&& Int32.toUInt32 31)).toInt32) &&& 1431655765))).toUInt32 >>> (((2 : Int32)).toUInt32 &&& Int32.toUInt32 31)).toInt32) &&& 858993459))).toUInt32 >>> (((4 : Int32)).toUInt32 &&& Int32.toUInt32 31)).toInt32)) &&& 252645135)).toUInt32 >>> (((8 : Int32)).toUInt32 &&& Int32.toUInt32 31)).toInt32))).toUInt32 >>> (((16 : Int32)).toUInt32 &&& Int32.toUInt32 31)).toInt32)))]) hx hb dJ6_bitCount_0f7a4_47 rfl hl (by decide) rfl (fun ls hl => ?_)
  refine lv_iload_n hx hb dJ6_bitCount_0f7a4_48 rfl (lv_at hl 0 rfl) ?_
  refine lv_bipush (v := 63) hx hb dJ6_bitCount_0f7a4_49 (by decide) ?_
  refine lv_iand hx hb dJ6_bitCount_0f7a4_51 ?_
  rw [← hQQ]
  exact rf_i hx hb hr hlocks hf dJ6_bitCount_0f7a4_52
theorem c_J6_bitCount_0f7a4 (l : Launch) (D : va_G) (ct : Nat → ClassId) (G : GT)  (fu : Nat) (v0 : Int32) {r : Int32} (hf : p_J6_bitCount_0f7a4 fu v0 = some r)  : Met l yJ6_bitCount_0f7a4 (.code yJ6_bitCount_0f7a4 cJ6_bitCount_0f7a4 1 (some .int) :: wsL_law) rm_J6_bitCount_0f7a4 (va_Pc [.int v0] (Bx D ct G ([]))) (Qro (some (.int r))) 0 0 (fun _ => False) := by
  refine Met.ofW (cc := cJ6_bitCount_0f7a4) (maxL := 1) (ret := (some .int)) (by decide) rfl ?_
  intro p e s m args below meth c s₁ B hml hv
  obtain ⟨rfl, hP, hK, hN, hX⟩ := hv
  have hts := atoms_spec (ws := .code yJ6_bitCount_0f7a4 cJ6_bitCount_0f7a4 1 (some .int) :: wsL_law) B.pre
  rw [lg_entry_eq]
  exact b_J6_bitCount_0f7a4  fu v0 B.exec B.bytes B.returns hml (findClass_of_methodNamed B.named) (fun w h => hts w (List.mem_cons_of_mem _ h)) B.notSynchronized hK hN hX hP hf   (lv_entry [.int v0] (n := 1) (Nat.le_of_ble_eq_true rfl))
def p_X9_share (fu : Nat) (v0 : Int32) (v1 : Int32) : Option (Int32) :=
  some ((6 * v0) - (v0 * (v0 + v1)))
abbrev rm_X9_share : Room := { frames := 0, cells := 0, slots := 0, locals := 0 }
set_option maxHeartbeats 4000000 in
set_option maxRecDepth 100000 in
theorem b_X9_share {p : Program} {l : Launch} {e : Env} {s : State} {m : MethodId} {args : Array Value} {below : List Frame} {meth : Method} {c : Code} {ls : Array Slot} {D : va_G} {ct : Nat → ClassId} {G : GT}  (fu : Nat) (v0 : Int32) (v1 : Int32) {r : Int32} (hx : p.tables.exec = Jvm.exec) (hb : c.code = cX9_share) (hr : meth.sig.returnType = (some .int)) (hml : c.maxLocals = 2) (hown : s.vm.findClass RX9 = some m.cls) (htl : ∀ w ∈ wsL_law, w.before args s = true) (hlocks : meth.locks = false) (hK : va_K D vwCl (tyl ct) s) (hN : ∀ w ∈ NW, va_Nw w s) (hX : SX G s s.heap) (hP0 : va_P D vwCl ([]) s.heap) (hf : p_X9_share fu v0 v1 = some r)  (hl : lv_has ls 2 [(0, .int v0), (1, .int v1)]) : W p l e rm_X9_share s m args below meth c s.heap [] 0 0 (MQ below (Qro (some (.int r))) args s 0 0 (fun _ => False)) (F0 m 0 ls []) := by
  generalize hQQ : MQ below (Qro (some (.int r))) args s 0 0 (fun _ => False) = QQ
  have hP := hP0
  rw [p_X9_share] at hf
  refine lv_bipush (v := 6) hx hb dX9_share_0 (by decide) ?_
  refine lv_iload_n hx hb dX9_share_2 rfl (lv_at hl 0 rfl) ?_
  refine lv_imul hx hb dX9_share_3 ?_
  refine lv_iload_n hx hb dX9_share_4 rfl (lv_at hl 0 rfl) ?_
  refine lv_iload_n hx hb dX9_share_5 rfl (lv_at hl 0 rfl) ?_
  refine lv_iload_n hx hb dX9_share_6 rfl (lv_at hl 1 rfl) ?_
  refine lv_iadd hx hb dX9_share_7 ?_
  refine lv_imul hx hb dX9_share_8 ?_
  refine lv_isub hx hb dX9_share_9 ?_
  rw [← hQQ]
  exact rf_i hx hb hr hlocks hf dX9_share_10
theorem c_X9_share (l : Launch) (D : va_G) (ct : Nat → ClassId) (G : GT)  (fu : Nat) (v0 : Int32) (v1 : Int32) {r : Int32} (hf : p_X9_share fu v0 v1 = some r)  : Met l yX9_share (.code yX9_share cX9_share 2 (some .int) :: wsL_law) rm_X9_share (va_Pc [.int v0, .int v1] (Bx D ct G ([]))) (Qro (some (.int r))) 0 0 (fun _ => False) := by
  refine Met.ofW (cc := cX9_share) (maxL := 2) (ret := (some .int)) (by decide) rfl ?_
  intro p e s m args below meth c s₁ B hml hv
  obtain ⟨rfl, hP, hK, hN, hX⟩ := hv
  have hts := atoms_spec (ws := .code yX9_share cX9_share 2 (some .int) :: wsL_law) B.pre
  rw [lg_entry_eq]
  exact b_X9_share  fu v0 v1 B.exec B.bytes B.returns hml (findClass_of_methodNamed B.named) (fun w h => hts w (List.mem_cons_of_mem _ h)) B.notSynchronized hK hN hX hP hf   (lv_entry [.int v0, .int v1] (n := 2) (Nat.le_of_ble_eq_true rfl))
theorem hd_X9_share : yX9_share.cls ≠ "java/lang/invoke/MethodHandle" ∧ yX9_share.cls ≠ "java/lang/invoke/VarHandle" ∧ (parseMethodDescriptor yX9_share.desc).map (fun d => d.parameters.length) = some 2 := by decide +kernel
theorem cw_X9_X9_share {R : Room} {s : State} {args : Array Value} (ht : ∀ w ∈ wsL_law, w.before args s = true) (hR : rm_X9_share.frames + 1 ≤ R.frames ∧ 8 + (2 + 11) + rm_X9_share.locals ≤ R.locals) : CallB R s args RX9 326 yX9_share cX9_share 2 (some .int) ((.code yX9_share cX9_share 2 (some .int)) :: wsL_law) rm_X9_share 0 0 2 ∧ (Cond.static yX9_share).before args s = true := va_cwS 2 ht (GS wq_41_3 wq_41_4 wq_1_2 wq_41_5) rfl rfl rfl hd_X9_share hR
def p_X9_bestAnswer_L4 (fu : Nat)  : Nat → Int32 → Int32 → Int32 → Option (Int32)
  | 0, _, _, _ => none
  | n + 1, v0, v1, v2 =>
    if (4 : Int32) < v2 then some v1 else (p_X9_share fu v2 v0).bind fun r_11 => (p_X9_share fu v1 v0).bind fun r_16 => if r_11 ≤ r_16 then p_X9_bestAnswer_L4 fu  n v0 v1 (v2 + 1) else p_X9_bestAnswer_L4 fu  n v0 v2 (v2 + 1)
def p_X9_bestAnswer (fu : Nat) (v0 : Int32) : Option (Int32) :=
  p_X9_bestAnswer_L4 fu fu v0 0 1
abbrev rm_X9_bestAnswer : Room := { frames := 1, cells := 0, slots := 0, locals := 21 }
set_option maxHeartbeats 4000000 in
set_option maxRecDepth 100000 in
theorem b_X9_bestAnswer {p : Program} {l : Launch} {e : Env} {s : State} {m : MethodId} {args : Array Value} {below : List Frame} {meth : Method} {c : Code} {ls : Array Slot} {D : va_G} {ct : Nat → ClassId} {G : GT}  (fu : Nat) (v0 : Int32) {r : Int32} (hx : p.tables.exec = Jvm.exec) (hb : c.code = cX9_bestAnswer) (hr : meth.sig.returnType = (some .int)) (hml : c.maxLocals = 3) (hown : s.vm.findClass RX9 = some m.cls) (htl : ∀ w ∈ wsL_law, w.before args s = true) (hlocks : meth.locks = false) (hK : va_K D vwCl (tyl ct) s) (hN : ∀ w ∈ NW, va_Nw w s) (hX : SX G s s.heap) (hP0 : va_P D vwCl ([]) s.heap) (hf : p_X9_bestAnswer fu v0 = some r)  (hl : lv_has ls 3 [(0, .int v0)]) : W p l e rm_X9_bestAnswer s m args below meth c s.heap [] 0 0 (MQ below (Qro (some (.int r))) args s 0 0 (fun _ => False)) (F0 m 0 ls []) := by
  generalize hQQ : MQ below (Qro (some (.int r))) args s 0 0 (fun _ => False) = QQ
  have hP := hP0
  have hL4 : ∀ (n : Nat) (v0 : Int32) (v1 : Int32) (v2 : Int32), ∀ (ls : Array Slot), lv_has ls 3 [(0, .int v0), (1, .int v1), (2, .int v2)] → p_X9_bestAnswer_L4 fu  n v0 v1 v2 = some r → W p l e rm_X9_bestAnswer s m args below meth c s.heap [] 0 0 QQ (F0 m 4 ls []) := by
    intro  n
    induction n with
    | zero =>
      intro v0 v1 v2 ls hl hf 
      rw [p_X9_bestAnswer_L4] at hf
      cases hf
    | succ n ih =>
      intro v0 v1 v2 ls hl hf 
      rw [p_X9_bestAnswer_L4] at hf
      refine lv_iload_n hx hb dX9_bestAnswer_4 rfl (lv_at hl 2 rfl) ?_
      refine lv_iconst (v := 4) hx hb dX9_bestAnswer_5 (by decide) ?_
      refine lv_icmp_gt (tgt := 30) hx hb dX9_bestAnswer_6 (by decide) (fun c_6 => ?_) (fun c_6 => ?_)
      · rw [if_pos c_6] at hf
        refine lv_iload_n hx hb dX9_bestAnswer_30 rfl (lv_at hl 1 rfl) ?_
        rw [← hQQ]
        exact rf_i hx hb hr hlocks hf dX9_bestAnswer_31
      rw [if_neg c_6] at hf
      refine lv_iload_n hx hb dX9_bestAnswer_9 rfl (lv_at hl 2 rfl) ?_
      refine lv_iload_n hx hb dX9_bestAnswer_10 rfl (lv_at hl 0 rfl) ?_
      obtain ⟨r_11, e_11, hf⟩ := ob_bind hf
      have hPX_11 : va_P D vwCl ([]) s.heap := P_nil
      refine ro_call1 (va_runS (As := [.int v2, .int v0]) (rest := []) ⟨hx, hb, hml, hown, htl⟩ (c_X9_share l D ct G fu v2 v0 e_11) (cw_X9_X9_share htl ⟨Nat.le_of_ble_eq_true rfl, Nat.le_of_ble_eq_true rfl⟩) ⟨Bx_blind, Bx_pre hPX_11 hK hN hX⟩ rfl rfl hl.1 rfl (lv_room (Nat.le_of_ble_eq_true rfl)) dX9_bestAnswer_11 ⟨Nat.zero_le _, Nat.zero_le _⟩) ?_
      refine lv_iload_n hx hb dX9_bestAnswer_14 rfl (lv_at hl 1 rfl) ?_
      refine lv_iload_n hx hb dX9_bestAnswer_15 rfl (lv_at hl 0 rfl) ?_
      obtain ⟨r_16, e_16, hf⟩ := ob_bind hf
      have hPX_16 : va_P D vwCl ([]) s.heap := P_nil
      refine ro_call1 (va_runS (As := [.int v1, .int v0]) (rest := [.int r_11]) ⟨hx, hb, hml, hown, htl⟩ (c_X9_share l D ct G fu v1 v0 e_16) (cw_X9_X9_share htl ⟨Nat.le_of_ble_eq_true rfl, Nat.le_of_ble_eq_true rfl⟩) ⟨Bx_blind, Bx_pre hPX_16 hK hN hX⟩ rfl rfl hl.1 rfl (lv_room (Nat.le_of_ble_eq_true rfl)) dX9_bestAnswer_16 ⟨Nat.zero_le _, Nat.zero_le _⟩) ?_
      refine lv_icmp_le (tgt := 24) hx hb dX9_bestAnswer_19 (by decide) (fun c_19 => ?_) (fun c_19 => ?_)
      · rw [if_pos c_19] at hf
        refine lv_iinc (v := (v2 + 1)) (lv' := [(2, .int (v2 + 1)), (0, .int v0), (1, .int v1)]) hx hb dX9_bestAnswer_24 hl (k := 2) rfl rfl (by decide) rfl (fun ls hl => ?_)
        refine lv_goto (tgt := 4) hx hb dX9_bestAnswer_27 (by decide) ?_
        exact ih v0 v1 (v2 + 1) _ (lv_sub hl [1, 2, 0] rfl) hf 
      rw [if_neg c_19] at hf
      refine lv_iload_n hx hb dX9_bestAnswer_22 rfl (lv_at hl 2 rfl) ?_
      refine lv_istore_n (lv' := [(1, .int v2), (0, .int v0), (2, .int v2)]) hx hb dX9_bestAnswer_23 rfl hl (by decide) rfl (fun ls hl => ?_)
      refine lv_iinc (v := (v2 + 1)) (lv' := [(2, .int (v2 + 1)), (1, .int v2), (0, .int v0)]) hx hb dX9_bestAnswer_24 hl (k := 2) rfl rfl (by decide) rfl (fun ls hl => ?_)
      refine lv_goto (tgt := 4) hx hb dX9_bestAnswer_27 (by decide) ?_
      exact ih v0 v2 (v2 + 1) _ (lv_sub hl [2, 1, 0] rfl) hf 
  rw [p_X9_bestAnswer] at hf
  refine lv_iconst (v := 0) hx hb dX9_bestAnswer_0 (by decide) ?_
  refine lv_istore_n (lv' := [(1, .int 0), (0, .int v0)]) hx hb dX9_bestAnswer_1 rfl hl (by decide) rfl (fun ls hl => ?_)
  refine lv_iconst (v := 1) hx hb dX9_bestAnswer_2 (by decide) ?_
  refine lv_istore_n (lv' := [(2, .int 1), (1, .int 0), (0, .int v0)]) hx hb dX9_bestAnswer_3 rfl hl (by decide) rfl (fun ls hl => ?_)
  exact hL4 fu v0 0 1 _ (lv_sub hl [2, 1, 0] rfl) hf 
theorem c_X9_bestAnswer (l : Launch) (D : va_G) (ct : Nat → ClassId) (G : GT)  (fu : Nat) (v0 : Int32) {r : Int32} (hf : p_X9_bestAnswer fu v0 = some r)  : Met l yX9_bestAnswer (.code yX9_bestAnswer cX9_bestAnswer 3 (some .int) :: wsL_law) rm_X9_bestAnswer (va_Pc [.int v0] (Bx D ct G ([]))) (Qro (some (.int r))) 0 0 (fun _ => False) := by
  refine Met.ofW (cc := cX9_bestAnswer) (maxL := 3) (ret := (some .int)) (by decide) rfl ?_
  intro p e s m args below meth c s₁ B hml hv
  obtain ⟨rfl, hP, hK, hN, hX⟩ := hv
  have hts := atoms_spec (ws := .code yX9_bestAnswer cX9_bestAnswer 3 (some .int) :: wsL_law) B.pre
  rw [lg_entry_eq]
  exact b_X9_bestAnswer  fu v0 B.exec B.bytes B.returns hml (findClass_of_methodNamed B.named) (fun w h => hts w (List.mem_cons_of_mem _ h)) B.notSynchronized hK hN hX hP hf   (lv_entry [.int v0] (n := 3) (Nat.le_of_ble_eq_true rfl))
def p_X9_isLetOut (fu : Nat) (v0 : Int32) : Option (Int32) :=
  if v0 < 0 then some (0 : Int32) else if (4 : Int32) < v0 then some (0 : Int32) else some (1 : Int32)
abbrev rm_X9_isLetOut : Room := { frames := 0, cells := 0, slots := 0, locals := 0 }
set_option maxHeartbeats 4000000 in
set_option maxRecDepth 100000 in
theorem b_X9_isLetOut {p : Program} {l : Launch} {e : Env} {s : State} {m : MethodId} {args : Array Value} {below : List Frame} {meth : Method} {c : Code} {ls : Array Slot} {D : va_G} {ct : Nat → ClassId} {G : GT}  (fu : Nat) (v0 : Int32) {r : Int32} (hx : p.tables.exec = Jvm.exec) (hb : c.code = cX9_isLetOut) (hr : meth.sig.returnType = (some .boolean)) (hml : c.maxLocals = 1) (hown : s.vm.findClass RX9 = some m.cls) (htl : ∀ w ∈ wsL_law, w.before args s = true) (hlocks : meth.locks = false) (hK : va_K D vwCl (tyl ct) s) (hN : ∀ w ∈ NW, va_Nw w s) (hX : SX G s s.heap) (hP0 : va_P D vwCl ([]) s.heap) (hf : p_X9_isLetOut fu v0 = some r)  (hl : lv_has ls 1 [(0, .int v0)]) : W p l e rm_X9_isLetOut s m args below meth c s.heap [] 0 0 (MQ below (Qro (some (.int r))) args s 0 0 (fun _ => False)) (F0 m 0 ls []) := by
  generalize hQQ : MQ below (Qro (some (.int r))) args s 0 0 (fun _ => False) = QQ
  have hP := hP0
  rw [p_X9_isLetOut] at hf
  refine lv_iload_n hx hb dX9_isLetOut_0 rfl (lv_at hl 0 rfl) ?_
  refine lv_if_lt (tgt := 13) hx hb dX9_isLetOut_1 (by decide) (fun c_1 => ?_) (fun c_1 => ?_)
  · rw [if_pos c_1] at hf
    refine lv_iconst (v := 0) hx hb dX9_isLetOut_13 (by decide) ?_
    rw [← hQQ]
    exact rf_z hx hb hr hlocks rfl hf dX9_isLetOut_14
  rw [if_neg c_1] at hf
  refine lv_iload_n hx hb dX9_isLetOut_4 rfl (lv_at hl 0 rfl) ?_
  refine lv_iconst (v := 4) hx hb dX9_isLetOut_5 (by decide) ?_
  refine lv_icmp_gt (tgt := 13) hx hb dX9_isLetOut_6 (by decide) (fun c_6 => ?_) (fun c_6 => ?_)
  · rw [if_pos c_6] at hf
    refine lv_iconst (v := 0) hx hb dX9_isLetOut_13 (by decide) ?_
    rw [← hQQ]
    exact rf_z hx hb hr hlocks rfl hf dX9_isLetOut_14
  rw [if_neg c_6] at hf
  refine lv_iconst (v := 1) hx hb dX9_isLetOut_9 (by decide) ?_
  refine lv_goto (tgt := 14) hx hb dX9_isLetOut_10 (by decide) ?_
  rw [← hQQ]
  exact rf_z hx hb hr hlocks rfl hf dX9_isLetOut_14
theorem c_X9_isLetOut (l : Launch) (D : va_G) (ct : Nat → ClassId) (G : GT)  (fu : Nat) (v0 : Int32) {r : Int32} (hf : p_X9_isLetOut fu v0 = some r)  : Met l yX9_isLetOut (.code yX9_isLetOut cX9_isLetOut 1 (some .boolean) :: wsL_law) rm_X9_isLetOut (va_Pc [.int v0] (Bx D ct G ([]))) (Qro (some (.int r))) 0 0 (fun _ => False) := by
  refine Met.ofW (cc := cX9_isLetOut) (maxL := 1) (ret := (some .boolean)) (by decide) rfl ?_
  intro p e s m args below meth c s₁ B hml hv
  obtain ⟨rfl, hP, hK, hN, hX⟩ := hv
  have hts := atoms_spec (ws := .code yX9_isLetOut cX9_isLetOut 1 (some .boolean) :: wsL_law) B.pre
  rw [lg_entry_eq]
  exact b_X9_isLetOut  fu v0 B.exec B.bytes B.returns hml (findClass_of_methodNamed B.named) (fun w h => hts w (List.mem_cons_of_mem _ h)) B.notSynchronized hK hN hX hP hf   (lv_entry [.int v0] (n := 1) (Nat.le_of_ble_eq_true rfl))
theorem hd_X9_bestAnswer : yX9_bestAnswer.cls ≠ "java/lang/invoke/MethodHandle" ∧ yX9_bestAnswer.cls ≠ "java/lang/invoke/VarHandle" ∧ (parseMethodDescriptor yX9_bestAnswer.desc).map (fun d => d.parameters.length) = some 1 := by decide +kernel
theorem cw_X9_X9_bestAnswer {R : Room} {s : State} {args : Array Value} (ht : ∀ w ∈ wsL_law, w.before args s = true) (hR : rm_X9_bestAnswer.frames + 1 ≤ R.frames ∧ 8 + (3 + 11) + rm_X9_bestAnswer.locals ≤ R.locals) : CallB R s args RX9 320 yX9_bestAnswer cX9_bestAnswer 3 (some .int) ((.code yX9_bestAnswer cX9_bestAnswer 3 (some .int)) :: wsL_law) rm_X9_bestAnswer 0 0 1 ∧ (Cond.static yX9_bestAnswer).before args s = true := va_cwS 1 ht (GS wq_41_0 wq_41_1 wq_1_2 wq_41_2) rfl rfl rfl hd_X9_bestAnswer hR
def p_X9_isRest (fu : Nat) (v0 : Int32) (v1 : Int32) : Option (Int32) :=
  (p_X9_share fu v0 v1).bind fun r_2 => (p_X9_bestAnswer fu v1).bind fun r_6 => (p_X9_share fu r_6 v1).bind fun r_10 => if r_2 = r_10 then (p_X9_share fu v1 v0).bind fun r_18 => (p_X9_bestAnswer fu v0).bind fun r_22 => (p_X9_share fu r_22 v0).bind fun r_26 => if r_18 = r_26 then some (1 : Int32) else some (0 : Int32) else some (0 : Int32)
abbrev rm_X9_isRest : Room := { frames := 2, cells := 0, slots := 0, locals := 43 }
set_option maxHeartbeats 4000000 in
set_option maxRecDepth 100000 in
theorem b_X9_isRest {p : Program} {l : Launch} {e : Env} {s : State} {m : MethodId} {args : Array Value} {below : List Frame} {meth : Method} {c : Code} {ls : Array Slot} {D : va_G} {ct : Nat → ClassId} {G : GT}  (fu : Nat) (v0 : Int32) (v1 : Int32) {r : Int32} (hx : p.tables.exec = Jvm.exec) (hb : c.code = cX9_isRest) (hr : meth.sig.returnType = (some .boolean)) (hml : c.maxLocals = 2) (hown : s.vm.findClass RX9 = some m.cls) (htl : ∀ w ∈ wsL_law, w.before args s = true) (hlocks : meth.locks = false) (hK : va_K D vwCl (tyl ct) s) (hN : ∀ w ∈ NW, va_Nw w s) (hX : SX G s s.heap) (hP0 : va_P D vwCl ([]) s.heap) (hf : p_X9_isRest fu v0 v1 = some r)  (hl : lv_has ls 2 [(0, .int v0), (1, .int v1)]) : W p l e rm_X9_isRest s m args below meth c s.heap [] 0 0 (MQ below (Qro (some (.int r))) args s 0 0 (fun _ => False)) (F0 m 0 ls []) := by
  generalize hQQ : MQ below (Qro (some (.int r))) args s 0 0 (fun _ => False) = QQ
  have hP := hP0
  rw [p_X9_isRest] at hf
  refine lv_iload_n hx hb dX9_isRest_0 rfl (lv_at hl 0 rfl) ?_
  refine lv_iload_n hx hb dX9_isRest_1 rfl (lv_at hl 1 rfl) ?_
  obtain ⟨r_2, e_2, hf⟩ := ob_bind hf
  have hPX_2 : va_P D vwCl ([]) s.heap := P_nil
  refine ro_call1 (va_runS (As := [.int v0, .int v1]) (rest := []) ⟨hx, hb, hml, hown, htl⟩ (c_X9_share l D ct G fu v0 v1 e_2) (cw_X9_X9_share htl ⟨Nat.le_of_ble_eq_true rfl, Nat.le_of_ble_eq_true rfl⟩) ⟨Bx_blind, Bx_pre hPX_2 hK hN hX⟩ rfl rfl hl.1 rfl (lv_room (Nat.le_of_ble_eq_true rfl)) dX9_isRest_2 ⟨Nat.zero_le _, Nat.zero_le _⟩) ?_
  refine lv_iload_n hx hb dX9_isRest_5 rfl (lv_at hl 1 rfl) ?_
  obtain ⟨r_6, e_6, hf⟩ := ob_bind hf
  have hPX_6 : va_P D vwCl ([]) s.heap := P_nil
  refine ro_call1 (va_runS (As := [.int v1]) (rest := [.int r_2]) ⟨hx, hb, hml, hown, htl⟩ (c_X9_bestAnswer l D ct G fu v1 e_6) (cw_X9_X9_bestAnswer htl ⟨Nat.le_of_ble_eq_true rfl, Nat.le_of_ble_eq_true rfl⟩) ⟨Bx_blind, Bx_pre hPX_6 hK hN hX⟩ rfl rfl hl.1 rfl (lv_room (Nat.le_of_ble_eq_true rfl)) dX9_isRest_6 ⟨Nat.zero_le _, Nat.zero_le _⟩) ?_
  refine lv_iload_n hx hb dX9_isRest_9 rfl (lv_at hl 1 rfl) ?_
  obtain ⟨r_10, e_10, hf⟩ := ob_bind hf
  have hPX_10 : va_P D vwCl ([]) s.heap := P_nil
  refine ro_call1 (va_runS (As := [.int r_6, .int v1]) (rest := [.int r_2]) ⟨hx, hb, hml, hown, htl⟩ (c_X9_share l D ct G fu r_6 v1 e_10) (cw_X9_X9_share htl ⟨Nat.le_of_ble_eq_true rfl, Nat.le_of_ble_eq_true rfl⟩) ⟨Bx_blind, Bx_pre hPX_10 hK hN hX⟩ rfl rfl hl.1 rfl (lv_room (Nat.le_of_ble_eq_true rfl)) dX9_isRest_10 ⟨Nat.zero_le _, Nat.zero_le _⟩) ?_
  refine lv_icmp_ne (tgt := 36) hx hb dX9_isRest_13 (by decide) (fun c_13 => ?_) (fun c_13 => ?_)
  · rw [if_neg c_13] at hf
    refine lv_iconst (v := 0) hx hb dX9_isRest_36 (by decide) ?_
    rw [← hQQ]
    exact rf_z hx hb hr hlocks rfl hf dX9_isRest_37
  rw [if_pos c_13] at hf
  refine lv_iload_n hx hb dX9_isRest_16 rfl (lv_at hl 1 rfl) ?_
  refine lv_iload_n hx hb dX9_isRest_17 rfl (lv_at hl 0 rfl) ?_
  obtain ⟨r_18, e_18, hf⟩ := ob_bind hf
  have hPX_18 : va_P D vwCl ([]) s.heap := P_nil
  refine ro_call1 (va_runS (As := [.int v1, .int v0]) (rest := []) ⟨hx, hb, hml, hown, htl⟩ (c_X9_share l D ct G fu v1 v0 e_18) (cw_X9_X9_share htl ⟨Nat.le_of_ble_eq_true rfl, Nat.le_of_ble_eq_true rfl⟩) ⟨Bx_blind, Bx_pre hPX_18 hK hN hX⟩ rfl rfl hl.1 rfl (lv_room (Nat.le_of_ble_eq_true rfl)) dX9_isRest_18 ⟨Nat.zero_le _, Nat.zero_le _⟩) ?_
  refine lv_iload_n hx hb dX9_isRest_21 rfl (lv_at hl 0 rfl) ?_
  obtain ⟨r_22, e_22, hf⟩ := ob_bind hf
  have hPX_22 : va_P D vwCl ([]) s.heap := P_nil
  refine ro_call1 (va_runS (As := [.int v0]) (rest := [.int r_18]) ⟨hx, hb, hml, hown, htl⟩ (c_X9_bestAnswer l D ct G fu v0 e_22) (cw_X9_X9_bestAnswer htl ⟨Nat.le_of_ble_eq_true rfl, Nat.le_of_ble_eq_true rfl⟩) ⟨Bx_blind, Bx_pre hPX_22 hK hN hX⟩ rfl rfl hl.1 rfl (lv_room (Nat.le_of_ble_eq_true rfl)) dX9_isRest_22 ⟨Nat.zero_le _, Nat.zero_le _⟩) ?_
  refine lv_iload_n hx hb dX9_isRest_25 rfl (lv_at hl 0 rfl) ?_
  obtain ⟨r_26, e_26, hf⟩ := ob_bind hf
  have hPX_26 : va_P D vwCl ([]) s.heap := P_nil
  refine ro_call1 (va_runS (As := [.int r_22, .int v0]) (rest := [.int r_18]) ⟨hx, hb, hml, hown, htl⟩ (c_X9_share l D ct G fu r_22 v0 e_26) (cw_X9_X9_share htl ⟨Nat.le_of_ble_eq_true rfl, Nat.le_of_ble_eq_true rfl⟩) ⟨Bx_blind, Bx_pre hPX_26 hK hN hX⟩ rfl rfl hl.1 rfl (lv_room (Nat.le_of_ble_eq_true rfl)) dX9_isRest_26 ⟨Nat.zero_le _, Nat.zero_le _⟩) ?_
  refine lv_icmp_ne (tgt := 36) hx hb dX9_isRest_29 (by decide) (fun c_29 => ?_) (fun c_29 => ?_)
  · rw [if_neg c_29] at hf
    refine lv_iconst (v := 0) hx hb dX9_isRest_36 (by decide) ?_
    rw [← hQQ]
    exact rf_z hx hb hr hlocks rfl hf dX9_isRest_37
  rw [if_pos c_29] at hf
  refine lv_iconst (v := 1) hx hb dX9_isRest_32 (by decide) ?_
  refine lv_goto (tgt := 37) hx hb dX9_isRest_33 (by decide) ?_
  rw [← hQQ]
  exact rf_z hx hb hr hlocks rfl hf dX9_isRest_37
theorem c_X9_isRest (l : Launch) (D : va_G) (ct : Nat → ClassId) (G : GT)  (fu : Nat) (v0 : Int32) (v1 : Int32) {r : Int32} (hf : p_X9_isRest fu v0 v1 = some r)  : Met l yX9_isRest (.code yX9_isRest cX9_isRest 2 (some .boolean) :: wsL_law) rm_X9_isRest (va_Pc [.int v0, .int v1] (Bx D ct G ([]))) (Qro (some (.int r))) 0 0 (fun _ => False) := by
  refine Met.ofW (cc := cX9_isRest) (maxL := 2) (ret := (some .boolean)) (by decide) rfl ?_
  intro p e s m args below meth c s₁ B hml hv
  obtain ⟨rfl, hP, hK, hN, hX⟩ := hv
  have hts := atoms_spec (ws := .code yX9_isRest cX9_isRest 2 (some .boolean) :: wsL_law) B.pre
  rw [lg_entry_eq]
  exact b_X9_isRest  fu v0 v1 B.exec B.bytes B.returns hml (findClass_of_methodNamed B.named) (fun w h => hts w (List.mem_cons_of_mem _ h)) B.notSynchronized hK hN hX hP hf   (lv_entry [.int v0, .int v1] (n := 2) (Nat.le_of_ble_eq_true rfl))
def p_X9_commonDivisor_L3 (fu : Nat)  : Nat → Int64 → Int64 → Int32 → Option (Int64)
  | 0, _, _, _ => none
  | n + 1, v0, v2, v4 =>
    if (200 : Int32) ≤ v4 then some v0 else if (lg_cmp v2 0) = 0 then some v0 else if v2 = 0 then none else p_X9_commonDivisor_L3 fu  n v2 (v0 - v0 / v2 * v2) (v4 + 1)
def p_X9_commonDivisor (fu : Nat) (v0 : Int64) (v2 : Int64) : Option (Int64) :=
  p_X9_commonDivisor_L3 fu fu v0 v2 0
abbrev rm_X9_commonDivisor : Room := { frames := 0, cells := 0, slots := 0, locals := 0 }
set_option maxHeartbeats 4000000 in
set_option maxRecDepth 100000 in
theorem b_X9_commonDivisor {p : Program} {l : Launch} {e : Env} {s : State} {m : MethodId} {args : Array Value} {below : List Frame} {meth : Method} {c : Code} {ls : Array Slot} {D : va_G} {ct : Nat → ClassId} {G : GT}  (fu : Nat) (v0 : Int64) (v2 : Int64) {r : Int64} (hx : p.tables.exec = Jvm.exec) (hb : c.code = cX9_commonDivisor) (hr : meth.sig.returnType = (some .long)) (hml : c.maxLocals = 7) (hown : s.vm.findClass RX9 = some m.cls) (htl : ∀ w ∈ wsL_law, w.before args s = true) (hlocks : meth.locks = false) (hK : va_K D vwCl (tyl ct) s) (hN : ∀ w ∈ NW, va_Nw w s) (hX : SX G s s.heap) (hP0 : va_P D vwCl ([]) s.heap) (hf : p_X9_commonDivisor fu v0 v2 = some r)  (hl : lv_has ls 7 [(0, .long v0), (2, .long v2)]) : W p l e rm_X9_commonDivisor s m args below meth c s.heap [] 0 0 (MQ below (Qro (some (.long r))) args s 0 0 (fun _ => False)) (F0 m 0 ls []) := by
  generalize hQQ : MQ below (Qro (some (.long r))) args s 0 0 (fun _ => False) = QQ
  have hP := hP0
  have hL3 : ∀ (n : Nat) (v0 : Int64) (v2 : Int64) (v4 : Int32), ∀ (ls : Array Slot), lv_has ls 7 [(0, .long v0), (2, .long v2), (4, .int v4)] → p_X9_commonDivisor_L3 fu  n v0 v2 v4 = some r → W p l e rm_X9_commonDivisor s m args below meth c s.heap [] 0 0 QQ (F0 m 3 ls []) := by
    intro  n
    induction n with
    | zero =>
      intro v0 v2 v4 ls hl hf 
      rw [p_X9_commonDivisor_L3] at hf
      cases hf
    | succ n ih =>
      intro v0 v2 v4 ls hl hf 
      rw [p_X9_commonDivisor_L3] at hf
      refine lv_iload hx hb dX9_commonDivisor_3 (lv_at hl 2 rfl) ?_
      refine lv_sipush (v := 200) hx hb dX9_commonDivisor_5 (by decide) ?_
      refine lv_icmp_ge (tgt := 33) hx hb dX9_commonDivisor_8 (by decide) (fun c_8 => ?_) (fun c_8 => ?_)
      · rw [if_pos c_8] at hf
        refine lv_lload_n hx hb dX9_commonDivisor_33 rfl (lv_at hl 0 rfl) ?_
        rw [← hQQ]
        exact rf_l hx hb hr hlocks hf dX9_commonDivisor_34
      rw [if_neg c_8] at hf
      refine lv_lload_n hx hb dX9_commonDivisor_11 rfl (lv_at hl 1 rfl) ?_
      refine lv_lconst (v := 0) hx hb dX9_commonDivisor_12 (by decide) ?_
      refine W.lcmp hx hb dX9_commonDivisor_13 ?_
      refine lv_if_eq (tgt := 33) hx hb dX9_commonDivisor_14 (by decide) (fun c_14 => ?_) (fun c_14 => ?_)
      · rw [if_pos c_14] at hf
        refine lv_lload_n hx hb dX9_commonDivisor_33 rfl (lv_at hl 0 rfl) ?_
        rw [← hQQ]
        exact rf_l hx hb hr hlocks hf dX9_commonDivisor_34
      rw [if_neg c_14] at hf
      refine lv_lload_n hx hb dX9_commonDivisor_17 rfl (lv_at hl 0 rfl) ?_
      refine lv_lload_n hx hb dX9_commonDivisor_18 rfl (lv_at hl 1 rfl) ?_
      obtain ⟨hne_19, hf⟩ := ob_neL hf
      refine lv_lrem hx hb dX9_commonDivisor_19 hne_19 ?_
      refine lv_lstore (lv' := [(5, .long (v0 - v0 / v2 * v2)), (0, .long v0), (2, .long v2), (4, .int v4)]) hx hb dX9_commonDivisor_20 hl (by decide) rfl (fun ls hl => ?_)
      refine lv_lload_n hx hb dX9_commonDivisor_22 rfl (lv_at hl 2 rfl) ?_
      refine lv_lstore_n (lv' := [(0, .long v2), (5, .long (v0 - v0 / v2 * v2)), (2, .long v2), (4, .int v4)]) hx hb dX9_commonDivisor_23 rfl hl (by decide) rfl (fun ls hl => ?_)
      refine lv_lload hx hb dX9_commonDivisor_24 (lv_at hl 1 rfl) ?_
      refine lv_lstore_n (lv' := [(2, .long (v0 - v0 / v2 * v2)), (0, .long v2), (5, .long (v0 - v0 / v2 * v2)), (4, .int v4)]) hx hb dX9_commonDivisor_26 rfl hl (by decide) rfl (fun ls hl => ?_)
      refine lv_iinc (v := (v4 + 1)) (lv' := [(4, .int (v4 + 1)), (2, .long (v0 - v0 / v2 * v2)), (0, .long v2), (5, .long (v0 - v0 / v2 * v2))]) hx hb dX9_commonDivisor_27 hl (k := 3) rfl rfl (by decide) rfl (fun ls hl => ?_)
      refine lv_goto (tgt := 3) hx hb dX9_commonDivisor_30 (by decide) ?_
      exact ih v2 (v0 - v0 / v2 * v2) (v4 + 1) _ (lv_sub hl [2, 1, 0] rfl) hf 
  rw [p_X9_commonDivisor] at hf
  refine lv_iconst (v := 0) hx hb dX9_commonDivisor_0 (by decide) ?_
  refine lv_istore (lv' := [(4, .int 0), (0, .long v0), (2, .long v2)]) hx hb dX9_commonDivisor_1 hl (by decide) rfl (fun ls hl => ?_)
  exact hL3 fu v0 v2 0 _ (lv_sub hl [1, 2, 0] rfl) hf 
theorem c_X9_commonDivisor (l : Launch) (D : va_G) (ct : Nat → ClassId) (G : GT)  (fu : Nat) (v0 : Int64) (v2 : Int64) {r : Int64} (hf : p_X9_commonDivisor fu v0 v2 = some r)  : Met l yX9_commonDivisor (.code yX9_commonDivisor cX9_commonDivisor 7 (some .long) :: wsL_law) rm_X9_commonDivisor (va_Pc [.long v0, .long v2] (Bx D ct G ([]))) (Qro (some (.long r))) 0 0 (fun _ => False) := by
  refine Met.ofW (cc := cX9_commonDivisor) (maxL := 7) (ret := (some .long)) (by decide) rfl ?_
  intro p e s m args below meth c s₁ B hml hv
  obtain ⟨rfl, hP, hK, hN, hX⟩ := hv
  have hts := atoms_spec (ws := .code yX9_commonDivisor cX9_commonDivisor 7 (some .long) :: wsL_law) B.pre
  rw [lg_entry_eq]
  exact b_X9_commonDivisor  fu v0 v2 B.exec B.bytes B.returns hml (findClass_of_methodNamed B.named) (fun w h => hts w (List.mem_cons_of_mem _ h)) B.notSynchronized hK hN hX hP hf   (lv_entry [.long v0, .long v2] (n := 7) (Nat.le_of_ble_eq_true rfl))
theorem hd_X9_commonDivisor : yX9_commonDivisor.cls ≠ "java/lang/invoke/MethodHandle" ∧ yX9_commonDivisor.cls ≠ "java/lang/invoke/VarHandle" ∧ (parseMethodDescriptor yX9_commonDivisor.desc).map (fun d => d.parameters.length) = some 2 := by decide +kernel
theorem cw_X9_X9_commonDivisor {R : Room} {s : State} {args : Array Value} (ht : ∀ w ∈ wsL_law, w.before args s = true) (hR : rm_X9_commonDivisor.frames + 1 ≤ R.frames ∧ 8 + (7 + 11) + rm_X9_commonDivisor.locals ≤ R.locals) : CallB R s args RX9 449 yX9_commonDivisor cX9_commonDivisor 7 (some .long) ((.code yX9_commonDivisor cX9_commonDivisor 7 (some .long)) :: wsL_law) rm_X9_commonDivisor 0 0 2 ∧ (Cond.static yX9_commonDivisor).before args s = true := va_cwS 2 ht (GS wq_39_17 wq_39_18 wq_1_2 wq_39_19) rfl rfl rfl hd_X9_commonDivisor hR
def p_X9_toldFraction (fu : Nat) (v0 : Int64) (v2 : Int64) (v4 : Int32) : Option (Int64) :=
  (p_X9_commonDivisor fu v0 v2).bind fun r_2 => if (0 : Int32) < (lg_cmp r_2 0) then if v4 = 0 then if r_2 = 0 then none else some (v0 / r_2) else if r_2 = 0 then none else some (v2 / r_2) else some (0 : Int64)
abbrev rm_X9_toldFraction : Room := { frames := 1, cells := 0, slots := 0, locals := 26 }
set_option maxHeartbeats 4000000 in
set_option maxRecDepth 100000 in
theorem b_X9_toldFraction {p : Program} {l : Launch} {e : Env} {s : State} {m : MethodId} {args : Array Value} {below : List Frame} {meth : Method} {c : Code} {ls : Array Slot} {D : va_G} {ct : Nat → ClassId} {G : GT}  (fu : Nat) (v0 : Int64) (v2 : Int64) (v4 : Int32) {r : Int64} (hx : p.tables.exec = Jvm.exec) (hb : c.code = cX9_toldFraction) (hr : meth.sig.returnType = (some .long)) (hml : c.maxLocals = 7) (hown : s.vm.findClass RX9 = some m.cls) (htl : ∀ w ∈ wsL_law, w.before args s = true) (hlocks : meth.locks = false) (hK : va_K D vwCl (tyl ct) s) (hN : ∀ w ∈ NW, va_Nw w s) (hX : SX G s s.heap) (hP0 : va_P D vwCl ([]) s.heap) (hf : p_X9_toldFraction fu v0 v2 v4 = some r)  (hl : lv_has ls 7 [(0, .long v0), (2, .long v2), (4, .int v4)]) : W p l e rm_X9_toldFraction s m args below meth c s.heap [] 0 0 (MQ below (Qro (some (.long r))) args s 0 0 (fun _ => False)) (F0 m 0 ls []) := by
  generalize hQQ : MQ below (Qro (some (.long r))) args s 0 0 (fun _ => False) = QQ
  have hP := hP0
  rw [p_X9_toldFraction] at hf
  refine lv_lload_n hx hb dX9_toldFraction_0 rfl (lv_at hl 0 rfl) ?_
  refine lv_lload_n hx hb dX9_toldFraction_1 rfl (lv_at hl 1 rfl) ?_
  obtain ⟨r_2, e_2, hf⟩ := ob_bind hf
  have hPX_2 : va_P D vwCl ([]) s.heap := P_nil
  refine ro_call1 (va_runS (As := [.long v0, .long v2]) (rest := []) ⟨hx, hb, hml, hown, htl⟩ (c_X9_commonDivisor l D ct G fu v0 v2 e_2) (cw_X9_X9_commonDivisor htl ⟨Nat.le_of_ble_eq_true rfl, Nat.le_of_ble_eq_true rfl⟩) ⟨Bx_blind, Bx_pre hPX_2 hK hN hX⟩ rfl rfl hl.1 rfl (lv_room (Nat.le_of_ble_eq_true rfl)) dX9_toldFraction_2 ⟨Nat.zero_le _, Nat.zero_le _⟩) ?_
  refine lv_lstore (lv' := [(5, .long r_2), (0, .long v0), (2, .long v2), (4, .int v4)]) hx hb dX9_toldFraction_5 hl (by decide) rfl (fun ls hl => ?_)
  refine lv_lload hx hb dX9_toldFraction_7 (lv_at hl 0 rfl) ?_
  refine lv_lconst (v := 0) hx hb dX9_toldFraction_9 (by decide) ?_
  refine W.lcmp hx hb dX9_toldFraction_10 ?_
  refine lv_if_gt (tgt := 16) hx hb dX9_toldFraction_11 (by decide) (fun c_11 => ?_) (fun c_11 => ?_)
  rotate_left 1
  · rw [if_neg c_11] at hf
    refine lv_lconst (v := 0) hx hb dX9_toldFraction_14 (by decide) ?_
    rw [← hQQ]
    exact rf_l hx hb hr hlocks hf dX9_toldFraction_15
  rw [if_pos c_11] at hf
  refine lv_iload hx hb dX9_toldFraction_16 (lv_at hl 3 rfl) ?_
  refine lv_if_ne (tgt := 25) hx hb dX9_toldFraction_18 (by decide) (fun c_18 => ?_) (fun c_18 => ?_)
  · rw [if_neg c_18] at hf
    refine lv_lload_n hx hb dX9_toldFraction_25 rfl (lv_at hl 2 rfl) ?_
    refine lv_lload hx hb dX9_toldFraction_26 (lv_at hl 0 rfl) ?_
    obtain ⟨hne_28, hf⟩ := ob_neL hf
    refine lv_ldiv hx hb dX9_toldFraction_28 hne_28 ?_
    rw [← hQQ]
    exact rf_l hx hb hr hlocks hf dX9_toldFraction_29
  rw [if_pos c_18] at hf
  refine lv_lload_n hx hb dX9_toldFraction_21 rfl (lv_at hl 1 rfl) ?_
  refine lv_goto (tgt := 26) hx hb dX9_toldFraction_22 (by decide) ?_
  refine lv_lload hx hb dX9_toldFraction_26 (lv_at hl 0 rfl) ?_
  obtain ⟨hne_28, hf⟩ := ob_neL hf
  refine lv_ldiv hx hb dX9_toldFraction_28 hne_28 ?_
  rw [← hQQ]
  exact rf_l hx hb hr hlocks hf dX9_toldFraction_29
theorem c_X9_toldFraction (l : Launch) (D : va_G) (ct : Nat → ClassId) (G : GT)  (fu : Nat) (v0 : Int64) (v2 : Int64) (v4 : Int32) {r : Int64} (hf : p_X9_toldFraction fu v0 v2 v4 = some r)  : Met l yX9_toldFraction (.code yX9_toldFraction cX9_toldFraction 7 (some .long) :: wsL_law) rm_X9_toldFraction (va_Pc [.long v0, .long v2, .int v4] (Bx D ct G ([]))) (Qro (some (.long r))) 0 0 (fun _ => False) := by
  refine Met.ofW (cc := cX9_toldFraction) (maxL := 7) (ret := (some .long)) (by decide) rfl ?_
  intro p e s m args below meth c s₁ B hml hv
  obtain ⟨rfl, hP, hK, hN, hX⟩ := hv
  have hts := atoms_spec (ws := .code yX9_toldFraction cX9_toldFraction 7 (some .long) :: wsL_law) B.pre
  rw [lg_entry_eq]
  exact b_X9_toldFraction  fu v0 v2 v4 B.exec B.bytes B.returns hml (findClass_of_methodNamed B.named) (fun w h => hts w (List.mem_cons_of_mem _ h)) B.notSynchronized hK hN hX hP hf   (lv_entry [.long v0, .long v2, .int v4] (n := 7) (Nat.le_of_ble_eq_true rfl))
def p_X9_isSeed (fu : Nat) (v0 : Int32) : Option (Int32) :=
  if v0 < 0 then some (0 : Int32) else if (2000000000 : Int32) < v0 then some (0 : Int32) else some (1 : Int32)
abbrev rm_X9_isSeed : Room := { frames := 0, cells := 0, slots := 0, locals := 0 }
set_option maxHeartbeats 4000000 in
set_option maxRecDepth 100000 in
theorem b_X9_isSeed {p : Program} {l : Launch} {e : Env} {s : State} {m : MethodId} {args : Array Value} {below : List Frame} {meth : Method} {c : Code} {ls : Array Slot} {D : va_G} {ct : Nat → ClassId} {G : GT}  (fu : Nat) (v0 : Int32) {r : Int32} (hx : p.tables.exec = Jvm.exec) (hb : c.code = cX9_isSeed) (hr : meth.sig.returnType = (some .boolean)) (hml : c.maxLocals = 1) (hown : s.vm.findClass RX9 = some m.cls) (htl : ∀ w ∈ wsL_law, w.before args s = true) (hlocks : meth.locks = false) (hK : va_K D vwCl (tyl ct) s) (hN : ∀ w ∈ NW, va_Nw w s) (hX : SX G s s.heap) (hP0 : va_P D vwCl ([]) s.heap) (hf : p_X9_isSeed fu v0 = some r)  (hl : lv_has ls 1 [(0, .int v0)]) : W p l e rm_X9_isSeed s m args below meth c s.heap [] 0 0 (MQ below (Qro (some (.int r))) args s 0 0 (fun _ => False)) (F0 m 0 ls []) := by
  generalize hQQ : MQ below (Qro (some (.int r))) args s 0 0 (fun _ => False) = QQ
  have hP := hP0
  rw [p_X9_isSeed] at hf
  refine lv_iload_n hx hb dX9_isSeed_0 rfl (lv_at hl 0 rfl) ?_
  refine lv_if_lt (tgt := 15) hx hb dX9_isSeed_1 (by decide) (fun c_1 => ?_) (fun c_1 => ?_)
  · rw [if_pos c_1] at hf
    refine lv_iconst (v := 0) hx hb dX9_isSeed_15 (by decide) ?_
    rw [← hQQ]
    exact rf_z hx hb hr hlocks rfl hf dX9_isSeed_16
  rw [if_neg c_1] at hf
  refine lv_iload_n hx hb dX9_isSeed_4 rfl (lv_at hl 0 rfl) ?_
  refine lv_ldcw (v := 2000000000) hx hb hown (htl _ wq_57_1) dX9_isSeed_5 ?_
  refine lv_icmp_gt (tgt := 15) hx hb dX9_isSeed_8 (by decide) (fun c_8 => ?_) (fun c_8 => ?_)
  · rw [if_pos c_8] at hf
    refine lv_iconst (v := 0) hx hb dX9_isSeed_15 (by decide) ?_
    rw [← hQQ]
    exact rf_z hx hb hr hlocks rfl hf dX9_isSeed_16
  rw [if_neg c_8] at hf
  refine lv_iconst (v := 1) hx hb dX9_isSeed_11 (by decide) ?_
  refine lv_goto (tgt := 16) hx hb dX9_isSeed_12 (by decide) ?_
  rw [← hQQ]
  exact rf_z hx hb hr hlocks rfl hf dX9_isSeed_16
theorem c_X9_isSeed (l : Launch) (D : va_G) (ct : Nat → ClassId) (G : GT)  (fu : Nat) (v0 : Int32) {r : Int32} (hf : p_X9_isSeed fu v0 = some r)  : Met l yX9_isSeed (.code yX9_isSeed cX9_isSeed 1 (some .boolean) :: wsL_law) rm_X9_isSeed (va_Pc [.int v0] (Bx D ct G ([]))) (Qro (some (.int r))) 0 0 (fun _ => False) := by
  refine Met.ofW (cc := cX9_isSeed) (maxL := 1) (ret := (some .boolean)) (by decide) rfl ?_
  intro p e s m args below meth c s₁ B hml hv
  obtain ⟨rfl, hP, hK, hN, hX⟩ := hv
  have hts := atoms_spec (ws := .code yX9_isSeed cX9_isSeed 1 (some .boolean) :: wsL_law) B.pre
  rw [lg_entry_eq]
  exact b_X9_isSeed  fu v0 B.exec B.bytes B.returns hml (findClass_of_methodNamed B.named) (fun w h => hts w (List.mem_cons_of_mem _ h)) B.notSynchronized hK hN hX hP hf   (lv_entry [.int v0] (n := 1) (Nat.le_of_ble_eq_true rfl))
def p_X9_cut (fu : Nat) (v0 : Int64) (v2 : Int32) : Option (Int64) :=
  if v2 = 0 then some v0.toInt32.toInt8.toInt32.toInt64 else if v2 = 1 then some v0.toInt32.toInt16.toInt32.toInt64 else if v2 = 2 then some v0.toInt32.toInt64 else some v0
abbrev rm_X9_cut : Room := { frames := 0, cells := 0, slots := 0, locals := 0 }
set_option maxHeartbeats 4000000 in
set_option maxRecDepth 100000 in
theorem b_X9_cut {p : Program} {l : Launch} {e : Env} {s : State} {m : MethodId} {args : Array Value} {below : List Frame} {meth : Method} {c : Code} {ls : Array Slot} {D : va_G} {ct : Nat → ClassId} {G : GT}  (fu : Nat) (v0 : Int64) (v2 : Int32) {r : Int64} (hx : p.tables.exec = Jvm.exec) (hb : c.code = cX9_cut) (hr : meth.sig.returnType = (some .long)) (hml : c.maxLocals = 3) (hown : s.vm.findClass RX9 = some m.cls) (htl : ∀ w ∈ wsL_law, w.before args s = true) (hlocks : meth.locks = false) (hK : va_K D vwCl (tyl ct) s) (hN : ∀ w ∈ NW, va_Nw w s) (hX : SX G s s.heap) (hP0 : va_P D vwCl ([]) s.heap) (hf : p_X9_cut fu v0 v2 = some r)  (hl : lv_has ls 3 [(0, .long v0), (2, .int v2)]) : W p l e rm_X9_cut s m args below meth c s.heap [] 0 0 (MQ below (Qro (some (.long r))) args s 0 0 (fun _ => False)) (F0 m 0 ls []) := by
  generalize hQQ : MQ below (Qro (some (.long r))) args s 0 0 (fun _ => False) = QQ
  have hP := hP0
  rw [p_X9_cut] at hf
  refine lv_iload_n hx hb dX9_cut_0 rfl (lv_at hl 1 rfl) ?_
  by_cases c_1_0 : v2 = 0
  · rw [if_pos c_1_0] at hf
    refine lv_tableIn (tgt := 28) hx hb dX9_cut_1 (by rw [c_1_0]; decide) (by rw [c_1_0]; decide) (by rw [c_1_0]; rfl) (by decide) ?_
    refine lv_lload_n hx hb dX9_cut_28 rfl (lv_at hl 0 rfl) ?_
    refine lv_l2i hx hb dX9_cut_29 rfl ?_
    refine lv_i2b hx hb dX9_cut_30 rfl ?_
    refine lv_i2l hx hb dX9_cut_31 rfl ?_
    rw [← hQQ]
    exact rf_l hx hb hr hlocks hf dX9_cut_32
  rw [if_neg c_1_0] at hf
  by_cases c_1_1 : v2 = 1
  · rw [if_pos c_1_1] at hf
    refine lv_tableIn (tgt := 33) hx hb dX9_cut_1 (by rw [c_1_1]; decide) (by rw [c_1_1]; decide) (by rw [c_1_1]; rfl) (by decide) ?_
    refine lv_lload_n hx hb dX9_cut_33 rfl (lv_at hl 0 rfl) ?_
    refine lv_l2i hx hb dX9_cut_34 rfl ?_
    refine lv_i2s hx hb dX9_cut_35 rfl ?_
    refine lv_i2l hx hb dX9_cut_36 rfl ?_
    rw [← hQQ]
    exact rf_l hx hb hr hlocks hf dX9_cut_37
  rw [if_neg c_1_1] at hf
  by_cases c_1_2 : v2 = 2
  · rw [if_pos c_1_2] at hf
    refine lv_tableIn (tgt := 38) hx hb dX9_cut_1 (by rw [c_1_2]; decide) (by rw [c_1_2]; decide) (by rw [c_1_2]; rfl) (by decide) ?_
    refine lv_lload_n hx hb dX9_cut_38 rfl (lv_at hl 0 rfl) ?_
    refine lv_l2i hx hb dX9_cut_39 rfl ?_
    refine lv_i2l hx hb dX9_cut_40 rfl ?_
    rw [← hQQ]
    exact rf_l hx hb hr hlocks hf dX9_cut_41
  rw [if_neg c_1_2] at hf
  refine lv_tableOut (tgt := 42) hx hb dX9_cut_1 (sw_out_0_2 (lv_neT c_1_0 (a := 0) rfl) (lv_neT c_1_1 (a := 1) rfl) (lv_neT c_1_2 (a := 2) rfl)) (by decide) ?_
  refine lv_lload_n hx hb dX9_cut_42 rfl (lv_at hl 0 rfl) ?_
  rw [← hQQ]
  exact rf_l hx hb hr hlocks hf dX9_cut_43
theorem c_X9_cut (l : Launch) (D : va_G) (ct : Nat → ClassId) (G : GT)  (fu : Nat) (v0 : Int64) (v2 : Int32) {r : Int64} (hf : p_X9_cut fu v0 v2 = some r)  : Met l yX9_cut (.code yX9_cut cX9_cut 3 (some .long) :: wsL_law) rm_X9_cut (va_Pc [.long v0, .int v2] (Bx D ct G ([]))) (Qro (some (.long r))) 0 0 (fun _ => False) := by
  refine Met.ofW (cc := cX9_cut) (maxL := 3) (ret := (some .long)) (by decide) rfl ?_
  intro p e s m args below meth c s₁ B hml hv
  obtain ⟨rfl, hP, hK, hN, hX⟩ := hv
  have hts := atoms_spec (ws := .code yX9_cut cX9_cut 3 (some .long) :: wsL_law) B.pre
  rw [lg_entry_eq]
  exact b_X9_cut  fu v0 v2 B.exec B.bytes B.returns hml (findClass_of_methodNamed B.named) (fun w h => hts w (List.mem_cons_of_mem _ h)) B.notSynchronized hK hN hX hP hf   (lv_entry [.long v0, .int v2] (n := 3) (Nat.le_of_ble_eq_true rfl))
