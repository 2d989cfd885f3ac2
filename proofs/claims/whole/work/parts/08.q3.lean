theorem sw_out_0_9 {x : Int32} (h0 : ¬ x.toInt = 0) (h1 : ¬ x.toInt = 1) (h2 : ¬ x.toInt = 2) (h3 : ¬ x.toInt = 3) (h4 : ¬ x.toInt = 4) (h5 : ¬ x.toInt = 5) (h6 : ¬ x.toInt = 6) (h7 : ¬ x.toInt = 7) (h8 : ¬ x.toInt = 8) (h9 : ¬ x.toInt = 9) : x.toInt < 0 ∨ 9 < x.toInt := by omega
theorem hd_X9_rowsThere : yX9_rowsThere.cls ≠ "java/lang/invoke/MethodHandle" ∧ yX9_rowsThere.cls ≠ "java/lang/invoke/VarHandle" ∧ (parseMethodDescriptor yX9_rowsThere.desc).map (fun d => d.parameters.length) = some 0 := by decide +kernel
theorem cw_X9_X9_rowsThere {R : Room} {s : State} {args : Array Value} (ht : ∀ w ∈ wsL_law, w.before args s = true) (hR : rm_X9_rowsThere.frames + 1 ≤ R.frames ∧ 8 + (6 + 11) + rm_X9_rowsThere.locals ≤ R.locals) : CallW R s args RX9 RX9 378 yX9_rowsThere cX9_rowsThere 6 (some .int) ((.code yX9_rowsThere cX9_rowsThere 6 (some .int)) :: wsL_law) rm_X9_rowsThere 0 0 0 := cwV 0 ht (GV wq_59_2 wq_59_3 wq_59_4 wq_1_2 wq_59_5) rfl rfl rfl ⟨rfl, hd_X9_rowsThere⟩ hR
def p_X9_count (fu : Nat) (x : Nat → Ob) (v1 : Int32) : Option (Int32) :=
  if v1 = 0 then some ((x 5).1 1 0) else if v1 = 1 then some ((x 5).1 2 0) else if v1 = 2 then some ((x 5).1 3 0) else if v1 = 3 then some ((x 5).1 4 0) else if v1 = 4 then some ((x 5).1 8 0) else if v1 = 5 then some ((x 5).1 13 0) else if v1 = 6 then some ((x 5).1 16 0) else if v1 = 7 then (p_X2_lines fu (x 5)).bind fun r_116 => some r_116 else if v1 = 8 then some ((x 1).1 1 0) else if v1 = 9 then (p_X9_rowsThere fu x).bind fun r_129 => some r_129 else some ((-1) : Int32)
abbrev rm_X9_count : Room := { frames := 1, cells := 0, slots := 0, locals := 25 }
set_option maxHeartbeats 4000000 in
set_option maxRecDepth 100000 in
theorem b_X9_count {p : Program} {l : Launch} {e : Env} {s : State} {m : MethodId} {args : Array Value} {below : List Frame} {meth : Method} {c : Code} {ls : Array Slot} {D : va_G} {ct : Nat → ClassId} {G : GT} (A : Nat → Nat) (fu : Nat) (x : Nat → Ob) (v1 : Int32) {r : Int32} (hx : p.tables.exec = Jvm.exec) (hb : c.code = cX9_count) (hr : meth.sig.returnType = (some .int)) (hml : c.maxLocals = 2) (hown : s.vm.findClass RX9 = some m.cls) (htl : ∀ w ∈ wsL_law, w.before args s = true) (hlocks : meth.locks = false) (hK : va_K D vwCl (tyl ct) s) (hN : ∀ w ∈ NW, va_Nw w s) (hX : SX G s s.heap) (hP0 : va_P D vwCl (csQ ct A x) s.heap) (hf : p_X9_count fu x v1 = some r)  (hl : lv_has ls 2 [(0, .ref (A 0)), (1, .int v1)]) : W p l e rm_X9_count s m args below meth c s.heap [] 0 0 (MQ below (Qro (some (.int r))) args s 0 0 (fun _ => False)) (F0 m 0 ls []) := by
  generalize hQQ : MQ below (Qro (some (.int r))) args s 0 0 (fun _ => False) = QQ
  have hP := hP0
  rw [p_X9_count] at hf
  refine lv_iload_n hx hb dX9_count_0 rfl (lv_at hl 1 rfl) ?_
  by_cases c_1_0 : v1 = 0
  · rw [if_pos c_1_0] at hf
    refine lv_tableIn (tgt := 56) hx hb dX9_count_1 (by rw [c_1_0]; decide) (by rw [c_1_0]; decide) (by rw [c_1_0]; rfl) (by decide) ?_
    refine lv_aload_n hx hb dX9_count_56 rfl (lv_at hl 0 rfl) ?_
    refine va_get (D := D) (ci := 9) (v := .ref (A 21)) (C := RX9) (T := TX9) (N := 14) hx hb htl inlX9 hown hK hP 0 qh_0 rfl 2 (by decide) (htl _ wq_2_0) (fun _ h9 => h9) rfl dX9_count_57 ?_
    refine va_getN (D := D) (ci := 2) (v := .int ((x 5).1 1 0)) (C := RX2) (T := TX2) (N := 20) hx hb htl inlX2 hown hK hP 21 qh_5 rfl 1 (by decide) (va_Nw.use rfl (hN _ nm_26)) (fun _ h9 => h9) rfl dX9_count_60 ?_
    rw [← hQQ]
    exact rf_i hx hb hr hlocks hf dX9_count_63
  rw [if_neg c_1_0] at hf
  by_cases c_1_1 : v1 = 1
  · rw [if_pos c_1_1] at hf
    refine lv_tableIn (tgt := 64) hx hb dX9_count_1 (by rw [c_1_1]; decide) (by rw [c_1_1]; decide) (by rw [c_1_1]; rfl) (by decide) ?_
    refine lv_aload_n hx hb dX9_count_64 rfl (lv_at hl 0 rfl) ?_
    refine va_get (D := D) (ci := 9) (v := .ref (A 21)) (C := RX9) (T := TX9) (N := 14) hx hb htl inlX9 hown hK hP 0 qh_0 rfl 2 (by decide) (htl _ wq_2_0) (fun _ h9 => h9) rfl dX9_count_65 ?_
    refine va_getN (D := D) (ci := 2) (v := .int ((x 5).1 2 0)) (C := RX2) (T := TX2) (N := 20) hx hb htl inlX2 hown hK hP 21 qh_5 rfl 2 (by decide) (va_Nw.use rfl (hN _ nm_32)) (fun _ h9 => h9) rfl dX9_count_68 ?_
    rw [← hQQ]
    exact rf_i hx hb hr hlocks hf dX9_count_71
  rw [if_neg c_1_1] at hf
  by_cases c_1_2 : v1 = 2
  · rw [if_pos c_1_2] at hf
    refine lv_tableIn (tgt := 72) hx hb dX9_count_1 (by rw [c_1_2]; decide) (by rw [c_1_2]; decide) (by rw [c_1_2]; rfl) (by decide) ?_
    refine lv_aload_n hx hb dX9_count_72 rfl (lv_at hl 0 rfl) ?_
    refine va_get (D := D) (ci := 9) (v := .ref (A 21)) (C := RX9) (T := TX9) (N := 14) hx hb htl inlX9 hown hK hP 0 qh_0 rfl 2 (by decide) (htl _ wq_2_0) (fun _ h9 => h9) rfl dX9_count_73 ?_
    refine va_getN (D := D) (ci := 2) (v := .int ((x 5).1 3 0)) (C := RX2) (T := TX2) (N := 20) hx hb htl inlX2 hown hK hP 21 qh_5 rfl 3 (by decide) (va_Nw.use rfl (hN _ nm_33)) (fun _ h9 => h9) rfl dX9_count_76 ?_
    rw [← hQQ]
    exact rf_i hx hb hr hlocks hf dX9_count_79
  rw [if_neg c_1_2] at hf
  by_cases c_1_3 : v1 = 3
  · rw [if_pos c_1_3] at hf
    refine lv_tableIn (tgt := 80) hx hb dX9_count_1 (by rw [c_1_3]; decide) (by rw [c_1_3]; decide) (by rw [c_1_3]; rfl) (by decide) ?_
    refine lv_aload_n hx hb dX9_count_80 rfl (lv_at hl 0 rfl) ?_
    refine va_get (D := D) (ci := 9) (v := .ref (A 21)) (C := RX9) (T := TX9) (N := 14) hx hb htl inlX9 hown hK hP 0 qh_0 rfl 2 (by decide) (htl _ wq_2_0) (fun _ h9 => h9) rfl dX9_count_81 ?_
    refine va_getN (D := D) (ci := 2) (v := .int ((x 5).1 4 0)) (C := RX2) (T := TX2) (N := 20) hx hb htl inlX2 hown hK hP 21 qh_5 rfl 4 (by decide) (va_Nw.use rfl (hN _ nm_23)) (fun _ h9 => h9) rfl dX9_count_84 ?_
    rw [← hQQ]
    exact rf_i hx hb hr hlocks hf dX9_count_87
  rw [if_neg c_1_3] at hf
  by_cases c_1_4 : v1 = 4
  · rw [if_pos c_1_4] at hf
    refine lv_tableIn (tgt := 88) hx hb dX9_count_1 (by rw [c_1_4]; decide) (by rw [c_1_4]; decide) (by rw [c_1_4]; rfl) (by decide) ?_
    refine lv_aload_n hx hb dX9_count_88 rfl (lv_at hl 0 rfl) ?_
    refine va_get (D := D) (ci := 9) (v := .ref (A 21)) (C := RX9) (T := TX9) (N := 14) hx hb htl inlX9 hown hK hP 0 qh_0 rfl 2 (by decide) (htl _ wq_2_0) (fun _ h9 => h9) rfl dX9_count_89 ?_
    refine va_getN (D := D) (ci := 2) (v := .int ((x 5).1 8 0)) (C := RX2) (T := TX2) (N := 20) hx hb htl inlX2 hown hK hP 21 qh_5 rfl 8 (by decide) (va_Nw.use rfl (hN _ nm_24)) (fun _ h9 => h9) rfl dX9_count_92 ?_
    rw [← hQQ]
    exact rf_i hx hb hr hlocks hf dX9_count_95
  rw [if_neg c_1_4] at hf
  by_cases c_1_5 : v1 = 5
  · rw [if_pos c_1_5] at hf
    refine lv_tableIn (tgt := 96) hx hb dX9_count_1 (by rw [c_1_5]; decide) (by rw [c_1_5]; decide) (by rw [c_1_5]; rfl) (by decide) ?_
    refine lv_aload_n hx hb dX9_count_96 rfl (lv_at hl 0 rfl) ?_
    refine va_get (D := D) (ci := 9) (v := .ref (A 21)) (C := RX9) (T := TX9) (N := 14) hx hb htl inlX9 hown hK hP 0 qh_0 rfl 2 (by decide) (htl _ wq_2_0) (fun _ h9 => h9) rfl dX9_count_97 ?_
    refine va_getN (D := D) (ci := 2) (v := .int ((x 5).1 13 0)) (C := RX2) (T := TX2) (N := 20) hx hb htl inlX2 hown hK hP 21 qh_5 rfl 13 (by decide) (va_Nw.use rfl (hN _ nm_11)) (fun _ h9 => h9) rfl dX9_count_100 ?_
    rw [← hQQ]
    exact rf_i hx hb hr hlocks hf dX9_count_103
  rw [if_neg c_1_5] at hf
  by_cases c_1_6 : v1 = 6
  · rw [if_pos c_1_6] at hf
    refine lv_tableIn (tgt := 104) hx hb dX9_count_1 (by rw [c_1_6]; decide) (by rw [c_1_6]; decide) (by rw [c_1_6]; rfl) (by decide) ?_
    refine lv_aload_n hx hb dX9_count_104 rfl (lv_at hl 0 rfl) ?_
    refine va_get (D := D) (ci := 9) (v := .ref (A 21)) (C := RX9) (T := TX9) (N := 14) hx hb htl inlX9 hown hK hP 0 qh_0 rfl 2 (by decide) (htl _ wq_2_0) (fun _ h9 => h9) rfl dX9_count_105 ?_
    refine va_getN (D := D) (ci := 2) (v := .int ((x 5).1 16 0)) (C := RX2) (T := TX2) (N := 20) hx hb htl inlX2 hown hK hP 21 qh_5 rfl 16 (by decide) (va_Nw.use rfl (hN _ nm_31)) (fun _ h9 => h9) rfl dX9_count_108 ?_
    rw [← hQQ]
    exact rf_i hx hb hr hlocks hf dX9_count_111
  rw [if_neg c_1_6] at hf
  by_cases c_1_7 : v1 = 7
  · rw [if_pos c_1_7] at hf
    refine lv_tableIn (tgt := 112) hx hb dX9_count_1 (by rw [c_1_7]; decide) (by rw [c_1_7]; decide) (by rw [c_1_7]; rfl) (by decide) ?_
    refine lv_aload_n hx hb dX9_count_112 rfl (lv_at hl 0 rfl) ?_
    refine va_get (D := D) (ci := 9) (v := .ref (A 21)) (C := RX9) (T := TX9) (N := 14) hx hb htl inlX9 hown hK hP 0 qh_0 rfl 2 (by decide) (htl _ wq_2_0) (fun _ h9 => h9) rfl dX9_count_113 ?_
    obtain ⟨r_116, e_116, hf⟩ := ob_bind hf
    have hPX_116 : va_P D vwCl (cs2 ct (fun i => A (21 + i)) (x 5)) s.heap := (qs_5 hP)
    refine ro_call1 (va_runVN (As := []) (rest := []) ⟨hx, hb, hml, hown, htl⟩ (c_X2_lines l D ct G (fun i => A (21 + i)) fu (x 5) e_116) (cw_X9_X2_lines htl hN ⟨Nat.le_of_ble_eq_true rfl, Nat.le_of_ble_eq_true rfl⟩) ⟨Bx_blind, va_recv hK hPX_116 (ci := 2) (q0 := 0) rfl rfl, Bx_pre hPX_116 hK hN hX⟩ rfl rfl hl.1 rfl (lv_room (Nat.le_of_ble_eq_true rfl)) dX9_count_116 ⟨Nat.zero_le _, Nat.zero_le _⟩) ?_
    rw [← hQQ]
    exact rf_i hx hb hr hlocks hf dX9_count_119
  rw [if_neg c_1_7] at hf
  by_cases c_1_8 : v1 = 8
  · rw [if_pos c_1_8] at hf
    refine lv_tableIn (tgt := 120) hx hb dX9_count_1 (by rw [c_1_8]; decide) (by rw [c_1_8]; decide) (by rw [c_1_8]; rfl) (by decide) ?_
    refine lv_aload_n hx hb dX9_count_120 rfl (lv_at hl 0 rfl) ?_
    refine va_get (D := D) (ci := 9) (v := .ref (A 1)) (C := RX9) (T := TX9) (N := 14) hx hb htl inlX9 hown hK hP 0 qh_0 rfl 0 (by decide) (htl _ wq_1_16) (fun _ h9 => h9) rfl dX9_count_121 ?_
    refine va_getN (D := D) (ci := 6) (v := .int ((x 1).1 1 0)) (C := RX6) (T := TX6) (N := 2) hx hb htl inlX6 hown hK hP 1 qh_1 rfl 1 (by decide) (va_Nw.use rfl (hN _ nm_0)) (fun _ h9 => h9) rfl dX9_count_124 ?_
    rw [← hQQ]
    exact rf_i hx hb hr hlocks hf dX9_count_127
  rw [if_neg c_1_8] at hf
  by_cases c_1_9 : v1 = 9
  · rw [if_pos c_1_9] at hf
    refine lv_tableIn (tgt := 128) hx hb dX9_count_1 (by rw [c_1_9]; decide) (by rw [c_1_9]; decide) (by rw [c_1_9]; rfl) (by decide) ?_
    refine lv_aload_n hx hb dX9_count_128 rfl (lv_at hl 0 rfl) ?_
    obtain ⟨r_129, e_129, hf⟩ := ob_bind hf
    have hPX_129 : va_P D vwCl (csQ ct A x) s.heap := hP
    refine ro_call1 (va_runV (As := []) (rest := []) ⟨hx, hb, hml, hown, htl⟩ (c_X9_rowsThere l D ct G A fu x e_129) (cw_X9_X9_rowsThere htl ⟨Nat.le_of_ble_eq_true rfl, Nat.le_of_ble_eq_true rfl⟩) ⟨Bx_blind, va_recv hK hPX_129 (ci := 9) (q0 := 0) rfl rfl, Bx_pre hPX_129 hK hN hX⟩ rfl rfl hl.1 rfl (lv_room (Nat.le_of_ble_eq_true rfl)) dX9_count_129 ⟨Nat.zero_le _, Nat.zero_le _⟩) ?_
    rw [← hQQ]
    exact rf_i hx hb hr hlocks hf dX9_count_132
  rw [if_neg c_1_9] at hf
  refine lv_tableOut (tgt := 133) hx hb dX9_count_1 (sw_out_0_9 (lv_neT c_1_0 (a := 0) rfl) (lv_neT c_1_1 (a := 1) rfl) (lv_neT c_1_2 (a := 2) rfl) (lv_neT c_1_3 (a := 3) rfl) (lv_neT c_1_4 (a := 4) rfl) (lv_neT c_1_5 (a := 5) rfl) (lv_neT c_1_6 (a := 6) rfl) (lv_neT c_1_7 (a := 7) rfl) (lv_neT c_1_8 (a := 8) rfl) (lv_neT c_1_9 (a := 9) rfl)) (by decide) ?_
  refine lv_iconst (v := (-1)) hx hb dX9_count_133 (by decide) ?_
  rw [← hQQ]
  exact rf_i hx hb hr hlocks hf dX9_count_134
theorem c_X9_count (l : Launch) (D : va_G) (ct : Nat → ClassId) (G : GT) (A : Nat → Nat) (fu : Nat) (x : Nat → Ob) (v1 : Int32) {r : Int32} (hf : p_X9_count fu x v1 = some r)  : Met l yX9_count (.code yX9_count cX9_count 2 (some .int) :: wsL_law) rm_X9_count (va_Pc [.ref (A 0), .int v1] (Bx D ct G (csQ ct A x))) (Qro (some (.int r))) 0 0 (fun _ => False) := by
  refine Met.ofW (cc := cX9_count) (maxL := 2) (ret := (some .int)) (by decide) rfl ?_
  intro p e s m args below meth c s₁ B hml hv
  obtain ⟨rfl, hP, hK, hN, hX⟩ := hv
  have hts := atoms_spec (ws := .code yX9_count cX9_count 2 (some .int) :: wsL_law) B.pre
  rw [lg_entry_eq]
  exact b_X9_count A fu x v1 B.exec B.bytes B.returns hml (findClass_of_methodNamed B.named) (fun w h => hts w (List.mem_cons_of_mem _ h)) B.notSynchronized hK hN hX hP hf   (lv_entry [.ref (A 0), .int v1] (n := 2) (Nat.le_of_ble_eq_true rfl))
def p_X9_imageOf (fu : Nat) (x : Nat → Ob) (v1 : Int32) : Option (Option Nat) :=
  if v1 < 0 then some none else if (3 : Int32) ≤ v1 then some none else if inb v1 3 = true then oLet v1.toNatClampNeg (fun j_18 => some (some j_18)) else none
abbrev rm_X9_imageOf : Room := { frames := 0, cells := 0, slots := 0, locals := 0 }
set_option maxHeartbeats 4000000 in
set_option maxRecDepth 100000 in
theorem b_X9_imageOf {p : Program} {l : Launch} {e : Env} {s : State} {m : MethodId} {args : Array Value} {below : List Frame} {meth : Method} {c : Code} {ls : Array Slot} {D : va_G} {ct : Nat → ClassId} {G : GT} (A : Nat → Nat) (fu : Nat) (x : Nat → Ob) (v1 : Int32) {r : Option Nat} (hx : p.tables.exec = Jvm.exec) (hb : c.code = cX9_imageOf) (hr : meth.sig.returnType = (some (.object "QuotedRiver$Rivers"))) (hml : c.maxLocals = 2) (hown : s.vm.findClass RX9 = some m.cls) (htl : ∀ w ∈ wsL_law, w.before args s = true) (hlocks : meth.locks = false) (hK : va_K D vwCl (tyl ct) s) (hN : ∀ w ∈ NW, va_Nw w s) (hX : SX G s s.heap) (hP0 : va_P D vwCl (csQ ct A x) s.heap) (hf : p_X9_imageOf fu x v1 = some r)  (hl : lv_has ls 2 [(0, .ref (A 0)), (1, .int v1)]) : W p l e rm_X9_imageOf s m args below meth c s.heap [] 0 0 (MQ below (Qro (some (va_rf (r.map (fun j => A (48 + 13 * j)))))) args s 0 0 (fun _ => False)) (F0 m 0 ls []) := by
  generalize hQQ : MQ below (Qro (some (va_rf (r.map (fun j => A (48 + 13 * j)))))) args s 0 0 (fun _ => False) = QQ
  have hP := hP0
  rw [p_X9_imageOf] at hf
  refine lv_iload_n hx hb dX9_imageOf_0 rfl (lv_at hl 1 rfl) ?_
  refine lv_if_lt (tgt := 22) hx hb dX9_imageOf_1 (by decide) (fun c_1 => ?_) (fun c_1 => ?_)
  · rw [if_pos c_1] at hf
    refine lv_null hx hb dX9_imageOf_22 ?_
    rw [← hQQ]
    exact rf_a hx hb hr hlocks (by cases hf; rfl) (Or.inl rfl) dX9_imageOf_23
  rw [if_neg c_1] at hf
  refine lv_iload_n hx hb dX9_imageOf_4 rfl (lv_at hl 1 rfl) ?_
  refine lv_aload_n hx hb dX9_imageOf_5 rfl (lv_at hl 0 rfl) ?_
  refine va_get (D := D) (ci := 9) (v := .ref (A 47)) (C := RX9) (T := TX9) (N := 14) hx hb htl inlX9 hown hK hP 0 qh_0 rfl 4 (by decide) (htl _ wq_2_2) (fun _ h9 => h9) rfl dX9_imageOf_6 ?_
  refine va_alen (D := D) (tys := tyl ct) (v := 3) hx hb hK hP 47 4 rfl rfl rfl dX9_imageOf_9 ?_
  refine lv_icmp_ge (tgt := 22) hx hb dX9_imageOf_10 (by decide) (fun c_10 => ?_) (fun c_10 => ?_)
  · rw [if_pos c_10] at hf
    refine lv_null hx hb dX9_imageOf_22 ?_
    rw [← hQQ]
    exact rf_a hx hb hr hlocks (by cases hf; rfl) (Or.inl rfl) dX9_imageOf_23
  rw [if_neg c_10] at hf
  refine lv_aload_n hx hb dX9_imageOf_13 rfl (lv_at hl 0 rfl) ?_
  refine va_get (D := D) (ci := 9) (v := .ref (A 47)) (C := RX9) (T := TX9) (N := 14) hx hb htl inlX9 hown hK hP 0 qh_0 rfl 4 (by decide) (htl _ wq_2_2) (fun _ h9 => h9) rfl dX9_imageOf_14 ?_
  refine lv_iload_n hx hb dX9_imageOf_17 rfl (lv_at hl 1 rfl) ?_
  obtain ⟨hi_18, hf⟩ := ob_in hf
  refine va_aldq (D := D) (tys := tyl ct) hx hb hK hP 47 4 rfl rfl hi_18 dX9_imageOf_18 ?_
  obtain ⟨j_18, ej_18, hf⟩ := ob_let hf
  have hj_18 : j_18 < 3 := by rw [ej_18]; exact vp_lt hi_18
  rw [← ej_18]
  refine W.eq (g2 := F0 m 19 ls [.ref (A (48 + 13 * j_18))]) rfl ?_
  refine lv_goto (tgt := 23) hx hb dX9_imageOf_19 (by decide) ?_
  rw [← hQQ]
  exact rf_a hx hb hr hlocks (by cases hf; rfl) (Or.inr ⟨_, rfl⟩) dX9_imageOf_23
theorem c_X9_imageOf (l : Launch) (D : va_G) (ct : Nat → ClassId) (G : GT) (A : Nat → Nat) (fu : Nat) (x : Nat → Ob) (v1 : Int32) {r : Option Nat} (hf : p_X9_imageOf fu x v1 = some r)  : Met l yX9_imageOf (.code yX9_imageOf cX9_imageOf 2 (some (.object "QuotedRiver$Rivers")) :: wsL_law) rm_X9_imageOf (va_Pc [.ref (A 0), .int v1] (Bx D ct G (csQ ct A x))) (Qro (some (va_rf (r.map (fun j => A (48 + 13 * j)))))) 0 0 (fun _ => False) := by
  refine Met.ofW (cc := cX9_imageOf) (maxL := 2) (ret := (some (.object "QuotedRiver$Rivers"))) (by decide) rfl ?_
  intro p e s m args below meth c s₁ B hml hv
  obtain ⟨rfl, hP, hK, hN, hX⟩ := hv
  have hts := atoms_spec (ws := .code yX9_imageOf cX9_imageOf 2 (some (.object "QuotedRiver$Rivers")) :: wsL_law) B.pre
  rw [lg_entry_eq]
  exact b_X9_imageOf A fu x v1 B.exec B.bytes B.returns hml (findClass_of_methodNamed B.named) (fun w h => hts w (List.mem_cons_of_mem _ h)) B.notSynchronized hK hN hX hP hf   (lv_entry [.ref (A 0), .int v1] (n := 2) (Nat.le_of_ble_eq_true rfl))
theorem hd_X9_imageOf : yX9_imageOf.cls ≠ "java/lang/invoke/MethodHandle" ∧ yX9_imageOf.cls ≠ "java/lang/invoke/VarHandle" ∧ (parseMethodDescriptor yX9_imageOf.desc).map (fun d => d.parameters.length) = some 1 := by decide +kernel
theorem cw_X9_X9_imageOf {R : Room} {s : State} {args : Array Value} (ht : ∀ w ∈ wsL_law, w.before args s = true) (hR : rm_X9_imageOf.frames + 1 ≤ R.frames ∧ 8 + (2 + 11) + rm_X9_imageOf.locals ≤ R.locals) : CallW R s args RX9 RX9 381 yX9_imageOf cX9_imageOf 2 (some (.object "QuotedRiver$Rivers")) ((.code yX9_imageOf cX9_imageOf 2 (some (.object "QuotedRiver$Rivers"))) :: wsL_law) rm_X9_imageOf 0 0 1 := cwV 1 ht (GV wq_59_15 wq_59_16 wq_59_17 wq_1_2 wq_59_18) rfl rfl rfl ⟨rfl, hd_X9_imageOf⟩ hR
def p_X9_image (fu : Nat) (x : Nat → Ob) (v1 : Int32) : Option (Int32 × (Nat → Ob)) :=
  (p_X9_imageOf fu x v1).bind fun r_2 => oCase r_2 (some (((-2) : Int32), x)) (fun j_2 => if j_2 < 3 then (p_X2_become fu (x (7 + j_2)) (x 5)).bind fun r_18 => (p_X9_bit fu v1).bind fun r_27 => some ((0 : Int32), (va_up (va_up x (7 + j_2) r_18) 0 (oI ((va_up x (7 + j_2) r_18) 0) 5 ((((va_up x (7 + j_2) r_18) 0).1 5 0) ||| r_27)))) else none)
abbrev rm_X9_image : Room := { frames := 2, cells := 0, slots := 0, locals := 43 }
set_option maxHeartbeats 4000000 in
set_option maxRecDepth 100000 in
theorem b_X9_image {p : Program} {l : Launch} {e : Env} {s : State} {m : MethodId} {args : Array Value} {below : List Frame} {meth : Method} {c : Code} {ls : Array Slot} {D : va_G} {ct : Nat → ClassId} {G : GT} (A : Nat → Nat) (fu : Nat) (x : Nat → Ob) (v1 : Int32) {r : Int32 × (Nat → Ob)} (hx : p.tables.exec = Jvm.exec) (hb : c.code = cX9_image) (hr : meth.sig.returnType = (some .int)) (hml : c.maxLocals = 3) (hown : s.vm.findClass RX9 = some m.cls) (htl : ∀ w ∈ wsL_law, w.before args s = true) (hlocks : meth.locks = false) (hK : va_K D vwCl (tyl ct) s) (hN : ∀ w ∈ NW, va_Nw w s) (hX : SX G s s.heap) (hP0 : va_P D vwCl (csQ ct A x) s.heap) (hf : p_X9_image fu x v1 = some r) (hDx : ∀ x : Nat → Ob, va_D (GE G) (csQ ct A x))  (hl : lv_has ls 3 [(0, .ref (A 0)), (1, .int v1)]) : W p l e rm_X9_image s m args below meth c s.heap [] 0 0 (MQ below (Qwr (some (.int r.1)) (fun H => va_P D vwCl (csQ ct A r.2) H) (wA (csQ ct A x))) args s 0 0 (wA (csQ ct A x))) (F0 m 0 ls []) := by
  generalize hQQ : MQ below (Qwr (some (.int r.1)) (fun H => va_P D vwCl (csQ ct A r.2) H) (wA (csQ ct A x))) args s 0 0 (wA (csQ ct A x)) = QQ
  have hDW : ∀ x1 : Nat → Ob, va_D (wA (csQ ct A x)) (csQ ct A x1) := fun x1 => D_any (D_self (hDx x1)) (wA_Q x1 x)
  have hGE : ∀ q, wA (csQ ct A x) q → GE G q := wA_GE (hDx x)
  have hP := hP0
  have hS : va_S (wA (csQ ct A x)) s.heap s.heap [] := va_S.rf
  rw [p_X9_image] at hf
  refine lv_aload_n hx hb dX9_image_0 rfl (lv_at hl 0 rfl) ?_
  refine lv_iload_n hx hb dX9_image_1 rfl (lv_at hl 1 rfl) ?_
  obtain ⟨r_2, e_2, hf⟩ := ob_bind hf
  rcases ob_case hf with ⟨er_2, hf⟩ | ⟨j_2, er_2, hf⟩
  · subst er_2
    have hPX_2 : va_P D vwCl (csQ ct A x) s.heap := hP
    refine ro_call1 (va_runV (As := [.int v1]) (rest := []) ⟨hx, hb, hml, hown, htl⟩ (c_X9_imageOf l D ct G A fu x v1 e_2) (cw_X9_X9_imageOf htl ⟨Nat.le_of_ble_eq_true rfl, Nat.le_of_ble_eq_true rfl⟩) ⟨Bx_blind, va_recv hK hPX_2 (ci := 9) (q0 := 0) rfl rfl, Bx_pre hPX_2 hK hN (hX.stay hS hGE)⟩ rfl rfl hl.1 rfl (lv_room (Nat.le_of_ble_eq_true rfl)) dX9_image_2 ⟨Nat.zero_le _, Nat.zero_le _⟩) ?_
    refine W.eq (g2 := F0 m 5 ls [.null]) rfl ?_
    refine lv_astore_nN (lv' := [(2, .null), (0, .ref (A 0)), (1, .int v1)]) hx hb dX9_image_5 rfl hl (by decide) rfl (fun ls hl => ?_)
    refine lv_aload_nN hx hb dX9_image_6 rfl (lv_at hl 0 rfl) ?_
    refine lv_ifnonnullN hx hb dX9_image_7 ?_
    refine lv_bipush (v := (-2)) hx hb dX9_image_10 (by decide) ?_
    rw [← hQQ]
    cases hf
    exact rw_i hx hb hr hlocks hP hS dX9_image_12
  subst er_2
  obtain ⟨hj_2, hf⟩ := ob_lt hf
  have hPX_2 : va_P D vwCl (csQ ct A x) s.heap := hP
  refine ro_call1 (va_runV (As := [.int v1]) (rest := []) ⟨hx, hb, hml, hown, htl⟩ (c_X9_imageOf l D ct G A fu x v1 e_2) (cw_X9_X9_imageOf htl ⟨Nat.le_of_ble_eq_true rfl, Nat.le_of_ble_eq_true rfl⟩) ⟨Bx_blind, va_recv hK hPX_2 (ci := 9) (q0 := 0) rfl rfl, Bx_pre hPX_2 hK hN (hX.stay hS hGE)⟩ rfl rfl hl.1 rfl (lv_room (Nat.le_of_ble_eq_true rfl)) dX9_image_2 ⟨Nat.zero_le _, Nat.zero_le _⟩) ?_
  refine W.eq (g2 := F0 m 5 ls [.ref (A (48 + 13 * j_2))]) rfl ?_
  refine lv_astore_n (lv' := [(2, .ref (A (48 + 13 * j_2))), (0, .ref (A 0)), (1, .int v1)]) hx hb dX9_image_5 rfl hl (by decide) rfl (fun ls hl => ?_)
  refine lv_aload_n hx hb dX9_image_6 rfl (lv_at hl 0 rfl) ?_
  refine lv_ifnonnull (tgt := 13) hx hb dX9_image_7 (by decide) ?_
  refine lv_aload_n hx hb dX9_image_13 rfl (lv_at hl 0 rfl) ?_
  refine lv_aload_n hx hb dX9_image_14 rfl (lv_at hl 1 rfl) ?_
  refine va_get (D := D) (ci := 9) (v := .ref (A 21)) (C := RX9) (T := TX9) (N := 14) hx hb htl inlX9 hown hK hP 0 qh_0 rfl 2 (by decide) (htl _ wq_2_0) (fun _ h9 => h9) rfl dX9_image_15 ?_
  obtain ⟨r_18, e_18, hf⟩ := ob_bind hf
  have hPX_18 : va_P D vwCl (cs2 ct (fun i => A (48 + 13 * j_2 + i)) (x (7 + j_2)) ++ (cs2 ct (fun i => A (21 + i)) (x 5))) s.heap := (va_P.app (qimg_s hj_2 hP) (qs_5 hP))
  refine wr_call0 (va_runVN (As := [.ref (A 21)]) (rest := []) ⟨hx, hb, hml, hown, htl⟩ (c_X2_become l D ct G (fun i => A (48 + 13 * j_2 + i)) (fun i => A (21 + i)) fu (x (7 + j_2)) (x 5) e_18 (qimg_d2 hj_2 (hDx x))) (cw_X9_X2_become htl hN ⟨Nat.le_of_ble_eq_true rfl, Nat.le_of_ble_eq_true rfl⟩) ⟨Bx_blind, va_recv hK hPX_18 (ci := 2) (q0 := 0) rfl rfl, Bx_pre hPX_18 hK hN (hX.stay hS hGE)⟩ rfl rfl hl.1 rfl (lv_room (Nat.le_of_ble_eq_true rfl)) dX9_image_18 ⟨Nat.zero_le _, Nat.zero_le _⟩) hS (qimg_a hj_2) (fun H_18 locs_18 hB_18 _ hk_18 hS => ?_)
  have hP : va_P D vwCl (csQ ct A (va_up x (7 + j_2) r_18)) H_18 := qimg_j hj_2 hP (hDW x) hk_18 hB_18
  refine lv_aload_n hx hb dX9_image_21 rfl (lv_at hl 1 rfl) ?_
  refine lv_dup hx hb dX9_image_22 rfl ?_
  refine va_get (D := D) (ci := 9) (v := .int (((va_up x (7 + j_2) r_18) 0).1 5 0)) (C := RX9) (T := TX9) (N := 14) hx hb htl inlX9 hown hK hP 0 qh_0 rfl 5 (by decide) (htl _ wq_2_3) (fun _ h9 => h9) rfl dX9_image_23 ?_
  refine lv_iload_n hx hb dX9_image_26 rfl (lv_at hl 2 rfl) ?_
  obtain ⟨r_27, e_27, hf⟩ := ob_bind hf
  have hPX_27 : va_P D vwCl ([]) H_18 := P_nil
  refine ro_call1 (va_runS (As := [.int v1]) (rest := [.int (((va_up x (7 + j_2) r_18) 0).1 5 0), .ref (A 0)]) ⟨hx, hb, hml, hown, htl⟩ (c_X9_bit l D ct G fu v1 e_27) (cw_X9_X9_bit htl ⟨Nat.le_of_ble_eq_true rfl, Nat.le_of_ble_eq_true rfl⟩) ⟨Bx_blind, Bx_pre hPX_27 hK hN (hX.stay hS hGE)⟩ rfl rfl hl.1 rfl (lv_room (Nat.le_of_ble_eq_true rfl)) dX9_image_27 ⟨Nat.zero_le _, Nat.zero_le _⟩) ?_
  refine lv_ior hx hb dX9_image_30 ?_
  refine va_put (D := D) (ci := 9) (v := .int ((((va_up x (7 + j_2) r_18) 0).1 5 0) ||| r_27)) (ty := .int) (C := RX9) (T := TX9) (N := 14) hx hb htl inlX9 tyX9 tyX9_ok nmX9 hown hK hP (hDW (va_up x (7 + j_2) r_18)) hS 0 qh_0 rfl 5 (by decide) (htl _ wq_2_3) (fun _ h9 => h9) rfl (tyX9_ok 5 (by decide)) rfl rfl (Nat.le_of_ble_eq_true rfl) dX9_image_31 (fun H_31 locs_31 hP _ hS => ?_)
  have hP : va_P D vwCl (csQ ct A (va_up (va_up x (7 + j_2) r_18) 0 (oI ((va_up x (7 + j_2) r_18) 0) 5 ((((va_up x (7 + j_2) r_18) 0).1 5 0) ||| r_27)))) H_31 := stQ_0_5 hP
  refine lv_iconst (v := 0) hx hb dX9_image_34 (by decide) ?_
  rw [← hQQ]
  cases hf
  exact rw_i hx hb hr hlocks hP hS dX9_image_35
theorem c_X9_image (l : Launch) (D : va_G) (ct : Nat → ClassId) (G : GT) (A : Nat → Nat) (fu : Nat) (x : Nat → Ob) (v1 : Int32) {r : Int32 × (Nat → Ob)} (hf : p_X9_image fu x v1 = some r)  (hDx : ∀ x : Nat → Ob, va_D (GE G) (csQ ct A x)) : Met l yX9_image (.code yX9_image cX9_image 3 (some .int) :: wsL_law) rm_X9_image (va_Pc [.ref (A 0), .int v1] (Bx D ct G (csQ ct A x))) (Qwr (some (.int r.1)) (fun H => va_P D vwCl (csQ ct A r.2) H) (wA (csQ ct A x))) 0 0 (wA (csQ ct A x)) := by
  refine Met.ofW (cc := cX9_image) (maxL := 3) (ret := (some .int)) (by decide) rfl ?_
  intro p e s m args below meth c s₁ B hml hv
  obtain ⟨rfl, hP, hK, hN, hX⟩ := hv
  have hts := atoms_spec (ws := .code yX9_image cX9_image 3 (some .int) :: wsL_law) B.pre
  rw [lg_entry_eq]
  exact b_X9_image A fu x v1 B.exec B.bytes B.returns hml (findClass_of_methodNamed B.named) (fun w h => hts w (List.mem_cons_of_mem _ h)) B.notSynchronized hK hN hX hP hf hDx  (lv_entry [.ref (A 0), .int v1] (n := 3) (Nat.le_of_ble_eq_true rfl))
def p_X9_back (fu : Nat) (x : Nat → Ob) (v1 : Int32) : Option (Int32 × (Nat → Ob)) :=
  (p_X9_imageOf fu x v1).bind fun r_2 => oCase r_2 (some (((-2) : Int32), x)) (fun j_2 => if j_2 < 3 then (p_X9_bit fu v1).bind fun r_18 => if (((x 0).1 5 0) &&& r_18) = 0 then some (((-6) : Int32), x) else (p_X2_become fu (x 5) (x (7 + j_2))).bind fun r_33 => (p_X8_settle fu ((va_up x 5 r_33) 10) ((va_up x 5 r_33) 5)).bind fun r_44 => some ((0 : Int32), (va_up (va_up x 5 r_33) 10 r_44)) else none)
abbrev rm_X9_back : Room := { frames := 4, cells := 0, slots := 0, locals := 89 }
set_option maxHeartbeats 4000000 in
set_option maxRecDepth 100000 in
theorem b_X9_back {p : Program} {l : Launch} {e : Env} {s : State} {m : MethodId} {args : Array Value} {below : List Frame} {meth : Method} {c : Code} {ls : Array Slot} {D : va_G} {ct : Nat → ClassId} {G : GT} (A : Nat → Nat) (fu : Nat) (x : Nat → Ob) (v1 : Int32) {r : Int32 × (Nat → Ob)} (hx : p.tables.exec = Jvm.exec) (hb : c.code = cX9_back) (hr : meth.sig.returnType = (some .int)) (hml : c.maxLocals = 3) (hown : s.vm.findClass RX9 = some m.cls) (htl : ∀ w ∈ wsL_law, w.before args s = true) (hlocks : meth.locks = false) (hK : va_K D vwCl (tyl ct) s) (hN : ∀ w ∈ NW, va_Nw w s) (hX : SX G s s.heap) (hP0 : va_P D vwCl (csQ ct A x) s.heap) (hf : p_X9_back fu x v1 = some r) (hDx : ∀ x : Nat → Ob, va_D (GE G) (csQ ct A x))  (hl : lv_has ls 3 [(0, .ref (A 0)), (1, .int v1)]) : W p l e rm_X9_back s m args below meth c s.heap [] 0 0 (MQ below (Qwr (some (.int r.1)) (fun H => va_P D vwCl (csQ ct A r.2) H) (wA (csQ ct A x))) args s 0 0 (wA (csQ ct A x))) (F0 m 0 ls []) := by
  generalize hQQ : MQ below (Qwr (some (.int r.1)) (fun H => va_P D vwCl (csQ ct A r.2) H) (wA (csQ ct A x))) args s 0 0 (wA (csQ ct A x)) = QQ
  have hDW : ∀ x1 : Nat → Ob, va_D (wA (csQ ct A x)) (csQ ct A x1) := fun x1 => D_any (D_self (hDx x1)) (wA_Q x1 x)
  have hGE : ∀ q, wA (csQ ct A x) q → GE G q := wA_GE (hDx x)
  have hP := hP0
  have hS : va_S (wA (csQ ct A x)) s.heap s.heap [] := va_S.rf
  rw [p_X9_back] at hf
  refine lv_aload_n hx hb dX9_back_0 rfl (lv_at hl 0 rfl) ?_
  refine lv_iload_n hx hb dX9_back_1 rfl (lv_at hl 1 rfl) ?_
  obtain ⟨r_2, e_2, hf⟩ := ob_bind hf
  rcases ob_case hf with ⟨er_2, hf⟩ | ⟨j_2, er_2, hf⟩
  · subst er_2
    have hPX_2 : va_P D vwCl (csQ ct A x) s.heap := hP
    refine ro_call1 (va_runV (As := [.int v1]) (rest := []) ⟨hx, hb, hml, hown, htl⟩ (c_X9_imageOf l D ct G A fu x v1 e_2) (cw_X9_X9_imageOf htl ⟨Nat.le_of_ble_eq_true rfl, Nat.le_of_ble_eq_true rfl⟩) ⟨Bx_blind, va_recv hK hPX_2 (ci := 9) (q0 := 0) rfl rfl, Bx_pre hPX_2 hK hN (hX.stay hS hGE)⟩ rfl rfl hl.1 rfl (lv_room (Nat.le_of_ble_eq_true rfl)) dX9_back_2 ⟨Nat.zero_le _, Nat.zero_le _⟩) ?_
    refine W.eq (g2 := F0 m 5 ls [.null]) rfl ?_
    refine lv_astore_nN (lv' := [(2, .null), (0, .ref (A 0)), (1, .int v1)]) hx hb dX9_back_5 rfl hl (by decide) rfl (fun ls hl => ?_)
    refine lv_aload_nN hx hb dX9_back_6 rfl (lv_at hl 0 rfl) ?_
    refine lv_ifnonnullN hx hb dX9_back_7 ?_
    refine lv_bipush (v := (-2)) hx hb dX9_back_10 (by decide) ?_
    rw [← hQQ]
    cases hf
    exact rw_i hx hb hr hlocks hP hS dX9_back_12
  subst er_2
  obtain ⟨hj_2, hf⟩ := ob_lt hf
  have hPX_2 : va_P D vwCl (csQ ct A x) s.heap := hP
  refine ro_call1 (va_runV (As := [.int v1]) (rest := []) ⟨hx, hb, hml, hown, htl⟩ (c_X9_imageOf l D ct G A fu x v1 e_2) (cw_X9_X9_imageOf htl ⟨Nat.le_of_ble_eq_true rfl, Nat.le_of_ble_eq_true rfl⟩) ⟨Bx_blind, va_recv hK hPX_2 (ci := 9) (q0 := 0) rfl rfl, Bx_pre hPX_2 hK hN (hX.stay hS hGE)⟩ rfl rfl hl.1 rfl (lv_room (Nat.le_of_ble_eq_true rfl)) dX9_back_2 ⟨Nat.zero_le _, Nat.zero_le _⟩) ?_
  refine W.eq (g2 := F0 m 5 ls [.ref (A (48 + 13 * j_2))]) rfl ?_
  refine lv_astore_n (lv' := [(2, .ref (A (48 + 13 * j_2))), (0, .ref (A 0)), (1, .int v1)]) hx hb dX9_back_5 rfl hl (by decide) rfl (fun ls hl => ?_)
  refine lv_aload_n hx hb dX9_back_6 rfl (lv_at hl 0 rfl) ?_
  refine lv_ifnonnull (tgt := 13) hx hb dX9_back_7 (by decide) ?_
  refine lv_aload_n hx hb dX9_back_13 rfl (lv_at hl 1 rfl) ?_
  refine va_get (D := D) (ci := 9) (v := .int ((x 0).1 5 0)) (C := RX9) (T := TX9) (N := 14) hx hb htl inlX9 hown hK hP 0 qh_0 rfl 5 (by decide) (htl _ wq_2_3) (fun _ h9 => h9) rfl dX9_back_14 ?_
  refine lv_iload_n hx hb dX9_back_17 rfl (lv_at hl 2 rfl) ?_
  obtain ⟨r_18, e_18, hf⟩ := ob_bind hf
  have hPX_18 : va_P D vwCl ([]) s.heap := P_nil
  refine ro_call1 (va_runS (As := [.int v1]) (rest := [.int ((x 0).1 5 0)]) ⟨hx, hb, hml, hown, htl⟩ (c_X9_bit l D ct G fu v1 e_18) (cw_X9_X9_bit htl ⟨Nat.le_of_ble_eq_true rfl, Nat.le_of_ble_eq_true rfl⟩) ⟨Bx_blind, Bx_pre hPX_18 hK hN (hX.stay hS hGE)⟩ rfl rfl hl.1 rfl (lv_room (Nat.le_of_ble_eq_true rfl)) dX9_back_18 ⟨Nat.zero_le _, Nat.zero_le _⟩) ?_
  refine lv_iand hx hb dX9_back_21 ?_
  refine lv_if_ne (tgt := 28) hx hb dX9_back_22 (by decide) (fun c_22 => ?_) (fun c_22 => ?_)
  rotate_left 1
  · rw [if_pos c_22] at hf
    refine lv_bipush (v := (-6)) hx hb dX9_back_25 (by decide) ?_
    rw [← hQQ]
    cases hf
    exact rw_i hx hb hr hlocks hP hS dX9_back_27
  rw [if_neg c_22] at hf
  refine lv_aload_n hx hb dX9_back_28 rfl (lv_at hl 1 rfl) ?_
  refine va_get (D := D) (ci := 9) (v := .ref (A 21)) (C := RX9) (T := TX9) (N := 14) hx hb htl inlX9 hown hK hP 0 qh_0 rfl 2 (by decide) (htl _ wq_2_0) (fun _ h9 => h9) rfl dX9_back_29 ?_
  refine lv_aload_n hx hb dX9_back_32 rfl (lv_at hl 0 rfl) ?_
  obtain ⟨r_33, e_33, hf⟩ := ob_bind hf
  have hPX_33 : va_P D vwCl (cs2 ct (fun i => A (21 + i)) (x 5) ++ (cs2 ct (fun i => A (48 + 13 * j_2 + i)) (x (7 + j_2)))) s.heap := (va_P.app (qs_5 hP) (qimg_s hj_2 hP))
  refine wr_call0 (va_runVN (As := [.ref (A (48 + 13 * j_2))]) (rest := []) ⟨hx, hb, hml, hown, htl⟩ (c_X2_become l D ct G (fun i => A (21 + i)) (fun i => A (48 + 13 * j_2 + i)) fu (x 5) (x (7 + j_2)) e_33 (qimg_dr hj_2 (hDx x))) (cw_X9_X2_become htl hN ⟨Nat.le_of_ble_eq_true rfl, Nat.le_of_ble_eq_true rfl⟩) ⟨Bx_blind, va_recv hK hPX_33 (ci := 2) (q0 := 0) rfl rfl, Bx_pre hPX_33 hK hN (hX.stay hS hGE)⟩ rfl rfl hl.1 rfl (lv_room (Nat.le_of_ble_eq_true rfl)) dX9_back_33 ⟨Nat.zero_le _, Nat.zero_le _⟩) hS qa_5 (fun H_33 locs_33 hB_33 _ hk_33 hS => ?_)
  have hP : va_P D vwCl (csQ ct A (va_up x 5 r_33)) H_33 := qj_5 hP (hDW x) hk_33 hB_33
  refine lv_aload_n hx hb dX9_back_36 rfl (lv_at hl 1 rfl) ?_
  refine va_get (D := D) (ci := 9) (v := .ref (A 87)) (C := RX9) (T := TX9) (N := 14) hx hb htl inlX9 hown hK hP 0 qh_0 rfl 6 (by decide) (htl _ wq_2_7) (fun _ h9 => h9) rfl dX9_back_37 ?_
  refine lv_aload_n hx hb dX9_back_40 rfl (lv_at hl 1 rfl) ?_
  refine va_get (D := D) (ci := 9) (v := .ref (A 21)) (C := RX9) (T := TX9) (N := 14) hx hb htl inlX9 hown hK hP 0 qh_0 rfl 2 (by decide) (htl _ wq_2_0) (fun _ h9 => h9) rfl dX9_back_41 ?_
  obtain ⟨r_44, e_44, hf⟩ := ob_bind hf
  have hPX_44 : va_P D vwCl (cs8 ct (fun i => A (87 + i)) ((va_up x 5 r_33) 10) ++ (cs2 ct (fun i => A (21 + i)) ((va_up x 5 r_33) 5))) H_33 := (va_P.app (qs_10 hP) (qs_5 hP))
  refine wr_call0 (va_runVN (As := [.ref (A 21)]) (rest := []) ⟨hx, hb, hml, hown, htl⟩ (c_X8_settle l D ct G (fun i => A (87 + i)) (fun i => A (21 + i)) fu ((va_up x 5 r_33) 10) ((va_up x 5 r_33) 5) e_44 ((hDx (va_up x 5 r_33)).sub (ws' := cs8 ct (fun i => A (87 + i)) ((va_up x 5 r_33) 10) ++ (cs2 ct (fun i => A (21 + i)) ((va_up x 5 r_33) 5))) [87, 88, 89, 21, 22, 23, 24, 25, 26, 27, 28, 29, 30, 31, 32, 33] (by decide) rfl)) (cw_X9_X8_settle htl hN ⟨Nat.le_of_ble_eq_true rfl, Nat.le_of_ble_eq_true rfl⟩) ⟨Bx_blind, va_recv hK hPX_44 (ci := 8) (q0 := 0) rfl rfl, Bx_pre hPX_44 hK hN (hX.stay hS hGE)⟩ rfl rfl hl.1 rfl (lv_room (Nat.le_of_ble_eq_true rfl)) dX9_back_44 ⟨Nat.zero_le _, Nat.zero_le _⟩) hS qa_10 (fun H_44 locs_44 hB_44 _ hk_44 hS => ?_)
  have hP : va_P D vwCl (csQ ct A (va_up (va_up x 5 r_33) 10 r_44)) H_44 := qj_10 hP (hDW (va_up x 5 r_33)) hk_44 hB_44
  refine lv_iconst (v := 0) hx hb dX9_back_47 (by decide) ?_
  rw [← hQQ]
  cases hf
  exact rw_i hx hb hr hlocks hP hS dX9_back_48
theorem c_X9_back (l : Launch) (D : va_G) (ct : Nat → ClassId) (G : GT) (A : Nat → Nat) (fu : Nat) (x : Nat → Ob) (v1 : Int32) {r : Int32 × (Nat → Ob)} (hf : p_X9_back fu x v1 = some r)  (hDx : ∀ x : Nat → Ob, va_D (GE G) (csQ ct A x)) : Met l yX9_back (.code yX9_back cX9_back 3 (some .int) :: wsL_law) rm_X9_back (va_Pc [.ref (A 0), .int v1] (Bx D ct G (csQ ct A x))) (Qwr (some (.int r.1)) (fun H => va_P D vwCl (csQ ct A r.2) H) (wA (csQ ct A x))) 0 0 (wA (csQ ct A x)) := by
  refine Met.ofW (cc := cX9_back) (maxL := 3) (ret := (some .int)) (by decide) rfl ?_
  intro p e s m args below meth c s₁ B hml hv
  obtain ⟨rfl, hP, hK, hN, hX⟩ := hv
  have hts := atoms_spec (ws := .code yX9_back cX9_back 3 (some .int) :: wsL_law) B.pre
  rw [lg_entry_eq]
  exact b_X9_back A fu x v1 B.exec B.bytes B.returns hml (findClass_of_methodNamed B.named) (fun w h => hts w (List.mem_cons_of_mem _ h)) B.notSynchronized hK hN hX hP hf hDx  (lv_entry [.ref (A 0), .int v1] (n := 3) (Nat.le_of_ble_eq_true rfl))
theorem hd_X3_lay : yX3_lay.cls ≠ "java/lang/invoke/MethodHandle" ∧ yX3_lay.cls ≠ "java/lang/invoke/VarHandle" ∧ (parseMethodDescriptor yX3_lay.desc).map (fun d => d.parameters.length) = some 2 := by decide +kernel
theorem cw_X9_X3_lay {R : Room} {s : State} {args : Array Value} (ht : ∀ w ∈ wsL_law, w.before args s = true) (hN : ∀ w ∈ NW, va_Nw w s) (hR : rm_X3_lay.frames + 1 ≤ R.frames ∧ 8 + (4 + 11) + rm_X3_lay.locals ≤ R.locals) : va_CN R s args RX9 389 yX3_lay "QuotedRiver" cX3_lay 4 none ((.code yX3_lay cX3_lay 4 none) :: wsL_law) rm_X3_lay 0 0 2 ∧ (Cond.instanceMethod yX3_lay).before args s = true ∧ (Cond.selects RX3 yX3_lay yX3_lay).before args s = true := ⟨va_cnB 2 ht (GL wq_60_13) rfl rfl rfl (hN _ nm_100) (ht _ wq_3_3) hd_X3_lay hR, ht _ wq_60_11, ht _ wq_60_12⟩
def p_X9_row (fu : Nat) (x : Nat → Ob) (v1 : Int32) (v2 : Int32) (v3 : Int32) : Option (Int32 × (Nat → Ob)) :=
  (p_X9_rowOf fu x v1).bind fun r_2 => oCase r_2 (some (((-2) : Int32), x)) (fun j_2 => if j_2 < 4 then if v2 < 0 then some (((-2) : Int32), x) else if (3 : Int32) < v2 then some (((-2) : Int32), x) else if v3 ≤ (60 : Int32) then if (0 : Int32) ≤ v3 then (p_X3_lay fu (x (14 + j_2)) v2 v3).bind fun r_41 => some ((0 : Int32), (va_up x (14 + j_2) r_41)) else some (((-3) : Int32), x) else some (((-2) : Int32), x) else none)
abbrev rm_X9_row : Room := { frames := 1, cells := 0, slots := 0, locals := 23 }
set_option maxHeartbeats 4000000 in
set_option maxRecDepth 100000 in
theorem b_X9_row {p : Program} {l : Launch} {e : Env} {s : State} {m : MethodId} {args : Array Value} {below : List Frame} {meth : Method} {c : Code} {ls : Array Slot} {D : va_G} {ct : Nat → ClassId} {G : GT} (A : Nat → Nat) (fu : Nat) (x : Nat → Ob) (v1 : Int32) (v2 : Int32) (v3 : Int32) {r : Int32 × (Nat → Ob)} (hx : p.tables.exec = Jvm.exec) (hb : c.code = cX9_row) (hr : meth.sig.returnType = (some .int)) (hml : c.maxLocals = 5) (hown : s.vm.findClass RX9 = some m.cls) (htl : ∀ w ∈ wsL_law, w.before args s = true) (hlocks : meth.locks = false) (hK : va_K D vwCl (tyl ct) s) (hN : ∀ w ∈ NW, va_Nw w s) (hX : SX G s s.heap) (hP0 : va_P D vwCl (csQ ct A x) s.heap) (hf : p_X9_row fu x v1 v2 v3 = some r) (hDx : ∀ x : Nat → Ob, va_D (GE G) (csQ ct A x))  (hl : lv_has ls 5 [(0, .ref (A 0)), (1, .int v1), (2, .int v2), (3, .int v3)]) : W p l e rm_X9_row s m args below meth c s.heap [] 0 0 (MQ below (Qwr (some (.int r.1)) (fun H => va_P D vwCl (csQ ct A r.2) H) (wA (csQ ct A x))) args s 0 0 (wA (csQ ct A x))) (F0 m 0 ls []) := by
  generalize hQQ : MQ below (Qwr (some (.int r.1)) (fun H => va_P D vwCl (csQ ct A r.2) H) (wA (csQ ct A x))) args s 0 0 (wA (csQ ct A x)) = QQ
  have hDW : ∀ x1 : Nat → Ob, va_D (wA (csQ ct A x)) (csQ ct A x1) := fun x1 => D_any (D_self (hDx x1)) (wA_Q x1 x)
  have hGE : ∀ q, wA (csQ ct A x) q → GE G q := wA_GE (hDx x)
  have hP := hP0
  have hS : va_S (wA (csQ ct A x)) s.heap s.heap [] := va_S.rf
  rw [p_X9_row] at hf
  refine lv_aload_n hx hb dX9_row_0 rfl (lv_at hl 0 rfl) ?_
  refine lv_iload_n hx hb dX9_row_1 rfl (lv_at hl 1 rfl) ?_
  obtain ⟨r_2, e_2, hf⟩ := ob_bind hf
  rcases ob_case hf with ⟨er_2, hf⟩ | ⟨j_2, er_2, hf⟩
  · subst er_2
    have hPX_2 : va_P D vwCl (csQ ct A x) s.heap := hP
    refine ro_call1 (va_runV (As := [.int v1]) (rest := []) ⟨hx, hb, hml, hown, htl⟩ (c_X9_rowOf l D ct G A fu x v1 e_2) (cw_X9_X9_rowOf htl ⟨Nat.le_of_ble_eq_true rfl, Nat.le_of_ble_eq_true rfl⟩) ⟨Bx_blind, va_recv hK hPX_2 (ci := 9) (q0 := 0) rfl rfl, Bx_pre hPX_2 hK hN (hX.stay hS hGE)⟩ rfl rfl hl.1 rfl (lv_room (Nat.le_of_ble_eq_true rfl)) dX9_row_2 ⟨Nat.zero_le _, Nat.zero_le _⟩) ?_
    refine W.eq (g2 := F0 m 5 ls [.null]) rfl ?_
    refine lv_astoreN (lv' := [(4, .null), (0, .ref (A 0)), (1, .int v1), (2, .int v2), (3, .int v3)]) hx hb dX9_row_5 hl (by decide) rfl (fun ls hl => ?_)
    refine lv_aloadN hx hb dX9_row_7 (lv_at hl 0 rfl) ?_
    refine lv_ifnullN (tgt := 27) hx hb dX9_row_9 (by decide) ?_
    refine lv_bipush (v := (-2)) hx hb dX9_row_27 (by decide) ?_
    rw [← hQQ]
    cases hf
    exact rw_i hx hb hr hlocks hP hS dX9_row_29
  subst er_2
  obtain ⟨hj_2, hf⟩ := ob_lt hf
  have hPX_2 : va_P D vwCl (csQ ct A x) s.heap := hP
  refine ro_call1 (va_runV (As := [.int v1]) (rest := []) ⟨hx, hb, hml, hown, htl⟩ (c_X9_rowOf l D ct G A fu x v1 e_2) (cw_X9_X9_rowOf htl ⟨Nat.le_of_ble_eq_true rfl, Nat.le_of_ble_eq_true rfl⟩) ⟨Bx_blind, va_recv hK hPX_2 (ci := 9) (q0 := 0) rfl rfl, Bx_pre hPX_2 hK hN (hX.stay hS hGE)⟩ rfl rfl hl.1 rfl (lv_room (Nat.le_of_ble_eq_true rfl)) dX9_row_2 ⟨Nat.zero_le _, Nat.zero_le _⟩) ?_
  refine W.eq (g2 := F0 m 5 ls [.ref (A (98 + 2 * j_2))]) rfl ?_
  refine lv_astore (lv' := [(4, .ref (A (98 + 2 * j_2))), (0, .ref (A 0)), (1, .int v1), (2, .int v2), (3, .int v3)]) hx hb dX9_row_5 hl (by decide) rfl (fun ls hl => ?_)
  refine lv_aload hx hb dX9_row_7 (lv_at hl 0 rfl) ?_
  refine lv_ifnull hx hb dX9_row_9 ?_
  refine lv_iload_n hx hb dX9_row_12 rfl (lv_at hl 3 rfl) ?_
  refine lv_if_lt (tgt := 27) hx hb dX9_row_13 (by decide) (fun c_13 => ?_) (fun c_13 => ?_)
  · rw [if_pos c_13] at hf
    refine lv_bipush (v := (-2)) hx hb dX9_row_27 (by decide) ?_
    rw [← hQQ]
    cases hf
    exact rw_i hx hb hr hlocks hP hS dX9_row_29
  rw [if_neg c_13] at hf
  refine lv_iload_n hx hb dX9_row_16 rfl (lv_at hl 3 rfl) ?_
  refine lv_iconst (v := 3) hx hb dX9_row_17 (by decide) ?_
  refine lv_icmp_gt (tgt := 27) hx hb dX9_row_18 (by decide) (fun c_18 => ?_) (fun c_18 => ?_)
  · rw [if_pos c_18] at hf
    refine lv_bipush (v := (-2)) hx hb dX9_row_27 (by decide) ?_
    rw [← hQQ]
    cases hf
    exact rw_i hx hb hr hlocks hP hS dX9_row_29
  rw [if_neg c_18] at hf
  refine lv_iload_n hx hb dX9_row_21 rfl (lv_at hl 4 rfl) ?_
  refine lv_bipush (v := 60) hx hb dX9_row_22 (by decide) ?_
  refine lv_icmp_le (tgt := 30) hx hb dX9_row_24 (by decide) (fun c_24 => ?_) (fun c_24 => ?_)
  rotate_left 1
  · rw [if_neg c_24] at hf
    refine lv_bipush (v := (-2)) hx hb dX9_row_27 (by decide) ?_
    rw [← hQQ]
    cases hf
    exact rw_i hx hb hr hlocks hP hS dX9_row_29
  rw [if_pos c_24] at hf
  refine lv_iload_n hx hb dX9_row_30 rfl (lv_at hl 4 rfl) ?_
  refine lv_if_ge (tgt := 37) hx hb dX9_row_31 (by decide) (fun c_31 => ?_) (fun c_31 => ?_)
  rotate_left 1
  · rw [if_neg c_31] at hf
    refine lv_bipush (v := (-3)) hx hb dX9_row_34 (by decide) ?_
    rw [← hQQ]
    cases hf
    exact rw_i hx hb hr hlocks hP hS dX9_row_36
  rw [if_pos c_31] at hf
  refine lv_aload hx hb dX9_row_37 (lv_at hl 0 rfl) ?_
  refine lv_iload_n hx hb dX9_row_39 rfl (lv_at hl 3 rfl) ?_
  refine lv_iload_n hx hb dX9_row_40 rfl (lv_at hl 4 rfl) ?_
  obtain ⟨r_41, e_41, hf⟩ := ob_bind hf
  have hPX_41 : va_P D vwCl (cs3 ct (fun i => A (98 + 2 * j_2 + i)) (x (14 + j_2))) s.heap := (qrow_s hj_2 hP)
  refine wr_call0 (va_runVN (As := [.int v2, .int v3]) (rest := []) ⟨hx, hb, hml, hown, htl⟩ (c_X3_lay l D ct G (fun i => A (98 + 2 * j_2 + i)) fu (x (14 + j_2)) v2 v3 e_41 (qrow_d hj_2 (hDx x))) (cw_X9_X3_lay htl hN ⟨Nat.le_of_ble_eq_true rfl, Nat.le_of_ble_eq_true rfl⟩) ⟨Bx_blind, va_recv hK hPX_41 (ci := 3) (q0 := 0) rfl rfl, Bx_pre hPX_41 hK hN (hX.stay hS hGE)⟩ rfl rfl hl.1 rfl (lv_room (Nat.le_of_ble_eq_true rfl)) dX9_row_41 ⟨Nat.zero_le _, Nat.zero_le _⟩) hS (qrow_a hj_2) (fun H_41 locs_41 hB_41 _ hk_41 hS => ?_)
  have hP : va_P D vwCl (csQ ct A (va_up x (14 + j_2) r_41)) H_41 := qrow_j hj_2 hP (hDW x) hk_41 hB_41
  refine lv_iconst (v := 0) hx hb dX9_row_44 (by decide) ?_
  rw [← hQQ]
  cases hf
  exact rw_i hx hb hr hlocks hP hS dX9_row_45
theorem c_X9_row (l : Launch) (D : va_G) (ct : Nat → ClassId) (G : GT) (A : Nat → Nat) (fu : Nat) (x : Nat → Ob) (v1 : Int32) (v2 : Int32) (v3 : Int32) {r : Int32 × (Nat → Ob)} (hf : p_X9_row fu x v1 v2 v3 = some r)  (hDx : ∀ x : Nat → Ob, va_D (GE G) (csQ ct A x)) : Met l yX9_row (.code yX9_row cX9_row 5 (some .int) :: wsL_law) rm_X9_row (va_Pc [.ref (A 0), .int v1, .int v2, .int v3] (Bx D ct G (csQ ct A x))) (Qwr (some (.int r.1)) (fun H => va_P D vwCl (csQ ct A r.2) H) (wA (csQ ct A x))) 0 0 (wA (csQ ct A x)) := by
  refine Met.ofW (cc := cX9_row) (maxL := 5) (ret := (some .int)) (by decide) rfl ?_
  intro p e s m args below meth c s₁ B hml hv
  obtain ⟨rfl, hP, hK, hN, hX⟩ := hv
  have hts := atoms_spec (ws := .code yX9_row cX9_row 5 (some .int) :: wsL_law) B.pre
  rw [lg_entry_eq]
  exact b_X9_row A fu x v1 v2 v3 B.exec B.bytes B.returns hml (findClass_of_methodNamed B.named) (fun w h => hts w (List.mem_cons_of_mem _ h)) B.notSynchronized hK hN hX hP hf hDx  (lv_entry [.ref (A 0), .int v1, .int v2, .int v3] (n := 5) (Nat.le_of_ble_eq_true rfl))
theorem hd_X9_cut : yX9_cut.cls ≠ "java/lang/invoke/MethodHandle" ∧ yX9_cut.cls ≠ "java/lang/invoke/VarHandle" ∧ (parseMethodDescriptor yX9_cut.desc).map (fun d => d.parameters.length) = some 2 := by decide +kernel
theorem cw_X9_X9_cut {R : Room} {s : State} {args : Array Value} (ht : ∀ w ∈ wsL_law, w.before args s = true) (hR : rm_X9_cut.frames + 1 ≤ R.frames ∧ 8 + (3 + 11) + rm_X9_cut.locals ≤ R.locals) : CallB R s args RX9 399 yX9_cut cX9_cut 3 (some .long) ((.code yX9_cut cX9_cut 3 (some .long)) :: wsL_law) rm_X9_cut 0 0 2 ∧ (Cond.static yX9_cut).before args s = true := va_cwS 2 ht (GS wq_60_22 wq_60_23 wq_1_2 wq_61_0) rfl rfl rfl hd_X9_cut hR
theorem hd_X3_store : yX3_store.cls ≠ "java/lang/invoke/MethodHandle" ∧ yX3_store.cls ≠ "java/lang/invoke/VarHandle" ∧ (parseMethodDescriptor yX3_store.desc).map (fun d => d.parameters.length) = some 2 := by decide +kernel
theorem cw_X9_X3_store {R : Room} {s : State} {args : Array Value} (ht : ∀ w ∈ wsL_law, w.before args s = true) (hN : ∀ w ∈ NW, va_Nw w s) (hR : rm_X3_store.frames + 1 ≤ R.frames ∧ 8 + (4 + 11) + rm_X3_store.locals ≤ R.locals) : va_CN R s args RX9 403 yX3_store "QuotedRiver" cX3_store 4 none ((.code yX3_store cX3_store 4 none) :: wsL_law) rm_X3_store 0 0 2 ∧ (Cond.instanceMethod yX3_store).before args s = true ∧ (Cond.selects RX3 yX3_store yX3_store).before args s = true := ⟨va_cnB 2 ht (GL wq_61_3) rfl rfl rfl (hN _ nm_101) (ht _ wq_3_3) hd_X3_store hR, ht _ wq_61_1, ht _ wq_61_2⟩
def p_X9_write (fu : Nat) (x : Nat → Ob) (v1 : Int32) (v2 : Int32) (v3 : Int64) : Option (Int32 × (Nat → Ob)) :=
  (p_X9_rowOf fu x v1).bind fun r_2 => oCase r_2 (some (((-2) : Int32), x)) (fun j_2 => if j_2 < 4 then if ((x (14 + j_2)).1 0 0) = 0 then some (((-6) : Int32), x) else if v2 < 0 then some (((-7) : Int32), x) else if v2 < ((x (14 + j_2)).1 2 0) then (p_X9_cut fu v3 ((x (14 + j_2)).1 1 0)).bind fun r_51 => (p_X3_store fu (x (14 + j_2)) v2 r_51).bind fun r_54 => some ((0 : Int32), (va_up x (14 + j_2) r_54)) else some (((-7) : Int32), x) else none)
abbrev rm_X9_write : Room := { frames := 1, cells := 0, slots := 0, locals := 23 }
set_option maxHeartbeats 4000000 in
set_option maxRecDepth 100000 in
theorem b_X9_write {p : Program} {l : Launch} {e : Env} {s : State} {m : MethodId} {args : Array Value} {below : List Frame} {meth : Method} {c : Code} {ls : Array Slot} {D : va_G} {ct : Nat → ClassId} {G : GT} (A : Nat → Nat) (fu : Nat) (x : Nat → Ob) (v1 : Int32) (v2 : Int32) (v3 : Int64) {r : Int32 × (Nat → Ob)} (hx : p.tables.exec = Jvm.exec) (hb : c.code = cX9_write) (hr : meth.sig.returnType = (some .int)) (hml : c.maxLocals = 6) (hown : s.vm.findClass RX9 = some m.cls) (htl : ∀ w ∈ wsL_law, w.before args s = true) (hlocks : meth.locks = false) (hK : va_K D vwCl (tyl ct) s) (hN : ∀ w ∈ NW, va_Nw w s) (hX : SX G s s.heap) (hP0 : va_P D vwCl (csQ ct A x) s.heap) (hf : p_X9_write fu x v1 v2 v3 = some r) (hDx : ∀ x : Nat → Ob, va_D (GE G) (csQ ct A x))  (hl : lv_has ls 6 [(0, .ref (A 0)), (1, .int v1), (2, .int v2), (3, .long v3)]) : W p l e rm_X9_write s m args below meth c s.heap [] 0 0 (MQ below (Qwr (some (.int r.1)) (fun H => va_P D vwCl (csQ ct A r.2) H) (wA (csQ ct A x))) args s 0 0 (wA (csQ ct A x))) (F0 m 0 ls []) := by
  generalize hQQ : MQ below (Qwr (some (.int r.1)) (fun H => va_P D vwCl (csQ ct A r.2) H) (wA (csQ ct A x))) args s 0 0 (wA (csQ ct A x)) = QQ
  have hDW : ∀ x1 : Nat → Ob, va_D (wA (csQ ct A x)) (csQ ct A x1) := fun x1 => D_any (D_self (hDx x1)) (wA_Q x1 x)
  have hGE : ∀ q, wA (csQ ct A x) q → GE G q := wA_GE (hDx x)
  have hP := hP0
  have hS : va_S (wA (csQ ct A x)) s.heap s.heap [] := va_S.rf
  rw [p_X9_write] at hf
  refine lv_aload_n hx hb dX9_write_0 rfl (lv_at hl 0 rfl) ?_
  refine lv_iload_n hx hb dX9_write_1 rfl (lv_at hl 1 rfl) ?_
  obtain ⟨r_2, e_2, hf⟩ := ob_bind hf
  rcases ob_case hf with ⟨er_2, hf⟩ | ⟨j_2, er_2, hf⟩
  · subst er_2
    have hPX_2 : va_P D vwCl (csQ ct A x) s.heap := hP
    refine ro_call1 (va_runV (As := [.int v1]) (rest := []) ⟨hx, hb, hml, hown, htl⟩ (c_X9_rowOf l D ct G A fu x v1 e_2) (cw_X9_X9_rowOf htl ⟨Nat.le_of_ble_eq_true rfl, Nat.le_of_ble_eq_true rfl⟩) ⟨Bx_blind, va_recv hK hPX_2 (ci := 9) (q0 := 0) rfl rfl, Bx_pre hPX_2 hK hN (hX.stay hS hGE)⟩ rfl rfl hl.1 rfl (lv_room (Nat.le_of_ble_eq_true rfl)) dX9_write_2 ⟨Nat.zero_le _, Nat.zero_le _⟩) ?_
    refine W.eq (g2 := F0 m 5 ls [.null]) rfl ?_
    refine lv_astoreN (lv' := [(5, .null), (0, .ref (A 0)), (1, .int v1), (2, .int v2), (3, .long v3)]) hx hb dX9_write_5 hl (by decide) rfl (fun ls hl => ?_)
    refine lv_aloadN hx hb dX9_write_7 (lv_at hl 0 rfl) ?_
    refine lv_ifnonnullN hx hb dX9_write_9 ?_
    refine lv_bipush (v := (-2)) hx hb dX9_write_12 (by decide) ?_
    rw [← hQQ]
    cases hf
    exact rw_i hx hb hr hlocks hP hS dX9_write_14
  subst er_2
  obtain ⟨hj_2, hf⟩ := ob_lt hf
  have hPX_2 : va_P D vwCl (csQ ct A x) s.heap := hP
  refine ro_call1 (va_runV (As := [.int v1]) (rest := []) ⟨hx, hb, hml, hown, htl⟩ (c_X9_rowOf l D ct G A fu x v1 e_2) (cw_X9_X9_rowOf htl ⟨Nat.le_of_ble_eq_true rfl, Nat.le_of_ble_eq_true rfl⟩) ⟨Bx_blind, va_recv hK hPX_2 (ci := 9) (q0 := 0) rfl rfl, Bx_pre hPX_2 hK hN (hX.stay hS hGE)⟩ rfl rfl hl.1 rfl (lv_room (Nat.le_of_ble_eq_true rfl)) dX9_write_2 ⟨Nat.zero_le _, Nat.zero_le _⟩) ?_
  refine W.eq (g2 := F0 m 5 ls [.ref (A (98 + 2 * j_2))]) rfl ?_
  refine lv_astore (lv' := [(5, .ref (A (98 + 2 * j_2))), (0, .ref (A 0)), (1, .int v1), (2, .int v2), (3, .long v3)]) hx hb dX9_write_5 hl (by decide) rfl (fun ls hl => ?_)
  refine lv_aload hx hb dX9_write_7 (lv_at hl 0 rfl) ?_
  refine lv_ifnonnull (tgt := 15) hx hb dX9_write_9 (by decide) ?_
  refine lv_aload hx hb dX9_write_15 (lv_at hl 0 rfl) ?_
  refine va_getN (D := D) (ci := 3) (v := .int ((x (14 + j_2)).1 0 0)) (C := RX3) (T := TX3) (N := 4) hx hb htl inlX3 hown hK hP (98 + 2 * j_2) (qrow_at0 hj_2) rfl 0 (by decide) (va_Nw.use rfl (hN _ nm_34)) (fun _ h9 => h9) rfl dX9_write_17 ?_
  refine lv_if_ne (tgt := 26) hx hb dX9_write_20 (by decide) (fun c_20 => ?_) (fun c_20 => ?_)
  rotate_left 1
  · rw [if_pos c_20] at hf
    refine lv_bipush (v := (-6)) hx hb dX9_write_23 (by decide) ?_
    rw [← hQQ]
    cases hf
    exact rw_i hx hb hr hlocks hP hS dX9_write_25
  rw [if_neg c_20] at hf
  refine lv_iload_n hx hb dX9_write_26 rfl (lv_at hl 3 rfl) ?_
  refine lv_if_lt (tgt := 39) hx hb dX9_write_27 (by decide) (fun c_27 => ?_) (fun c_27 => ?_)
  · rw [if_pos c_27] at hf
    refine lv_bipush (v := (-7)) hx hb dX9_write_39 (by decide) ?_
    rw [← hQQ]
    cases hf
    exact rw_i hx hb hr hlocks hP hS dX9_write_41
  rw [if_neg c_27] at hf
  refine lv_iload_n hx hb dX9_write_30 rfl (lv_at hl 3 rfl) ?_
  refine lv_aload hx hb dX9_write_31 (lv_at hl 0 rfl) ?_
  refine va_getN (D := D) (ci := 3) (v := .int ((x (14 + j_2)).1 2 0)) (C := RX3) (T := TX3) (N := 4) hx hb htl inlX3 hown hK hP (98 + 2 * j_2) (qrow_at0 hj_2) rfl 2 (by decide) (va_Nw.use rfl (hN _ nm_35)) (fun _ h9 => h9) rfl dX9_write_33 ?_
  refine lv_icmp_lt (tgt := 42) hx hb dX9_write_36 (by decide) (fun c_36 => ?_) (fun c_36 => ?_)
  rotate_left 1
  · rw [if_neg c_36] at hf
    refine lv_bipush (v := (-7)) hx hb dX9_write_39 (by decide) ?_
    rw [← hQQ]
    cases hf
    exact rw_i hx hb hr hlocks hP hS dX9_write_41
  rw [if_pos c_36] at hf
  refine lv_aload hx hb dX9_write_42 (lv_at hl 0 rfl) ?_
  refine lv_iload_n hx hb dX9_write_44 rfl (lv_at hl 3 rfl) ?_
  refine lv_lload_n hx hb dX9_write_45 rfl (lv_at hl 4 rfl) ?_
  refine lv_aload hx hb dX9_write_46 (lv_at hl 0 rfl) ?_
  refine va_getN (D := D) (ci := 3) (v := .int ((x (14 + j_2)).1 1 0)) (C := RX3) (T := TX3) (N := 4) hx hb htl inlX3 hown hK hP (98 + 2 * j_2) (qrow_at0 hj_2) rfl 1 (by decide) (va_Nw.use rfl (hN _ nm_36)) (fun _ h9 => h9) rfl dX9_write_48 ?_
  obtain ⟨r_51, e_51, hf⟩ := ob_bind hf
  have hPX_51 : va_P D vwCl ([]) s.heap := P_nil
  refine ro_call1 (va_runS (As := [.long v3, .int ((x (14 + j_2)).1 1 0)]) (rest := [.int v2, .ref (A (98 + 2 * j_2))]) ⟨hx, hb, hml, hown, htl⟩ (c_X9_cut l D ct G fu v3 ((x (14 + j_2)).1 1 0) e_51) (cw_X9_X9_cut htl ⟨Nat.le_of_ble_eq_true rfl, Nat.le_of_ble_eq_true rfl⟩) ⟨Bx_blind, Bx_pre hPX_51 hK hN (hX.stay hS hGE)⟩ rfl rfl hl.1 rfl (lv_room (Nat.le_of_ble_eq_true rfl)) dX9_write_51 ⟨Nat.zero_le _, Nat.zero_le _⟩) ?_
  obtain ⟨r_54, e_54, hf⟩ := ob_bind hf
  have hPX_54 : va_P D vwCl (cs3 ct (fun i => A (98 + 2 * j_2 + i)) (x (14 + j_2))) s.heap := (qrow_s hj_2 hP)
  refine wr_call0 (va_runVN (As := [.int v2, .long r_51]) (rest := []) ⟨hx, hb, hml, hown, htl⟩ (c_X3_store l D ct G (fun i => A (98 + 2 * j_2 + i)) fu (x (14 + j_2)) v2 r_51 e_54 (qrow_d hj_2 (hDx x))) (cw_X9_X3_store htl hN ⟨Nat.le_of_ble_eq_true rfl, Nat.le_of_ble_eq_true rfl⟩) ⟨Bx_blind, va_recv hK hPX_54 (ci := 3) (q0 := 0) rfl rfl, Bx_pre hPX_54 hK hN (hX.stay hS hGE)⟩ rfl rfl hl.1 rfl (lv_room (Nat.le_of_ble_eq_true rfl)) dX9_write_54 ⟨Nat.zero_le _, Nat.zero_le _⟩) hS (qrow_a hj_2) (fun H_54 locs_54 hB_54 _ hk_54 hS => ?_)
  have hP : va_P D vwCl (csQ ct A (va_up x (14 + j_2) r_54)) H_54 := qrow_j hj_2 hP (hDW x) hk_54 hB_54
  refine lv_iconst (v := 0) hx hb dX9_write_57 (by decide) ?_
  rw [← hQQ]
  cases hf
  exact rw_i hx hb hr hlocks hP hS dX9_write_58
theorem c_X9_write (l : Launch) (D : va_G) (ct : Nat → ClassId) (G : GT) (A : Nat → Nat) (fu : Nat) (x : Nat → Ob) (v1 : Int32) (v2 : Int32) (v3 : Int64) {r : Int32 × (Nat → Ob)} (hf : p_X9_write fu x v1 v2 v3 = some r)  (hDx : ∀ x : Nat → Ob, va_D (GE G) (csQ ct A x)) : Met l yX9_write (.code yX9_write cX9_write 6 (some .int) :: wsL_law) rm_X9_write (va_Pc [.ref (A 0), .int v1, .int v2, .long v3] (Bx D ct G (csQ ct A x))) (Qwr (some (.int r.1)) (fun H => va_P D vwCl (csQ ct A r.2) H) (wA (csQ ct A x))) 0 0 (wA (csQ ct A x)) := by
  refine Met.ofW (cc := cX9_write) (maxL := 6) (ret := (some .int)) (by decide) rfl ?_
  intro p e s m args below meth c s₁ B hml hv
  obtain ⟨rfl, hP, hK, hN, hX⟩ := hv
  have hts := atoms_spec (ws := .code yX9_write cX9_write 6 (some .int) :: wsL_law) B.pre
  rw [lg_entry_eq]
  exact b_X9_write A fu x v1 v2 v3 B.exec B.bytes B.returns hml (findClass_of_methodNamed B.named) (fun w h => hts w (List.mem_cons_of_mem _ h)) B.notSynchronized hK hN hX hP hf hDx  (lv_entry [.ref (A 0), .int v1, .int v2, .long v3] (n := 6) (Nat.le_of_ble_eq_true rfl))
theorem hd_X3_reachesOver : yX3_reachesOver.cls ≠ "java/lang/invoke/MethodHandle" ∧ yX3_reachesOver.cls ≠ "java/lang/invoke/VarHandle" ∧ (parseMethodDescriptor yX3_reachesOver.desc).map (fun d => d.parameters.length) = some 2 := by decide +kernel
theorem cw_X9_X3_reachesOver {R : Room} {s : State} {args : Array Value} (ht : ∀ w ∈ wsL_law, w.before args s = true) (hN : ∀ w ∈ NW, va_Nw w s) (hR : rm_X3_reachesOver.frames + 1 ≤ R.frames ∧ 8 + (3 + 11) + rm_X3_reachesOver.locals ≤ R.locals) : va_CN R s args RX9 407 yX3_reachesOver "QuotedRiver" cX3_reachesOver 3 (some .boolean) ((.code yX3_reachesOver cX3_reachesOver 3 (some .boolean)) :: wsL_law) rm_X3_reachesOver 0 0 2 ∧ (Cond.instanceMethod yX3_reachesOver).before args s = true ∧ (Cond.selects RX3 yX3_reachesOver yX3_reachesOver).before args s = true := ⟨va_cnB 2 ht (GL wq_61_17) rfl rfl rfl (hN _ nm_102) (ht _ wq_3_3) hd_X3_reachesOver hR, ht _ wq_61_15, ht _ wq_61_16⟩
theorem cw_X9_X3_number {R : Room} {s : State} {args : Array Value} (ht : ∀ w ∈ wsL_law, w.before args s = true) (hN : ∀ w ∈ NW, va_Nw w s) (hR : rm_X3_number.frames + 1 ≤ R.frames ∧ 8 + (2 + 11) + rm_X3_number.locals ≤ R.locals) : va_CN R s args RX9 410 yX3_number "QuotedRiver" cX3_number 2 (some .long) ((.code yX3_number cX3_number 2 (some .long)) :: wsL_law) rm_X3_number 0 0 1 ∧ (Cond.instanceMethod yX3_number).before args s = true ∧ (Cond.selects RX3 yX3_number yX3_number).before args s = true := ⟨va_cnB 1 ht (GL wq_47_11) rfl rfl rfl (hN _ nm_103) (ht _ wq_3_3) hd_X3_number hR, ht _ wq_47_9, ht _ wq_47_10⟩
def p_X9_paste_J128 (fu : Nat) (c104 : (Nat → Ob) → Nat → Nat → Int32 → Int32 → Int32 → Int32 → Int32 → Option (Int32 × (Nat → Ob))) (xz : Nat → Ob) (j_2 : Nat) (j_9 : Nat) (v2 : Int32) (v4 : Int32) (v5 : Int32) (v8 : Int32) (v9 : Int32) (s0 : Int32) : Option (Int32 × (Nat → Ob)) :=
    (p_X3_number fu (xz (14 + j_2)) (v2 + s0)).bind fun r_143 => (p_X3_store fu (xz (14 + j_9)) (v4 + s0) r_143).bind fun r_146 => c104 (va_up xz (14 + j_9) r_146) j_2 j_9 v2 v4 v5 v8 (v9 + 1)
def p_X9_paste_L104 (fu : Nat)  : Nat → (Nat → Ob) → Nat → Nat → Int32 → Int32 → Int32 → Int32 → Int32 → Option (Int32 × (Nat → Ob))
  | 0, _, _, _, _, _, _, _, _ => none
  | n + 1, xz, j_2, j_9, v2, v4, v5, v8, v9 =>
    if v5 ≤ v9 then some ((0 : Int32), xz) else if v8 = 0 then p_X9_paste_J128 fu (fun xz j_2 j_9 v2 v4 v5 v8 v9 => p_X9_paste_L104 fu  n xz j_2 j_9 v2 v4 v5 v8 v9) xz j_2 j_9 v2 v4 v5 v8 v9 v9 else p_X9_paste_J128 fu (fun xz j_2 j_9 v2 v4 v5 v8 v9 => p_X9_paste_L104 fu  n xz j_2 j_9 v2 v4 v5 v8 v9) xz j_2 j_9 v2 v4 v5 v8 v9 ((v5 - 1) - v9)
def p_X9_paste (fu : Nat) (x : Nat → Ob) (v1 : Int32) (v2 : Int32) (v3 : Int32) (v4 : Int32) (v5 : Int32) : Option (Int32 × (Nat → Ob)) :=
  (p_X9_rowOf fu x v1).bind fun r_2 => oCase r_2 ((p_X9_rowOf fu x v3).bind fun r_9 => oCase r_9 (some (((-2) : Int32), x)) (fun j_9 => if j_9 < 4 then some (((-2) : Int32), x) else none)) (fun j_2 => if j_2 < 4 then (p_X9_rowOf fu x v3).bind fun r_9 => oCase r_9 (some (((-2) : Int32), x)) (fun j_9 => if j_9 < 4 then if ((x (14 + j_2)).1 0 0) = 0 then some (((-6) : Int32), x) else if ((x (14 + j_9)).1 0 0) = 0 then some (((-6) : Int32), x) else if ((x (14 + j_2)).1 1 0) = ((x (14 + j_9)).1 1 0) then (p_X3_reachesOver fu (x (14 + j_2)) v2 v5).bind fun r_67 => if r_67 = 0 then some (((-7) : Int32), x) else (p_X3_reachesOver fu (x (14 + j_9)) v4 v5).bind fun r_79 => if r_79 = 0 then some (((-7) : Int32), x) else if v4 ≤ v2 then p_X9_paste_L104 fu fu x j_2 j_9 v2 v4 v5 0 0 else p_X9_paste_L104 fu fu x j_2 j_9 v2 v4 v5 1 0 else some (((-8) : Int32), x) else none) else none)
abbrev rm_X9_paste : Room := { frames := 1, cells := 0, slots := 0, locals := 23 }
set_option maxHeartbeats 4000000 in
set_option maxRecDepth 100000 in
theorem b_X9_paste {p : Program} {l : Launch} {e : Env} {s : State} {m : MethodId} {args : Array Value} {below : List Frame} {meth : Method} {c : Code} {ls : Array Slot} {D : va_G} {ct : Nat → ClassId} {G : GT} (A : Nat → Nat) (fu : Nat) (x : Nat → Ob) (v1 : Int32) (v2 : Int32) (v3 : Int32) (v4 : Int32) (v5 : Int32) {r : Int32 × (Nat → Ob)} (hx : p.tables.exec = Jvm.exec) (hb : c.code = cX9_paste) (hr : meth.sig.returnType = (some .int)) (hml : c.maxLocals = 11) (hown : s.vm.findClass RX9 = some m.cls) (htl : ∀ w ∈ wsL_law, w.before args s = true) (hlocks : meth.locks = false) (hK : va_K D vwCl (tyl ct) s) (hN : ∀ w ∈ NW, va_Nw w s) (hX : SX G s s.heap) (hP0 : va_P D vwCl (csQ ct A x) s.heap) (hf : p_X9_paste fu x v1 v2 v3 v4 v5 = some r) (hDx : ∀ x : Nat → Ob, va_D (GE G) (csQ ct A x))  (hl : lv_has ls 11 [(0, .ref (A 0)), (1, .int v1), (2, .int v2), (3, .int v3), (4, .int v4), (5, .int v5)]) : W p l e rm_X9_paste s m args below meth c s.heap [] 0 0 (MQ below (Qwr (some (.int r.1)) (fun H => va_P D vwCl (csQ ct A r.2) H) (wA (csQ ct A x))) args s 0 0 (wA (csQ ct A x))) (F0 m 0 ls []) := by
  generalize hQQ : MQ below (Qwr (some (.int r.1)) (fun H => va_P D vwCl (csQ ct A r.2) H) (wA (csQ ct A x))) args s 0 0 (wA (csQ ct A x)) = QQ
  have hDW : ∀ x1 : Nat → Ob, va_D (wA (csQ ct A x)) (csQ ct A x1) := fun x1 => D_any (D_self (hDx x1)) (wA_Q x1 x)
  have hGE : ∀ q, wA (csQ ct A x) q → GE G q := wA_GE (hDx x)
  have hP := hP0
  have hS : va_S (wA (csQ ct A x)) s.heap s.heap [] := va_S.rf
  have hJ128 : ∀ (c104 : (Nat → Ob) → Nat → Nat → Int32 → Int32 → Int32 → Int32 → Int32 → Option (Int32 × (Nat → Ob))) (xz : Nat → Ob) (j_2 : Nat) (j_9 : Nat) (v2 : Int32) (v4 : Int32) (v5 : Int32) (v8 : Int32) (v9 : Int32) (s0 : Int32), ∀ (hj_2 : j_2 < 4) (hj_9 : j_9 < 4) (H : Heap) (locs : List Loc) (ls : Array Slot), va_P D vwCl (csQ ct A xz) H → va_S (wA (csQ ct A x)) s.heap H locs → lv_has ls 11 [(2, .int v2), (4, .int v4), (5, .int v5), (6, .ref (A (98 + 2 * j_2))), (7, .ref (A (98 + 2 * j_9))), (8, .int v8), (9, .int v9)] → p_X9_paste_J128 fu c104 xz j_2 j_9 v2 v4 v5 v8 v9 s0 = some r → (∀ (xz : Nat → Ob) (j_2 : Nat) (j_9 : Nat) (v2 : Int32) (v4 : Int32) (v5 : Int32) (v8 : Int32) (v9 : Int32), ∀ (hj_2 : j_2 < 4) (hj_9 : j_9 < 4) (H : Heap) (locs : List Loc) (ls : Array Slot), va_P D vwCl (csQ ct A xz) H → va_S (wA (csQ ct A x)) s.heap H locs → lv_has ls 11 [(2, .int v2), (4, .int v4), (5, .int v5), (6, .ref (A (98 + 2 * j_2))), (7, .ref (A (98 + 2 * j_9))), (8, .int v8), (9, .int v9)] → c104 xz j_2 j_9 v2 v4 v5 v8 v9 = some r → W p l e rm_X9_paste s m args below meth c H locs 0 0 QQ (F0 m 104 ls [])) → W p l e rm_X9_paste s m args below meth c H locs 0 0 QQ (F0 m 128 ls [.int s0]) := by
    intro c104 xz j_2 j_9 v2 v4 v5 v8 v9 s0 hj_2 hj_9 H locs ls hP hS hl hf k104
    rw [p_X9_paste_J128] at hf
    refine lv_istore (lv' := [(10, .int s0), (2, .int v2), (4, .int v4), (5, .int v5), (6, .ref (A (98 + 2 * j_2))), (7, .ref (A (98 + 2 * j_9))), (8, .int v8), (9, .int v9)]) hx hb dX9_paste_128 hl (by decide) rfl (fun ls hl => ?_)
    refine lv_aload hx hb dX9_paste_130 (lv_at hl 5 rfl) ?_
    refine lv_iload hx hb dX9_paste_132 (lv_at hl 2 rfl) ?_
    refine lv_iload hx hb dX9_paste_134 (lv_at hl 0 rfl) ?_
    refine lv_iadd hx hb dX9_paste_136 ?_
    refine lv_aload hx hb dX9_paste_137 (lv_at hl 4 rfl) ?_
    refine lv_iload_n hx hb dX9_paste_139 rfl (lv_at hl 1 rfl) ?_
    refine lv_iload hx hb dX9_paste_140 (lv_at hl 0 rfl) ?_
    refine lv_iadd hx hb dX9_paste_142 ?_
    obtain ⟨r_143, e_143, hf⟩ := ob_bind hf
    have hPX_143 : va_P D vwCl (cs3 ct (fun i => A (98 + 2 * j_2 + i)) (xz (14 + j_2))) H := (qrow_s hj_2 hP)
    refine ro_call1 (va_runVN (As := [.int (v2 + s0)]) (rest := [.int (v4 + s0), .ref (A (98 + 2 * j_9))]) ⟨hx, hb, hml, hown, htl⟩ (c_X3_number l D ct G (fun i => A (98 + 2 * j_2 + i)) fu (xz (14 + j_2)) (v2 + s0) e_143) (cw_X9_X3_number htl hN ⟨Nat.le_of_ble_eq_true rfl, Nat.le_of_ble_eq_true rfl⟩) ⟨Bx_blind, va_recv hK hPX_143 (ci := 3) (q0 := 0) rfl rfl, Bx_pre hPX_143 hK hN (hX.stay hS hGE)⟩ rfl rfl hl.1 rfl (lv_room (Nat.le_of_ble_eq_true rfl)) dX9_paste_143 ⟨Nat.zero_le _, Nat.zero_le _⟩) ?_
    obtain ⟨r_146, e_146, hf⟩ := ob_bind hf
    have hPX_146 : va_P D vwCl (cs3 ct (fun i => A (98 + 2 * j_9 + i)) (xz (14 + j_9))) H := (qrow_s hj_9 hP)
    refine wr_call0 (va_runVN (As := [.int (v4 + s0), .long r_143]) (rest := []) ⟨hx, hb, hml, hown, htl⟩ (c_X3_store l D ct G (fun i => A (98 + 2 * j_9 + i)) fu (xz (14 + j_9)) (v4 + s0) r_143 e_146 (qrow_d hj_9 (hDx xz))) (cw_X9_X3_store htl hN ⟨Nat.le_of_ble_eq_true rfl, Nat.le_of_ble_eq_true rfl⟩) ⟨Bx_blind, va_recv hK hPX_146 (ci := 3) (q0 := 0) rfl rfl, Bx_pre hPX_146 hK hN (hX.stay hS hGE)⟩ rfl rfl hl.1 rfl (lv_room (Nat.le_of_ble_eq_true rfl)) dX9_paste_146 ⟨Nat.zero_le _, Nat.zero_le _⟩) hS (qrow_a hj_9) (fun H_146 locs_146 hB_146 _ hk_146 hS => ?_)
    have hP : va_P D vwCl (csQ ct A (va_up xz (14 + j_9) r_146)) H_146 := qrow_j hj_9 hP (hDW xz) hk_146 hB_146
    refine lv_iinc (v := (v9 + 1)) (lv' := [(9, .int (v9 + 1)), (10, .int s0), (2, .int v2), (4, .int v4), (5, .int v5), (6, .ref (A (98 + 2 * j_2))), (7, .ref (A (98 + 2 * j_9))), (8, .int v8)]) hx hb dX9_paste_149 hl (k := 7) rfl rfl (by decide) rfl (fun ls hl => ?_)
    refine lv_goto (tgt := 104) hx hb dX9_paste_152 (by decide) ?_
    exact k104 (va_up xz (14 + j_9) r_146) j_2 j_9 v2 v4 v5 v8 (v9 + 1) hj_2 hj_9 _ _ _ hP hS (lv_sub hl [2, 3, 4, 5, 6, 7, 0] rfl) hf
  have hL104 : ∀ (n : Nat) (xz : Nat → Ob) (j_2 : Nat) (j_9 : Nat) (v2 : Int32) (v4 : Int32) (v5 : Int32) (v8 : Int32) (v9 : Int32), ∀ (hj_2 : j_2 < 4) (hj_9 : j_9 < 4) (H : Heap) (locs : List Loc) (ls : Array Slot), va_P D vwCl (csQ ct A xz) H → va_S (wA (csQ ct A x)) s.heap H locs → lv_has ls 11 [(2, .int v2), (4, .int v4), (5, .int v5), (6, .ref (A (98 + 2 * j_2))), (7, .ref (A (98 + 2 * j_9))), (8, .int v8), (9, .int v9)] → p_X9_paste_L104 fu  n xz j_2 j_9 v2 v4 v5 v8 v9 = some r → W p l e rm_X9_paste s m args below meth c H locs 0 0 QQ (F0 m 104 ls []) := by
    intro  n
    induction n with
    | zero =>
      intro xz j_2 j_9 v2 v4 v5 v8 v9 hj_2 hj_9 H locs ls hP hS hl hf 
      rw [p_X9_paste_L104] at hf
      cases hf
    | succ n ih =>
      intro xz j_2 j_9 v2 v4 v5 v8 v9 hj_2 hj_9 H locs ls hP hS hl hf 
      rw [p_X9_paste_L104] at hf
      refine lv_iload hx hb dX9_paste_104 (lv_at hl 6 rfl) ?_
      refine lv_iload hx hb dX9_paste_106 (lv_at hl 2 rfl) ?_
      refine lv_icmp_ge (tgt := 155) hx hb dX9_paste_108 (by decide) (fun c_108 => ?_) (fun c_108 => ?_)
      · rw [if_pos c_108] at hf
        refine lv_iconst (v := 0) hx hb dX9_paste_155 (by decide) ?_
        rw [← hQQ]
        cases hf
        exact rw_i hx hb hr hlocks hP hS dX9_paste_156
      rw [if_neg c_108] at hf
      refine lv_iload hx hb dX9_paste_111 (lv_at hl 5 rfl) ?_
      refine lv_if_eq (tgt := 126) hx hb dX9_paste_113 (by decide) (fun c_113 => ?_) (fun c_113 => ?_)
      · rw [if_pos c_113] at hf
        refine lv_iload hx hb dX9_paste_126 (lv_at hl 6 rfl) ?_
        exact hJ128 _ xz j_2 j_9 v2 v4 v5 v8 v9 v9 hj_2 hj_9 _ _ _ hP hS (lv_sub hl [0, 1, 2, 3, 4, 5, 6] rfl) hf (fun xz j_2 j_9 v2 v4 v5 v8 v9 hj_2 hj_9 H locs ls hP hS hl hf => ih xz j_2 j_9 v2 v4 v5 v8 v9 hj_2 hj_9 H locs ls hP hS hl hf )
      rw [if_neg c_113] at hf
      refine lv_iload hx hb dX9_paste_116 (lv_at hl 2 rfl) ?_
      refine lv_iconst (v := 1) hx hb dX9_paste_118 (by decide) ?_
      refine lv_isub hx hb dX9_paste_119 ?_
      refine lv_iload hx hb dX9_paste_120 (lv_at hl 6 rfl) ?_
      refine lv_isub hx hb dX9_paste_122 ?_
      refine lv_goto (tgt := 128) hx hb dX9_paste_123 (by decide) ?_
      exact hJ128 _ xz j_2 j_9 v2 v4 v5 v8 v9 ((v5 - 1) - v9) hj_2 hj_9 _ _ _ hP hS (lv_sub hl [0, 1, 2, 3, 4, 5, 6] rfl) hf (fun xz j_2 j_9 v2 v4 v5 v8 v9 hj_2 hj_9 H locs ls hP hS hl hf => ih xz j_2 j_9 v2 v4 v5 v8 v9 hj_2 hj_9 H locs ls hP hS hl hf )
  rw [p_X9_paste] at hf
  refine lv_aload_n hx hb dX9_paste_0 rfl (lv_at hl 0 rfl) ?_
  refine lv_iload_n hx hb dX9_paste_1 rfl (lv_at hl 1 rfl) ?_
  obtain ⟨r_2, e_2, hf⟩ := ob_bind hf
  rcases ob_case hf with ⟨er_2, hf⟩ | ⟨j_2, er_2, hf⟩
  · subst er_2
    have hPX_2 : va_P D vwCl (csQ ct A x) s.heap := hP
    refine ro_call1 (va_runV (As := [.int v1]) (rest := []) ⟨hx, hb, hml, hown, htl⟩ (c_X9_rowOf l D ct G A fu x v1 e_2) (cw_X9_X9_rowOf htl ⟨Nat.le_of_ble_eq_true rfl, Nat.le_of_ble_eq_true rfl⟩) ⟨Bx_blind, va_recv hK hPX_2 (ci := 9) (q0 := 0) rfl rfl, Bx_pre hPX_2 hK hN (hX.stay hS hGE)⟩ rfl rfl hl.1 rfl (lv_room (Nat.le_of_ble_eq_true rfl)) dX9_paste_2 ⟨Nat.zero_le _, Nat.zero_le _⟩) ?_
    refine W.eq (g2 := F0 m 5 ls [.null]) rfl ?_
    refine lv_astoreN (lv' := [(6, .null), (0, .ref (A 0)), (1, .int v1), (2, .int v2), (3, .int v3), (4, .int v4), (5, .int v5)]) hx hb dX9_paste_5 hl (by decide) rfl (fun ls hl => ?_)
    refine lv_aload_n hx hb dX9_paste_7 rfl (lv_at hl 1 rfl) ?_
    refine lv_iload_n hx hb dX9_paste_8 rfl (lv_at hl 4 rfl) ?_
    obtain ⟨r_9, e_9, hf⟩ := ob_bind hf
    rcases ob_case hf with ⟨er_9, hf⟩ | ⟨j_9, er_9, hf⟩
    · subst er_9
      have hPX_9 : va_P D vwCl (csQ ct A x) s.heap := hP
      refine ro_call1 (va_runV (As := [.int v3]) (rest := []) ⟨hx, hb, hml, hown, htl⟩ (c_X9_rowOf l D ct G A fu x v3 e_9) (cw_X9_X9_rowOf htl ⟨Nat.le_of_ble_eq_true rfl, Nat.le_of_ble_eq_true rfl⟩) ⟨Bx_blind, va_recv hK hPX_9 (ci := 9) (q0 := 0) rfl rfl, Bx_pre hPX_9 hK hN (hX.stay hS hGE)⟩ rfl rfl hl.1 rfl (lv_room (Nat.le_of_ble_eq_true rfl)) dX9_paste_9 ⟨Nat.zero_le _, Nat.zero_le _⟩) ?_
      refine W.eq (g2 := F0 m 12 ls [.null]) rfl ?_
      refine lv_astoreN (lv' := [(7, .null), (6, .null), (0, .ref (A 0)), (1, .int v1), (2, .int v2), (3, .int v3), (4, .int v4), (5, .int v5)]) hx hb dX9_paste_12 hl (by decide) rfl (fun ls hl => ?_)
      refine lv_aloadN hx hb dX9_paste_14 (lv_at hl 1 rfl) ?_
      refine lv_ifnullN (tgt := 24) hx hb dX9_paste_16 (by decide) ?_
      refine lv_bipush (v := (-2)) hx hb dX9_paste_24 (by decide) ?_
      rw [← hQQ]
      cases hf
      exact rw_i hx hb hr hlocks hP hS dX9_paste_26
    subst er_9
    obtain ⟨hj_9, hf⟩ := ob_lt hf
    have hPX_9 : va_P D vwCl (csQ ct A x) s.heap := hP
    refine ro_call1 (va_runV (As := [.int v3]) (rest := []) ⟨hx, hb, hml, hown, htl⟩ (c_X9_rowOf l D ct G A fu x v3 e_9) (cw_X9_X9_rowOf htl ⟨Nat.le_of_ble_eq_true rfl, Nat.le_of_ble_eq_true rfl⟩) ⟨Bx_blind, va_recv hK hPX_9 (ci := 9) (q0 := 0) rfl rfl, Bx_pre hPX_9 hK hN (hX.stay hS hGE)⟩ rfl rfl hl.1 rfl (lv_room (Nat.le_of_ble_eq_true rfl)) dX9_paste_9 ⟨Nat.zero_le _, Nat.zero_le _⟩) ?_
    refine W.eq (g2 := F0 m 12 ls [.ref (A (98 + 2 * j_9))]) rfl ?_
    refine lv_astore (lv' := [(7, .ref (A (98 + 2 * j_9))), (6, .null), (0, .ref (A 0)), (1, .int v1), (2, .int v2), (3, .int v3), (4, .int v4), (5, .int v5)]) hx hb dX9_paste_12 hl (by decide) rfl (fun ls hl => ?_)
    refine lv_aloadN hx hb dX9_paste_14 (lv_at hl 1 rfl) ?_
    refine lv_ifnullN (tgt := 24) hx hb dX9_paste_16 (by decide) ?_
    refine lv_bipush (v := (-2)) hx hb dX9_paste_24 (by decide) ?_
    rw [← hQQ]
    cases hf
    exact rw_i hx hb hr hlocks hP hS dX9_paste_26
  subst er_2
  obtain ⟨hj_2, hf⟩ := ob_lt hf
  have hPX_2 : va_P D vwCl (csQ ct A x) s.heap := hP
  refine ro_call1 (va_runV (As := [.int v1]) (rest := []) ⟨hx, hb, hml, hown, htl⟩ (c_X9_rowOf l D ct G A fu x v1 e_2) (cw_X9_X9_rowOf htl ⟨Nat.le_of_ble_eq_true rfl, Nat.le_of_ble_eq_true rfl⟩) ⟨Bx_blind, va_recv hK hPX_2 (ci := 9) (q0 := 0) rfl rfl, Bx_pre hPX_2 hK hN (hX.stay hS hGE)⟩ rfl rfl hl.1 rfl (lv_room (Nat.le_of_ble_eq_true rfl)) dX9_paste_2 ⟨Nat.zero_le _, Nat.zero_le _⟩) ?_
  refine W.eq (g2 := F0 m 5 ls [.ref (A (98 + 2 * j_2))]) rfl ?_
  refine lv_astore (lv' := [(6, .ref (A (98 + 2 * j_2))), (0, .ref (A 0)), (1, .int v1), (2, .int v2), (3, .int v3), (4, .int v4), (5, .int v5)]) hx hb dX9_paste_5 hl (by decide) rfl (fun ls hl => ?_)
  refine lv_aload_n hx hb dX9_paste_7 rfl (lv_at hl 1 rfl) ?_
  refine lv_iload_n hx hb dX9_paste_8 rfl (lv_at hl 4 rfl) ?_
  obtain ⟨r_9, e_9, hf⟩ := ob_bind hf
  rcases ob_case hf with ⟨er_9, hf⟩ | ⟨j_9, er_9, hf⟩
  · subst er_9
    have hPX_9 : va_P D vwCl (csQ ct A x) s.heap := hP
    refine ro_call1 (va_runV (As := [.int v3]) (rest := []) ⟨hx, hb, hml, hown, htl⟩ (c_X9_rowOf l D ct G A fu x v3 e_9) (cw_X9_X9_rowOf htl ⟨Nat.le_of_ble_eq_true rfl, Nat.le_of_ble_eq_true rfl⟩) ⟨Bx_blind, va_recv hK hPX_9 (ci := 9) (q0 := 0) rfl rfl, Bx_pre hPX_9 hK hN (hX.stay hS hGE)⟩ rfl rfl hl.1 rfl (lv_room (Nat.le_of_ble_eq_true rfl)) dX9_paste_9 ⟨Nat.zero_le _, Nat.zero_le _⟩) ?_
    refine W.eq (g2 := F0 m 12 ls [.null]) rfl ?_
    refine lv_astoreN (lv' := [(7, .null), (6, .ref (A (98 + 2 * j_2))), (0, .ref (A 0)), (1, .int v1), (2, .int v2), (3, .int v3), (4, .int v4), (5, .int v5)]) hx hb dX9_paste_12 hl (by decide) rfl (fun ls hl => ?_)
    refine lv_aload hx hb dX9_paste_14 (lv_at hl 1 rfl) ?_
    refine lv_ifnull hx hb dX9_paste_16 ?_
    refine lv_aloadN hx hb dX9_paste_19 (lv_at hl 0 rfl) ?_
    refine lv_ifnonnullN hx hb dX9_paste_21 ?_
    refine lv_bipush (v := (-2)) hx hb dX9_paste_24 (by decide) ?_
    rw [← hQQ]
    cases hf
    exact rw_i hx hb hr hlocks hP hS dX9_paste_26
  subst er_9
  obtain ⟨hj_9, hf⟩ := ob_lt hf
  have hPX_9 : va_P D vwCl (csQ ct A x) s.heap := hP
  refine ro_call1 (va_runV (As := [.int v3]) (rest := []) ⟨hx, hb, hml, hown, htl⟩ (c_X9_rowOf l D ct G A fu x v3 e_9) (cw_X9_X9_rowOf htl ⟨Nat.le_of_ble_eq_true rfl, Nat.le_of_ble_eq_true rfl⟩) ⟨Bx_blind, va_recv hK hPX_9 (ci := 9) (q0 := 0) rfl rfl, Bx_pre hPX_9 hK hN (hX.stay hS hGE)⟩ rfl rfl hl.1 rfl (lv_room (Nat.le_of_ble_eq_true rfl)) dX9_paste_9 ⟨Nat.zero_le _, Nat.zero_le _⟩) ?_
  refine W.eq (g2 := F0 m 12 ls [.ref (A (98 + 2 * j_9))]) rfl ?_
  refine lv_astore (lv' := [(7, .ref (A (98 + 2 * j_9))), (6, .ref (A (98 + 2 * j_2))), (0, .ref (A 0)), (1, .int v1), (2, .int v2), (3, .int v3), (4, .int v4), (5, .int v5)]) hx hb dX9_paste_12 hl (by decide) rfl (fun ls hl => ?_)
  refine lv_aload hx hb dX9_paste_14 (lv_at hl 1 rfl) ?_
  refine lv_ifnull hx hb dX9_paste_16 ?_
  refine lv_aload hx hb dX9_paste_19 (lv_at hl 0 rfl) ?_
  refine lv_ifnonnull (tgt := 27) hx hb dX9_paste_21 (by decide) ?_
  refine lv_aload hx hb dX9_paste_27 (lv_at hl 1 rfl) ?_
  refine va_getN (D := D) (ci := 3) (v := .int ((x (14 + j_2)).1 0 0)) (C := RX3) (T := TX3) (N := 4) hx hb htl inlX3 hown hK hP (98 + 2 * j_2) (qrow_at0 hj_2) rfl 0 (by decide) (va_Nw.use rfl (hN _ nm_34)) (fun _ h9 => h9) rfl dX9_paste_29 ?_
  refine lv_if_eq (tgt := 43) hx hb dX9_paste_32 (by decide) (fun c_32 => ?_) (fun c_32 => ?_)
  · rw [if_pos c_32] at hf
    refine lv_bipush (v := (-6)) hx hb dX9_paste_43 (by decide) ?_
    rw [← hQQ]
    cases hf
    exact rw_i hx hb hr hlocks hP hS dX9_paste_45
  rw [if_neg c_32] at hf
  refine lv_aload hx hb dX9_paste_35 (lv_at hl 0 rfl) ?_
  refine va_getN (D := D) (ci := 3) (v := .int ((x (14 + j_9)).1 0 0)) (C := RX3) (T := TX3) (N := 4) hx hb htl inlX3 hown hK hP (98 + 2 * j_9) (qrow_at0 hj_9) rfl 0 (by decide) (va_Nw.use rfl (hN _ nm_34)) (fun _ h9 => h9) rfl dX9_paste_37 ?_
  refine lv_if_ne (tgt := 46) hx hb dX9_paste_40 (by decide) (fun c_40 => ?_) (fun c_40 => ?_)
  rotate_left 1
  · rw [if_pos c_40] at hf
    refine lv_bipush (v := (-6)) hx hb dX9_paste_43 (by decide) ?_
    rw [← hQQ]
    cases hf
    exact rw_i hx hb hr hlocks hP hS dX9_paste_45
  rw [if_neg c_40] at hf
  refine lv_aload hx hb dX9_paste_46 (lv_at hl 1 rfl) ?_
  refine va_getN (D := D) (ci := 3) (v := .int ((x (14 + j_2)).1 1 0)) (C := RX3) (T := TX3) (N := 4) hx hb htl inlX3 hown hK hP (98 + 2 * j_2) (qrow_at0 hj_2) rfl 1 (by decide) (va_Nw.use rfl (hN _ nm_36)) (fun _ h9 => h9) rfl dX9_paste_48 ?_
  refine lv_aload hx hb dX9_paste_51 (lv_at hl 0 rfl) ?_
  refine va_getN (D := D) (ci := 3) (v := .int ((x (14 + j_9)).1 1 0)) (C := RX3) (T := TX3) (N := 4) hx hb htl inlX3 hown hK hP (98 + 2 * j_9) (qrow_at0 hj_9) rfl 1 (by decide) (va_Nw.use rfl (hN _ nm_36)) (fun _ h9 => h9) rfl dX9_paste_53 ?_
  refine lv_icmp_eq (tgt := 62) hx hb dX9_paste_56 (by decide) (fun c_56 => ?_) (fun c_56 => ?_)
  rotate_left 1
  · rw [if_neg c_56] at hf
    refine lv_bipush (v := (-8)) hx hb dX9_paste_59 (by decide) ?_
    rw [← hQQ]
    cases hf
    exact rw_i hx hb hr hlocks hP hS dX9_paste_61
  rw [if_pos c_56] at hf
  refine lv_aload hx hb dX9_paste_62 (lv_at hl 1 rfl) ?_
  refine lv_iload_n hx hb dX9_paste_64 rfl (lv_at hl 4 rfl) ?_
  refine lv_iload hx hb dX9_paste_65 (lv_at hl 7 rfl) ?_
  obtain ⟨r_67, e_67, hf⟩ := ob_bind hf
  have hPX_67 : va_P D vwCl (cs3 ct (fun i => A (98 + 2 * j_2 + i)) (x (14 + j_2))) s.heap := (qrow_s hj_2 hP)
  refine ro_call1 (va_runVN (As := [.int v2, .int v5]) (rest := []) ⟨hx, hb, hml, hown, htl⟩ (c_X3_reachesOver l D ct G (fun i => A (98 + 2 * j_2 + i)) fu (x (14 + j_2)) v2 v5 e_67) (cw_X9_X3_reachesOver htl hN ⟨Nat.le_of_ble_eq_true rfl, Nat.le_of_ble_eq_true rfl⟩) ⟨Bx_blind, va_recv hK hPX_67 (ci := 3) (q0 := 0) rfl rfl, Bx_pre hPX_67 hK hN (hX.stay hS hGE)⟩ rfl rfl hl.1 rfl (lv_room (Nat.le_of_ble_eq_true rfl)) dX9_paste_67 ⟨Nat.zero_le _, Nat.zero_le _⟩) ?_
  refine lv_if_eq (tgt := 85) hx hb dX9_paste_70 (by decide) (fun c_70 => ?_) (fun c_70 => ?_)
  · rw [if_pos c_70] at hf
    refine lv_bipush (v := (-7)) hx hb dX9_paste_85 (by decide) ?_
    rw [← hQQ]
    cases hf
    exact rw_i hx hb hr hlocks hP hS dX9_paste_87
  rw [if_neg c_70] at hf
  refine lv_aload hx hb dX9_paste_73 (lv_at hl 0 rfl) ?_
  refine lv_iload hx hb dX9_paste_75 (lv_at hl 6 rfl) ?_
  refine lv_iload hx hb dX9_paste_77 (lv_at hl 7 rfl) ?_
  obtain ⟨r_79, e_79, hf⟩ := ob_bind hf
  have hPX_79 : va_P D vwCl (cs3 ct (fun i => A (98 + 2 * j_9 + i)) (x (14 + j_9))) s.heap := (qrow_s hj_9 hP)
  refine ro_call1 (va_runVN (As := [.int v4, .int v5]) (rest := []) ⟨hx, hb, hml, hown, htl⟩ (c_X3_reachesOver l D ct G (fun i => A (98 + 2 * j_9 + i)) fu (x (14 + j_9)) v4 v5 e_79) (cw_X9_X3_reachesOver htl hN ⟨Nat.le_of_ble_eq_true rfl, Nat.le_of_ble_eq_true rfl⟩) ⟨Bx_blind, va_recv hK hPX_79 (ci := 3) (q0 := 0) rfl rfl, Bx_pre hPX_79 hK hN (hX.stay hS hGE)⟩ rfl rfl hl.1 rfl (lv_room (Nat.le_of_ble_eq_true rfl)) dX9_paste_79 ⟨Nat.zero_le _, Nat.zero_le _⟩) ?_
  refine lv_if_ne (tgt := 88) hx hb dX9_paste_82 (by decide) (fun c_82 => ?_) (fun c_82 => ?_)
  rotate_left 1
  · rw [if_pos c_82] at hf
    refine lv_bipush (v := (-7)) hx hb dX9_paste_85 (by decide) ?_
    rw [← hQQ]
    cases hf
    exact rw_i hx hb hr hlocks hP hS dX9_paste_87
  rw [if_neg c_82] at hf
  refine lv_iload hx hb dX9_paste_88 (lv_at hl 6 rfl) ?_
  refine lv_iload_n hx hb dX9_paste_90 rfl (lv_at hl 4 rfl) ?_
  refine lv_icmp_le (tgt := 98) hx hb dX9_paste_91 (by decide) (fun c_91 => ?_) (fun c_91 => ?_)
  · rw [if_pos c_91] at hf
    refine lv_iconst (v := 0) hx hb dX9_paste_98 (by decide) ?_
    refine lv_istore (lv' := [(8, .int 0), (7, .ref (A (98 + 2 * j_9))), (6, .ref (A (98 + 2 * j_2))), (0, .ref (A 0)), (1, .int v1), (2, .int v2), (3, .int v3), (4, .int v4), (5, .int v5)]) hx hb dX9_paste_99 hl (by decide) rfl (fun ls hl => ?_)
    refine lv_iconst (v := 0) hx hb dX9_paste_101 (by decide) ?_
    refine lv_istore (lv' := [(9, .int 0), (8, .int 0), (7, .ref (A (98 + 2 * j_9))), (6, .ref (A (98 + 2 * j_2))), (0, .ref (A 0)), (1, .int v1), (2, .int v2), (3, .int v3), (4, .int v4), (5, .int v5)]) hx hb dX9_paste_102 hl (by decide) rfl (fun ls hl => ?_)
    exact hL104 fu x j_2 j_9 v2 v4 v5 0 0 hj_2 hj_9 _ _ _ hP hS (lv_sub hl [6, 8, 9, 3, 2, 1, 0] rfl) hf 
  rw [if_neg c_91] at hf
  refine lv_iconst (v := 1) hx hb dX9_paste_94 (by decide) ?_
  refine lv_goto (tgt := 99) hx hb dX9_paste_95 (by decide) ?_
  refine lv_istore (lv' := [(8, .int 1), (7, .ref (A (98 + 2 * j_9))), (6, .ref (A (98 + 2 * j_2))), (0, .ref (A 0)), (1, .int v1), (2, .int v2), (3, .int v3), (4, .int v4), (5, .int v5)]) hx hb dX9_paste_99 hl (by decide) rfl (fun ls hl => ?_)
  refine lv_iconst (v := 0) hx hb dX9_paste_101 (by decide) ?_
  refine lv_istore (lv' := [(9, .int 0), (8, .int 1), (7, .ref (A (98 + 2 * j_9))), (6, .ref (A (98 + 2 * j_2))), (0, .ref (A 0)), (1, .int v1), (2, .int v2), (3, .int v3), (4, .int v4), (5, .int v5)]) hx hb dX9_paste_102 hl (by decide) rfl (fun ls hl => ?_)
  exact hL104 fu x j_2 j_9 v2 v4 v5 1 0 hj_2 hj_9 _ _ _ hP hS (lv_sub hl [6, 8, 9, 3, 2, 1, 0] rfl) hf 
theorem c_X9_paste (l : Launch) (D : va_G) (ct : Nat → ClassId) (G : GT) (A : Nat → Nat) (fu : Nat) (x : Nat → Ob) (v1 : Int32) (v2 : Int32) (v3 : Int32) (v4 : Int32) (v5 : Int32) {r : Int32 × (Nat → Ob)} (hf : p_X9_paste fu x v1 v2 v3 v4 v5 = some r)  (hDx : ∀ x : Nat → Ob, va_D (GE G) (csQ ct A x)) : Met l yX9_paste (.code yX9_paste cX9_paste 11 (some .int) :: wsL_law) rm_X9_paste (va_Pc [.ref (A 0), .int v1, .int v2, .int v3, .int v4, .int v5] (Bx D ct G (csQ ct A x))) (Qwr (some (.int r.1)) (fun H => va_P D vwCl (csQ ct A r.2) H) (wA (csQ ct A x))) 0 0 (wA (csQ ct A x)) := by
  refine Met.ofW (cc := cX9_paste) (maxL := 11) (ret := (some .int)) (by decide) rfl ?_
  intro p e s m args below meth c s₁ B hml hv
  obtain ⟨rfl, hP, hK, hN, hX⟩ := hv
  have hts := atoms_spec (ws := .code yX9_paste cX9_paste 11 (some .int) :: wsL_law) B.pre
  rw [lg_entry_eq]
  exact b_X9_paste A fu x v1 v2 v3 v4 v5 B.exec B.bytes B.returns hml (findClass_of_methodNamed B.named) (fun w h => hts w (List.mem_cons_of_mem _ h)) B.notSynchronized hK hN hX hP hf hDx  (lv_entry [.ref (A 0), .int v1, .int v2, .int v3, .int v4, .int v5] (n := 11) (Nat.le_of_ble_eq_true rfl))
