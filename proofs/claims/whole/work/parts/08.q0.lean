theorem sw_out_0_3 {x : Int32} (h0 : ¬ x.toInt = 0) (h1 : ¬ x.toInt = 1) (h2 : ¬ x.toInt = 2) (h3 : ¬ x.toInt = 3) : x.toInt < 0 ∨ 3 < x.toInt := by omega
theorem hd_X6_append : yX6_append.cls ≠ "java/lang/invoke/MethodHandle" ∧ yX6_append.cls ≠ "java/lang/invoke/VarHandle" ∧ (parseMethodDescriptor yX6_append.desc).map (fun d => d.parameters.length) = some 1 := by decide +kernel
theorem cw_X9_X6_append {R : Room} {s : State} {args : Array Value} (ht : ∀ w ∈ wsL_law, w.before args s = true) (hN : ∀ w ∈ NW, va_Nw w s) (hR : rm_X6_append.frames + 1 ≤ R.frames ∧ 8 + (3 + 11) + rm_X6_append.locals ≤ R.locals) : va_CN R s args RX9 89 yX6_append "QuotedRiver" cX6_append 3 none ((.code yX6_append cX6_append 3 none) :: wsL_law) rm_X6_append 0 0 1 ∧ (Cond.instanceMethod yX6_append).before args s = true ∧ (Cond.selects RX6 yX6_append yX6_append).before args s = true := ⟨va_cnB 1 ht (GL wq_8_9) rfl rfl rfl (hN _ nm_81) (ht _ wq_1_15) hd_X6_append hR, ht _ wq_8_7, ht _ wq_8_8⟩
def p_X9_feed (fu : Nat) (x : Nat → Ob) (v1 : Int32) (v2 : Int32) (v3 : Int32) (v4 : Int32) (v5 : Int32) : Option (Int32 × (Nat → Ob)) :=
  if ((x 1).1 1 0) ≤ (680 : Int32) then (p_X6_append fu (x 1) v1).bind fun r_20 => (p_X6_append fu ((va_up x 1 r_20) 1) v2).bind fun r_28 => (p_X6_append fu ((va_up (va_up x 1 r_20) 1 r_28) 1) v3).bind fun r_36 => (p_X6_append fu ((va_up (va_up (va_up x 1 r_20) 1 r_28) 1 r_36) 1) v4).bind fun r_45 => (p_X6_append fu ((va_up (va_up (va_up (va_up x 1 r_20) 1 r_28) 1 r_36) 1 r_45) 1) v5).bind fun r_54 => some ((((va_up (va_up (va_up (va_up (va_up x 1 r_20) 1 r_28) 1 r_36) 1 r_45) 1 r_54) 1).1 1 0), (va_up (va_up (va_up (va_up (va_up x 1 r_20) 1 r_28) 1 r_36) 1 r_45) 1 r_54)) else some (((-1) : Int32), x)
abbrev rm_X9_feed : Room := { frames := 2, cells := 0, slots := 0, locals := 44 }
set_option maxHeartbeats 4000000 in
set_option maxRecDepth 100000 in
theorem b_X9_feed {p : Program} {l : Launch} {e : Env} {s : State} {m : MethodId} {args : Array Value} {below : List Frame} {meth : Method} {c : Code} {ls : Array Slot} {D : va_G} {ct : Nat → ClassId} {G : GT} (A : Nat → Nat) (fu : Nat) (x : Nat → Ob) (v1 : Int32) (v2 : Int32) (v3 : Int32) (v4 : Int32) (v5 : Int32) {r : Int32 × (Nat → Ob)} (hx : p.tables.exec = Jvm.exec) (hb : c.code = cX9_feed) (hr : meth.sig.returnType = (some .int)) (hml : c.maxLocals = 6) (hown : s.vm.findClass RX9 = some m.cls) (htl : ∀ w ∈ wsL_law, w.before args s = true) (hlocks : meth.locks = false) (hK : va_K D vwCl (tyl ct) s) (hN : ∀ w ∈ NW, va_Nw w s) (hX : SX G s s.heap) (hP0 : va_P D vwCl (csQ ct A x) s.heap) (hf : p_X9_feed fu x v1 v2 v3 v4 v5 = some r) (hDx : ∀ x : Nat → Ob, va_D (GE G) (csQ ct A x))  (hl : lv_has ls 6 [(0, .ref (A 0)), (1, .int v1), (2, .int v2), (3, .int v3), (4, .int v4), (5, .int v5)]) : W p l e rm_X9_feed s m args below meth c s.heap [] 0 0 (MQ below (Qwr (some (.int r.1)) (fun H => va_P D vwCl (csQ ct A r.2) H) (wA (csQ ct A x))) args s 0 0 (wA (csQ ct A x))) (F0 m 0 ls []) := by
  generalize hQQ : MQ below (Qwr (some (.int r.1)) (fun H => va_P D vwCl (csQ ct A r.2) H) (wA (csQ ct A x))) args s 0 0 (wA (csQ ct A x)) = QQ
  have hDW : ∀ x1 : Nat → Ob, va_D (wA (csQ ct A x)) (csQ ct A x1) := fun x1 => D_any (D_self (hDx x1)) (wA_Q x1 x)
  have hGE : ∀ q, wA (csQ ct A x) q → GE G q := wA_GE (hDx x)
  have hP := hP0
  have hS : va_S (wA (csQ ct A x)) s.heap s.heap [] := va_S.rf
  rw [p_X9_feed] at hf
  refine lv_aload_n hx hb dX9_feed_0 rfl (lv_at hl 0 rfl) ?_
  refine va_get (D := D) (ci := 9) (v := .ref (A 1)) (C := RX9) (T := TX9) (N := 14) hx hb htl inlX9 hown hK hP 0 qh_0 rfl 0 (by decide) (htl _ wq_1_16) (fun _ h9 => h9) rfl dX9_feed_1 ?_
  refine va_getN (D := D) (ci := 6) (v := .int ((x 1).1 1 0)) (C := RX6) (T := TX6) (N := 2) hx hb htl inlX6 hown hK hP 1 qh_1 rfl 1 (by decide) (va_Nw.use rfl (hN _ nm_0)) (fun _ h9 => h9) rfl dX9_feed_4 ?_
  refine lv_sipush (v := 680) hx hb dX9_feed_7 (by decide) ?_
  refine lv_icmp_le (tgt := 15) hx hb dX9_feed_10 (by decide) (fun c_10 => ?_) (fun c_10 => ?_)
  rotate_left 1
  · rw [if_neg c_10] at hf
    refine lv_iconst (v := (-1)) hx hb dX9_feed_13 (by decide) ?_
    rw [← hQQ]
    cases hf
    exact rw_i hx hb hr hlocks hP hS dX9_feed_14
  rw [if_pos c_10] at hf
  refine lv_aload_n hx hb dX9_feed_15 rfl (lv_at hl 0 rfl) ?_
  refine va_get (D := D) (ci := 9) (v := .ref (A 1)) (C := RX9) (T := TX9) (N := 14) hx hb htl inlX9 hown hK hP 0 qh_0 rfl 0 (by decide) (htl _ wq_1_16) (fun _ h9 => h9) rfl dX9_feed_16 ?_
  refine lv_iload_n hx hb dX9_feed_19 rfl (lv_at hl 1 rfl) ?_
  obtain ⟨r_20, e_20, hf⟩ := ob_bind hf
  have hPX_20 : va_P D vwCl (cs6 ct (fun i => A (1 + i)) (x 1)) s.heap := (qs_1 hP)
  refine wr_call0 (va_runVN (As := [.int v1]) (rest := []) ⟨hx, hb, hml, hown, htl⟩ (c_X6_append l D ct G (fun i => A (1 + i)) fu (x 1) v1 e_20 ((hDx x).sub (ws' := cs6 ct (fun i => A (1 + i)) (x 1)) [1, 2] (by decide) rfl)) (cw_X9_X6_append htl hN ⟨Nat.le_of_ble_eq_true rfl, Nat.le_of_ble_eq_true rfl⟩) ⟨Bx_blind, va_recv hK hPX_20 (ci := 6) (q0 := 0) rfl rfl, Bx_pre hPX_20 hK hN (hX.stay hS hGE)⟩ rfl rfl hl.1 rfl (lv_room (Nat.le_of_ble_eq_true rfl)) dX9_feed_20 ⟨Nat.zero_le _, Nat.zero_le _⟩) hS qa_1 (fun H_20 locs_20 hB_20 _ hk_20 hS => ?_)
  have hP : va_P D vwCl (csQ ct A (va_up x 1 r_20)) H_20 := qj_1 hP (hDW x) hk_20 hB_20
  refine lv_aload_n hx hb dX9_feed_23 rfl (lv_at hl 0 rfl) ?_
  refine va_get (D := D) (ci := 9) (v := .ref (A 1)) (C := RX9) (T := TX9) (N := 14) hx hb htl inlX9 hown hK hP 0 qh_0 rfl 0 (by decide) (htl _ wq_1_16) (fun _ h9 => h9) rfl dX9_feed_24 ?_
  refine lv_iload_n hx hb dX9_feed_27 rfl (lv_at hl 2 rfl) ?_
  obtain ⟨r_28, e_28, hf⟩ := ob_bind hf
  have hPX_28 : va_P D vwCl (cs6 ct (fun i => A (1 + i)) ((va_up x 1 r_20) 1)) H_20 := (qs_1 hP)
  refine wr_call0 (va_runVN (As := [.int v2]) (rest := []) ⟨hx, hb, hml, hown, htl⟩ (c_X6_append l D ct G (fun i => A (1 + i)) fu ((va_up x 1 r_20) 1) v2 e_28 ((hDx (va_up x 1 r_20)).sub (ws' := cs6 ct (fun i => A (1 + i)) ((va_up x 1 r_20) 1)) [1, 2] (by decide) rfl)) (cw_X9_X6_append htl hN ⟨Nat.le_of_ble_eq_true rfl, Nat.le_of_ble_eq_true rfl⟩) ⟨Bx_blind, va_recv hK hPX_28 (ci := 6) (q0 := 0) rfl rfl, Bx_pre hPX_28 hK hN (hX.stay hS hGE)⟩ rfl rfl hl.1 rfl (lv_room (Nat.le_of_ble_eq_true rfl)) dX9_feed_28 ⟨Nat.zero_le _, Nat.zero_le _⟩) hS qa_1 (fun H_28 locs_28 hB_28 _ hk_28 hS => ?_)
  have hP : va_P D vwCl (csQ ct A (va_up (va_up x 1 r_20) 1 r_28)) H_28 := qj_1 hP (hDW (va_up x 1 r_20)) hk_28 hB_28
  refine lv_aload_n hx hb dX9_feed_31 rfl (lv_at hl 0 rfl) ?_
  refine va_get (D := D) (ci := 9) (v := .ref (A 1)) (C := RX9) (T := TX9) (N := 14) hx hb htl inlX9 hown hK hP 0 qh_0 rfl 0 (by decide) (htl _ wq_1_16) (fun _ h9 => h9) rfl dX9_feed_32 ?_
  refine lv_iload_n hx hb dX9_feed_35 rfl (lv_at hl 3 rfl) ?_
  obtain ⟨r_36, e_36, hf⟩ := ob_bind hf
  have hPX_36 : va_P D vwCl (cs6 ct (fun i => A (1 + i)) ((va_up (va_up x 1 r_20) 1 r_28) 1)) H_28 := (qs_1 hP)
  refine wr_call0 (va_runVN (As := [.int v3]) (rest := []) ⟨hx, hb, hml, hown, htl⟩ (c_X6_append l D ct G (fun i => A (1 + i)) fu ((va_up (va_up x 1 r_20) 1 r_28) 1) v3 e_36 ((hDx (va_up (va_up x 1 r_20) 1 r_28)).sub (ws' := cs6 ct (fun i => A (1 + i)) ((va_up (va_up x 1 r_20) 1 r_28) 1)) [1, 2] (by decide) rfl)) (cw_X9_X6_append htl hN ⟨Nat.le_of_ble_eq_true rfl, Nat.le_of_ble_eq_true rfl⟩) ⟨Bx_blind, va_recv hK hPX_36 (ci := 6) (q0 := 0) rfl rfl, Bx_pre hPX_36 hK hN (hX.stay hS hGE)⟩ rfl rfl hl.1 rfl (lv_room (Nat.le_of_ble_eq_true rfl)) dX9_feed_36 ⟨Nat.zero_le _, Nat.zero_le _⟩) hS qa_1 (fun H_36 locs_36 hB_36 _ hk_36 hS => ?_)
  have hP : va_P D vwCl (csQ ct A (va_up (va_up (va_up x 1 r_20) 1 r_28) 1 r_36)) H_36 := qj_1 hP (hDW (va_up (va_up x 1 r_20) 1 r_28)) hk_36 hB_36
  refine lv_aload_n hx hb dX9_feed_39 rfl (lv_at hl 0 rfl) ?_
  refine va_get (D := D) (ci := 9) (v := .ref (A 1)) (C := RX9) (T := TX9) (N := 14) hx hb htl inlX9 hown hK hP 0 qh_0 rfl 0 (by decide) (htl _ wq_1_16) (fun _ h9 => h9) rfl dX9_feed_40 ?_
  refine lv_iload hx hb dX9_feed_43 (lv_at hl 4 rfl) ?_
  obtain ⟨r_45, e_45, hf⟩ := ob_bind hf
  have hPX_45 : va_P D vwCl (cs6 ct (fun i => A (1 + i)) ((va_up (va_up (va_up x 1 r_20) 1 r_28) 1 r_36) 1)) H_36 := (qs_1 hP)
  refine wr_call0 (va_runVN (As := [.int v4]) (rest := []) ⟨hx, hb, hml, hown, htl⟩ (c_X6_append l D ct G (fun i => A (1 + i)) fu ((va_up (va_up (va_up x 1 r_20) 1 r_28) 1 r_36) 1) v4 e_45 ((hDx (va_up (va_up (va_up x 1 r_20) 1 r_28) 1 r_36)).sub (ws' := cs6 ct (fun i => A (1 + i)) ((va_up (va_up (va_up x 1 r_20) 1 r_28) 1 r_36) 1)) [1, 2] (by decide) rfl)) (cw_X9_X6_append htl hN ⟨Nat.le_of_ble_eq_true rfl, Nat.le_of_ble_eq_true rfl⟩) ⟨Bx_blind, va_recv hK hPX_45 (ci := 6) (q0 := 0) rfl rfl, Bx_pre hPX_45 hK hN (hX.stay hS hGE)⟩ rfl rfl hl.1 rfl (lv_room (Nat.le_of_ble_eq_true rfl)) dX9_feed_45 ⟨Nat.zero_le _, Nat.zero_le _⟩) hS qa_1 (fun H_45 locs_45 hB_45 _ hk_45 hS => ?_)
  have hP : va_P D vwCl (csQ ct A (va_up (va_up (va_up (va_up x 1 r_20) 1 r_28) 1 r_36) 1 r_45)) H_45 := qj_1 hP (hDW (va_up (va_up (va_up x 1 r_20) 1 r_28) 1 r_36)) hk_45 hB_45
  refine lv_aload_n hx hb dX9_feed_48 rfl (lv_at hl 0 rfl) ?_
  refine va_get (D := D) (ci := 9) (v := .ref (A 1)) (C := RX9) (T := TX9) (N := 14) hx hb htl inlX9 hown hK hP 0 qh_0 rfl 0 (by decide) (htl _ wq_1_16) (fun _ h9 => h9) rfl dX9_feed_49 ?_
  refine lv_iload hx hb dX9_feed_52 (lv_at hl 5 rfl) ?_
  obtain ⟨r_54, e_54, hf⟩ := ob_bind hf
  have hPX_54 : va_P D vwCl (cs6 ct (fun i => A (1 + i)) ((va_up (va_up (va_up (va_up x 1 r_20) 1 r_28) 1 r_36) 1 r_45) 1)) H_45 := (qs_1 hP)
  refine wr_call0 (va_runVN (As := [.int v5]) (rest := []) ⟨hx, hb, hml, hown, htl⟩ (c_X6_append l D ct G (fun i => A (1 + i)) fu ((va_up (va_up (va_up (va_up x 1 r_20) 1 r_28) 1 r_36) 1 r_45) 1) v5 e_54 ((hDx (va_up (va_up (va_up (va_up x 1 r_20) 1 r_28) 1 r_36) 1 r_45)).sub (ws' := cs6 ct (fun i => A (1 + i)) ((va_up (va_up (va_up (va_up x 1 r_20) 1 r_28) 1 r_36) 1 r_45) 1)) [1, 2] (by decide) rfl)) (cw_X9_X6_append htl hN ⟨Nat.le_of_ble_eq_true rfl, Nat.le_of_ble_eq_true rfl⟩) ⟨Bx_blind, va_recv hK hPX_54 (ci := 6) (q0 := 0) rfl rfl, Bx_pre hPX_54 hK hN (hX.stay hS hGE)⟩ rfl rfl hl.1 rfl (lv_room (Nat.le_of_ble_eq_true rfl)) dX9_feed_54 ⟨Nat.zero_le _, Nat.zero_le _⟩) hS qa_1 (fun H_54 locs_54 hB_54 _ hk_54 hS => ?_)
  have hP : va_P D vwCl (csQ ct A (va_up (va_up (va_up (va_up (va_up x 1 r_20) 1 r_28) 1 r_36) 1 r_45) 1 r_54)) H_54 := qj_1 hP (hDW (va_up (va_up (va_up (va_up x 1 r_20) 1 r_28) 1 r_36) 1 r_45)) hk_54 hB_54
  refine lv_aload_n hx hb dX9_feed_57 rfl (lv_at hl 0 rfl) ?_
  refine va_get (D := D) (ci := 9) (v := .ref (A 1)) (C := RX9) (T := TX9) (N := 14) hx hb htl inlX9 hown hK hP 0 qh_0 rfl 0 (by decide) (htl _ wq_1_16) (fun _ h9 => h9) rfl dX9_feed_58 ?_
  refine va_getN (D := D) (ci := 6) (v := .int (((va_up (va_up (va_up (va_up (va_up x 1 r_20) 1 r_28) 1 r_36) 1 r_45) 1 r_54) 1).1 1 0)) (C := RX6) (T := TX6) (N := 2) hx hb htl inlX6 hown hK hP 1 qh_1 rfl 1 (by decide) (va_Nw.use rfl (hN _ nm_0)) (fun _ h9 => h9) rfl dX9_feed_61 ?_
  rw [← hQQ]
  cases hf
  exact rw_i hx hb hr hlocks hP hS dX9_feed_64
theorem c_X9_feed (l : Launch) (D : va_G) (ct : Nat → ClassId) (G : GT) (A : Nat → Nat) (fu : Nat) (x : Nat → Ob) (v1 : Int32) (v2 : Int32) (v3 : Int32) (v4 : Int32) (v5 : Int32) {r : Int32 × (Nat → Ob)} (hf : p_X9_feed fu x v1 v2 v3 v4 v5 = some r)  (hDx : ∀ x : Nat → Ob, va_D (GE G) (csQ ct A x)) : Met l yX9_feed (.code yX9_feed cX9_feed 6 (some .int) :: wsL_law) rm_X9_feed (va_Pc [.ref (A 0), .int v1, .int v2, .int v3, .int v4, .int v5] (Bx D ct G (csQ ct A x))) (Qwr (some (.int r.1)) (fun H => va_P D vwCl (csQ ct A r.2) H) (wA (csQ ct A x))) 0 0 (wA (csQ ct A x)) := by
  refine Met.ofW (cc := cX9_feed) (maxL := 6) (ret := (some .int)) (by decide) rfl ?_
  intro p e s m args below meth c s₁ B hml hv
  obtain ⟨rfl, hP, hK, hN, hX⟩ := hv
  have hts := atoms_spec (ws := .code yX9_feed cX9_feed 6 (some .int) :: wsL_law) B.pre
  rw [lg_entry_eq]
  exact b_X9_feed A fu x v1 v2 v3 v4 v5 B.exec B.bytes B.returns hml (findClass_of_methodNamed B.named) (fun w h => hts w (List.mem_cons_of_mem _ h)) B.notSynchronized hK hN hX hP hf hDx  (lv_entry [.ref (A 0), .int v1, .int v2, .int v3, .int v4, .int v5] (n := 6) (Nat.le_of_ble_eq_true rfl))
def p_X9_end (fu : Nat) (x : Nat → Ob) (v1 : Int32) : Option (Int32 × (Nat → Ob)) :=
  if v1 < 0 then some (((-1) : Int32), x) else if v1 ≤ ((x 1).1 1 0) then some (v1, (va_up x 1 (oI (x 1) 1 v1))) else some (((-1) : Int32), x)
abbrev rm_X9_end : Room := { frames := 0, cells := 0, slots := 0, locals := 0 }
set_option maxHeartbeats 4000000 in
set_option maxRecDepth 100000 in
theorem b_X9_end {p : Program} {l : Launch} {e : Env} {s : State} {m : MethodId} {args : Array Value} {below : List Frame} {meth : Method} {c : Code} {ls : Array Slot} {D : va_G} {ct : Nat → ClassId} {G : GT} (A : Nat → Nat) (fu : Nat) (x : Nat → Ob) (v1 : Int32) {r : Int32 × (Nat → Ob)} (hx : p.tables.exec = Jvm.exec) (hb : c.code = cX9_end) (hr : meth.sig.returnType = (some .int)) (hml : c.maxLocals = 2) (hown : s.vm.findClass RX9 = some m.cls) (htl : ∀ w ∈ wsL_law, w.before args s = true) (hlocks : meth.locks = false) (hK : va_K D vwCl (tyl ct) s) (hN : ∀ w ∈ NW, va_Nw w s) (hX : SX G s s.heap) (hP0 : va_P D vwCl (csQ ct A x) s.heap) (hf : p_X9_end fu x v1 = some r) (hDx : ∀ x : Nat → Ob, va_D (GE G) (csQ ct A x))  (hl : lv_has ls 2 [(0, .ref (A 0)), (1, .int v1)]) : W p l e rm_X9_end s m args below meth c s.heap [] 0 0 (MQ below (Qwr (some (.int r.1)) (fun H => va_P D vwCl (csQ ct A r.2) H) (wA (csQ ct A x))) args s 0 0 (wA (csQ ct A x))) (F0 m 0 ls []) := by
  generalize hQQ : MQ below (Qwr (some (.int r.1)) (fun H => va_P D vwCl (csQ ct A r.2) H) (wA (csQ ct A x))) args s 0 0 (wA (csQ ct A x)) = QQ
  have hDW : ∀ x1 : Nat → Ob, va_D (wA (csQ ct A x)) (csQ ct A x1) := fun x1 => D_any (D_self (hDx x1)) (wA_Q x1 x)
  have hGE : ∀ q, wA (csQ ct A x) q → GE G q := wA_GE (hDx x)
  have hP := hP0
  have hS : va_S (wA (csQ ct A x)) s.heap s.heap [] := va_S.rf
  rw [p_X9_end] at hf
  refine lv_iload_n hx hb dX9_end_0 rfl (lv_at hl 1 rfl) ?_
  refine lv_if_lt (tgt := 15) hx hb dX9_end_1 (by decide) (fun c_1 => ?_) (fun c_1 => ?_)
  · rw [if_pos c_1] at hf
    refine lv_iconst (v := (-1)) hx hb dX9_end_15 (by decide) ?_
    rw [← hQQ]
    cases hf
    exact rw_i hx hb hr hlocks hP hS dX9_end_16
  rw [if_neg c_1] at hf
  refine lv_iload_n hx hb dX9_end_4 rfl (lv_at hl 1 rfl) ?_
  refine lv_aload_n hx hb dX9_end_5 rfl (lv_at hl 0 rfl) ?_
  refine va_get (D := D) (ci := 9) (v := .ref (A 1)) (C := RX9) (T := TX9) (N := 14) hx hb htl inlX9 hown hK hP 0 qh_0 rfl 0 (by decide) (htl _ wq_1_16) (fun _ h9 => h9) rfl dX9_end_6 ?_
  refine va_getN (D := D) (ci := 6) (v := .int ((x 1).1 1 0)) (C := RX6) (T := TX6) (N := 2) hx hb htl inlX6 hown hK hP 1 qh_1 rfl 1 (by decide) (va_Nw.use rfl (hN _ nm_0)) (fun _ h9 => h9) rfl dX9_end_9 ?_
  refine lv_icmp_le (tgt := 17) hx hb dX9_end_12 (by decide) (fun c_12 => ?_) (fun c_12 => ?_)
  rotate_left 1
  · rw [if_neg c_12] at hf
    refine lv_iconst (v := (-1)) hx hb dX9_end_15 (by decide) ?_
    rw [← hQQ]
    cases hf
    exact rw_i hx hb hr hlocks hP hS dX9_end_16
  rw [if_pos c_12] at hf
  refine lv_aload_n hx hb dX9_end_17 rfl (lv_at hl 0 rfl) ?_
  refine va_get (D := D) (ci := 9) (v := .ref (A 1)) (C := RX9) (T := TX9) (N := 14) hx hb htl inlX9 hown hK hP 0 qh_0 rfl 0 (by decide) (htl _ wq_1_16) (fun _ h9 => h9) rfl dX9_end_18 ?_
  refine lv_iload_n hx hb dX9_end_21 rfl (lv_at hl 1 rfl) ?_
  refine va_putN (D := D) (ci := 6) (v := .int v1) (ty := .int) (C := RX6) (T := TX6) (N := 2) hx hb htl inlX6 tyX6 tyX6_ok nmX6 hown hK hP (hDW x) hS 1 qh_1 rfl 1 (by decide) (va_Nw.use rfl (hN _ nm_0)) (fun _ h9 => h9) rfl (tyX6_ok 1 (by decide)) rfl rfl (Nat.le_of_ble_eq_true rfl) dX9_end_22 (fun H_22 locs_22 hP _ hS => ?_)
  have hP : va_P D vwCl (csQ ct A (va_up x 1 (oI (x 1) 1 v1))) H_22 := stQ_1_1 hP
  refine lv_iload_n hx hb dX9_end_25 rfl (lv_at hl 1 rfl) ?_
  rw [← hQQ]
  cases hf
  exact rw_i hx hb hr hlocks hP hS dX9_end_26
theorem c_X9_end (l : Launch) (D : va_G) (ct : Nat → ClassId) (G : GT) (A : Nat → Nat) (fu : Nat) (x : Nat → Ob) (v1 : Int32) {r : Int32 × (Nat → Ob)} (hf : p_X9_end fu x v1 = some r)  (hDx : ∀ x : Nat → Ob, va_D (GE G) (csQ ct A x)) : Met l yX9_end (.code yX9_end cX9_end 2 (some .int) :: wsL_law) rm_X9_end (va_Pc [.ref (A 0), .int v1] (Bx D ct G (csQ ct A x))) (Qwr (some (.int r.1)) (fun H => va_P D vwCl (csQ ct A r.2) H) (wA (csQ ct A x))) 0 0 (wA (csQ ct A x)) := by
  refine Met.ofW (cc := cX9_end) (maxL := 2) (ret := (some .int)) (by decide) rfl ?_
  intro p e s m args below meth c s₁ B hml hv
  obtain ⟨rfl, hP, hK, hN, hX⟩ := hv
  have hts := atoms_spec (ws := .code yX9_end cX9_end 2 (some .int) :: wsL_law) B.pre
  rw [lg_entry_eq]
  exact b_X9_end A fu x v1 B.exec B.bytes B.returns hml (findClass_of_methodNamed B.named) (fun w h => hts w (List.mem_cons_of_mem _ h)) B.notSynchronized hK hN hX hP hf hDx  (lv_entry [.ref (A 0), .int v1] (n := 2) (Nat.le_of_ble_eq_true rfl))
theorem hd_X1_read : yX1_read.cls ≠ "java/lang/invoke/MethodHandle" ∧ yX1_read.cls ≠ "java/lang/invoke/VarHandle" ∧ (parseMethodDescriptor yX1_read.desc).map (fun d => d.parameters.length) = some 1 := by decide +kernel
theorem cw_X9_X1_read {R : Room} {s : State} {args : Array Value} (ht : ∀ w ∈ wsL_law, w.before args s = true) (hN : ∀ w ∈ NW, va_Nw w s) (hR : rm_X1_read.frames + 1 ≤ R.frames ∧ 8 + (3 + 11) + rm_X1_read.locals ≤ R.locals) : va_CN R s args RX9 93 yX1_read "QuotedRiver" cX1_read 3 none ((.code yX1_read cX1_read 3 none) :: wsL_law) rm_X1_read 0 0 1 ∧ (Cond.instanceMethod yX1_read).before args s = true ∧ (Cond.selects RX1 yX1_read yX1_read).before args s = true := ⟨va_cnB 1 ht (GL wq_9_10) rfl rfl rfl (hN _ nm_82) (ht _ wq_1_19) hd_X1_read hR, ht _ wq_9_8, ht _ wq_9_9⟩
theorem hd_X2_become : yX2_become.cls ≠ "java/lang/invoke/MethodHandle" ∧ yX2_become.cls ≠ "java/lang/invoke/VarHandle" ∧ (parseMethodDescriptor yX2_become.desc).map (fun d => d.parameters.length) = some 1 := by decide +kernel
theorem cw_X9_X2_become {R : Room} {s : State} {args : Array Value} (ht : ∀ w ∈ wsL_law, w.before args s = true) (hN : ∀ w ∈ NW, va_Nw w s) (hR : rm_X2_become.frames + 1 ≤ R.frames ∧ 8 + (2 + 11) + rm_X2_become.locals ≤ R.locals) : va_CN R s args RX9 103 yX2_become "QuotedRiver" cX2_become 2 none ((.code yX2_become cX2_become 2 none) :: wsL_law) rm_X2_become 0 0 1 ∧ (Cond.instanceMethod yX2_become).before args s = true ∧ (Cond.selects RX2 yX2_become yX2_become).before args s = true := ⟨va_cnB 1 ht (GL wq_15_0) rfl rfl rfl (hN _ nm_83) (ht _ wq_1_23) hd_X2_become hR, ht _ wq_14_22, ht _ wq_14_23⟩
theorem hd_X8_settle : yX8_settle.cls ≠ "java/lang/invoke/MethodHandle" ∧ yX8_settle.cls ≠ "java/lang/invoke/VarHandle" ∧ (parseMethodDescriptor yX8_settle.desc).map (fun d => d.parameters.length) = some 1 := by decide +kernel
theorem cw_X9_X8_settle {R : Room} {s : State} {args : Array Value} (ht : ∀ w ∈ wsL_law, w.before args s = true) (hN : ∀ w ∈ NW, va_Nw w s) (hR : rm_X8_settle.frames + 1 ≤ R.frames ∧ 8 + (3 + 11) + rm_X8_settle.locals ≤ R.locals) : va_CN R s args RX9 107 yX8_settle "QuotedRiver" cX8_settle 3 none ((.code yX8_settle cX8_settle 3 none) :: wsL_law) rm_X8_settle 0 0 1 ∧ (Cond.instanceMethod yX8_settle).before args s = true ∧ (Cond.selects RX8 yX8_settle yX8_settle).before args s = true := ⟨va_cnB 1 ht (GL wq_15_5) rfl rfl rfl (hN _ nm_84) (ht _ wq_2_6) hd_X8_settle hR, ht _ wq_15_3, ht _ wq_15_4⟩
theorem hd_X2_lines : yX2_lines.cls ≠ "java/lang/invoke/MethodHandle" ∧ yX2_lines.cls ≠ "java/lang/invoke/VarHandle" ∧ (parseMethodDescriptor yX2_lines.desc).map (fun d => d.parameters.length) = some 0 := by decide +kernel
theorem cw_X9_X2_lines {R : Room} {s : State} {args : Array Value} (ht : ∀ w ∈ wsL_law, w.before args s = true) (hN : ∀ w ∈ NW, va_Nw w s) (hR : rm_X2_lines.frames + 1 ≤ R.frames ∧ 8 + (1 + 11) + rm_X2_lines.locals ≤ R.locals) : va_CN R s args RX9 110 yX2_lines "QuotedRiver" cX2_lines 1 (some .int) ((.code yX2_lines cX2_lines 1 (some .int)) :: wsL_law) rm_X2_lines 0 0 0 ∧ (Cond.instanceMethod yX2_lines).before args s = true ∧ (Cond.selects RX2 yX2_lines yX2_lines).before args s = true := ⟨va_cnB 0 ht (GL wq_16_5) rfl rfl rfl (hN _ nm_85) (ht _ wq_1_23) hd_X2_lines hR, ht _ wq_16_3, ht _ wq_16_4⟩
def p_X9_rivers (fu : Nat) (x : Nat → Ob) : Option (Int32 × (Nat → Ob)) :=
  (p_X1_read fu (x 2) (x 3) (x 4) (x 1)).bind fun r_8 => if (((va_up (va_up (va_up (va_up x 2 r_8.1) 3 r_8.2.1) 4 r_8.2.2) 1 (oI ((va_up (va_up (va_up x 2 r_8.1) 3 r_8.2.1) 4 r_8.2.2) 1) 1 (0 : Int32))) 2).1 2 0) = 0 then (p_X2_become fu ((va_up (va_up (va_up (va_up x 2 r_8.1) 3 r_8.2.1) 4 r_8.2.2) 1 (oI ((va_up (va_up (va_up x 2 r_8.1) 3 r_8.2.1) 4 r_8.2.2) 1) 1 (0 : Int32))) 5) ((va_up (va_up (va_up (va_up x 2 r_8.1) 3 r_8.2.1) 4 r_8.2.2) 1 (oI ((va_up (va_up (va_up x 2 r_8.1) 3 r_8.2.1) 4 r_8.2.2) 1) 1 (0 : Int32))) 4)).bind fun r_43 => (p_X8_settle fu ((va_up (va_up (va_up (va_up (va_up x 2 r_8.1) 3 r_8.2.1) 4 r_8.2.2) 1 (oI ((va_up (va_up (va_up x 2 r_8.1) 3 r_8.2.1) 4 r_8.2.2) 1) 1 (0 : Int32))) 5 r_43) 10) ((va_up (va_up (va_up (va_up (va_up x 2 r_8.1) 3 r_8.2.1) 4 r_8.2.2) 1 (oI ((va_up (va_up (va_up x 2 r_8.1) 3 r_8.2.1) 4 r_8.2.2) 1) 1 (0 : Int32))) 5 r_43) 5)).bind fun r_54 => (p_X2_lines fu ((va_up (va_up (va_up (va_up (va_up (va_up x 2 r_8.1) 3 r_8.2.1) 4 r_8.2.2) 1 (oI ((va_up (va_up (va_up x 2 r_8.1) 3 r_8.2.1) 4 r_8.2.2) 1) 1 (0 : Int32))) 5 r_43) 10 r_54) 5)).bind fun r_61 => some (r_61, (va_up (va_up (va_up (va_up (va_up (va_up x 2 r_8.1) 3 r_8.2.1) 4 r_8.2.2) 1 (oI ((va_up (va_up (va_up x 2 r_8.1) 3 r_8.2.1) 4 r_8.2.2) 1) 1 (0 : Int32))) 5 r_43) 10 r_54)) else some (((-4) : Int32), (va_up (va_up (va_up (va_up x 2 r_8.1) 3 r_8.2.1) 4 r_8.2.2) 1 (oI ((va_up (va_up (va_up x 2 r_8.1) 3 r_8.2.1) 4 r_8.2.2) 1) 1 (0 : Int32))))
abbrev rm_X9_rivers : Room := { frames := 9, cells := 0, slots := 0, locals := 198 }
set_option maxHeartbeats 4000000 in
set_option maxRecDepth 100000 in
theorem b_X9_rivers {p : Program} {l : Launch} {e : Env} {s : State} {m : MethodId} {args : Array Value} {below : List Frame} {meth : Method} {c : Code} {ls : Array Slot} {D : va_G} {ct : Nat → ClassId} {G : GT} (A : Nat → Nat) (fu : Nat) (x : Nat → Ob) {r : Int32 × (Nat → Ob)} (hx : p.tables.exec = Jvm.exec) (hb : c.code = cX9_rivers) (hr : meth.sig.returnType = (some .int)) (hml : c.maxLocals = 1) (hown : s.vm.findClass RX9 = some m.cls) (htl : ∀ w ∈ wsL_law, w.before args s = true) (hlocks : meth.locks = false) (hK : va_K D vwCl (tyl ct) s) (hN : ∀ w ∈ NW, va_Nw w s) (hX : SX G s s.heap) (hP0 : va_P D vwCl (csQ ct A x) s.heap) (hf : p_X9_rivers fu x = some r) (hDx : ∀ x : Nat → Ob, va_D (GE G) (csQ ct A x))  (hl : lv_has ls 1 [(0, .ref (A 0))]) : W p l e rm_X9_rivers s m args below meth c s.heap [] 0 0 (MQ below (Qwr (some (.int r.1)) (fun H => va_P D vwCl (csQ ct A r.2) H) (wA (csQ ct A x))) args s 0 0 (wA (csQ ct A x))) (F0 m 0 ls []) := by
  generalize hQQ : MQ below (Qwr (some (.int r.1)) (fun H => va_P D vwCl (csQ ct A r.2) H) (wA (csQ ct A x))) args s 0 0 (wA (csQ ct A x)) = QQ
  have hDW : ∀ x1 : Nat → Ob, va_D (wA (csQ ct A x)) (csQ ct A x1) := fun x1 => D_any (D_self (hDx x1)) (wA_Q x1 x)
  have hGE : ∀ q, wA (csQ ct A x) q → GE G q := wA_GE (hDx x)
  have hP := hP0
  have hS : va_S (wA (csQ ct A x)) s.heap s.heap [] := va_S.rf
  rw [p_X9_rivers] at hf
  refine lv_aload_n hx hb dX9_rivers_0 rfl (lv_at hl 0 rfl) ?_
  refine va_get (D := D) (ci := 9) (v := .ref (A 3)) (C := RX9) (T := TX9) (N := 14) hx hb htl inlX9 hown hK hP 0 qh_0 rfl 1 (by decide) (htl _ wq_1_20) (fun _ h9 => h9) rfl dX9_rivers_1 ?_
  refine lv_aload_n hx hb dX9_rivers_4 rfl (lv_at hl 0 rfl) ?_
  refine va_get (D := D) (ci := 9) (v := .ref (A 1)) (C := RX9) (T := TX9) (N := 14) hx hb htl inlX9 hown hK hP 0 qh_0 rfl 0 (by decide) (htl _ wq_1_16) (fun _ h9 => h9) rfl dX9_rivers_5 ?_
  obtain ⟨r_8, e_8, hf⟩ := ob_bind hf
  have hPX_8 : va_P D vwCl (cs1 ct (fun i => A (3 + i)) (x 2) (x 3) (x 4) ++ (cs6 ct (fun i => A (1 + i)) (x 1))) s.heap := (va_P.app (qs_2 hP) (qs_1 hP))
  refine wr_call0 (va_runVN (As := [.ref (A 1)]) (rest := []) ⟨hx, hb, hml, hown, htl⟩ (c_X1_read l D ct G (fun i => A (3 + i)) (fun i => A (1 + i)) fu (x 2) (x 3) (x 4) (x 1) e_8 ((hDx x).sub (ws' := cs1 ct (fun i => A (3 + i)) (x 2) (x 3) (x 4) ++ (cs6 ct (fun i => A (1 + i)) (x 1))) [3, 4, 5, 6, 7, 8, 9, 10, 11, 12, 13, 14, 15, 16, 17, 18, 19, 20, 1, 2] (by decide) rfl)) (cw_X9_X1_read htl hN ⟨Nat.le_of_ble_eq_true rfl, Nat.le_of_ble_eq_true rfl⟩) ⟨Bx_blind, va_recv hK hPX_8 (ci := 1) (q0 := 0) rfl rfl, Bx_pre hPX_8 hK hN (hX.stay hS hGE)⟩ rfl rfl hl.1 rfl (lv_room (Nat.le_of_ble_eq_true rfl)) dX9_rivers_8 ⟨Nat.zero_le _, Nat.zero_le _⟩) hS qa_2 (fun H_8 locs_8 hB_8 _ hk_8 hS => ?_)
  have hP : va_P D vwCl (csQ ct A (va_up (va_up (va_up x 2 r_8.1) 3 r_8.2.1) 4 r_8.2.2)) H_8 := qj_2 hP (hDW x) hk_8 hB_8
  refine lv_aload_n hx hb dX9_rivers_11 rfl (lv_at hl 0 rfl) ?_
  refine va_get (D := D) (ci := 9) (v := .ref (A 1)) (C := RX9) (T := TX9) (N := 14) hx hb htl inlX9 hown hK hP 0 qh_0 rfl 0 (by decide) (htl _ wq_1_16) (fun _ h9 => h9) rfl dX9_rivers_12 ?_
  refine lv_iconst (v := 0) hx hb dX9_rivers_15 (by decide) ?_
  refine va_putN (D := D) (ci := 6) (v := .int 0) (ty := .int) (C := RX6) (T := TX6) (N := 2) hx hb htl inlX6 tyX6 tyX6_ok nmX6 hown hK hP (hDW (va_up (va_up (va_up x 2 r_8.1) 3 r_8.2.1) 4 r_8.2.2)) hS 1 qh_1 rfl 1 (by decide) (va_Nw.use rfl (hN _ nm_0)) (fun _ h9 => h9) rfl (tyX6_ok 1 (by decide)) rfl rfl (Nat.le_of_ble_eq_true rfl) dX9_rivers_16 (fun H_16 locs_16 hP _ hS => ?_)
  have hP : va_P D vwCl (csQ ct A (va_up (va_up (va_up (va_up x 2 r_8.1) 3 r_8.2.1) 4 r_8.2.2) 1 (oI ((va_up (va_up (va_up x 2 r_8.1) 3 r_8.2.1) 4 r_8.2.2) 1) 1 (0 : Int32)))) H_16 := stQ_1_1 hP
  refine lv_aload_n hx hb dX9_rivers_19 rfl (lv_at hl 0 rfl) ?_
  refine va_get (D := D) (ci := 9) (v := .ref (A 3)) (C := RX9) (T := TX9) (N := 14) hx hb htl inlX9 hown hK hP 0 qh_0 rfl 1 (by decide) (htl _ wq_1_20) (fun _ h9 => h9) rfl dX9_rivers_20 ?_
  refine va_getN (D := D) (ci := 1) (v := .int (((va_up (va_up (va_up (va_up x 2 r_8.1) 3 r_8.2.1) 4 r_8.2.2) 1 (oI ((va_up (va_up (va_up x 2 r_8.1) 3 r_8.2.1) 4 r_8.2.2) 1) 1 (0 : Int32))) 2).1 2 0)) (C := RX1) (T := TX1) (N := 6) hx hb htl inlX1 hown hK hP 3 qh_2 rfl 2 (by decide) (va_Nw.use rfl (hN _ nm_1)) (fun _ h9 => h9) rfl dX9_rivers_23 ?_
  refine lv_if_eq (tgt := 32) hx hb dX9_rivers_26 (by decide) (fun c_26 => ?_) (fun c_26 => ?_)
  rotate_left 1
  · rw [if_neg c_26] at hf
    refine lv_bipush (v := (-4)) hx hb dX9_rivers_29 (by decide) ?_
    rw [← hQQ]
    cases hf
    exact rw_i hx hb hr hlocks hP hS dX9_rivers_31
  rw [if_pos c_26] at hf
  refine lv_aload_n hx hb dX9_rivers_32 rfl (lv_at hl 0 rfl) ?_
  refine va_get (D := D) (ci := 9) (v := .ref (A 21)) (C := RX9) (T := TX9) (N := 14) hx hb htl inlX9 hown hK hP 0 qh_0 rfl 2 (by decide) (htl _ wq_2_0) (fun _ h9 => h9) rfl dX9_rivers_33 ?_
  refine lv_aload_n hx hb dX9_rivers_36 rfl (lv_at hl 0 rfl) ?_
  refine va_get (D := D) (ci := 9) (v := .ref (A 3)) (C := RX9) (T := TX9) (N := 14) hx hb htl inlX9 hown hK hP 0 qh_0 rfl 1 (by decide) (htl _ wq_1_20) (fun _ h9 => h9) rfl dX9_rivers_37 ?_
  refine va_getN (D := D) (ci := 1) (v := .ref (A 8)) (C := RX1) (T := TX1) (N := 6) hx hb htl inlX1 hown hK hP 3 qh_2 rfl 1 (by decide) (va_Nw.use rfl (hN _ nm_2)) (fun _ h9 => h9) rfl dX9_rivers_40 ?_
  obtain ⟨r_43, e_43, hf⟩ := ob_bind hf
  have hPX_43 : va_P D vwCl (cs2 ct (fun i => A (21 + i)) ((va_up (va_up (va_up (va_up x 2 r_8.1) 3 r_8.2.1) 4 r_8.2.2) 1 (oI ((va_up (va_up (va_up x 2 r_8.1) 3 r_8.2.1) 4 r_8.2.2) 1) 1 (0 : Int32))) 5) ++ (cs2 ct (fun i => A (8 + i)) ((va_up (va_up (va_up (va_up x 2 r_8.1) 3 r_8.2.1) 4 r_8.2.2) 1 (oI ((va_up (va_up (va_up x 2 r_8.1) 3 r_8.2.1) 4 r_8.2.2) 1) 1 (0 : Int32))) 4))) H_16 := (va_P.app (qs_5 hP) (qs_4 hP))
  refine wr_call0 (va_runVN (As := [.ref (A 8)]) (rest := []) ⟨hx, hb, hml, hown, htl⟩ (c_X2_become l D ct G (fun i => A (21 + i)) (fun i => A (8 + i)) fu ((va_up (va_up (va_up (va_up x 2 r_8.1) 3 r_8.2.1) 4 r_8.2.2) 1 (oI ((va_up (va_up (va_up x 2 r_8.1) 3 r_8.2.1) 4 r_8.2.2) 1) 1 (0 : Int32))) 5) ((va_up (va_up (va_up (va_up x 2 r_8.1) 3 r_8.2.1) 4 r_8.2.2) 1 (oI ((va_up (va_up (va_up x 2 r_8.1) 3 r_8.2.1) 4 r_8.2.2) 1) 1 (0 : Int32))) 4) e_43 ((hDx (va_up (va_up (va_up (va_up x 2 r_8.1) 3 r_8.2.1) 4 r_8.2.2) 1 (oI ((va_up (va_up (va_up x 2 r_8.1) 3 r_8.2.1) 4 r_8.2.2) 1) 1 (0 : Int32)))).sub (ws' := cs2 ct (fun i => A (21 + i)) ((va_up (va_up (va_up (va_up x 2 r_8.1) 3 r_8.2.1) 4 r_8.2.2) 1 (oI ((va_up (va_up (va_up x 2 r_8.1) 3 r_8.2.1) 4 r_8.2.2) 1) 1 (0 : Int32))) 5) ++ (cs2 ct (fun i => A (8 + i)) ((va_up (va_up (va_up (va_up x 2 r_8.1) 3 r_8.2.1) 4 r_8.2.2) 1 (oI ((va_up (va_up (va_up x 2 r_8.1) 3 r_8.2.1) 4 r_8.2.2) 1) 1 (0 : Int32))) 4))) [21, 22, 23, 24, 25, 26, 27, 28, 29, 30, 31, 32, 33, 8, 9, 10, 11, 12, 13, 14, 15, 16, 17, 18, 19, 20] (by decide) rfl)) (cw_X9_X2_become htl hN ⟨Nat.le_of_ble_eq_true rfl, Nat.le_of_ble_eq_true rfl⟩) ⟨Bx_blind, va_recv hK hPX_43 (ci := 2) (q0 := 0) rfl rfl, Bx_pre hPX_43 hK hN (hX.stay hS hGE)⟩ rfl rfl hl.1 rfl (lv_room (Nat.le_of_ble_eq_true rfl)) dX9_rivers_43 ⟨Nat.zero_le _, Nat.zero_le _⟩) hS qa_5 (fun H_43 locs_43 hB_43 _ hk_43 hS => ?_)
  have hP : va_P D vwCl (csQ ct A (va_up (va_up (va_up (va_up (va_up x 2 r_8.1) 3 r_8.2.1) 4 r_8.2.2) 1 (oI ((va_up (va_up (va_up x 2 r_8.1) 3 r_8.2.1) 4 r_8.2.2) 1) 1 (0 : Int32))) 5 r_43)) H_43 := qj_5 hP (hDW (va_up (va_up (va_up (va_up x 2 r_8.1) 3 r_8.2.1) 4 r_8.2.2) 1 (oI ((va_up (va_up (va_up x 2 r_8.1) 3 r_8.2.1) 4 r_8.2.2) 1) 1 (0 : Int32)))) hk_43 hB_43
  refine lv_aload_n hx hb dX9_rivers_46 rfl (lv_at hl 0 rfl) ?_
  refine va_get (D := D) (ci := 9) (v := .ref (A 87)) (C := RX9) (T := TX9) (N := 14) hx hb htl inlX9 hown hK hP 0 qh_0 rfl 6 (by decide) (htl _ wq_2_7) (fun _ h9 => h9) rfl dX9_rivers_47 ?_
  refine lv_aload_n hx hb dX9_rivers_50 rfl (lv_at hl 0 rfl) ?_
  refine va_get (D := D) (ci := 9) (v := .ref (A 21)) (C := RX9) (T := TX9) (N := 14) hx hb htl inlX9 hown hK hP 0 qh_0 rfl 2 (by decide) (htl _ wq_2_0) (fun _ h9 => h9) rfl dX9_rivers_51 ?_
  obtain ⟨r_54, e_54, hf⟩ := ob_bind hf
  have hPX_54 : va_P D vwCl (cs8 ct (fun i => A (87 + i)) ((va_up (va_up (va_up (va_up (va_up x 2 r_8.1) 3 r_8.2.1) 4 r_8.2.2) 1 (oI ((va_up (va_up (va_up x 2 r_8.1) 3 r_8.2.1) 4 r_8.2.2) 1) 1 (0 : Int32))) 5 r_43) 10) ++ (cs2 ct (fun i => A (21 + i)) ((va_up (va_up (va_up (va_up (va_up x 2 r_8.1) 3 r_8.2.1) 4 r_8.2.2) 1 (oI ((va_up (va_up (va_up x 2 r_8.1) 3 r_8.2.1) 4 r_8.2.2) 1) 1 (0 : Int32))) 5 r_43) 5))) H_43 := (va_P.app (qs_10 hP) (qs_5 hP))
  refine wr_call0 (va_runVN (As := [.ref (A 21)]) (rest := []) ⟨hx, hb, hml, hown, htl⟩ (c_X8_settle l D ct G (fun i => A (87 + i)) (fun i => A (21 + i)) fu ((va_up (va_up (va_up (va_up (va_up x 2 r_8.1) 3 r_8.2.1) 4 r_8.2.2) 1 (oI ((va_up (va_up (va_up x 2 r_8.1) 3 r_8.2.1) 4 r_8.2.2) 1) 1 (0 : Int32))) 5 r_43) 10) ((va_up (va_up (va_up (va_up (va_up x 2 r_8.1) 3 r_8.2.1) 4 r_8.2.2) 1 (oI ((va_up (va_up (va_up x 2 r_8.1) 3 r_8.2.1) 4 r_8.2.2) 1) 1 (0 : Int32))) 5 r_43) 5) e_54 ((hDx (va_up (va_up (va_up (va_up (va_up x 2 r_8.1) 3 r_8.2.1) 4 r_8.2.2) 1 (oI ((va_up (va_up (va_up x 2 r_8.1) 3 r_8.2.1) 4 r_8.2.2) 1) 1 (0 : Int32))) 5 r_43)).sub (ws' := cs8 ct (fun i => A (87 + i)) ((va_up (va_up (va_up (va_up (va_up x 2 r_8.1) 3 r_8.2.1) 4 r_8.2.2) 1 (oI ((va_up (va_up (va_up x 2 r_8.1) 3 r_8.2.1) 4 r_8.2.2) 1) 1 (0 : Int32))) 5 r_43) 10) ++ (cs2 ct (fun i => A (21 + i)) ((va_up (va_up (va_up (va_up (va_up x 2 r_8.1) 3 r_8.2.1) 4 r_8.2.2) 1 (oI ((va_up (va_up (va_up x 2 r_8.1) 3 r_8.2.1) 4 r_8.2.2) 1) 1 (0 : Int32))) 5 r_43) 5))) [87, 88, 89, 21, 22, 23, 24, 25, 26, 27, 28, 29, 30, 31, 32, 33] (by decide) rfl)) (cw_X9_X8_settle htl hN ⟨Nat.le_of_ble_eq_true rfl, Nat.le_of_ble_eq_true rfl⟩) ⟨Bx_blind, va_recv hK hPX_54 (ci := 8) (q0 := 0) rfl rfl, Bx_pre hPX_54 hK hN (hX.stay hS hGE)⟩ rfl rfl hl.1 rfl (lv_room (Nat.le_of_ble_eq_true rfl)) dX9_rivers_54 ⟨Nat.zero_le _, Nat.zero_le _⟩) hS qa_10 (fun H_54 locs_54 hB_54 _ hk_54 hS => ?_)
  have hP : va_P D vwCl (csQ ct A (va_up (va_up (va_up (va_up (va_up (va_up x 2 r_8.1) 3 r_8.2.1) 4 r_8.2.2) 1 (oI ((va_up (va_up (va_up x 2 r_8.1) 3 r_8.2.1) 4 r_8.2.2) 1) 1 (0 : Int32))) 5 r_43) 10 r_54)) H_54 := qj_10 hP (hDW (va_up (va_up (va_up (va_up (va_up x 2 r_8.1) 3 r_8.2.1) 4 r_8.2.2) 1 (oI ((va_up (va_up (va_up x 2 r_8.1) 3 r_8.2.1) 4 r_8.2.2) 1) 1 (0 : Int32))) 5 r_43)) hk_54 hB_54
  refine lv_aload_n hx hb dX9_rivers_57 rfl (lv_at hl 0 rfl) ?_
  refine va_get (D := D) (ci := 9) (v := .ref (A 21)) (C := RX9) (T := TX9) (N := 14) hx hb htl inlX9 hown hK hP 0 qh_0 rfl 2 (by decide) (htl _ wq_2_0) (fun _ h9 => h9) rfl dX9_rivers_58 ?_
  obtain ⟨r_61, e_61, hf⟩ := ob_bind hf
  have hPX_61 : va_P D vwCl (cs2 ct (fun i => A (21 + i)) ((va_up (va_up (va_up (va_up (va_up (va_up x 2 r_8.1) 3 r_8.2.1) 4 r_8.2.2) 1 (oI ((va_up (va_up (va_up x 2 r_8.1) 3 r_8.2.1) 4 r_8.2.2) 1) 1 (0 : Int32))) 5 r_43) 10 r_54) 5)) H_54 := (qs_5 hP)
  refine ro_call1 (va_runVN (As := []) (rest := []) ⟨hx, hb, hml, hown, htl⟩ (c_X2_lines l D ct G (fun i => A (21 + i)) fu ((va_up (va_up (va_up (va_up (va_up (va_up x 2 r_8.1) 3 r_8.2.1) 4 r_8.2.2) 1 (oI ((va_up (va_up (va_up x 2 r_8.1) 3 r_8.2.1) 4 r_8.2.2) 1) 1 (0 : Int32))) 5 r_43) 10 r_54) 5) e_61) (cw_X9_X2_lines htl hN ⟨Nat.le_of_ble_eq_true rfl, Nat.le_of_ble_eq_true rfl⟩) ⟨Bx_blind, va_recv hK hPX_61 (ci := 2) (q0 := 0) rfl rfl, Bx_pre hPX_61 hK hN (hX.stay hS hGE)⟩ rfl rfl hl.1 rfl (lv_room (Nat.le_of_ble_eq_true rfl)) dX9_rivers_61 ⟨Nat.zero_le _, Nat.zero_le _⟩) ?_
  rw [← hQQ]
  cases hf
  exact rw_i hx hb hr hlocks hP hS dX9_rivers_64
theorem c_X9_rivers (l : Launch) (D : va_G) (ct : Nat → ClassId) (G : GT) (A : Nat → Nat) (fu : Nat) (x : Nat → Ob) {r : Int32 × (Nat → Ob)} (hf : p_X9_rivers fu x = some r)  (hDx : ∀ x : Nat → Ob, va_D (GE G) (csQ ct A x)) : Met l yX9_rivers (.code yX9_rivers cX9_rivers 1 (some .int) :: wsL_law) rm_X9_rivers (va_Pc [.ref (A 0)] (Bx D ct G (csQ ct A x))) (Qwr (some (.int r.1)) (fun H => va_P D vwCl (csQ ct A r.2) H) (wA (csQ ct A x))) 0 0 (wA (csQ ct A x)) := by
  refine Met.ofW (cc := cX9_rivers) (maxL := 1) (ret := (some .int)) (by decide) rfl ?_
  intro p e s m args below meth c s₁ B hml hv
  obtain ⟨rfl, hP, hK, hN, hX⟩ := hv
  have hts := atoms_spec (ws := .code yX9_rivers cX9_rivers 1 (some .int) :: wsL_law) B.pre
  rw [lg_entry_eq]
  exact b_X9_rivers A fu x B.exec B.bytes B.returns hml (findClass_of_methodNamed B.named) (fun w h => hts w (List.mem_cons_of_mem _ h)) B.notSynchronized hK hN hX hP hf hDx  (lv_entry [.ref (A 0)] (n := 1) (Nat.le_of_ble_eq_true rfl))
def p_X9_fault (fu : Nat) (x : Nat → Ob) (v1 : Int32) : Option (Int32) :=
  if v1 = 0 then some ((x 2).1 2 0) else if v1 = (1 : Int32) then some ((x 2).1 3 0) else some ((-1) : Int32)
abbrev rm_X9_fault : Room := { frames := 0, cells := 0, slots := 0, locals := 0 }
set_option maxHeartbeats 4000000 in
set_option maxRecDepth 100000 in
theorem b_X9_fault {p : Program} {l : Launch} {e : Env} {s : State} {m : MethodId} {args : Array Value} {below : List Frame} {meth : Method} {c : Code} {ls : Array Slot} {D : va_G} {ct : Nat → ClassId} {G : GT} (A : Nat → Nat) (fu : Nat) (x : Nat → Ob) (v1 : Int32) {r : Int32} (hx : p.tables.exec = Jvm.exec) (hb : c.code = cX9_fault) (hr : meth.sig.returnType = (some .int)) (hml : c.maxLocals = 2) (hown : s.vm.findClass RX9 = some m.cls) (htl : ∀ w ∈ wsL_law, w.before args s = true) (hlocks : meth.locks = false) (hK : va_K D vwCl (tyl ct) s) (hN : ∀ w ∈ NW, va_Nw w s) (hX : SX G s s.heap) (hP0 : va_P D vwCl (csQ ct A x) s.heap) (hf : p_X9_fault fu x v1 = some r)  (hl : lv_has ls 2 [(0, .ref (A 0)), (1, .int v1)]) : W p l e rm_X9_fault s m args below meth c s.heap [] 0 0 (MQ below (Qro (some (.int r))) args s 0 0 (fun _ => False)) (F0 m 0 ls []) := by
  generalize hQQ : MQ below (Qro (some (.int r))) args s 0 0 (fun _ => False) = QQ
  have hP := hP0
  rw [p_X9_fault] at hf
  refine lv_iload_n hx hb dX9_fault_0 rfl (lv_at hl 1 rfl) ?_
  refine lv_if_ne (tgt := 12) hx hb dX9_fault_1 (by decide) (fun c_1 => ?_) (fun c_1 => ?_)
  rotate_left 1
  · rw [if_pos c_1] at hf
    refine lv_aload_n hx hb dX9_fault_4 rfl (lv_at hl 0 rfl) ?_
    refine va_get (D := D) (ci := 9) (v := .ref (A 3)) (C := RX9) (T := TX9) (N := 14) hx hb htl inlX9 hown hK hP 0 qh_0 rfl 1 (by decide) (htl _ wq_1_20) (fun _ h9 => h9) rfl dX9_fault_5 ?_
    refine va_getN (D := D) (ci := 1) (v := .int ((x 2).1 2 0)) (C := RX1) (T := TX1) (N := 6) hx hb htl inlX1 hown hK hP 3 qh_2 rfl 2 (by decide) (va_Nw.use rfl (hN _ nm_1)) (fun _ h9 => h9) rfl dX9_fault_8 ?_
    rw [← hQQ]
    exact rf_i hx hb hr hlocks hf dX9_fault_11
  rw [if_neg c_1] at hf
  refine lv_iload_n hx hb dX9_fault_12 rfl (lv_at hl 1 rfl) ?_
  refine lv_iconst (v := 1) hx hb dX9_fault_13 (by decide) ?_
  refine lv_icmp_ne (tgt := 27) hx hb dX9_fault_14 (by decide) (fun c_14 => ?_) (fun c_14 => ?_)
  · rw [if_neg c_14] at hf
    refine lv_iconst (v := (-1)) hx hb dX9_fault_27 (by decide) ?_
    rw [← hQQ]
    exact rf_i hx hb hr hlocks hf dX9_fault_28
  rw [if_pos c_14] at hf
  refine lv_aload_n hx hb dX9_fault_17 rfl (lv_at hl 0 rfl) ?_
  refine va_get (D := D) (ci := 9) (v := .ref (A 3)) (C := RX9) (T := TX9) (N := 14) hx hb htl inlX9 hown hK hP 0 qh_0 rfl 1 (by decide) (htl _ wq_1_20) (fun _ h9 => h9) rfl dX9_fault_18 ?_
  refine va_getN (D := D) (ci := 1) (v := .int ((x 2).1 3 0)) (C := RX1) (T := TX1) (N := 6) hx hb htl inlX1 hown hK hP 3 qh_2 rfl 3 (by decide) (va_Nw.use rfl (hN _ nm_3)) (fun _ h9 => h9) rfl dX9_fault_21 ?_
  refine lv_goto (tgt := 28) hx hb dX9_fault_24 (by decide) ?_
  rw [← hQQ]
  exact rf_i hx hb hr hlocks hf dX9_fault_28
theorem c_X9_fault (l : Launch) (D : va_G) (ct : Nat → ClassId) (G : GT) (A : Nat → Nat) (fu : Nat) (x : Nat → Ob) (v1 : Int32) {r : Int32} (hf : p_X9_fault fu x v1 = some r)  : Met l yX9_fault (.code yX9_fault cX9_fault 2 (some .int) :: wsL_law) rm_X9_fault (va_Pc [.ref (A 0), .int v1] (Bx D ct G (csQ ct A x))) (Qro (some (.int r))) 0 0 (fun _ => False) := by
  refine Met.ofW (cc := cX9_fault) (maxL := 2) (ret := (some .int)) (by decide) rfl ?_
  intro p e s m args below meth c s₁ B hml hv
  obtain ⟨rfl, hP, hK, hN, hX⟩ := hv
  have hts := atoms_spec (ws := .code yX9_fault cX9_fault 2 (some .int) :: wsL_law) B.pre
  rw [lg_entry_eq]
  exact b_X9_fault A fu x v1 B.exec B.bytes B.returns hml (findClass_of_methodNamed B.named) (fun w h => hts w (List.mem_cons_of_mem _ h)) B.notSynchronized hK hN hX hP hf   (lv_entry [.ref (A 0), .int v1] (n := 2) (Nat.le_of_ble_eq_true rfl))
def p_X9_isReach (fu : Nat) (x : Nat → Ob) (v1 : Int32) : Option (Int32) :=
  if v1 < 0 then some (0 : Int32) else if ((x 5).1 4 0) ≤ v1 then some (0 : Int32) else some (1 : Int32)
abbrev rm_X9_isReach : Room := { frames := 0, cells := 0, slots := 0, locals := 0 }
set_option maxHeartbeats 4000000 in
set_option maxRecDepth 100000 in
theorem b_X9_isReach {p : Program} {l : Launch} {e : Env} {s : State} {m : MethodId} {args : Array Value} {below : List Frame} {meth : Method} {c : Code} {ls : Array Slot} {D : va_G} {ct : Nat → ClassId} {G : GT} (A : Nat → Nat) (fu : Nat) (x : Nat → Ob) (v1 : Int32) {r : Int32} (hx : p.tables.exec = Jvm.exec) (hb : c.code = cX9_isReach) (hr : meth.sig.returnType = (some .boolean)) (hml : c.maxLocals = 2) (hown : s.vm.findClass RX9 = some m.cls) (htl : ∀ w ∈ wsL_law, w.before args s = true) (hlocks : meth.locks = false) (hK : va_K D vwCl (tyl ct) s) (hN : ∀ w ∈ NW, va_Nw w s) (hX : SX G s s.heap) (hP0 : va_P D vwCl (csQ ct A x) s.heap) (hf : p_X9_isReach fu x v1 = some r)  (hl : lv_has ls 2 [(0, .ref (A 0)), (1, .int v1)]) : W p l e rm_X9_isReach s m args below meth c s.heap [] 0 0 (MQ below (Qro (some (.int r))) args s 0 0 (fun _ => False)) (F0 m 0 ls []) := by
  generalize hQQ : MQ below (Qro (some (.int r))) args s 0 0 (fun _ => False) = QQ
  have hP := hP0
  rw [p_X9_isReach] at hf
  refine lv_iload_n hx hb dX9_isReach_0 rfl (lv_at hl 1 rfl) ?_
  refine lv_if_lt (tgt := 19) hx hb dX9_isReach_1 (by decide) (fun c_1 => ?_) (fun c_1 => ?_)
  · rw [if_pos c_1] at hf
    refine lv_iconst (v := 0) hx hb dX9_isReach_19 (by decide) ?_
    rw [← hQQ]
    exact rf_z hx hb hr hlocks rfl hf dX9_isReach_20
  rw [if_neg c_1] at hf
  refine lv_iload_n hx hb dX9_isReach_4 rfl (lv_at hl 1 rfl) ?_
  refine lv_aload_n hx hb dX9_isReach_5 rfl (lv_at hl 0 rfl) ?_
  refine va_get (D := D) (ci := 9) (v := .ref (A 21)) (C := RX9) (T := TX9) (N := 14) hx hb htl inlX9 hown hK hP 0 qh_0 rfl 2 (by decide) (htl _ wq_2_0) (fun _ h9 => h9) rfl dX9_isReach_6 ?_
  refine va_getN (D := D) (ci := 2) (v := .int ((x 5).1 4 0)) (C := RX2) (T := TX2) (N := 20) hx hb htl inlX2 hown hK hP 21 qh_5 rfl 4 (by decide) (va_Nw.use rfl (hN _ nm_23)) (fun _ h9 => h9) rfl dX9_isReach_9 ?_
  refine lv_icmp_ge (tgt := 19) hx hb dX9_isReach_12 (by decide) (fun c_12 => ?_) (fun c_12 => ?_)
  · rw [if_pos c_12] at hf
    refine lv_iconst (v := 0) hx hb dX9_isReach_19 (by decide) ?_
    rw [← hQQ]
    exact rf_z hx hb hr hlocks rfl hf dX9_isReach_20
  rw [if_neg c_12] at hf
  refine lv_iconst (v := 1) hx hb dX9_isReach_15 (by decide) ?_
  refine lv_goto (tgt := 20) hx hb dX9_isReach_16 (by decide) ?_
  rw [← hQQ]
  exact rf_z hx hb hr hlocks rfl hf dX9_isReach_20
theorem c_X9_isReach (l : Launch) (D : va_G) (ct : Nat → ClassId) (G : GT) (A : Nat → Nat) (fu : Nat) (x : Nat → Ob) (v1 : Int32) {r : Int32} (hf : p_X9_isReach fu x v1 = some r)  : Met l yX9_isReach (.code yX9_isReach cX9_isReach 2 (some .boolean) :: wsL_law) rm_X9_isReach (va_Pc [.ref (A 0), .int v1] (Bx D ct G (csQ ct A x))) (Qro (some (.int r))) 0 0 (fun _ => False) := by
  refine Met.ofW (cc := cX9_isReach) (maxL := 2) (ret := (some .boolean)) (by decide) rfl ?_
  intro p e s m args below meth c s₁ B hml hv
  obtain ⟨rfl, hP, hK, hN, hX⟩ := hv
  have hts := atoms_spec (ws := .code yX9_isReach cX9_isReach 2 (some .boolean) :: wsL_law) B.pre
  rw [lg_entry_eq]
  exact b_X9_isReach A fu x v1 B.exec B.bytes B.returns hml (findClass_of_methodNamed B.named) (fun w h => hts w (List.mem_cons_of_mem _ h)) B.notSynchronized hK hN hX hP hf   (lv_entry [.ref (A 0), .int v1] (n := 2) (Nat.le_of_ble_eq_true rfl))
theorem hd_X9_isReach : yX9_isReach.cls ≠ "java/lang/invoke/MethodHandle" ∧ yX9_isReach.cls ≠ "java/lang/invoke/VarHandle" ∧ (parseMethodDescriptor yX9_isReach.desc).map (fun d => d.parameters.length) = some 1 := by decide +kernel
theorem cw_X9_X9_isReach {R : Room} {s : State} {args : Array Value} (ht : ∀ w ∈ wsL_law, w.before args s = true) (hR : rm_X9_isReach.frames + 1 ≤ R.frames ∧ 8 + (2 + 11) + rm_X9_isReach.locals ≤ R.locals) : CallW R s args RX9 RX9 117 yX9_isReach cX9_isReach 2 (some .boolean) ((.code yX9_isReach cX9_isReach 2 (some .boolean)) :: wsL_law) rm_X9_isReach 0 0 1 := cwV 1 ht (GV wq_20_0 wq_20_1 wq_20_2 wq_1_2 wq_20_3) rfl rfl rfl ⟨rfl, hd_X9_isReach⟩ hR
theorem cw_X9_X9_pick {R : Room} {s : State} {args : Array Value} (ht : ∀ w ∈ wsL_law, w.before args s = true) (hR : rm_X9_pick.frames + 1 ≤ R.frames ∧ 8 + (2 + 11) + rm_X9_pick.locals ≤ R.locals) : CallB R s args RX9 124 yX9_pick cX9_pick 2 (some .int) ((.code yX9_pick cX9_pick 2 (some .int)) :: wsL_law) rm_X9_pick 0 0 2 ∧ (Cond.static yX9_pick).before args s = true := va_cwS 2 ht (GS wq_20_4 wq_13_4 wq_1_2 wq_13_5) rfl rfl rfl hd_X9_pick hR
def p_X9_reach (fu : Nat) (x : Nat → Ob) (v1 : Int32) (v2 : Int32) : Option (Int32) :=
  (p_X9_isReach fu x v1).bind fun r_2 => if r_2 = 0 then some ((-2) : Int32) else if v2 = 0 then (p_X9_pick fu 10 ((x 5).1 5) v1).bind fun r_48 => some r_48 else if v2 = 1 then (p_X9_pick fu 10 ((x 5).1 6) v1).bind fun r_60 => some r_60 else if v2 = 2 then (p_X9_pick fu 10 ((x 5).1 7) v1).bind fun r_72 => some r_72 else some ((-2) : Int32)
abbrev rm_X9_reach : Room := { frames := 1, cells := 0, slots := 0, locals := 21 }
set_option maxHeartbeats 4000000 in
set_option maxRecDepth 100000 in
theorem b_X9_reach {p : Program} {l : Launch} {e : Env} {s : State} {m : MethodId} {args : Array Value} {below : List Frame} {meth : Method} {c : Code} {ls : Array Slot} {D : va_G} {ct : Nat → ClassId} {G : GT} (A : Nat → Nat) (fu : Nat) (x : Nat → Ob) (v1 : Int32) (v2 : Int32) {r : Int32} (hx : p.tables.exec = Jvm.exec) (hb : c.code = cX9_reach) (hr : meth.sig.returnType = (some .int)) (hml : c.maxLocals = 3) (hown : s.vm.findClass RX9 = some m.cls) (htl : ∀ w ∈ wsL_law, w.before args s = true) (hlocks : meth.locks = false) (hK : va_K D vwCl (tyl ct) s) (hN : ∀ w ∈ NW, va_Nw w s) (hX : SX G s s.heap) (hP0 : va_P D vwCl (csQ ct A x) s.heap) (hf : p_X9_reach fu x v1 v2 = some r)  (hl : lv_has ls 3 [(0, .ref (A 0)), (1, .int v1), (2, .int v2)]) : W p l e rm_X9_reach s m args below meth c s.heap [] 0 0 (MQ below (Qro (some (.int r))) args s 0 0 (fun _ => False)) (F0 m 0 ls []) := by
  generalize hQQ : MQ below (Qro (some (.int r))) args s 0 0 (fun _ => False) = QQ
  have hP := hP0
  rw [p_X9_reach] at hf
  refine lv_aload_n hx hb dX9_reach_0 rfl (lv_at hl 0 rfl) ?_
  refine lv_iload_n hx hb dX9_reach_1 rfl (lv_at hl 1 rfl) ?_
  obtain ⟨r_2, e_2, hf⟩ := ob_bind hf
  have hPX_2 : va_P D vwCl (csQ ct A x) s.heap := hP
  refine ro_call1 (va_runV (As := [.int v1]) (rest := []) ⟨hx, hb, hml, hown, htl⟩ (c_X9_isReach l D ct G A fu x v1 e_2) (cw_X9_X9_isReach htl ⟨Nat.le_of_ble_eq_true rfl, Nat.le_of_ble_eq_true rfl⟩) ⟨Bx_blind, va_recv hK hPX_2 (ci := 9) (q0 := 0) rfl rfl, Bx_pre hPX_2 hK hN hX⟩ rfl rfl hl.1 rfl (lv_room (Nat.le_of_ble_eq_true rfl)) dX9_reach_2 ⟨Nat.zero_le _, Nat.zero_le _⟩) ?_
  refine lv_if_ne (tgt := 11) hx hb dX9_reach_5 (by decide) (fun c_5 => ?_) (fun c_5 => ?_)
  rotate_left 1
  · rw [if_pos c_5] at hf
    refine lv_bipush (v := (-2)) hx hb dX9_reach_8 (by decide) ?_
    rw [← hQQ]
    exact rf_i hx hb hr hlocks hf dX9_reach_10
  rw [if_neg c_5] at hf
  refine lv_iload_n hx hb dX9_reach_11 rfl (lv_at hl 2 rfl) ?_
  by_cases c_12_0 : v2 = 0
  · rw [if_pos c_12_0] at hf
    refine lv_tableIn (tgt := 40) hx hb dX9_reach_12 (by rw [c_12_0]; decide) (by rw [c_12_0]; decide) (by rw [c_12_0]; rfl) (by decide) ?_
    refine lv_aload_n hx hb dX9_reach_40 rfl (lv_at hl 0 rfl) ?_
    refine va_get (D := D) (ci := 9) (v := .ref (A 21)) (C := RX9) (T := TX9) (N := 14) hx hb htl inlX9 hown hK hP 0 qh_0 rfl 2 (by decide) (htl _ wq_2_0) (fun _ h9 => h9) rfl dX9_reach_41 ?_
    refine va_getN (D := D) (ci := 2) (v := .ref (A 22)) (C := RX2) (T := TX2) (N := 20) hx hb htl inlX2 hown hK hP 21 qh_5 rfl 5 (by decide) (va_Nw.use rfl (hN _ nm_4)) (fun _ h9 => h9) rfl dX9_reach_44 ?_
    refine lv_iload_n hx hb dX9_reach_47 rfl (lv_at hl 1 rfl) ?_
    obtain ⟨r_48, e_48, hf⟩ := ob_bind hf
    have hPX_48 : va_P D vwCl ([((A 22), .inl (ct 0, 10, .inl ((x 5).1 5)))]) s.heap := (P_one hP 22 qat_22)
    refine ro_call1 (va_runS (As := [.ref (A 22), .int v1]) (rest := []) ⟨hx, hb, hml, hown, htl⟩ (c_X9_pick l D ct G (A 22) fu 10 ((x 5).1 5) v1 e_48) (cw_X9_X9_pick htl ⟨Nat.le_of_ble_eq_true rfl, Nat.le_of_ble_eq_true rfl⟩) ⟨Bx_blind, Bx_pre hPX_48 hK hN hX⟩ rfl rfl hl.1 rfl (lv_room (Nat.le_of_ble_eq_true rfl)) dX9_reach_48 ⟨Nat.zero_le _, Nat.zero_le _⟩) ?_
    rw [← hQQ]
    exact rf_i hx hb hr hlocks hf dX9_reach_51
  rw [if_neg c_12_0] at hf
  by_cases c_12_1 : v2 = 1
  · rw [if_pos c_12_1] at hf
    refine lv_tableIn (tgt := 52) hx hb dX9_reach_12 (by rw [c_12_1]; decide) (by rw [c_12_1]; decide) (by rw [c_12_1]; rfl) (by decide) ?_
    refine lv_aload_n hx hb dX9_reach_52 rfl (lv_at hl 0 rfl) ?_
    refine va_get (D := D) (ci := 9) (v := .ref (A 21)) (C := RX9) (T := TX9) (N := 14) hx hb htl inlX9 hown hK hP 0 qh_0 rfl 2 (by decide) (htl _ wq_2_0) (fun _ h9 => h9) rfl dX9_reach_53 ?_
    refine va_getN (D := D) (ci := 2) (v := .ref (A 23)) (C := RX2) (T := TX2) (N := 20) hx hb htl inlX2 hown hK hP 21 qh_5 rfl 6 (by decide) (va_Nw.use rfl (hN _ nm_5)) (fun _ h9 => h9) rfl dX9_reach_56 ?_
    refine lv_iload_n hx hb dX9_reach_59 rfl (lv_at hl 1 rfl) ?_
    obtain ⟨r_60, e_60, hf⟩ := ob_bind hf
    have hPX_60 : va_P D vwCl ([((A 23), .inl (ct 0, 10, .inl ((x 5).1 6)))]) s.heap := (P_one hP 23 qat_23)
    refine ro_call1 (va_runS (As := [.ref (A 23), .int v1]) (rest := []) ⟨hx, hb, hml, hown, htl⟩ (c_X9_pick l D ct G (A 23) fu 10 ((x 5).1 6) v1 e_60) (cw_X9_X9_pick htl ⟨Nat.le_of_ble_eq_true rfl, Nat.le_of_ble_eq_true rfl⟩) ⟨Bx_blind, Bx_pre hPX_60 hK hN hX⟩ rfl rfl hl.1 rfl (lv_room (Nat.le_of_ble_eq_true rfl)) dX9_reach_60 ⟨Nat.zero_le _, Nat.zero_le _⟩) ?_
    rw [← hQQ]
    exact rf_i hx hb hr hlocks hf dX9_reach_63
  rw [if_neg c_12_1] at hf
  by_cases c_12_2 : v2 = 2
  · rw [if_pos c_12_2] at hf
    refine lv_tableIn (tgt := 64) hx hb dX9_reach_12 (by rw [c_12_2]; decide) (by rw [c_12_2]; decide) (by rw [c_12_2]; rfl) (by decide) ?_
    refine lv_aload_n hx hb dX9_reach_64 rfl (lv_at hl 0 rfl) ?_
    refine va_get (D := D) (ci := 9) (v := .ref (A 21)) (C := RX9) (T := TX9) (N := 14) hx hb htl inlX9 hown hK hP 0 qh_0 rfl 2 (by decide) (htl _ wq_2_0) (fun _ h9 => h9) rfl dX9_reach_65 ?_
    refine va_getN (D := D) (ci := 2) (v := .ref (A 24)) (C := RX2) (T := TX2) (N := 20) hx hb htl inlX2 hown hK hP 21 qh_5 rfl 7 (by decide) (va_Nw.use rfl (hN _ nm_6)) (fun _ h9 => h9) rfl dX9_reach_68 ?_
    refine lv_iload_n hx hb dX9_reach_71 rfl (lv_at hl 1 rfl) ?_
    obtain ⟨r_72, e_72, hf⟩ := ob_bind hf
    have hPX_72 : va_P D vwCl ([((A 24), .inl (ct 0, 10, .inl ((x 5).1 7)))]) s.heap := (P_one hP 24 qat_24)
    refine ro_call1 (va_runS (As := [.ref (A 24), .int v1]) (rest := []) ⟨hx, hb, hml, hown, htl⟩ (c_X9_pick l D ct G (A 24) fu 10 ((x 5).1 7) v1 e_72) (cw_X9_X9_pick htl ⟨Nat.le_of_ble_eq_true rfl, Nat.le_of_ble_eq_true rfl⟩) ⟨Bx_blind, Bx_pre hPX_72 hK hN hX⟩ rfl rfl hl.1 rfl (lv_room (Nat.le_of_ble_eq_true rfl)) dX9_reach_72 ⟨Nat.zero_le _, Nat.zero_le _⟩) ?_
    rw [← hQQ]
    exact rf_i hx hb hr hlocks hf dX9_reach_75
  rw [if_neg c_12_2] at hf
  refine lv_tableOut (tgt := 76) hx hb dX9_reach_12 (sw_out_0_2 (lv_neT c_12_0 (a := 0) rfl) (lv_neT c_12_1 (a := 1) rfl) (lv_neT c_12_2 (a := 2) rfl)) (by decide) ?_
  refine lv_bipush (v := (-2)) hx hb dX9_reach_76 (by decide) ?_
  rw [← hQQ]
  exact rf_i hx hb hr hlocks hf dX9_reach_78
theorem c_X9_reach (l : Launch) (D : va_G) (ct : Nat → ClassId) (G : GT) (A : Nat → Nat) (fu : Nat) (x : Nat → Ob) (v1 : Int32) (v2 : Int32) {r : Int32} (hf : p_X9_reach fu x v1 v2 = some r)  : Met l yX9_reach (.code yX9_reach cX9_reach 3 (some .int) :: wsL_law) rm_X9_reach (va_Pc [.ref (A 0), .int v1, .int v2] (Bx D ct G (csQ ct A x))) (Qro (some (.int r))) 0 0 (fun _ => False) := by
  refine Met.ofW (cc := cX9_reach) (maxL := 3) (ret := (some .int)) (by decide) rfl ?_
  intro p e s m args below meth c s₁ B hml hv
  obtain ⟨rfl, hP, hK, hN, hX⟩ := hv
  have hts := atoms_spec (ws := .code yX9_reach cX9_reach 3 (some .int) :: wsL_law) B.pre
  rw [lg_entry_eq]
  exact b_X9_reach A fu x v1 v2 B.exec B.bytes B.returns hml (findClass_of_methodNamed B.named) (fun w h => hts w (List.mem_cons_of_mem _ h)) B.notSynchronized hK hN hX hP hf   (lv_entry [.ref (A 0), .int v1, .int v2] (n := 3) (Nat.le_of_ble_eq_true rfl))
def p_X9_isJoin (fu : Nat) (x : Nat → Ob) (v1 : Int32) : Option (Int32) :=
  if v1 < 0 then some (0 : Int32) else if ((x 5).1 8 0) ≤ v1 then some (0 : Int32) else some (1 : Int32)
abbrev rm_X9_isJoin : Room := { frames := 0, cells := 0, slots := 0, locals := 0 }
set_option maxHeartbeats 4000000 in
set_option maxRecDepth 100000 in
theorem b_X9_isJoin {p : Program} {l : Launch} {e : Env} {s : State} {m : MethodId} {args : Array Value} {below : List Frame} {meth : Method} {c : Code} {ls : Array Slot} {D : va_G} {ct : Nat → ClassId} {G : GT} (A : Nat → Nat) (fu : Nat) (x : Nat → Ob) (v1 : Int32) {r : Int32} (hx : p.tables.exec = Jvm.exec) (hb : c.code = cX9_isJoin) (hr : meth.sig.returnType = (some .boolean)) (hml : c.maxLocals = 2) (hown : s.vm.findClass RX9 = some m.cls) (htl : ∀ w ∈ wsL_law, w.before args s = true) (hlocks : meth.locks = false) (hK : va_K D vwCl (tyl ct) s) (hN : ∀ w ∈ NW, va_Nw w s) (hX : SX G s s.heap) (hP0 : va_P D vwCl (csQ ct A x) s.heap) (hf : p_X9_isJoin fu x v1 = some r)  (hl : lv_has ls 2 [(0, .ref (A 0)), (1, .int v1)]) : W p l e rm_X9_isJoin s m args below meth c s.heap [] 0 0 (MQ below (Qro (some (.int r))) args s 0 0 (fun _ => False)) (F0 m 0 ls []) := by
  generalize hQQ : MQ below (Qro (some (.int r))) args s 0 0 (fun _ => False) = QQ
  have hP := hP0
  rw [p_X9_isJoin] at hf
  refine lv_iload_n hx hb dX9_isJoin_0 rfl (lv_at hl 1 rfl) ?_
  refine lv_if_lt (tgt := 19) hx hb dX9_isJoin_1 (by decide) (fun c_1 => ?_) (fun c_1 => ?_)
  · rw [if_pos c_1] at hf
    refine lv_iconst (v := 0) hx hb dX9_isJoin_19 (by decide) ?_
    rw [← hQQ]
    exact rf_z hx hb hr hlocks rfl hf dX9_isJoin_20
  rw [if_neg c_1] at hf
  refine lv_iload_n hx hb dX9_isJoin_4 rfl (lv_at hl 1 rfl) ?_
  refine lv_aload_n hx hb dX9_isJoin_5 rfl (lv_at hl 0 rfl) ?_
  refine va_get (D := D) (ci := 9) (v := .ref (A 21)) (C := RX9) (T := TX9) (N := 14) hx hb htl inlX9 hown hK hP 0 qh_0 rfl 2 (by decide) (htl _ wq_2_0) (fun _ h9 => h9) rfl dX9_isJoin_6 ?_
  refine va_getN (D := D) (ci := 2) (v := .int ((x 5).1 8 0)) (C := RX2) (T := TX2) (N := 20) hx hb htl inlX2 hown hK hP 21 qh_5 rfl 8 (by decide) (va_Nw.use rfl (hN _ nm_24)) (fun _ h9 => h9) rfl dX9_isJoin_9 ?_
  refine lv_icmp_ge (tgt := 19) hx hb dX9_isJoin_12 (by decide) (fun c_12 => ?_) (fun c_12 => ?_)
  · rw [if_pos c_12] at hf
    refine lv_iconst (v := 0) hx hb dX9_isJoin_19 (by decide) ?_
    rw [← hQQ]
    exact rf_z hx hb hr hlocks rfl hf dX9_isJoin_20
  rw [if_neg c_12] at hf
  refine lv_iconst (v := 1) hx hb dX9_isJoin_15 (by decide) ?_
  refine lv_goto (tgt := 20) hx hb dX9_isJoin_16 (by decide) ?_
  rw [← hQQ]
  exact rf_z hx hb hr hlocks rfl hf dX9_isJoin_20
theorem c_X9_isJoin (l : Launch) (D : va_G) (ct : Nat → ClassId) (G : GT) (A : Nat → Nat) (fu : Nat) (x : Nat → Ob) (v1 : Int32) {r : Int32} (hf : p_X9_isJoin fu x v1 = some r)  : Met l yX9_isJoin (.code yX9_isJoin cX9_isJoin 2 (some .boolean) :: wsL_law) rm_X9_isJoin (va_Pc [.ref (A 0), .int v1] (Bx D ct G (csQ ct A x))) (Qro (some (.int r))) 0 0 (fun _ => False) := by
  refine Met.ofW (cc := cX9_isJoin) (maxL := 2) (ret := (some .boolean)) (by decide) rfl ?_
  intro p e s m args below meth c s₁ B hml hv
  obtain ⟨rfl, hP, hK, hN, hX⟩ := hv
  have hts := atoms_spec (ws := .code yX9_isJoin cX9_isJoin 2 (some .boolean) :: wsL_law) B.pre
  rw [lg_entry_eq]
  exact b_X9_isJoin A fu x v1 B.exec B.bytes B.returns hml (findClass_of_methodNamed B.named) (fun w h => hts w (List.mem_cons_of_mem _ h)) B.notSynchronized hK hN hX hP hf   (lv_entry [.ref (A 0), .int v1] (n := 2) (Nat.le_of_ble_eq_true rfl))
theorem hd_X9_isJoin : yX9_isJoin.cls ≠ "java/lang/invoke/MethodHandle" ∧ yX9_isJoin.cls ≠ "java/lang/invoke/VarHandle" ∧ (parseMethodDescriptor yX9_isJoin.desc).map (fun d => d.parameters.length) = some 1 := by decide +kernel
theorem cw_X9_X9_isJoin {R : Room} {s : State} {args : Array Value} (ht : ∀ w ∈ wsL_law, w.before args s = true) (hR : rm_X9_isJoin.frames + 1 ≤ R.frames ∧ 8 + (2 + 11) + rm_X9_isJoin.locals ≤ R.locals) : CallW R s args RX9 RX9 134 yX9_isJoin cX9_isJoin 2 (some .boolean) ((.code yX9_isJoin cX9_isJoin 2 (some .boolean)) :: wsL_law) rm_X9_isJoin 0 0 1 := cwV 1 ht (GV wq_20_22 wq_20_23 wq_21_0 wq_1_2 wq_21_1) rfl rfl rfl ⟨rfl, hd_X9_isJoin⟩ hR
def p_X9_join (fu : Nat) (x : Nat → Ob) (v1 : Int32) (v2 : Int32) : Option (Int32) :=
  (p_X9_isJoin fu x v1).bind fun r_2 => if r_2 = 0 then some ((-2) : Int32) else if v2 = 0 then (p_X9_pick fu 5 ((x 5).1 9) v1).bind fun r_52 => some r_52 else if v2 = 1 then (p_X9_pick fu 5 ((x 5).1 10) v1).bind fun r_64 => some r_64 else if v2 = 2 then (p_X9_pick fu 5 ((x 5).1 11) v1).bind fun r_76 => some r_76 else if v2 = 3 then (p_X9_pick fu 5 ((x 5).1 12) v1).bind fun r_88 => some r_88 else some ((-2) : Int32)
abbrev rm_X9_join : Room := { frames := 1, cells := 0, slots := 0, locals := 21 }
set_option maxHeartbeats 4000000 in
set_option maxRecDepth 100000 in
theorem b_X9_join {p : Program} {l : Launch} {e : Env} {s : State} {m : MethodId} {args : Array Value} {below : List Frame} {meth : Method} {c : Code} {ls : Array Slot} {D : va_G} {ct : Nat → ClassId} {G : GT} (A : Nat → Nat) (fu : Nat) (x : Nat → Ob) (v1 : Int32) (v2 : Int32) {r : Int32} (hx : p.tables.exec = Jvm.exec) (hb : c.code = cX9_join) (hr : meth.sig.returnType = (some .int)) (hml : c.maxLocals = 3) (hown : s.vm.findClass RX9 = some m.cls) (htl : ∀ w ∈ wsL_law, w.before args s = true) (hlocks : meth.locks = false) (hK : va_K D vwCl (tyl ct) s) (hN : ∀ w ∈ NW, va_Nw w s) (hX : SX G s s.heap) (hP0 : va_P D vwCl (csQ ct A x) s.heap) (hf : p_X9_join fu x v1 v2 = some r)  (hl : lv_has ls 3 [(0, .ref (A 0)), (1, .int v1), (2, .int v2)]) : W p l e rm_X9_join s m args below meth c s.heap [] 0 0 (MQ below (Qro (some (.int r))) args s 0 0 (fun _ => False)) (F0 m 0 ls []) := by
  generalize hQQ : MQ below (Qro (some (.int r))) args s 0 0 (fun _ => False) = QQ
  have hP := hP0
  rw [p_X9_join] at hf
  refine lv_aload_n hx hb dX9_join_0 rfl (lv_at hl 0 rfl) ?_
  refine lv_iload_n hx hb dX9_join_1 rfl (lv_at hl 1 rfl) ?_
  obtain ⟨r_2, e_2, hf⟩ := ob_bind hf
  have hPX_2 : va_P D vwCl (csQ ct A x) s.heap := hP
  refine ro_call1 (va_runV (As := [.int v1]) (rest := []) ⟨hx, hb, hml, hown, htl⟩ (c_X9_isJoin l D ct G A fu x v1 e_2) (cw_X9_X9_isJoin htl ⟨Nat.le_of_ble_eq_true rfl, Nat.le_of_ble_eq_true rfl⟩) ⟨Bx_blind, va_recv hK hPX_2 (ci := 9) (q0 := 0) rfl rfl, Bx_pre hPX_2 hK hN hX⟩ rfl rfl hl.1 rfl (lv_room (Nat.le_of_ble_eq_true rfl)) dX9_join_2 ⟨Nat.zero_le _, Nat.zero_le _⟩) ?_
  refine lv_if_ne (tgt := 11) hx hb dX9_join_5 (by decide) (fun c_5 => ?_) (fun c_5 => ?_)
  rotate_left 1
  · rw [if_pos c_5] at hf
    refine lv_bipush (v := (-2)) hx hb dX9_join_8 (by decide) ?_
    rw [← hQQ]
    exact rf_i hx hb hr hlocks hf dX9_join_10
  rw [if_neg c_5] at hf
  refine lv_iload_n hx hb dX9_join_11 rfl (lv_at hl 2 rfl) ?_
  by_cases c_12_0 : v2 = 0
  · rw [if_pos c_12_0] at hf
    refine lv_tableIn (tgt := 44) hx hb dX9_join_12 (by rw [c_12_0]; decide) (by rw [c_12_0]; decide) (by rw [c_12_0]; rfl) (by decide) ?_
    refine lv_aload_n hx hb dX9_join_44 rfl (lv_at hl 0 rfl) ?_
    refine va_get (D := D) (ci := 9) (v := .ref (A 21)) (C := RX9) (T := TX9) (N := 14) hx hb htl inlX9 hown hK hP 0 qh_0 rfl 2 (by decide) (htl _ wq_2_0) (fun _ h9 => h9) rfl dX9_join_45 ?_
    refine va_getN (D := D) (ci := 2) (v := .ref (A 25)) (C := RX2) (T := TX2) (N := 20) hx hb htl inlX2 hown hK hP 21 qh_5 rfl 9 (by decide) (va_Nw.use rfl (hN _ nm_7)) (fun _ h9 => h9) rfl dX9_join_48 ?_
    refine lv_iload_n hx hb dX9_join_51 rfl (lv_at hl 1 rfl) ?_
    obtain ⟨r_52, e_52, hf⟩ := ob_bind hf
    have hPX_52 : va_P D vwCl ([((A 25), .inl (ct 0, 5, .inl ((x 5).1 9)))]) s.heap := (P_one hP 25 qat_25)
    refine ro_call1 (va_runS (As := [.ref (A 25), .int v1]) (rest := []) ⟨hx, hb, hml, hown, htl⟩ (c_X9_pick l D ct G (A 25) fu 5 ((x 5).1 9) v1 e_52) (cw_X9_X9_pick htl ⟨Nat.le_of_ble_eq_true rfl, Nat.le_of_ble_eq_true rfl⟩) ⟨Bx_blind, Bx_pre hPX_52 hK hN hX⟩ rfl rfl hl.1 rfl (lv_room (Nat.le_of_ble_eq_true rfl)) dX9_join_52 ⟨Nat.zero_le _, Nat.zero_le _⟩) ?_
    rw [← hQQ]
    exact rf_i hx hb hr hlocks hf dX9_join_55
  rw [if_neg c_12_0] at hf
  by_cases c_12_1 : v2 = 1
  · rw [if_pos c_12_1] at hf
    refine lv_tableIn (tgt := 56) hx hb dX9_join_12 (by rw [c_12_1]; decide) (by rw [c_12_1]; decide) (by rw [c_12_1]; rfl) (by decide) ?_
    refine lv_aload_n hx hb dX9_join_56 rfl (lv_at hl 0 rfl) ?_
    refine va_get (D := D) (ci := 9) (v := .ref (A 21)) (C := RX9) (T := TX9) (N := 14) hx hb htl inlX9 hown hK hP 0 qh_0 rfl 2 (by decide) (htl _ wq_2_0) (fun _ h9 => h9) rfl dX9_join_57 ?_
    refine va_getN (D := D) (ci := 2) (v := .ref (A 26)) (C := RX2) (T := TX2) (N := 20) hx hb htl inlX2 hown hK hP 21 qh_5 rfl 10 (by decide) (va_Nw.use rfl (hN _ nm_8)) (fun _ h9 => h9) rfl dX9_join_60 ?_
    refine lv_iload_n hx hb dX9_join_63 rfl (lv_at hl 1 rfl) ?_
    obtain ⟨r_64, e_64, hf⟩ := ob_bind hf
    have hPX_64 : va_P D vwCl ([((A 26), .inl (ct 0, 5, .inl ((x 5).1 10)))]) s.heap := (P_one hP 26 qat_26)
    refine ro_call1 (va_runS (As := [.ref (A 26), .int v1]) (rest := []) ⟨hx, hb, hml, hown, htl⟩ (c_X9_pick l D ct G (A 26) fu 5 ((x 5).1 10) v1 e_64) (cw_X9_X9_pick htl ⟨Nat.le_of_ble_eq_true rfl, Nat.le_of_ble_eq_true rfl⟩) ⟨Bx_blind, Bx_pre hPX_64 hK hN hX⟩ rfl rfl hl.1 rfl (lv_room (Nat.le_of_ble_eq_true rfl)) dX9_join_64 ⟨Nat.zero_le _, Nat.zero_le _⟩) ?_
    rw [← hQQ]
    exact rf_i hx hb hr hlocks hf dX9_join_67
  rw [if_neg c_12_1] at hf
  by_cases c_12_2 : v2 = 2
  · rw [if_pos c_12_2] at hf
    refine lv_tableIn (tgt := 68) hx hb dX9_join_12 (by rw [c_12_2]; decide) (by rw [c_12_2]; decide) (by rw [c_12_2]; rfl) (by decide) ?_
    refine lv_aload_n hx hb dX9_join_68 rfl (lv_at hl 0 rfl) ?_
    refine va_get (D := D) (ci := 9) (v := .ref (A 21)) (C := RX9) (T := TX9) (N := 14) hx hb htl inlX9 hown hK hP 0 qh_0 rfl 2 (by decide) (htl _ wq_2_0) (fun _ h9 => h9) rfl dX9_join_69 ?_
    refine va_getN (D := D) (ci := 2) (v := .ref (A 27)) (C := RX2) (T := TX2) (N := 20) hx hb htl inlX2 hown hK hP 21 qh_5 rfl 11 (by decide) (va_Nw.use rfl (hN _ nm_9)) (fun _ h9 => h9) rfl dX9_join_72 ?_
    refine lv_iload_n hx hb dX9_join_75 rfl (lv_at hl 1 rfl) ?_
    obtain ⟨r_76, e_76, hf⟩ := ob_bind hf
    have hPX_76 : va_P D vwCl ([((A 27), .inl (ct 0, 5, .inl ((x 5).1 11)))]) s.heap := (P_one hP 27 qat_27)
    refine ro_call1 (va_runS (As := [.ref (A 27), .int v1]) (rest := []) ⟨hx, hb, hml, hown, htl⟩ (c_X9_pick l D ct G (A 27) fu 5 ((x 5).1 11) v1 e_76) (cw_X9_X9_pick htl ⟨Nat.le_of_ble_eq_true rfl, Nat.le_of_ble_eq_true rfl⟩) ⟨Bx_blind, Bx_pre hPX_76 hK hN hX⟩ rfl rfl hl.1 rfl (lv_room (Nat.le_of_ble_eq_true rfl)) dX9_join_76 ⟨Nat.zero_le _, Nat.zero_le _⟩) ?_
    rw [← hQQ]
    exact rf_i hx hb hr hlocks hf dX9_join_79
  rw [if_neg c_12_2] at hf
  by_cases c_12_3 : v2 = 3
  · rw [if_pos c_12_3] at hf
    refine lv_tableIn (tgt := 80) hx hb dX9_join_12 (by rw [c_12_3]; decide) (by rw [c_12_3]; decide) (by rw [c_12_3]; rfl) (by decide) ?_
    refine lv_aload_n hx hb dX9_join_80 rfl (lv_at hl 0 rfl) ?_
    refine va_get (D := D) (ci := 9) (v := .ref (A 21)) (C := RX9) (T := TX9) (N := 14) hx hb htl inlX9 hown hK hP 0 qh_0 rfl 2 (by decide) (htl _ wq_2_0) (fun _ h9 => h9) rfl dX9_join_81 ?_
    refine va_getN (D := D) (ci := 2) (v := .ref (A 28)) (C := RX2) (T := TX2) (N := 20) hx hb htl inlX2 hown hK hP 21 qh_5 rfl 12 (by decide) (va_Nw.use rfl (hN _ nm_10)) (fun _ h9 => h9) rfl dX9_join_84 ?_
    refine lv_iload_n hx hb dX9_join_87 rfl (lv_at hl 1 rfl) ?_
    obtain ⟨r_88, e_88, hf⟩ := ob_bind hf
    have hPX_88 : va_P D vwCl ([((A 28), .inl (ct 0, 5, .inl ((x 5).1 12)))]) s.heap := (P_one hP 28 qat_28)
    refine ro_call1 (va_runS (As := [.ref (A 28), .int v1]) (rest := []) ⟨hx, hb, hml, hown, htl⟩ (c_X9_pick l D ct G (A 28) fu 5 ((x 5).1 12) v1 e_88) (cw_X9_X9_pick htl ⟨Nat.le_of_ble_eq_true rfl, Nat.le_of_ble_eq_true rfl⟩) ⟨Bx_blind, Bx_pre hPX_88 hK hN hX⟩ rfl rfl hl.1 rfl (lv_room (Nat.le_of_ble_eq_true rfl)) dX9_join_88 ⟨Nat.zero_le _, Nat.zero_le _⟩) ?_
    rw [← hQQ]
    exact rf_i hx hb hr hlocks hf dX9_join_91
  rw [if_neg c_12_3] at hf
  refine lv_tableOut (tgt := 92) hx hb dX9_join_12 (sw_out_0_3 (lv_neT c_12_0 (a := 0) rfl) (lv_neT c_12_1 (a := 1) rfl) (lv_neT c_12_2 (a := 2) rfl) (lv_neT c_12_3 (a := 3) rfl)) (by decide) ?_
  refine lv_bipush (v := (-2)) hx hb dX9_join_92 (by decide) ?_
  rw [← hQQ]
  exact rf_i hx hb hr hlocks hf dX9_join_94
theorem c_X9_join (l : Launch) (D : va_G) (ct : Nat → ClassId) (G : GT) (A : Nat → Nat) (fu : Nat) (x : Nat → Ob) (v1 : Int32) (v2 : Int32) {r : Int32} (hf : p_X9_join fu x v1 v2 = some r)  : Met l yX9_join (.code yX9_join cX9_join 3 (some .int) :: wsL_law) rm_X9_join (va_Pc [.ref (A 0), .int v1, .int v2] (Bx D ct G (csQ ct A x))) (Qro (some (.int r))) 0 0 (fun _ => False) := by
  refine Met.ofW (cc := cX9_join) (maxL := 3) (ret := (some .int)) (by decide) rfl ?_
  intro p e s m args below meth c s₁ B hml hv
  obtain ⟨rfl, hP, hK, hN, hX⟩ := hv
  have hts := atoms_spec (ws := .code yX9_join cX9_join 3 (some .int) :: wsL_law) B.pre
  rw [lg_entry_eq]
  exact b_X9_join A fu x v1 v2 B.exec B.bytes B.returns hml (findClass_of_methodNamed B.named) (fun w h => hts w (List.mem_cons_of_mem _ h)) B.notSynchronized hK hN hX hP hf   (lv_entry [.ref (A 0), .int v1, .int v2] (n := 3) (Nat.le_of_ble_eq_true rfl))
def p_X9_rain (fu : Nat) (x : Nat → Ob) (v1 : Int32) (v2 : Int32) : Option (Int32) :=
  if v1 < 0 then some ((-2) : Int32) else if v1 < ((x 5).1 13 0) then if v2 = 0 then (p_X9_pick fu 5 ((x 5).1 14) v1).bind fun r_52 => some r_52 else if v2 = 1 then (p_X9_pick fu 5 ((x 5).1 15) v1).bind fun r_64 => some r_64 else some ((-2) : Int32) else some ((-2) : Int32)
abbrev rm_X9_rain : Room := { frames := 1, cells := 0, slots := 0, locals := 21 }
set_option maxHeartbeats 4000000 in
set_option maxRecDepth 100000 in
theorem b_X9_rain {p : Program} {l : Launch} {e : Env} {s : State} {m : MethodId} {args : Array Value} {below : List Frame} {meth : Method} {c : Code} {ls : Array Slot} {D : va_G} {ct : Nat → ClassId} {G : GT} (A : Nat → Nat) (fu : Nat) (x : Nat → Ob) (v1 : Int32) (v2 : Int32) {r : Int32} (hx : p.tables.exec = Jvm.exec) (hb : c.code = cX9_rain) (hr : meth.sig.returnType = (some .int)) (hml : c.maxLocals = 3) (hown : s.vm.findClass RX9 = some m.cls) (htl : ∀ w ∈ wsL_law, w.before args s = true) (hlocks : meth.locks = false) (hK : va_K D vwCl (tyl ct) s) (hN : ∀ w ∈ NW, va_Nw w s) (hX : SX G s s.heap) (hP0 : va_P D vwCl (csQ ct A x) s.heap) (hf : p_X9_rain fu x v1 v2 = some r)  (hl : lv_has ls 3 [(0, .ref (A 0)), (1, .int v1), (2, .int v2)]) : W p l e rm_X9_rain s m args below meth c s.heap [] 0 0 (MQ below (Qro (some (.int r))) args s 0 0 (fun _ => False)) (F0 m 0 ls []) := by
  generalize hQQ : MQ below (Qro (some (.int r))) args s 0 0 (fun _ => False) = QQ
  have hP := hP0
  rw [p_X9_rain] at hf
  refine lv_iload_n hx hb dX9_rain_0 rfl (lv_at hl 1 rfl) ?_
  refine lv_if_lt (tgt := 15) hx hb dX9_rain_1 (by decide) (fun c_1 => ?_) (fun c_1 => ?_)
  · rw [if_pos c_1] at hf
    refine lv_bipush (v := (-2)) hx hb dX9_rain_15 (by decide) ?_
    rw [← hQQ]
    exact rf_i hx hb hr hlocks hf dX9_rain_17
  rw [if_neg c_1] at hf
  refine lv_iload_n hx hb dX9_rain_4 rfl (lv_at hl 1 rfl) ?_
  refine lv_aload_n hx hb dX9_rain_5 rfl (lv_at hl 0 rfl) ?_
  refine va_get (D := D) (ci := 9) (v := .ref (A 21)) (C := RX9) (T := TX9) (N := 14) hx hb htl inlX9 hown hK hP 0 qh_0 rfl 2 (by decide) (htl _ wq_2_0) (fun _ h9 => h9) rfl dX9_rain_6 ?_
  refine va_getN (D := D) (ci := 2) (v := .int ((x 5).1 13 0)) (C := RX2) (T := TX2) (N := 20) hx hb htl inlX2 hown hK hP 21 qh_5 rfl 13 (by decide) (va_Nw.use rfl (hN _ nm_11)) (fun _ h9 => h9) rfl dX9_rain_9 ?_
  refine lv_icmp_lt (tgt := 18) hx hb dX9_rain_12 (by decide) (fun c_12 => ?_) (fun c_12 => ?_)
  rotate_left 1
  · rw [if_neg c_12] at hf
    refine lv_bipush (v := (-2)) hx hb dX9_rain_15 (by decide) ?_
    rw [← hQQ]
    exact rf_i hx hb hr hlocks hf dX9_rain_17
  rw [if_pos c_12] at hf
  refine lv_iload_n hx hb dX9_rain_18 rfl (lv_at hl 2 rfl) ?_
  by_cases c_19_0 : v2 = 0
  · rw [if_pos c_19_0] at hf
    refine lv_lookup (tgt := 44) hx hb dX9_rain_19 (by decide) (by rw [c_19_0] <;> rfl) (by decide) ?_
    refine lv_aload_n hx hb dX9_rain_44 rfl (lv_at hl 0 rfl) ?_
    refine va_get (D := D) (ci := 9) (v := .ref (A 21)) (C := RX9) (T := TX9) (N := 14) hx hb htl inlX9 hown hK hP 0 qh_0 rfl 2 (by decide) (htl _ wq_2_0) (fun _ h9 => h9) rfl dX9_rain_45 ?_
    refine va_getN (D := D) (ci := 2) (v := .ref (A 29)) (C := RX2) (T := TX2) (N := 20) hx hb htl inlX2 hown hK hP 21 qh_5 rfl 14 (by decide) (va_Nw.use rfl (hN _ nm_12)) (fun _ h9 => h9) rfl dX9_rain_48 ?_
    refine lv_iload_n hx hb dX9_rain_51 rfl (lv_at hl 1 rfl) ?_
    obtain ⟨r_52, e_52, hf⟩ := ob_bind hf
    have hPX_52 : va_P D vwCl ([((A 29), .inl (ct 0, 5, .inl ((x 5).1 14)))]) s.heap := (P_one hP 29 qat_29)
    refine ro_call1 (va_runS (As := [.ref (A 29), .int v1]) (rest := []) ⟨hx, hb, hml, hown, htl⟩ (c_X9_pick l D ct G (A 29) fu 5 ((x 5).1 14) v1 e_52) (cw_X9_X9_pick htl ⟨Nat.le_of_ble_eq_true rfl, Nat.le_of_ble_eq_true rfl⟩) ⟨Bx_blind, Bx_pre hPX_52 hK hN hX⟩ rfl rfl hl.1 rfl (lv_room (Nat.le_of_ble_eq_true rfl)) dX9_rain_52 ⟨Nat.zero_le _, Nat.zero_le _⟩) ?_
    rw [← hQQ]
    exact rf_i hx hb hr hlocks hf dX9_rain_55
  rw [if_neg c_19_0] at hf
  by_cases c_19_1 : v2 = 1
  · rw [if_pos c_19_1] at hf
    refine lv_lookup (tgt := 56) hx hb dX9_rain_19 (by decide) (by rw [c_19_1] <;> rfl) (by decide) ?_
    refine lv_aload_n hx hb dX9_rain_56 rfl (lv_at hl 0 rfl) ?_
    refine va_get (D := D) (ci := 9) (v := .ref (A 21)) (C := RX9) (T := TX9) (N := 14) hx hb htl inlX9 hown hK hP 0 qh_0 rfl 2 (by decide) (htl _ wq_2_0) (fun _ h9 => h9) rfl dX9_rain_57 ?_
    refine va_getN (D := D) (ci := 2) (v := .ref (A 30)) (C := RX2) (T := TX2) (N := 20) hx hb htl inlX2 hown hK hP 21 qh_5 rfl 15 (by decide) (va_Nw.use rfl (hN _ nm_13)) (fun _ h9 => h9) rfl dX9_rain_60 ?_
    refine lv_iload_n hx hb dX9_rain_63 rfl (lv_at hl 1 rfl) ?_
    obtain ⟨r_64, e_64, hf⟩ := ob_bind hf
    have hPX_64 : va_P D vwCl ([((A 30), .inl (ct 0, 5, .inl ((x 5).1 15)))]) s.heap := (P_one hP 30 qat_30)
    refine ro_call1 (va_runS (As := [.ref (A 30), .int v1]) (rest := []) ⟨hx, hb, hml, hown, htl⟩ (c_X9_pick l D ct G (A 30) fu 5 ((x 5).1 15) v1 e_64) (cw_X9_X9_pick htl ⟨Nat.le_of_ble_eq_true rfl, Nat.le_of_ble_eq_true rfl⟩) ⟨Bx_blind, Bx_pre hPX_64 hK hN hX⟩ rfl rfl hl.1 rfl (lv_room (Nat.le_of_ble_eq_true rfl)) dX9_rain_64 ⟨Nat.zero_le _, Nat.zero_le _⟩) ?_
    rw [← hQQ]
    exact rf_i hx hb hr hlocks hf dX9_rain_67
  rw [if_neg c_19_1] at hf
  refine lv_lookup (tgt := 68) (off := 49) hx hb dX9_rain_19 (by decide) (show Op.lookupswitch.offset [(0, 25), (1, 37)] 49 v2.toInt = 49 by rw [lv_osw (a := 0) c_19_0 rfl, lv_osw (a := 1) c_19_1 rfl]; rfl) (by decide) ?_
  refine lv_bipush (v := (-2)) hx hb dX9_rain_68 (by decide) ?_
  rw [← hQQ]
  exact rf_i hx hb hr hlocks hf dX9_rain_70
theorem c_X9_rain (l : Launch) (D : va_G) (ct : Nat → ClassId) (G : GT) (A : Nat → Nat) (fu : Nat) (x : Nat → Ob) (v1 : Int32) (v2 : Int32) {r : Int32} (hf : p_X9_rain fu x v1 v2 = some r)  : Met l yX9_rain (.code yX9_rain cX9_rain 3 (some .int) :: wsL_law) rm_X9_rain (va_Pc [.ref (A 0), .int v1, .int v2] (Bx D ct G (csQ ct A x))) (Qro (some (.int r))) 0 0 (fun _ => False) := by
  refine Met.ofW (cc := cX9_rain) (maxL := 3) (ret := (some .int)) (by decide) rfl ?_
  intro p e s m args below meth c s₁ B hml hv
  obtain ⟨rfl, hP, hK, hN, hX⟩ := hv
  have hts := atoms_spec (ws := .code yX9_rain cX9_rain 3 (some .int) :: wsL_law) B.pre
  rw [lg_entry_eq]
  exact b_X9_rain A fu x v1 v2 B.exec B.bytes B.returns hml (findClass_of_methodNamed B.named) (fun w h => hts w (List.mem_cons_of_mem _ h)) B.notSynchronized hK hN hX hP hf   (lv_entry [.ref (A 0), .int v1, .int v2] (n := 3) (Nat.le_of_ble_eq_true rfl))
theorem hd_X9_isStep : yX9_isStep.cls ≠ "java/lang/invoke/MethodHandle" ∧ yX9_isStep.cls ≠ "java/lang/invoke/VarHandle" ∧ (parseMethodDescriptor yX9_isStep.desc).map (fun d => d.parameters.length) = some 1 := by decide +kernel
theorem cw_X9_X9_isStep {R : Room} {s : State} {args : Array Value} (ht : ∀ w ∈ wsL_law, w.before args s = true) (hR : rm_X9_isStep.frames + 1 ≤ R.frames ∧ 8 + (1 + 11) + rm_X9_isStep.locals ≤ R.locals) : CallB R s args RX9 194 yX9_isStep cX9_isStep 1 (some .boolean) ((.code yX9_isStep cX9_isStep 1 (some .boolean)) :: wsL_law) rm_X9_isStep 0 0 1 ∧ (Cond.static yX9_isStep).before args s = true := va_cwS 1 ht (GS wq_22_7 wq_22_8 wq_1_2 wq_22_9) rfl rfl rfl hd_X9_isStep hR
def p_X9_hasStep (fu : Nat) (x : Nat → Ob) (v1 : Int32) : Option (Int32) :=
  if ((x 5).1 0 0) = 0 then some (0 : Int32) else (p_X9_isStep fu v1).bind fun r_11 => if r_11 = 0 then some (0 : Int32) else some (1 : Int32)
abbrev rm_X9_hasStep : Room := { frames := 1, cells := 0, slots := 0, locals := 20 }
set_option maxHeartbeats 4000000 in
set_option maxRecDepth 100000 in
theorem b_X9_hasStep {p : Program} {l : Launch} {e : Env} {s : State} {m : MethodId} {args : Array Value} {below : List Frame} {meth : Method} {c : Code} {ls : Array Slot} {D : va_G} {ct : Nat → ClassId} {G : GT} (A : Nat → Nat) (fu : Nat) (x : Nat → Ob) (v1 : Int32) {r : Int32} (hx : p.tables.exec = Jvm.exec) (hb : c.code = cX9_hasStep) (hr : meth.sig.returnType = (some .boolean)) (hml : c.maxLocals = 2) (hown : s.vm.findClass RX9 = some m.cls) (htl : ∀ w ∈ wsL_law, w.before args s = true) (hlocks : meth.locks = false) (hK : va_K D vwCl (tyl ct) s) (hN : ∀ w ∈ NW, va_Nw w s) (hX : SX G s s.heap) (hP0 : va_P D vwCl (csQ ct A x) s.heap) (hf : p_X9_hasStep fu x v1 = some r)  (hl : lv_has ls 2 [(0, .ref (A 0)), (1, .int v1)]) : W p l e rm_X9_hasStep s m args below meth c s.heap [] 0 0 (MQ below (Qro (some (.int r))) args s 0 0 (fun _ => False)) (F0 m 0 ls []) := by
  generalize hQQ : MQ below (Qro (some (.int r))) args s 0 0 (fun _ => False) = QQ
  have hP := hP0
  rw [p_X9_hasStep] at hf
  refine lv_aload_n hx hb dX9_hasStep_0 rfl (lv_at hl 0 rfl) ?_
  refine va_get (D := D) (ci := 9) (v := .ref (A 21)) (C := RX9) (T := TX9) (N := 14) hx hb htl inlX9 hown hK hP 0 qh_0 rfl 2 (by decide) (htl _ wq_2_0) (fun _ h9 => h9) rfl dX9_hasStep_1 ?_
  refine va_getN (D := D) (ci := 2) (v := .int ((x 5).1 0 0)) (C := RX2) (T := TX2) (N := 20) hx hb htl inlX2 hown hK hP 21 qh_5 rfl 0 (by decide) (va_Nw.use rfl (hN _ nm_14)) (fun _ h9 => h9) rfl dX9_hasStep_4 ?_
  refine lv_if_eq (tgt := 21) hx hb dX9_hasStep_7 (by decide) (fun c_7 => ?_) (fun c_7 => ?_)
  · rw [if_pos c_7] at hf
    refine lv_iconst (v := 0) hx hb dX9_hasStep_21 (by decide) ?_
    rw [← hQQ]
    exact rf_z hx hb hr hlocks rfl hf dX9_hasStep_22
  rw [if_neg c_7] at hf
  refine lv_iload_n hx hb dX9_hasStep_10 rfl (lv_at hl 1 rfl) ?_
  obtain ⟨r_11, e_11, hf⟩ := ob_bind hf
  have hPX_11 : va_P D vwCl ([]) s.heap := P_nil
  refine ro_call1 (va_runS (As := [.int v1]) (rest := []) ⟨hx, hb, hml, hown, htl⟩ (c_X9_isStep l D ct G fu v1 e_11) (cw_X9_X9_isStep htl ⟨Nat.le_of_ble_eq_true rfl, Nat.le_of_ble_eq_true rfl⟩) ⟨Bx_blind, Bx_pre hPX_11 hK hN hX⟩ rfl rfl hl.1 rfl (lv_room (Nat.le_of_ble_eq_true rfl)) dX9_hasStep_11 ⟨Nat.zero_le _, Nat.zero_le _⟩) ?_
  refine lv_if_eq (tgt := 21) hx hb dX9_hasStep_14 (by decide) (fun c_14 => ?_) (fun c_14 => ?_)
  · rw [if_pos c_14] at hf
    refine lv_iconst (v := 0) hx hb dX9_hasStep_21 (by decide) ?_
    rw [← hQQ]
    exact rf_z hx hb hr hlocks rfl hf dX9_hasStep_22
  rw [if_neg c_14] at hf
  refine lv_iconst (v := 1) hx hb dX9_hasStep_17 (by decide) ?_
  refine lv_goto (tgt := 22) hx hb dX9_hasStep_18 (by decide) ?_
  rw [← hQQ]
  exact rf_z hx hb hr hlocks rfl hf dX9_hasStep_22
theorem c_X9_hasStep (l : Launch) (D : va_G) (ct : Nat → ClassId) (G : GT) (A : Nat → Nat) (fu : Nat) (x : Nat → Ob) (v1 : Int32) {r : Int32} (hf : p_X9_hasStep fu x v1 = some r)  : Met l yX9_hasStep (.code yX9_hasStep cX9_hasStep 2 (some .boolean) :: wsL_law) rm_X9_hasStep (va_Pc [.ref (A 0), .int v1] (Bx D ct G (csQ ct A x))) (Qro (some (.int r))) 0 0 (fun _ => False) := by
  refine Met.ofW (cc := cX9_hasStep) (maxL := 2) (ret := (some .boolean)) (by decide) rfl ?_
  intro p e s m args below meth c s₁ B hml hv
  obtain ⟨rfl, hP, hK, hN, hX⟩ := hv
  have hts := atoms_spec (ws := .code yX9_hasStep cX9_hasStep 2 (some .boolean) :: wsL_law) B.pre
  rw [lg_entry_eq]
  exact b_X9_hasStep A fu x v1 B.exec B.bytes B.returns hml (findClass_of_methodNamed B.named) (fun w h => hts w (List.mem_cons_of_mem _ h)) B.notSynchronized hK hN hX hP hf   (lv_entry [.ref (A 0), .int v1] (n := 2) (Nat.le_of_ble_eq_true rfl))
theorem hd_X9_hasStep : yX9_hasStep.cls ≠ "java/lang/invoke/MethodHandle" ∧ yX9_hasStep.cls ≠ "java/lang/invoke/VarHandle" ∧ (parseMethodDescriptor yX9_hasStep.desc).map (fun d => d.parameters.length) = some 1 := by decide +kernel
theorem cw_X9_X9_hasStep {R : Room} {s : State} {args : Array Value} (ht : ∀ w ∈ wsL_law, w.before args s = true) (hR : rm_X9_hasStep.frames + 1 ≤ R.frames ∧ 8 + (2 + 11) + rm_X9_hasStep.locals ≤ R.locals) : CallW R s args RX9 RX9 158 yX9_hasStep cX9_hasStep 2 (some .boolean) ((.code yX9_hasStep cX9_hasStep 2 (some .boolean)) :: wsL_law) rm_X9_hasStep 0 0 1 := cwV 1 ht (GV wq_22_3 wq_22_4 wq_22_5 wq_1_2 wq_22_6) rfl rfl rfl ⟨rfl, hd_X9_hasStep⟩ hR
theorem cw_X9_X8_levelAt {R : Room} {s : State} {args : Array Value} (ht : ∀ w ∈ wsL_law, w.before args s = true) (hN : ∀ w ∈ NW, va_Nw w s) (hR : rm_X8_levelAt.frames + 1 ≤ R.frames ∧ 8 + (2 + 11) + rm_X8_levelAt.locals ≤ R.locals) : va_CN R s args RX9 161 yX8_levelAt "QuotedRiver" cX8_levelAt 2 (some .int) ((.code yX8_levelAt cX8_levelAt 2 (some .int)) :: wsL_law) rm_X8_levelAt 0 0 1 ∧ (Cond.instanceMethod yX8_levelAt).before args s = true ∧ (Cond.selects RX8 yX8_levelAt yX8_levelAt).before args s = true := ⟨va_cnB 1 ht (GL wq_22_12) rfl rfl rfl (hN _ nm_86) (ht _ wq_2_6) hd_X8_levelAt hR, ht _ wq_22_10, ht _ wq_22_11⟩
def p_X9_level (fu : Nat) (x : Nat → Ob) (v1 : Int32) : Option (Int32) :=
  (p_X9_hasStep fu x v1).bind fun r_2 => if r_2 = 0 then some ((-2) : Int32) else (p_X8_levelAt fu (x 10) v1).bind fun r_13 => some r_13
abbrev rm_X9_level : Room := { frames := 2, cells := 0, slots := 0, locals := 42 }
set_option maxHeartbeats 4000000 in
set_option maxRecDepth 100000 in
theorem b_X9_level {p : Program} {l : Launch} {e : Env} {s : State} {m : MethodId} {args : Array Value} {below : List Frame} {meth : Method} {c : Code} {ls : Array Slot} {D : va_G} {ct : Nat → ClassId} {G : GT} (A : Nat → Nat) (fu : Nat) (x : Nat → Ob) (v1 : Int32) {r : Int32} (hx : p.tables.exec = Jvm.exec) (hb : c.code = cX9_level) (hr : meth.sig.returnType = (some .int)) (hml : c.maxLocals = 2) (hown : s.vm.findClass RX9 = some m.cls) (htl : ∀ w ∈ wsL_law, w.before args s = true) (hlocks : meth.locks = false) (hK : va_K D vwCl (tyl ct) s) (hN : ∀ w ∈ NW, va_Nw w s) (hX : SX G s s.heap) (hP0 : va_P D vwCl (csQ ct A x) s.heap) (hf : p_X9_level fu x v1 = some r)  (hl : lv_has ls 2 [(0, .ref (A 0)), (1, .int v1)]) : W p l e rm_X9_level s m args below meth c s.heap [] 0 0 (MQ below (Qro (some (.int r))) args s 0 0 (fun _ => False)) (F0 m 0 ls []) := by
  generalize hQQ : MQ below (Qro (some (.int r))) args s 0 0 (fun _ => False) = QQ
  have hP := hP0
  rw [p_X9_level] at hf
  refine lv_aload_n hx hb dX9_level_0 rfl (lv_at hl 0 rfl) ?_
  refine lv_iload_n hx hb dX9_level_1 rfl (lv_at hl 1 rfl) ?_
  obtain ⟨r_2, e_2, hf⟩ := ob_bind hf
  have hPX_2 : va_P D vwCl (csQ ct A x) s.heap := hP
  refine ro_call1 (va_runV (As := [.int v1]) (rest := []) ⟨hx, hb, hml, hown, htl⟩ (c_X9_hasStep l D ct G A fu x v1 e_2) (cw_X9_X9_hasStep htl ⟨Nat.le_of_ble_eq_true rfl, Nat.le_of_ble_eq_true rfl⟩) ⟨Bx_blind, va_recv hK hPX_2 (ci := 9) (q0 := 0) rfl rfl, Bx_pre hPX_2 hK hN hX⟩ rfl rfl hl.1 rfl (lv_room (Nat.le_of_ble_eq_true rfl)) dX9_level_2 ⟨Nat.zero_le _, Nat.zero_le _⟩) ?_
  refine lv_if_eq (tgt := 19) hx hb dX9_level_5 (by decide) (fun c_5 => ?_) (fun c_5 => ?_)
  · rw [if_pos c_5] at hf
    refine lv_bipush (v := (-2)) hx hb dX9_level_19 (by decide) ?_
    rw [← hQQ]
    exact rf_i hx hb hr hlocks hf dX9_level_21
  rw [if_neg c_5] at hf
  refine lv_aload_n hx hb dX9_level_8 rfl (lv_at hl 0 rfl) ?_
  refine va_get (D := D) (ci := 9) (v := .ref (A 87)) (C := RX9) (T := TX9) (N := 14) hx hb htl inlX9 hown hK hP 0 qh_0 rfl 6 (by decide) (htl _ wq_2_7) (fun _ h9 => h9) rfl dX9_level_9 ?_
  refine lv_iload_n hx hb dX9_level_12 rfl (lv_at hl 1 rfl) ?_
  obtain ⟨r_13, e_13, hf⟩ := ob_bind hf
  have hPX_13 : va_P D vwCl (cs8 ct (fun i => A (87 + i)) (x 10)) s.heap := (qs_10 hP)
  refine ro_call1 (va_runVN (As := [.int v1]) (rest := []) ⟨hx, hb, hml, hown, htl⟩ (c_X8_levelAt l D ct G (fun i => A (87 + i)) fu (x 10) v1 e_13) (cw_X9_X8_levelAt htl hN ⟨Nat.le_of_ble_eq_true rfl, Nat.le_of_ble_eq_true rfl⟩) ⟨Bx_blind, va_recv hK hPX_13 (ci := 8) (q0 := 0) rfl rfl, Bx_pre hPX_13 hK hN hX⟩ rfl rfl hl.1 rfl (lv_room (Nat.le_of_ble_eq_true rfl)) dX9_level_13 ⟨Nat.zero_le _, Nat.zero_le _⟩) ?_
  refine lv_goto (tgt := 21) hx hb dX9_level_16 (by decide) ?_
  rw [← hQQ]
  exact rf_i hx hb hr hlocks hf dX9_level_21
theorem c_X9_level (l : Launch) (D : va_G) (ct : Nat → ClassId) (G : GT) (A : Nat → Nat) (fu : Nat) (x : Nat → Ob) (v1 : Int32) {r : Int32} (hf : p_X9_level fu x v1 = some r)  : Met l yX9_level (.code yX9_level cX9_level 2 (some .int) :: wsL_law) rm_X9_level (va_Pc [.ref (A 0), .int v1] (Bx D ct G (csQ ct A x))) (Qro (some (.int r))) 0 0 (fun _ => False) := by
  refine Met.ofW (cc := cX9_level) (maxL := 2) (ret := (some .int)) (by decide) rfl ?_
  intro p e s m args below meth c s₁ B hml hv
  obtain ⟨rfl, hP, hK, hN, hX⟩ := hv
  have hts := atoms_spec (ws := .code yX9_level cX9_level 2 (some .int) :: wsL_law) B.pre
  rw [lg_entry_eq]
  exact b_X9_level A fu x v1 B.exec B.bytes B.returns hml (findClass_of_methodNamed B.named) (fun w h => hts w (List.mem_cons_of_mem _ h)) B.notSynchronized hK hN hX hP hf   (lv_entry [.ref (A 0), .int v1] (n := 2) (Nat.le_of_ble_eq_true rfl))
def p_X9_isStanding (fu : Nat) (x : Nat → Ob) (v1 : Int32) (v2 : Int32) : Option (Int32) :=
  (p_X8_levelAt fu (x 10) v2).bind fun r_5 => (p_X9_pick fu 10 ((x 5).1 7) v1).bind fun r_16 => if r_16 ≤ r_5 then some (0 : Int32) else some (1 : Int32)
abbrev rm_X9_isStanding : Room := { frames := 2, cells := 0, slots := 0, locals := 42 }
set_option maxHeartbeats 4000000 in
set_option maxRecDepth 100000 in
theorem b_X9_isStanding {p : Program} {l : Launch} {e : Env} {s : State} {m : MethodId} {args : Array Value} {below : List Frame} {meth : Method} {c : Code} {ls : Array Slot} {D : va_G} {ct : Nat → ClassId} {G : GT} (A : Nat → Nat) (fu : Nat) (x : Nat → Ob) (v1 : Int32) (v2 : Int32) {r : Int32} (hx : p.tables.exec = Jvm.exec) (hb : c.code = cX9_isStanding) (hr : meth.sig.returnType = (some .boolean)) (hml : c.maxLocals = 3) (hown : s.vm.findClass RX9 = some m.cls) (htl : ∀ w ∈ wsL_law, w.before args s = true) (hlocks : meth.locks = false) (hK : va_K D vwCl (tyl ct) s) (hN : ∀ w ∈ NW, va_Nw w s) (hX : SX G s s.heap) (hP0 : va_P D vwCl (csQ ct A x) s.heap) (hf : p_X9_isStanding fu x v1 v2 = some r)  (hl : lv_has ls 3 [(0, .ref (A 0)), (1, .int v1), (2, .int v2)]) : W p l e rm_X9_isStanding s m args below meth c s.heap [] 0 0 (MQ below (Qro (some (.int r))) args s 0 0 (fun _ => False)) (F0 m 0 ls []) := by
  generalize hQQ : MQ below (Qro (some (.int r))) args s 0 0 (fun _ => False) = QQ
  have hP := hP0
  rw [p_X9_isStanding] at hf
  refine lv_aload_n hx hb dX9_isStanding_0 rfl (lv_at hl 0 rfl) ?_
  refine va_get (D := D) (ci := 9) (v := .ref (A 87)) (C := RX9) (T := TX9) (N := 14) hx hb htl inlX9 hown hK hP 0 qh_0 rfl 6 (by decide) (htl _ wq_2_7) (fun _ h9 => h9) rfl dX9_isStanding_1 ?_
  refine lv_iload_n hx hb dX9_isStanding_4 rfl (lv_at hl 2 rfl) ?_
  obtain ⟨r_5, e_5, hf⟩ := ob_bind hf
  have hPX_5 : va_P D vwCl (cs8 ct (fun i => A (87 + i)) (x 10)) s.heap := (qs_10 hP)
  refine ro_call1 (va_runVN (As := [.int v2]) (rest := []) ⟨hx, hb, hml, hown, htl⟩ (c_X8_levelAt l D ct G (fun i => A (87 + i)) fu (x 10) v2 e_5) (cw_X9_X8_levelAt htl hN ⟨Nat.le_of_ble_eq_true rfl, Nat.le_of_ble_eq_true rfl⟩) ⟨Bx_blind, va_recv hK hPX_5 (ci := 8) (q0 := 0) rfl rfl, Bx_pre hPX_5 hK hN hX⟩ rfl rfl hl.1 rfl (lv_room (Nat.le_of_ble_eq_true rfl)) dX9_isStanding_5 ⟨Nat.zero_le _, Nat.zero_le _⟩) ?_
  refine lv_aload_n hx hb dX9_isStanding_8 rfl (lv_at hl 0 rfl) ?_
  refine va_get (D := D) (ci := 9) (v := .ref (A 21)) (C := RX9) (T := TX9) (N := 14) hx hb htl inlX9 hown hK hP 0 qh_0 rfl 2 (by decide) (htl _ wq_2_0) (fun _ h9 => h9) rfl dX9_isStanding_9 ?_
  refine va_getN (D := D) (ci := 2) (v := .ref (A 24)) (C := RX2) (T := TX2) (N := 20) hx hb htl inlX2 hown hK hP 21 qh_5 rfl 7 (by decide) (va_Nw.use rfl (hN _ nm_6)) (fun _ h9 => h9) rfl dX9_isStanding_12 ?_
  refine lv_iload_n hx hb dX9_isStanding_15 rfl (lv_at hl 1 rfl) ?_
  obtain ⟨r_16, e_16, hf⟩ := ob_bind hf
  have hPX_16 : va_P D vwCl ([((A 24), .inl (ct 0, 10, .inl ((x 5).1 7)))]) s.heap := (P_one hP 24 qat_24)
  refine ro_call1 (va_runS (As := [.ref (A 24), .int v1]) (rest := [.int r_5]) ⟨hx, hb, hml, hown, htl⟩ (c_X9_pick l D ct G (A 24) fu 10 ((x 5).1 7) v1 e_16) (cw_X9_X9_pick htl ⟨Nat.le_of_ble_eq_true rfl, Nat.le_of_ble_eq_true rfl⟩) ⟨Bx_blind, Bx_pre hPX_16 hK hN hX⟩ rfl rfl hl.1 rfl (lv_room (Nat.le_of_ble_eq_true rfl)) dX9_isStanding_16 ⟨Nat.zero_le _, Nat.zero_le _⟩) ?_
  refine lv_icmp_ge (tgt := 26) hx hb dX9_isStanding_19 (by decide) (fun c_19 => ?_) (fun c_19 => ?_)
  · rw [if_pos c_19] at hf
    refine lv_iconst (v := 0) hx hb dX9_isStanding_26 (by decide) ?_
    rw [← hQQ]
    exact rf_z hx hb hr hlocks rfl hf dX9_isStanding_27
  rw [if_neg c_19] at hf
  refine lv_iconst (v := 1) hx hb dX9_isStanding_22 (by decide) ?_
  refine lv_goto (tgt := 27) hx hb dX9_isStanding_23 (by decide) ?_
  rw [← hQQ]
  exact rf_z hx hb hr hlocks rfl hf dX9_isStanding_27
theorem c_X9_isStanding (l : Launch) (D : va_G) (ct : Nat → ClassId) (G : GT) (A : Nat → Nat) (fu : Nat) (x : Nat → Ob) (v1 : Int32) (v2 : Int32) {r : Int32} (hf : p_X9_isStanding fu x v1 v2 = some r)  : Met l yX9_isStanding (.code yX9_isStanding cX9_isStanding 3 (some .boolean) :: wsL_law) rm_X9_isStanding (va_Pc [.ref (A 0), .int v1, .int v2] (Bx D ct G (csQ ct A x))) (Qro (some (.int r))) 0 0 (fun _ => False) := by
  refine Met.ofW (cc := cX9_isStanding) (maxL := 3) (ret := (some .boolean)) (by decide) rfl ?_
  intro p e s m args below meth c s₁ B hml hv
  obtain ⟨rfl, hP, hK, hN, hX⟩ := hv
  have hts := atoms_spec (ws := .code yX9_isStanding cX9_isStanding 3 (some .boolean) :: wsL_law) B.pre
  rw [lg_entry_eq]
  exact b_X9_isStanding A fu x v1 v2 B.exec B.bytes B.returns hml (findClass_of_methodNamed B.named) (fun w h => hts w (List.mem_cons_of_mem _ h)) B.notSynchronized hK hN hX hP hf   (lv_entry [.ref (A 0), .int v1, .int v2] (n := 3) (Nat.le_of_ble_eq_true rfl))
theorem hd_X9_isStanding : yX9_isStanding.cls ≠ "java/lang/invoke/MethodHandle" ∧ yX9_isStanding.cls ≠ "java/lang/invoke/VarHandle" ∧ (parseMethodDescriptor yX9_isStanding.desc).map (fun d => d.parameters.length) = some 2 := by decide +kernel
theorem cw_X9_X9_isStanding {R : Room} {s : State} {args : Array Value} (ht : ∀ w ∈ wsL_law, w.before args s = true) (hR : rm_X9_isStanding.frames + 1 ≤ R.frames ∧ 8 + (3 + 11) + rm_X9_isStanding.locals ≤ R.locals) : CallW R s args RX9 RX9 171 yX9_isStanding cX9_isStanding 3 (some .boolean) ((.code yX9_isStanding cX9_isStanding 3 (some .boolean)) :: wsL_law) rm_X9_isStanding 0 0 2 := cwV 2 ht (GV wq_24_0 wq_24_1 wq_24_2 wq_1_2 wq_24_3) rfl rfl rfl ⟨rfl, hd_X9_isStanding⟩ hR
theorem cw_X9_X9_bit {R : Room} {s : State} {args : Array Value} (ht : ∀ w ∈ wsL_law, w.before args s = true) (hR : rm_X9_bit.frames + 1 ≤ R.frames ∧ 8 + (1 + 11) + rm_X9_bit.locals ≤ R.locals) : CallB R s args RX9 237 yX9_bit cX9_bit 1 (some .int) ((.code yX9_bit cX9_bit 1 (some .int)) :: wsL_law) rm_X9_bit 0 0 1 ∧ (Cond.static yX9_bit).before args s = true := va_cwS 1 ht (GS wq_24_4 wq_15_14 wq_1_2 wq_15_15) rfl rfl rfl hd_X9_bit hR
def p_X9_standing_L4 (fu : Nat) (x : Nat → Ob)  : Nat → Int32 → Int32 → Int32 → Option (Int32)
  | 0, _, _, _ => none
  | n + 1, v1, v2, v3 =>
    if ((x 5).1 4 0) ≤ v3 then some v2 else (p_X9_isStanding fu x v3 v1).bind fun r_18 => if r_18 = 0 then p_X9_standing_L4 fu x  n v1 v2 (v3 + 1) else (p_X9_bit fu v3).bind fun r_26 => p_X9_standing_L4 fu x  n v1 (v2 ||| r_26) (v3 + 1)
def p_X9_standing (fu : Nat) (x : Nat → Ob) (v1 : Int32) : Option (Int32) :=
  p_X9_standing_L4 fu x fu v1 0 0
abbrev rm_X9_standing : Room := { frames := 3, cells := 0, slots := 0, locals := 64 }
set_option maxHeartbeats 4000000 in
set_option maxRecDepth 100000 in
theorem b_X9_standing {p : Program} {l : Launch} {e : Env} {s : State} {m : MethodId} {args : Array Value} {below : List Frame} {meth : Method} {c : Code} {ls : Array Slot} {D : va_G} {ct : Nat → ClassId} {G : GT} (A : Nat → Nat) (fu : Nat) (x : Nat → Ob) (v1 : Int32) {r : Int32} (hx : p.tables.exec = Jvm.exec) (hb : c.code = cX9_standing) (hr : meth.sig.returnType = (some .int)) (hml : c.maxLocals = 4) (hown : s.vm.findClass RX9 = some m.cls) (htl : ∀ w ∈ wsL_law, w.before args s = true) (hlocks : meth.locks = false) (hK : va_K D vwCl (tyl ct) s) (hN : ∀ w ∈ NW, va_Nw w s) (hX : SX G s s.heap) (hP0 : va_P D vwCl (csQ ct A x) s.heap) (hf : p_X9_standing fu x v1 = some r)  (hl : lv_has ls 4 [(0, .ref (A 0)), (1, .int v1)]) : W p l e rm_X9_standing s m args below meth c s.heap [] 0 0 (MQ below (Qro (some (.int r))) args s 0 0 (fun _ => False)) (F0 m 0 ls []) := by
  generalize hQQ : MQ below (Qro (some (.int r))) args s 0 0 (fun _ => False) = QQ
  have hP := hP0
  have hL4 : ∀ (n : Nat) (v1 : Int32) (v2 : Int32) (v3 : Int32), ∀ (ls : Array Slot), lv_has ls 4 [(0, .ref (A 0)), (1, .int v1), (2, .int v2), (3, .int v3)] → p_X9_standing_L4 fu x  n v1 v2 v3 = some r → W p l e rm_X9_standing s m args below meth c s.heap [] 0 0 QQ (F0 m 4 ls []) := by
    intro  n
    induction n with
    | zero =>
      intro v1 v2 v3 ls hl hf 
      rw [p_X9_standing_L4] at hf
      cases hf
    | succ n ih =>
      intro v1 v2 v3 ls hl hf 
      rw [p_X9_standing_L4] at hf
      refine lv_iload_n hx hb dX9_standing_4 rfl (lv_at hl 3 rfl) ?_
      refine lv_aload_n hx hb dX9_standing_5 rfl (lv_at hl 0 rfl) ?_
      refine va_get (D := D) (ci := 9) (v := .ref (A 21)) (C := RX9) (T := TX9) (N := 14) hx hb htl inlX9 hown hK hP 0 qh_0 rfl 2 (by decide) (htl _ wq_2_0) (fun _ h9 => h9) rfl dX9_standing_6 ?_
      refine va_getN (D := D) (ci := 2) (v := .int ((x 5).1 4 0)) (C := RX2) (T := TX2) (N := 20) hx hb htl inlX2 hown hK hP 21 qh_5 rfl 4 (by decide) (va_Nw.use rfl (hN _ nm_23)) (fun _ h9 => h9) rfl dX9_standing_9 ?_
      refine lv_icmp_ge (tgt := 37) hx hb dX9_standing_12 (by decide) (fun c_12 => ?_) (fun c_12 => ?_)
      · rw [if_pos c_12] at hf
        refine lv_iload_n hx hb dX9_standing_37 rfl (lv_at hl 2 rfl) ?_
        rw [← hQQ]
        exact rf_i hx hb hr hlocks hf dX9_standing_38
      rw [if_neg c_12] at hf
      refine lv_aload_n hx hb dX9_standing_15 rfl (lv_at hl 0 rfl) ?_
      refine lv_iload_n hx hb dX9_standing_16 rfl (lv_at hl 3 rfl) ?_
      refine lv_iload_n hx hb dX9_standing_17 rfl (lv_at hl 1 rfl) ?_
      obtain ⟨r_18, e_18, hf⟩ := ob_bind hf
      have hPX_18 : va_P D vwCl (csQ ct A x) s.heap := hP
      refine ro_call1 (va_runV (As := [.int v3, .int v1]) (rest := []) ⟨hx, hb, hml, hown, htl⟩ (c_X9_isStanding l D ct G A fu x v3 v1 e_18) (cw_X9_X9_isStanding htl ⟨Nat.le_of_ble_eq_true rfl, Nat.le_of_ble_eq_true rfl⟩) ⟨Bx_blind, va_recv hK hPX_18 (ci := 9) (q0 := 0) rfl rfl, Bx_pre hPX_18 hK hN hX⟩ rfl rfl hl.1 rfl (lv_room (Nat.le_of_ble_eq_true rfl)) dX9_standing_18 ⟨Nat.zero_le _, Nat.zero_le _⟩) ?_
      refine lv_if_eq (tgt := 31) hx hb dX9_standing_21 (by decide) (fun c_21 => ?_) (fun c_21 => ?_)
      · rw [if_pos c_21] at hf
        refine lv_iinc (v := (v3 + 1)) (lv' := [(3, .int (v3 + 1)), (0, .ref (A 0)), (1, .int v1), (2, .int v2)]) hx hb dX9_standing_31 hl (k := 3) rfl rfl (by decide) rfl (fun ls hl => ?_)
        refine lv_goto (tgt := 4) hx hb dX9_standing_34 (by decide) ?_
        exact ih v1 v2 (v3 + 1) _ (lv_sub hl [1, 2, 3, 0] rfl) hf 
      rw [if_neg c_21] at hf
      refine lv_iload_n hx hb dX9_standing_24 rfl (lv_at hl 2 rfl) ?_
      refine lv_iload_n hx hb dX9_standing_25 rfl (lv_at hl 3 rfl) ?_
      obtain ⟨r_26, e_26, hf⟩ := ob_bind hf
      have hPX_26 : va_P D vwCl ([]) s.heap := P_nil
      refine ro_call1 (va_runS (As := [.int v3]) (rest := [.int v2]) ⟨hx, hb, hml, hown, htl⟩ (c_X9_bit l D ct G fu v3 e_26) (cw_X9_X9_bit htl ⟨Nat.le_of_ble_eq_true rfl, Nat.le_of_ble_eq_true rfl⟩) ⟨Bx_blind, Bx_pre hPX_26 hK hN hX⟩ rfl rfl hl.1 rfl (lv_room (Nat.le_of_ble_eq_true rfl)) dX9_standing_26 ⟨Nat.zero_le _, Nat.zero_le _⟩) ?_
      refine lv_ior hx hb dX9_standing_29 ?_
      refine lv_istore_n (lv' := [(2, .int (v2 ||| r_26)), (0, .ref (A 0)), (1, .int v1), (3, .int v3)]) hx hb dX9_standing_30 rfl hl (by decide) rfl (fun ls hl => ?_)
      refine lv_iinc (v := (v3 + 1)) (lv' := [(3, .int (v3 + 1)), (2, .int (v2 ||| r_26)), (0, .ref (A 0)), (1, .int v1)]) hx hb dX9_standing_31 hl (k := 3) rfl rfl (by decide) rfl (fun ls hl => ?_)
      refine lv_goto (tgt := 4) hx hb dX9_standing_34 (by decide) ?_
      exact ih v1 (v2 ||| r_26) (v3 + 1) _ (lv_sub hl [2, 3, 1, 0] rfl) hf 
  rw [p_X9_standing] at hf
  refine lv_iconst (v := 0) hx hb dX9_standing_0 (by decide) ?_
  refine lv_istore_n (lv' := [(2, .int 0), (0, .ref (A 0)), (1, .int v1)]) hx hb dX9_standing_1 rfl hl (by decide) rfl (fun ls hl => ?_)
  refine lv_iconst (v := 0) hx hb dX9_standing_2 (by decide) ?_
  refine lv_istore_n (lv' := [(3, .int 0), (2, .int 0), (0, .ref (A 0)), (1, .int v1)]) hx hb dX9_standing_3 rfl hl (by decide) rfl (fun ls hl => ?_)
  exact hL4 fu v1 0 0 _ (lv_sub hl [2, 3, 1, 0] rfl) hf 
theorem c_X9_standing (l : Launch) (D : va_G) (ct : Nat → ClassId) (G : GT) (A : Nat → Nat) (fu : Nat) (x : Nat → Ob) (v1 : Int32) {r : Int32} (hf : p_X9_standing fu x v1 = some r)  : Met l yX9_standing (.code yX9_standing cX9_standing 4 (some .int) :: wsL_law) rm_X9_standing (va_Pc [.ref (A 0), .int v1] (Bx D ct G (csQ ct A x))) (Qro (some (.int r))) 0 0 (fun _ => False) := by
  refine Met.ofW (cc := cX9_standing) (maxL := 4) (ret := (some .int)) (by decide) rfl ?_
  intro p e s m args below meth c s₁ B hml hv
  obtain ⟨rfl, hP, hK, hN, hX⟩ := hv
  have hts := atoms_spec (ws := .code yX9_standing cX9_standing 4 (some .int) :: wsL_law) B.pre
  rw [lg_entry_eq]
  exact b_X9_standing A fu x v1 B.exec B.bytes B.returns hml (findClass_of_methodNamed B.named) (fun w h => hts w (List.mem_cons_of_mem _ h)) B.notSynchronized hK hN hX hP hf   (lv_entry [.ref (A 0), .int v1] (n := 4) (Nat.le_of_ble_eq_true rfl))
theorem hd_X9_standing : yX9_standing.cls ≠ "java/lang/invoke/MethodHandle" ∧ yX9_standing.cls ≠ "java/lang/invoke/VarHandle" ∧ (parseMethodDescriptor yX9_standing.desc).map (fun d => d.parameters.length) = some 1 := by decide +kernel
theorem cw_X9_X9_standing {R : Room} {s : State} {args : Array Value} (ht : ∀ w ∈ wsL_law, w.before args s = true) (hR : rm_X9_standing.frames + 1 ≤ R.frames ∧ 8 + (4 + 11) + rm_X9_standing.locals ≤ R.locals) : CallW R s args RX9 RX9 165 yX9_standing cX9_standing 4 (some .int) ((.code yX9_standing cX9_standing 4 (some .int)) :: wsL_law) rm_X9_standing 0 0 1 := cwV 1 ht (GV wq_23_20 wq_23_21 wq_23_22 wq_1_2 wq_23_23) rfl rfl rfl ⟨rfl, hd_X9_standing⟩ hR
def p_X9_stands (fu : Nat) (x : Nat → Ob) (v1 : Int32) : Option (Int32) :=
  (p_X9_hasStep fu x v1).bind fun r_2 => if r_2 = 0 then some ((-2) : Int32) else (p_X9_standing fu x v1).bind fun r_10 => some r_10
abbrev rm_X9_stands : Room := { frames := 4, cells := 0, slots := 0, locals := 87 }
set_option maxHeartbeats 4000000 in
set_option maxRecDepth 100000 in
theorem b_X9_stands {p : Program} {l : Launch} {e : Env} {s : State} {m : MethodId} {args : Array Value} {below : List Frame} {meth : Method} {c : Code} {ls : Array Slot} {D : va_G} {ct : Nat → ClassId} {G : GT} (A : Nat → Nat) (fu : Nat) (x : Nat → Ob) (v1 : Int32) {r : Int32} (hx : p.tables.exec = Jvm.exec) (hb : c.code = cX9_stands) (hr : meth.sig.returnType = (some .int)) (hml : c.maxLocals = 2) (hown : s.vm.findClass RX9 = some m.cls) (htl : ∀ w ∈ wsL_law, w.before args s = true) (hlocks : meth.locks = false) (hK : va_K D vwCl (tyl ct) s) (hN : ∀ w ∈ NW, va_Nw w s) (hX : SX G s s.heap) (hP0 : va_P D vwCl (csQ ct A x) s.heap) (hf : p_X9_stands fu x v1 = some r)  (hl : lv_has ls 2 [(0, .ref (A 0)), (1, .int v1)]) : W p l e rm_X9_stands s m args below meth c s.heap [] 0 0 (MQ below (Qro (some (.int r))) args s 0 0 (fun _ => False)) (F0 m 0 ls []) := by
  generalize hQQ : MQ below (Qro (some (.int r))) args s 0 0 (fun _ => False) = QQ
  have hP := hP0
  rw [p_X9_stands] at hf
  refine lv_aload_n hx hb dX9_stands_0 rfl (lv_at hl 0 rfl) ?_
  refine lv_iload_n hx hb dX9_stands_1 rfl (lv_at hl 1 rfl) ?_
  obtain ⟨r_2, e_2, hf⟩ := ob_bind hf
  have hPX_2 : va_P D vwCl (csQ ct A x) s.heap := hP
  refine ro_call1 (va_runV (As := [.int v1]) (rest := []) ⟨hx, hb, hml, hown, htl⟩ (c_X9_hasStep l D ct G A fu x v1 e_2) (cw_X9_X9_hasStep htl ⟨Nat.le_of_ble_eq_true rfl, Nat.le_of_ble_eq_true rfl⟩) ⟨Bx_blind, va_recv hK hPX_2 (ci := 9) (q0 := 0) rfl rfl, Bx_pre hPX_2 hK hN hX⟩ rfl rfl hl.1 rfl (lv_room (Nat.le_of_ble_eq_true rfl)) dX9_stands_2 ⟨Nat.zero_le _, Nat.zero_le _⟩) ?_
  refine lv_if_eq (tgt := 16) hx hb dX9_stands_5 (by decide) (fun c_5 => ?_) (fun c_5 => ?_)
  · rw [if_pos c_5] at hf
    refine lv_bipush (v := (-2)) hx hb dX9_stands_16 (by decide) ?_
    rw [← hQQ]
    exact rf_i hx hb hr hlocks hf dX9_stands_18
  rw [if_neg c_5] at hf
  refine lv_aload_n hx hb dX9_stands_8 rfl (lv_at hl 0 rfl) ?_
  refine lv_iload_n hx hb dX9_stands_9 rfl (lv_at hl 1 rfl) ?_
  obtain ⟨r_10, e_10, hf⟩ := ob_bind hf
  have hPX_10 : va_P D vwCl (csQ ct A x) s.heap := hP
  refine ro_call1 (va_runV (As := [.int v1]) (rest := []) ⟨hx, hb, hml, hown, htl⟩ (c_X9_standing l D ct G A fu x v1 e_10) (cw_X9_X9_standing htl ⟨Nat.le_of_ble_eq_true rfl, Nat.le_of_ble_eq_true rfl⟩) ⟨Bx_blind, va_recv hK hPX_10 (ci := 9) (q0 := 0) rfl rfl, Bx_pre hPX_10 hK hN hX⟩ rfl rfl hl.1 rfl (lv_room (Nat.le_of_ble_eq_true rfl)) dX9_stands_10 ⟨Nat.zero_le _, Nat.zero_le _⟩) ?_
  refine lv_goto (tgt := 18) hx hb dX9_stands_13 (by decide) ?_
  rw [← hQQ]
  exact rf_i hx hb hr hlocks hf dX9_stands_18
theorem c_X9_stands (l : Launch) (D : va_G) (ct : Nat → ClassId) (G : GT) (A : Nat → Nat) (fu : Nat) (x : Nat → Ob) (v1 : Int32) {r : Int32} (hf : p_X9_stands fu x v1 = some r)  : Met l yX9_stands (.code yX9_stands cX9_stands 2 (some .int) :: wsL_law) rm_X9_stands (va_Pc [.ref (A 0), .int v1] (Bx D ct G (csQ ct A x))) (Qro (some (.int r))) 0 0 (fun _ => False) := by
  refine Met.ofW (cc := cX9_stands) (maxL := 2) (ret := (some .int)) (by decide) rfl ?_
  intro p e s m args below meth c s₁ B hml hv
  obtain ⟨rfl, hP, hK, hN, hX⟩ := hv
  have hts := atoms_spec (ws := .code yX9_stands cX9_stands 2 (some .int) :: wsL_law) B.pre
  rw [lg_entry_eq]
  exact b_X9_stands A fu x v1 B.exec B.bytes B.returns hml (findClass_of_methodNamed B.named) (fun w h => hts w (List.mem_cons_of_mem _ h)) B.notSynchronized hK hN hX hP hf   (lv_entry [.ref (A 0), .int v1] (n := 2) (Nat.le_of_ble_eq_true rfl))
def p_X9_allReaches (fu : Nat) (x : Nat → Ob) : Option (Int32) :=
  (p_X9_bit fu ((x 5).1 4 0)).bind fun r_7 => some (r_7 - 1)
abbrev rm_X9_allReaches : Room := { frames := 1, cells := 0, slots := 0, locals := 20 }
set_option maxHeartbeats 4000000 in
set_option maxRecDepth 100000 in
theorem b_X9_allReaches {p : Program} {l : Launch} {e : Env} {s : State} {m : MethodId} {args : Array Value} {below : List Frame} {meth : Method} {c : Code} {ls : Array Slot} {D : va_G} {ct : Nat → ClassId} {G : GT} (A : Nat → Nat) (fu : Nat) (x : Nat → Ob) {r : Int32} (hx : p.tables.exec = Jvm.exec) (hb : c.code = cX9_allReaches) (hr : meth.sig.returnType = (some .int)) (hml : c.maxLocals = 1) (hown : s.vm.findClass RX9 = some m.cls) (htl : ∀ w ∈ wsL_law, w.before args s = true) (hlocks : meth.locks = false) (hK : va_K D vwCl (tyl ct) s) (hN : ∀ w ∈ NW, va_Nw w s) (hX : SX G s s.heap) (hP0 : va_P D vwCl (csQ ct A x) s.heap) (hf : p_X9_allReaches fu x = some r)  (hl : lv_has ls 1 [(0, .ref (A 0))]) : W p l e rm_X9_allReaches s m args below meth c s.heap [] 0 0 (MQ below (Qro (some (.int r))) args s 0 0 (fun _ => False)) (F0 m 0 ls []) := by
  generalize hQQ : MQ below (Qro (some (.int r))) args s 0 0 (fun _ => False) = QQ
  have hP := hP0
  rw [p_X9_allReaches] at hf
  refine lv_aload_n hx hb dX9_allReaches_0 rfl (lv_at hl 0 rfl) ?_
  refine va_get (D := D) (ci := 9) (v := .ref (A 21)) (C := RX9) (T := TX9) (N := 14) hx hb htl inlX9 hown hK hP 0 qh_0 rfl 2 (by decide) (htl _ wq_2_0) (fun _ h9 => h9) rfl dX9_allReaches_1 ?_
  refine va_getN (D := D) (ci := 2) (v := .int ((x 5).1 4 0)) (C := RX2) (T := TX2) (N := 20) hx hb htl inlX2 hown hK hP 21 qh_5 rfl 4 (by decide) (va_Nw.use rfl (hN _ nm_23)) (fun _ h9 => h9) rfl dX9_allReaches_4 ?_
  obtain ⟨r_7, e_7, hf⟩ := ob_bind hf
  have hPX_7 : va_P D vwCl ([]) s.heap := P_nil
  refine ro_call1 (va_runS (As := [.int ((x 5).1 4 0)]) (rest := []) ⟨hx, hb, hml, hown, htl⟩ (c_X9_bit l D ct G fu ((x 5).1 4 0) e_7) (cw_X9_X9_bit htl ⟨Nat.le_of_ble_eq_true rfl, Nat.le_of_ble_eq_true rfl⟩) ⟨Bx_blind, Bx_pre hPX_7 hK hN hX⟩ rfl rfl hl.1 rfl (lv_room (Nat.le_of_ble_eq_true rfl)) dX9_allReaches_7 ⟨Nat.zero_le _, Nat.zero_le _⟩) ?_
  refine lv_iconst (v := 1) hx hb dX9_allReaches_10 (by decide) ?_
  refine lv_isub hx hb dX9_allReaches_11 ?_
  rw [← hQQ]
  exact rf_i hx hb hr hlocks hf dX9_allReaches_12
theorem c_X9_allReaches (l : Launch) (D : va_G) (ct : Nat → ClassId) (G : GT) (A : Nat → Nat) (fu : Nat) (x : Nat → Ob) {r : Int32} (hf : p_X9_allReaches fu x = some r)  : Met l yX9_allReaches (.code yX9_allReaches cX9_allReaches 1 (some .int) :: wsL_law) rm_X9_allReaches (va_Pc [.ref (A 0)] (Bx D ct G (csQ ct A x))) (Qro (some (.int r))) 0 0 (fun _ => False) := by
  refine Met.ofW (cc := cX9_allReaches) (maxL := 1) (ret := (some .int)) (by decide) rfl ?_
  intro p e s m args below meth c s₁ B hml hv
  obtain ⟨rfl, hP, hK, hN, hX⟩ := hv
  have hts := atoms_spec (ws := .code yX9_allReaches cX9_allReaches 1 (some .int) :: wsL_law) B.pre
  rw [lg_entry_eq]
  exact b_X9_allReaches A fu x B.exec B.bytes B.returns hml (findClass_of_methodNamed B.named) (fun w h => hts w (List.mem_cons_of_mem _ h)) B.notSynchronized hK hN hX hP hf   (lv_entry [.ref (A 0)] (n := 1) (Nat.le_of_ble_eq_true rfl))
theorem hd_X9_allReaches : yX9_allReaches.cls ≠ "java/lang/invoke/MethodHandle" ∧ yX9_allReaches.cls ≠ "java/lang/invoke/VarHandle" ∧ (parseMethodDescriptor yX9_allReaches.desc).map (fun d => d.parameters.length) = some 0 := by decide +kernel
theorem cw_X9_X9_allReaches {R : Room} {s : State} {args : Array Value} (ht : ∀ w ∈ wsL_law, w.before args s = true) (hR : rm_X9_allReaches.frames + 1 ≤ R.frames ∧ 8 + (1 + 11) + rm_X9_allReaches.locals ≤ R.locals) : CallW R s args RX9 RX9 168 yX9_allReaches cX9_allReaches 1 (some .int) ((.code yX9_allReaches cX9_allReaches 1 (some .int)) :: wsL_law) rm_X9_allReaches 0 0 0 := cwV 0 ht (GV wq_32_14 wq_32_15 wq_32_16 wq_1_2 wq_32_17) rfl rfl rfl ⟨rfl, hd_X9_allReaches⟩ hR
def p_X9_flows (fu : Nat) (x : Nat → Ob) (v1 : Int32) : Option (Int32) :=
  (p_X9_hasStep fu x v1).bind fun r_2 => if r_2 = 0 then some ((-2) : Int32) else (p_X9_allReaches fu x).bind fun r_9 => (p_X9_standing fu x v1).bind fun r_14 => some (r_9 &&& (r_14 ^^^ (-1)))
abbrev rm_X9_flows : Room := { frames := 4, cells := 0, slots := 0, locals := 87 }
set_option maxHeartbeats 4000000 in
set_option maxRecDepth 100000 in
theorem b_X9_flows {p : Program} {l : Launch} {e : Env} {s : State} {m : MethodId} {args : Array Value} {below : List Frame} {meth : Method} {c : Code} {ls : Array Slot} {D : va_G} {ct : Nat → ClassId} {G : GT} (A : Nat → Nat) (fu : Nat) (x : Nat → Ob) (v1 : Int32) {r : Int32} (hx : p.tables.exec = Jvm.exec) (hb : c.code = cX9_flows) (hr : meth.sig.returnType = (some .int)) (hml : c.maxLocals = 2) (hown : s.vm.findClass RX9 = some m.cls) (htl : ∀ w ∈ wsL_law, w.before args s = true) (hlocks : meth.locks = false) (hK : va_K D vwCl (tyl ct) s) (hN : ∀ w ∈ NW, va_Nw w s) (hX : SX G s s.heap) (hP0 : va_P D vwCl (csQ ct A x) s.heap) (hf : p_X9_flows fu x v1 = some r)  (hl : lv_has ls 2 [(0, .ref (A 0)), (1, .int v1)]) : W p l e rm_X9_flows s m args below meth c s.heap [] 0 0 (MQ below (Qro (some (.int r))) args s 0 0 (fun _ => False)) (F0 m 0 ls []) := by
  generalize hQQ : MQ below (Qro (some (.int r))) args s 0 0 (fun _ => False) = QQ
  have hP := hP0
  rw [p_X9_flows] at hf
  refine lv_aload_n hx hb dX9_flows_0 rfl (lv_at hl 0 rfl) ?_
  refine lv_iload_n hx hb dX9_flows_1 rfl (lv_at hl 1 rfl) ?_
  obtain ⟨r_2, e_2, hf⟩ := ob_bind hf
  have hPX_2 : va_P D vwCl (csQ ct A x) s.heap := hP
  refine ro_call1 (va_runV (As := [.int v1]) (rest := []) ⟨hx, hb, hml, hown, htl⟩ (c_X9_hasStep l D ct G A fu x v1 e_2) (cw_X9_X9_hasStep htl ⟨Nat.le_of_ble_eq_true rfl, Nat.le_of_ble_eq_true rfl⟩) ⟨Bx_blind, va_recv hK hPX_2 (ci := 9) (q0 := 0) rfl rfl, Bx_pre hPX_2 hK hN hX⟩ rfl rfl hl.1 rfl (lv_room (Nat.le_of_ble_eq_true rfl)) dX9_flows_2 ⟨Nat.zero_le _, Nat.zero_le _⟩) ?_
  refine lv_if_eq (tgt := 23) hx hb dX9_flows_5 (by decide) (fun c_5 => ?_) (fun c_5 => ?_)
  · rw [if_pos c_5] at hf
    refine lv_bipush (v := (-2)) hx hb dX9_flows_23 (by decide) ?_
    rw [← hQQ]
    exact rf_i hx hb hr hlocks hf dX9_flows_25
  rw [if_neg c_5] at hf
  refine lv_aload_n hx hb dX9_flows_8 rfl (lv_at hl 0 rfl) ?_
  obtain ⟨r_9, e_9, hf⟩ := ob_bind hf
  have hPX_9 : va_P D vwCl (csQ ct A x) s.heap := hP
  refine ro_call1 (va_runV (As := []) (rest := []) ⟨hx, hb, hml, hown, htl⟩ (c_X9_allReaches l D ct G A fu x e_9) (cw_X9_X9_allReaches htl ⟨Nat.le_of_ble_eq_true rfl, Nat.le_of_ble_eq_true rfl⟩) ⟨Bx_blind, va_recv hK hPX_9 (ci := 9) (q0 := 0) rfl rfl, Bx_pre hPX_9 hK hN hX⟩ rfl rfl hl.1 rfl (lv_room (Nat.le_of_ble_eq_true rfl)) dX9_flows_9 ⟨Nat.zero_le _, Nat.zero_le _⟩) ?_
  refine lv_aload_n hx hb dX9_flows_12 rfl (lv_at hl 0 rfl) ?_
  refine lv_iload_n hx hb dX9_flows_13 rfl (lv_at hl 1 rfl) ?_
  obtain ⟨r_14, e_14, hf⟩ := ob_bind hf
  have hPX_14 : va_P D vwCl (csQ ct A x) s.heap := hP
  refine ro_call1 (va_runV (As := [.int v1]) (rest := [.int r_9]) ⟨hx, hb, hml, hown, htl⟩ (c_X9_standing l D ct G A fu x v1 e_14) (cw_X9_X9_standing htl ⟨Nat.le_of_ble_eq_true rfl, Nat.le_of_ble_eq_true rfl⟩) ⟨Bx_blind, va_recv hK hPX_14 (ci := 9) (q0 := 0) rfl rfl, Bx_pre hPX_14 hK hN hX⟩ rfl rfl hl.1 rfl (lv_room (Nat.le_of_ble_eq_true rfl)) dX9_flows_14 ⟨Nat.zero_le _, Nat.zero_le _⟩) ?_
  refine lv_iconst (v := (-1)) hx hb dX9_flows_17 (by decide) ?_
  refine lv_ixor hx hb dX9_flows_18 ?_
  refine lv_iand hx hb dX9_flows_19 ?_
  refine lv_goto (tgt := 25) hx hb dX9_flows_20 (by decide) ?_
  rw [← hQQ]
  exact rf_i hx hb hr hlocks hf dX9_flows_25
theorem c_X9_flows (l : Launch) (D : va_G) (ct : Nat → ClassId) (G : GT) (A : Nat → Nat) (fu : Nat) (x : Nat → Ob) (v1 : Int32) {r : Int32} (hf : p_X9_flows fu x v1 = some r)  : Met l yX9_flows (.code yX9_flows cX9_flows 2 (some .int) :: wsL_law) rm_X9_flows (va_Pc [.ref (A 0), .int v1] (Bx D ct G (csQ ct A x))) (Qro (some (.int r))) 0 0 (fun _ => False) := by
  refine Met.ofW (cc := cX9_flows) (maxL := 2) (ret := (some .int)) (by decide) rfl ?_
  intro p e s m args below meth c s₁ B hml hv
  obtain ⟨rfl, hP, hK, hN, hX⟩ := hv
  have hts := atoms_spec (ws := .code yX9_flows cX9_flows 2 (some .int) :: wsL_law) B.pre
  rw [lg_entry_eq]
  exact b_X9_flows A fu x v1 B.exec B.bytes B.returns hml (findClass_of_methodNamed B.named) (fun w h => hts w (List.mem_cons_of_mem _ h)) B.notSynchronized hK hN hX hP hf   (lv_entry [.ref (A 0), .int v1] (n := 2) (Nat.le_of_ble_eq_true rfl))
def p_X9_dry_L13 (fu : Nat) (x : Nat → Ob)  : Nat → Int32 → Int32 → Option (Int32)
  | 0, _, _ => none
  | n + 1, v1, v2 =>
    if (60 : Int32) < v2 then some ((-1) : Int32) else (p_X9_isStanding fu x v1 v2).bind fun r_22 => if r_22 = 0 then p_X9_dry_L13 fu x  n v1 (v2 + 1) else some v2
def p_X9_dry (fu : Nat) (x : Nat → Ob) (v1 : Int32) : Option (Int32) :=
  (p_X9_isReach fu x v1).bind fun r_2 => if r_2 = 0 then some ((-2) : Int32) else p_X9_dry_L13 fu x fu v1 0
abbrev rm_X9_dry : Room := { frames := 3, cells := 0, slots := 0, locals := 64 }
set_option maxHeartbeats 4000000 in
set_option maxRecDepth 100000 in
theorem b_X9_dry {p : Program} {l : Launch} {e : Env} {s : State} {m : MethodId} {args : Array Value} {below : List Frame} {meth : Method} {c : Code} {ls : Array Slot} {D : va_G} {ct : Nat → ClassId} {G : GT} (A : Nat → Nat) (fu : Nat) (x : Nat → Ob) (v1 : Int32) {r : Int32} (hx : p.tables.exec = Jvm.exec) (hb : c.code = cX9_dry) (hr : meth.sig.returnType = (some .int)) (hml : c.maxLocals = 3) (hown : s.vm.findClass RX9 = some m.cls) (htl : ∀ w ∈ wsL_law, w.before args s = true) (hlocks : meth.locks = false) (hK : va_K D vwCl (tyl ct) s) (hN : ∀ w ∈ NW, va_Nw w s) (hX : SX G s s.heap) (hP0 : va_P D vwCl (csQ ct A x) s.heap) (hf : p_X9_dry fu x v1 = some r)  (hl : lv_has ls 3 [(0, .ref (A 0)), (1, .int v1)]) : W p l e rm_X9_dry s m args below meth c s.heap [] 0 0 (MQ below (Qro (some (.int r))) args s 0 0 (fun _ => False)) (F0 m 0 ls []) := by
  generalize hQQ : MQ below (Qro (some (.int r))) args s 0 0 (fun _ => False) = QQ
  have hP := hP0
  have hL13 : ∀ (n : Nat) (v1 : Int32) (v2 : Int32), ∀ (ls : Array Slot), lv_has ls 3 [(0, .ref (A 0)), (1, .int v1), (2, .int v2)] → p_X9_dry_L13 fu x  n v1 v2 = some r → W p l e rm_X9_dry s m args below meth c s.heap [] 0 0 QQ (F0 m 13 ls []) := by
    intro  n
    induction n with
    | zero =>
      intro v1 v2 ls hl hf 
      rw [p_X9_dry_L13] at hf
      cases hf
    | succ n ih =>
      intro v1 v2 ls hl hf 
      rw [p_X9_dry_L13] at hf
      refine lv_iload_n hx hb dX9_dry_13 rfl (lv_at hl 2 rfl) ?_
      refine lv_bipush (v := 60) hx hb dX9_dry_14 (by decide) ?_
      refine lv_icmp_gt (tgt := 36) hx hb dX9_dry_16 (by decide) (fun c_16 => ?_) (fun c_16 => ?_)
      · rw [if_pos c_16] at hf
        refine lv_iconst (v := (-1)) hx hb dX9_dry_36 (by decide) ?_
        rw [← hQQ]
        exact rf_i hx hb hr hlocks hf dX9_dry_37
      rw [if_neg c_16] at hf
      refine lv_aload_n hx hb dX9_dry_19 rfl (lv_at hl 0 rfl) ?_
      refine lv_iload_n hx hb dX9_dry_20 rfl (lv_at hl 1 rfl) ?_
      refine lv_iload_n hx hb dX9_dry_21 rfl (lv_at hl 2 rfl) ?_
      obtain ⟨r_22, e_22, hf⟩ := ob_bind hf
      have hPX_22 : va_P D vwCl (csQ ct A x) s.heap := hP
      refine ro_call1 (va_runV (As := [.int v1, .int v2]) (rest := []) ⟨hx, hb, hml, hown, htl⟩ (c_X9_isStanding l D ct G A fu x v1 v2 e_22) (cw_X9_X9_isStanding htl ⟨Nat.le_of_ble_eq_true rfl, Nat.le_of_ble_eq_true rfl⟩) ⟨Bx_blind, va_recv hK hPX_22 (ci := 9) (q0 := 0) rfl rfl, Bx_pre hPX_22 hK hN hX⟩ rfl rfl hl.1 rfl (lv_room (Nat.le_of_ble_eq_true rfl)) dX9_dry_22 ⟨Nat.zero_le _, Nat.zero_le _⟩) ?_
      refine lv_if_eq (tgt := 30) hx hb dX9_dry_25 (by decide) (fun c_25 => ?_) (fun c_25 => ?_)
      · rw [if_pos c_25] at hf
        refine lv_iinc (v := (v2 + 1)) (lv' := [(2, .int (v2 + 1)), (0, .ref (A 0)), (1, .int v1)]) hx hb dX9_dry_30 hl (k := 2) rfl rfl (by decide) rfl (fun ls hl => ?_)
        refine lv_goto (tgt := 13) hx hb dX9_dry_33 (by decide) ?_
        exact ih v1 (v2 + 1) _ (lv_sub hl [1, 2, 0] rfl) hf 
      rw [if_neg c_25] at hf
      refine lv_iload_n hx hb dX9_dry_28 rfl (lv_at hl 2 rfl) ?_
      rw [← hQQ]
      exact rf_i hx hb hr hlocks hf dX9_dry_29
  rw [p_X9_dry] at hf
  refine lv_aload_n hx hb dX9_dry_0 rfl (lv_at hl 0 rfl) ?_
  refine lv_iload_n hx hb dX9_dry_1 rfl (lv_at hl 1 rfl) ?_
  obtain ⟨r_2, e_2, hf⟩ := ob_bind hf
  have hPX_2 : va_P D vwCl (csQ ct A x) s.heap := hP
  refine ro_call1 (va_runV (As := [.int v1]) (rest := []) ⟨hx, hb, hml, hown, htl⟩ (c_X9_isReach l D ct G A fu x v1 e_2) (cw_X9_X9_isReach htl ⟨Nat.le_of_ble_eq_true rfl, Nat.le_of_ble_eq_true rfl⟩) ⟨Bx_blind, va_recv hK hPX_2 (ci := 9) (q0 := 0) rfl rfl, Bx_pre hPX_2 hK hN hX⟩ rfl rfl hl.1 rfl (lv_room (Nat.le_of_ble_eq_true rfl)) dX9_dry_2 ⟨Nat.zero_le _, Nat.zero_le _⟩) ?_
  refine lv_if_ne (tgt := 11) hx hb dX9_dry_5 (by decide) (fun c_5 => ?_) (fun c_5 => ?_)
  · rw [if_neg c_5] at hf
    refine lv_iconst (v := 0) hx hb dX9_dry_11 (by decide) ?_
    refine lv_istore_n (lv' := [(2, .int 0), (0, .ref (A 0)), (1, .int v1)]) hx hb dX9_dry_12 rfl hl (by decide) rfl (fun ls hl => ?_)
    exact hL13 fu v1 0 _ (lv_sub hl [1, 2, 0] rfl) hf 
  rw [if_pos c_5] at hf
  refine lv_bipush (v := (-2)) hx hb dX9_dry_8 (by decide) ?_
  rw [← hQQ]
  exact rf_i hx hb hr hlocks hf dX9_dry_10
theorem c_X9_dry (l : Launch) (D : va_G) (ct : Nat → ClassId) (G : GT) (A : Nat → Nat) (fu : Nat) (x : Nat → Ob) (v1 : Int32) {r : Int32} (hf : p_X9_dry fu x v1 = some r)  : Met l yX9_dry (.code yX9_dry cX9_dry 3 (some .int) :: wsL_law) rm_X9_dry (va_Pc [.ref (A 0), .int v1] (Bx D ct G (csQ ct A x))) (Qro (some (.int r))) 0 0 (fun _ => False) := by
  refine Met.ofW (cc := cX9_dry) (maxL := 3) (ret := (some .int)) (by decide) rfl ?_
  intro p e s m args below meth c s₁ B hml hv
  obtain ⟨rfl, hP, hK, hN, hX⟩ := hv
  have hts := atoms_spec (ws := .code yX9_dry cX9_dry 3 (some .int) :: wsL_law) B.pre
  rw [lg_entry_eq]
  exact b_X9_dry A fu x v1 B.exec B.bytes B.returns hml (findClass_of_methodNamed B.named) (fun w h => hts w (List.mem_cons_of_mem _ h)) B.notSynchronized hK hN hX hP hf   (lv_entry [.ref (A 0), .int v1] (n := 3) (Nat.le_of_ble_eq_true rfl))
def p_X9_drought_J42 (fu : Nat) (x : Nat → Ob) (c18 : Int32 → Int32 → Int32 → Int32 → Option (Int32)) (v1 : Int32) (v2 : Int32) (v4 : Int32) (s0 : Int32) : Option (Int32) :=
    c18 v1 (if v2 < s0 then s0 else v2) s0 (v4 + 1)
def p_X9_drought_L18 (fu : Nat) (x : Nat → Ob)  : Nat → Int32 → Int32 → Int32 → Int32 → Option (Int32)
  | 0, _, _, _, _ => none
  | n + 1, v1, v2, v3, v4 =>
    if (60 : Int32) < v4 then some v2 else (p_X9_isStanding fu x v1 v4).bind fun r_29 => if r_29 = 0 then p_X9_drought_J42 fu x (fun v1 v2 v3 v4 => p_X9_drought_L18 fu x  n v1 v2 v3 v4) v1 v2 v4 0 else p_X9_drought_J42 fu x (fun v1 v2 v3 v4 => p_X9_drought_L18 fu x  n v1 v2 v3 v4) v1 v2 v4 (v3 + 1)
def p_X9_drought (fu : Nat) (x : Nat → Ob) (v1 : Int32) : Option (Int32) :=
  (p_X9_isReach fu x v1).bind fun r_2 => if r_2 = 0 then some ((-2) : Int32) else p_X9_drought_L18 fu x fu v1 0 0 0
abbrev rm_X9_drought : Room := { frames := 3, cells := 0, slots := 0, locals := 64 }
set_option maxHeartbeats 4000000 in
set_option maxRecDepth 100000 in
theorem b_X9_drought {p : Program} {l : Launch} {e : Env} {s : State} {m : MethodId} {args : Array Value} {below : List Frame} {meth : Method} {c : Code} {ls : Array Slot} {D : va_G} {ct : Nat → ClassId} {G : GT} (A : Nat → Nat) (fu : Nat) (x : Nat → Ob) (v1 : Int32) {r : Int32} (hx : p.tables.exec = Jvm.exec) (hb : c.code = cX9_drought) (hr : meth.sig.returnType = (some .int)) (hml : c.maxLocals = 5) (hown : s.vm.findClass RX9 = some m.cls) (htl : ∀ w ∈ wsL_law, w.before args s = true) (hlocks : meth.locks = false) (hK : va_K D vwCl (tyl ct) s) (hN : ∀ w ∈ NW, va_Nw w s) (hX : SX G s s.heap) (hP0 : va_P D vwCl (csQ ct A x) s.heap) (hf : p_X9_drought fu x v1 = some r)  (hl : lv_has ls 5 [(0, .ref (A 0)), (1, .int v1)]) : W p l e rm_X9_drought s m args below meth c s.heap [] 0 0 (MQ below (Qro (some (.int r))) args s 0 0 (fun _ => False)) (F0 m 0 ls []) := by
  generalize hQQ : MQ below (Qro (some (.int r))) args s 0 0 (fun _ => False) = QQ
  have hP := hP0
  have hJ42 : ∀ (c18 : Int32 → Int32 → Int32 → Int32 → Option (Int32)) (v1 : Int32) (v2 : Int32) (v4 : Int32) (s0 : Int32), ∀ (ls : Array Slot), lv_has ls 5 [(0, .ref (A 0)), (1, .int v1), (2, .int v2), (4, .int v4)] → p_X9_drought_J42 fu x c18 v1 v2 v4 s0 = some r → (∀ (v1 : Int32) (v2 : Int32) (v3 : Int32) (v4 : Int32), ∀ (ls : Array Slot), lv_has ls 5 [(0, .ref (A 0)), (1, .int v1), (2, .int v2), (3, .int v3), (4, .int v4)] → c18 v1 v2 v3 v4 = some r → W p l e rm_X9_drought s m args below meth c s.heap [] 0 0 QQ (F0 m 18 ls [])) → W p l e rm_X9_drought s m args below meth c s.heap [] 0 0 QQ (F0 m 42 ls [.int s0]) := by
    intro c18 v1 v2 v4 s0 ls hl hf k18
    rw [p_X9_drought_J42] at hf
    refine lv_istore_n (lv' := [(3, .int s0), (0, .ref (A 0)), (1, .int v1), (2, .int v2), (4, .int v4)]) hx hb dX9_drought_42 rfl hl (by decide) rfl (fun ls hl => ?_)
    refine lv_iload_n hx hb dX9_drought_43 rfl (lv_at hl 3 rfl) ?_
    refine lv_iload_n hx hb dX9_drought_44 rfl (lv_at hl 0 rfl) ?_
    refine va_mmax hx hb (hml.trans hl.1.symm) hown (htl _ wq_25_4) (htl _ wq_15_21) (htl _ wq_12_23) (htl _ wq_15_22) (Nat.le_of_ble_eq_true rfl) (Nat.le_of_ble_eq_true rfl) (Nat.zero_le _) (Nat.zero_le _) dX9_drought_45 ?_
    refine lv_istore_n (lv' := [(2, .int (if v2 < s0 then s0 else v2)), (3, .int s0), (0, .ref (A 0)), (1, .int v1), (4, .int v4)]) hx hb dX9_drought_48 rfl hl (by decide) rfl (fun ls hl => ?_)
    refine lv_iinc (v := (v4 + 1)) (lv' := [(4, .int (v4 + 1)), (2, .int (if v2 < s0 then s0 else v2)), (3, .int s0), (0, .ref (A 0)), (1, .int v1)]) hx hb dX9_drought_49 hl (k := 4) rfl rfl (by decide) rfl (fun ls hl => ?_)
    refine lv_goto (tgt := 18) hx hb dX9_drought_52 (by decide) ?_
    exact k18 v1 (if v2 < s0 then s0 else v2) s0 (v4 + 1) _ (lv_sub hl [3, 4, 1, 2, 0] rfl) hf
  have hL18 : ∀ (n : Nat) (v1 : Int32) (v2 : Int32) (v3 : Int32) (v4 : Int32), ∀ (ls : Array Slot), lv_has ls 5 [(0, .ref (A 0)), (1, .int v1), (2, .int v2), (3, .int v3), (4, .int v4)] → p_X9_drought_L18 fu x  n v1 v2 v3 v4 = some r → W p l e rm_X9_drought s m args below meth c s.heap [] 0 0 QQ (F0 m 18 ls []) := by
    intro  n
    induction n with
    | zero =>
      intro v1 v2 v3 v4 ls hl hf 
      rw [p_X9_drought_L18] at hf
      cases hf
    | succ n ih =>
      intro v1 v2 v3 v4 ls hl hf 
      rw [p_X9_drought_L18] at hf
      refine lv_iload hx hb dX9_drought_18 (lv_at hl 4 rfl) ?_
      refine lv_bipush (v := 60) hx hb dX9_drought_20 (by decide) ?_
      refine lv_icmp_gt (tgt := 55) hx hb dX9_drought_22 (by decide) (fun c_22 => ?_) (fun c_22 => ?_)
      · rw [if_pos c_22] at hf
        refine lv_iload_n hx hb dX9_drought_55 rfl (lv_at hl 2 rfl) ?_
        rw [← hQQ]
        exact rf_i hx hb hr hlocks hf dX9_drought_56
      rw [if_neg c_22] at hf
      refine lv_aload_n hx hb dX9_drought_25 rfl (lv_at hl 0 rfl) ?_
      refine lv_iload_n hx hb dX9_drought_26 rfl (lv_at hl 1 rfl) ?_
      refine lv_iload hx hb dX9_drought_27 (lv_at hl 4 rfl) ?_
      obtain ⟨r_29, e_29, hf⟩ := ob_bind hf
      have hPX_29 : va_P D vwCl (csQ ct A x) s.heap := hP
      refine ro_call1 (va_runV (As := [.int v1, .int v4]) (rest := []) ⟨hx, hb, hml, hown, htl⟩ (c_X9_isStanding l D ct G A fu x v1 v4 e_29) (cw_X9_X9_isStanding htl ⟨Nat.le_of_ble_eq_true rfl, Nat.le_of_ble_eq_true rfl⟩) ⟨Bx_blind, va_recv hK hPX_29 (ci := 9) (q0 := 0) rfl rfl, Bx_pre hPX_29 hK hN hX⟩ rfl rfl hl.1 rfl (lv_room (Nat.le_of_ble_eq_true rfl)) dX9_drought_29 ⟨Nat.zero_le _, Nat.zero_le _⟩) ?_
      refine lv_if_eq (tgt := 41) hx hb dX9_drought_32 (by decide) (fun c_32 => ?_) (fun c_32 => ?_)
      · rw [if_pos c_32] at hf
        refine lv_iconst (v := 0) hx hb dX9_drought_41 (by decide) ?_
        exact hJ42 _ v1 v2 v4 0 _ (lv_sub hl [0, 1, 2, 4] rfl) hf (fun v1 v2 v3 v4 ls hl hf => ih v1 v2 v3 v4 ls hl hf )
      rw [if_neg c_32] at hf
      refine lv_iload_n hx hb dX9_drought_35 rfl (lv_at hl 3 rfl) ?_
      refine lv_iconst (v := 1) hx hb dX9_drought_36 (by decide) ?_
      refine lv_iadd hx hb dX9_drought_37 ?_
      refine lv_goto (tgt := 42) hx hb dX9_drought_38 (by decide) ?_
      exact hJ42 _ v1 v2 v4 (v3 + 1) _ (lv_sub hl [0, 1, 2, 4] rfl) hf (fun v1 v2 v3 v4 ls hl hf => ih v1 v2 v3 v4 ls hl hf )
  rw [p_X9_drought] at hf
  refine lv_aload_n hx hb dX9_drought_0 rfl (lv_at hl 0 rfl) ?_
  refine lv_iload_n hx hb dX9_drought_1 rfl (lv_at hl 1 rfl) ?_
  obtain ⟨r_2, e_2, hf⟩ := ob_bind hf
  have hPX_2 : va_P D vwCl (csQ ct A x) s.heap := hP
  refine ro_call1 (va_runV (As := [.int v1]) (rest := []) ⟨hx, hb, hml, hown, htl⟩ (c_X9_isReach l D ct G A fu x v1 e_2) (cw_X9_X9_isReach htl ⟨Nat.le_of_ble_eq_true rfl, Nat.le_of_ble_eq_true rfl⟩) ⟨Bx_blind, va_recv hK hPX_2 (ci := 9) (q0 := 0) rfl rfl, Bx_pre hPX_2 hK hN hX⟩ rfl rfl hl.1 rfl (lv_room (Nat.le_of_ble_eq_true rfl)) dX9_drought_2 ⟨Nat.zero_le _, Nat.zero_le _⟩) ?_
  refine lv_if_ne (tgt := 11) hx hb dX9_drought_5 (by decide) (fun c_5 => ?_) (fun c_5 => ?_)
  rotate_left 1
  · rw [if_pos c_5] at hf
    refine lv_bipush (v := (-2)) hx hb dX9_drought_8 (by decide) ?_
    rw [← hQQ]
    exact rf_i hx hb hr hlocks hf dX9_drought_10
  rw [if_neg c_5] at hf
  refine lv_iconst (v := 0) hx hb dX9_drought_11 (by decide) ?_
  refine lv_istore_n (lv' := [(2, .int 0), (0, .ref (A 0)), (1, .int v1)]) hx hb dX9_drought_12 rfl hl (by decide) rfl (fun ls hl => ?_)
  refine lv_iconst (v := 0) hx hb dX9_drought_13 (by decide) ?_
  refine lv_istore_n (lv' := [(3, .int 0), (2, .int 0), (0, .ref (A 0)), (1, .int v1)]) hx hb dX9_drought_14 rfl hl (by decide) rfl (fun ls hl => ?_)
  refine lv_iconst (v := 0) hx hb dX9_drought_15 (by decide) ?_
  refine lv_istore (lv' := [(4, .int 0), (3, .int 0), (2, .int 0), (0, .ref (A 0)), (1, .int v1)]) hx hb dX9_drought_16 hl (by decide) rfl (fun ls hl => ?_)
  exact hL18 fu v1 0 0 0 _ (lv_sub hl [3, 4, 2, 1, 0] rfl) hf 
theorem c_X9_drought (l : Launch) (D : va_G) (ct : Nat → ClassId) (G : GT) (A : Nat → Nat) (fu : Nat) (x : Nat → Ob) (v1 : Int32) {r : Int32} (hf : p_X9_drought fu x v1 = some r)  : Met l yX9_drought (.code yX9_drought cX9_drought 5 (some .int) :: wsL_law) rm_X9_drought (va_Pc [.ref (A 0), .int v1] (Bx D ct G (csQ ct A x))) (Qro (some (.int r))) 0 0 (fun _ => False) := by
  refine Met.ofW (cc := cX9_drought) (maxL := 5) (ret := (some .int)) (by decide) rfl ?_
  intro p e s m args below meth c s₁ B hml hv
  obtain ⟨rfl, hP, hK, hN, hX⟩ := hv
  have hts := atoms_spec (ws := .code yX9_drought cX9_drought 5 (some .int) :: wsL_law) B.pre
  rw [lg_entry_eq]
  exact b_X9_drought A fu x v1 B.exec B.bytes B.returns hml (findClass_of_methodNamed B.named) (fun w h => hts w (List.mem_cons_of_mem _ h)) B.notSynchronized hK hN hX hP hf   (lv_entry [.ref (A 0), .int v1] (n := 5) (Nat.le_of_ble_eq_true rfl))
def p_X9_idle_L15 (fu : Nat) (x : Nat → Ob)  : Nat → Int32 → Int32 → Int32 → Option (Int32)
  | 0, _, _, _ => none
  | n + 1, v1, v2, v3 =>
    if (60 : Int32) < v3 then some v2 else (p_X9_isStanding fu x v1 v3).bind fun r_24 => if r_24 = 0 then p_X9_idle_L15 fu x  n v1 v2 (v3 + 1) else p_X9_idle_L15 fu x  n v1 (v2 + 1) (v3 + 1)
def p_X9_idle (fu : Nat) (x : Nat → Ob) (v1 : Int32) : Option (Int32) :=
  (p_X9_isReach fu x v1).bind fun r_2 => if r_2 = 0 then some ((-2) : Int32) else p_X9_idle_L15 fu x fu v1 0 0
abbrev rm_X9_idle : Room := { frames := 3, cells := 0, slots := 0, locals := 64 }
set_option maxHeartbeats 4000000 in
set_option maxRecDepth 100000 in
theorem b_X9_idle {p : Program} {l : Launch} {e : Env} {s : State} {m : MethodId} {args : Array Value} {below : List Frame} {meth : Method} {c : Code} {ls : Array Slot} {D : va_G} {ct : Nat → ClassId} {G : GT} (A : Nat → Nat) (fu : Nat) (x : Nat → Ob) (v1 : Int32) {r : Int32} (hx : p.tables.exec = Jvm.exec) (hb : c.code = cX9_idle) (hr : meth.sig.returnType = (some .int)) (hml : c.maxLocals = 4) (hown : s.vm.findClass RX9 = some m.cls) (htl : ∀ w ∈ wsL_law, w.before args s = true) (hlocks : meth.locks = false) (hK : va_K D vwCl (tyl ct) s) (hN : ∀ w ∈ NW, va_Nw w s) (hX : SX G s s.heap) (hP0 : va_P D vwCl (csQ ct A x) s.heap) (hf : p_X9_idle fu x v1 = some r)  (hl : lv_has ls 4 [(0, .ref (A 0)), (1, .int v1)]) : W p l e rm_X9_idle s m args below meth c s.heap [] 0 0 (MQ below (Qro (some (.int r))) args s 0 0 (fun _ => False)) (F0 m 0 ls []) := by
  generalize hQQ : MQ below (Qro (some (.int r))) args s 0 0 (fun _ => False) = QQ
  have hP := hP0
  have hL15 : ∀ (n : Nat) (v1 : Int32) (v2 : Int32) (v3 : Int32), ∀ (ls : Array Slot), lv_has ls 4 [(0, .ref (A 0)), (1, .int v1), (2, .int v2), (3, .int v3)] → p_X9_idle_L15 fu x  n v1 v2 v3 = some r → W p l e rm_X9_idle s m args below meth c s.heap [] 0 0 QQ (F0 m 15 ls []) := by
    intro  n
    induction n with
    | zero =>
      intro v1 v2 v3 ls hl hf 
      rw [p_X9_idle_L15] at hf
      cases hf
    | succ n ih =>
      intro v1 v2 v3 ls hl hf 
      rw [p_X9_idle_L15] at hf
      refine lv_iload_n hx hb dX9_idle_15 rfl (lv_at hl 3 rfl) ?_
      refine lv_bipush (v := 60) hx hb dX9_idle_16 (by decide) ?_
      refine lv_icmp_gt (tgt := 39) hx hb dX9_idle_18 (by decide) (fun c_18 => ?_) (fun c_18 => ?_)
      · rw [if_pos c_18] at hf
        refine lv_iload_n hx hb dX9_idle_39 rfl (lv_at hl 2 rfl) ?_
        rw [← hQQ]
        exact rf_i hx hb hr hlocks hf dX9_idle_40
      rw [if_neg c_18] at hf
      refine lv_aload_n hx hb dX9_idle_21 rfl (lv_at hl 0 rfl) ?_
      refine lv_iload_n hx hb dX9_idle_22 rfl (lv_at hl 1 rfl) ?_
      refine lv_iload_n hx hb dX9_idle_23 rfl (lv_at hl 3 rfl) ?_
      obtain ⟨r_24, e_24, hf⟩ := ob_bind hf
      have hPX_24 : va_P D vwCl (csQ ct A x) s.heap := hP
      refine ro_call1 (va_runV (As := [.int v1, .int v3]) (rest := []) ⟨hx, hb, hml, hown, htl⟩ (c_X9_isStanding l D ct G A fu x v1 v3 e_24) (cw_X9_X9_isStanding htl ⟨Nat.le_of_ble_eq_true rfl, Nat.le_of_ble_eq_true rfl⟩) ⟨Bx_blind, va_recv hK hPX_24 (ci := 9) (q0 := 0) rfl rfl, Bx_pre hPX_24 hK hN hX⟩ rfl rfl hl.1 rfl (lv_room (Nat.le_of_ble_eq_true rfl)) dX9_idle_24 ⟨Nat.zero_le _, Nat.zero_le _⟩) ?_
      refine lv_if_eq (tgt := 33) hx hb dX9_idle_27 (by decide) (fun c_27 => ?_) (fun c_27 => ?_)
      · rw [if_pos c_27] at hf
        refine lv_iinc (v := (v3 + 1)) (lv' := [(3, .int (v3 + 1)), (0, .ref (A 0)), (1, .int v1), (2, .int v2)]) hx hb dX9_idle_33 hl (k := 3) rfl rfl (by decide) rfl (fun ls hl => ?_)
        refine lv_goto (tgt := 15) hx hb dX9_idle_36 (by decide) ?_
        exact ih v1 v2 (v3 + 1) _ (lv_sub hl [1, 2, 3, 0] rfl) hf 
      rw [if_neg c_27] at hf
      refine lv_iinc (v := (v2 + 1)) (lv' := [(2, .int (v2 + 1)), (0, .ref (A 0)), (1, .int v1), (3, .int v3)]) hx hb dX9_idle_30 hl (k := 2) rfl rfl (by decide) rfl (fun ls hl => ?_)
      refine lv_iinc (v := (v3 + 1)) (lv' := [(3, .int (v3 + 1)), (2, .int (v2 + 1)), (0, .ref (A 0)), (1, .int v1)]) hx hb dX9_idle_33 hl (k := 3) rfl rfl (by decide) rfl (fun ls hl => ?_)
      refine lv_goto (tgt := 15) hx hb dX9_idle_36 (by decide) ?_
      exact ih v1 (v2 + 1) (v3 + 1) _ (lv_sub hl [2, 3, 1, 0] rfl) hf 
  rw [p_X9_idle] at hf
  refine lv_aload_n hx hb dX9_idle_0 rfl (lv_at hl 0 rfl) ?_
  refine lv_iload_n hx hb dX9_idle_1 rfl (lv_at hl 1 rfl) ?_
  obtain ⟨r_2, e_2, hf⟩ := ob_bind hf
  have hPX_2 : va_P D vwCl (csQ ct A x) s.heap := hP
  refine ro_call1 (va_runV (As := [.int v1]) (rest := []) ⟨hx, hb, hml, hown, htl⟩ (c_X9_isReach l D ct G A fu x v1 e_2) (cw_X9_X9_isReach htl ⟨Nat.le_of_ble_eq_true rfl, Nat.le_of_ble_eq_true rfl⟩) ⟨Bx_blind, va_recv hK hPX_2 (ci := 9) (q0 := 0) rfl rfl, Bx_pre hPX_2 hK hN hX⟩ rfl rfl hl.1 rfl (lv_room (Nat.le_of_ble_eq_true rfl)) dX9_idle_2 ⟨Nat.zero_le _, Nat.zero_le _⟩) ?_
  refine lv_if_ne (tgt := 11) hx hb dX9_idle_5 (by decide) (fun c_5 => ?_) (fun c_5 => ?_)
  rotate_left 1
  · rw [if_pos c_5] at hf
    refine lv_bipush (v := (-2)) hx hb dX9_idle_8 (by decide) ?_
    rw [← hQQ]
    exact rf_i hx hb hr hlocks hf dX9_idle_10
  rw [if_neg c_5] at hf
  refine lv_iconst (v := 0) hx hb dX9_idle_11 (by decide) ?_
  refine lv_istore_n (lv' := [(2, .int 0), (0, .ref (A 0)), (1, .int v1)]) hx hb dX9_idle_12 rfl hl (by decide) rfl (fun ls hl => ?_)
  refine lv_iconst (v := 0) hx hb dX9_idle_13 (by decide) ?_
  refine lv_istore_n (lv' := [(3, .int 0), (2, .int 0), (0, .ref (A 0)), (1, .int v1)]) hx hb dX9_idle_14 rfl hl (by decide) rfl (fun ls hl => ?_)
  exact hL15 fu v1 0 0 _ (lv_sub hl [2, 3, 1, 0] rfl) hf 
theorem c_X9_idle (l : Launch) (D : va_G) (ct : Nat → ClassId) (G : GT) (A : Nat → Nat) (fu : Nat) (x : Nat → Ob) (v1 : Int32) {r : Int32} (hf : p_X9_idle fu x v1 = some r)  : Met l yX9_idle (.code yX9_idle cX9_idle 4 (some .int) :: wsL_law) rm_X9_idle (va_Pc [.ref (A 0), .int v1] (Bx D ct G (csQ ct A x))) (Qro (some (.int r))) 0 0 (fun _ => False) := by
  refine Met.ofW (cc := cX9_idle) (maxL := 4) (ret := (some .int)) (by decide) rfl ?_
  intro p e s m args below meth c s₁ B hml hv
  obtain ⟨rfl, hP, hK, hN, hX⟩ := hv
  have hts := atoms_spec (ws := .code yX9_idle cX9_idle 4 (some .int) :: wsL_law) B.pre
  rw [lg_entry_eq]
  exact b_X9_idle A fu x v1 B.exec B.bytes B.returns hml (findClass_of_methodNamed B.named) (fun w h => hts w (List.mem_cons_of_mem _ h)) B.notSynchronized hK hN hX hP hf   (lv_entry [.ref (A 0), .int v1] (n := 4) (Nat.le_of_ble_eq_true rfl))
theorem cw_X9_X8_rainAt {R : Room} {s : State} {args : Array Value} (ht : ∀ w ∈ wsL_law, w.before args s = true) (hN : ∀ w ∈ NW, va_Nw w s) (hR : rm_X8_rainAt.frames + 1 ≤ R.frames ∧ 8 + (2 + 11) + rm_X8_rainAt.locals ≤ R.locals) : va_CN R s args RX9 181 yX8_rainAt "QuotedRiver" cX8_rainAt 2 (some .int) ((.code yX8_rainAt cX8_rainAt 2 (some .int)) :: wsL_law) rm_X8_rainAt 0 0 1 ∧ (Cond.instanceMethod yX8_rainAt).before args s = true ∧ (Cond.selects RX8 yX8_rainAt yX8_rainAt).before args s = true := ⟨va_cnB 1 ht (GL wq_16_2) rfl rfl rfl (hN _ nm_87) (ht _ wq_2_6) hd_X8_rainAt hR, ht _ wq_16_0, ht _ wq_16_1⟩
def p_X9_rained_L15 (fu : Nat) (x : Nat → Ob)  : Nat → Int32 → Int32 → Int32 → Option (Int32)
  | 0, _, _, _ => none
  | n + 1, v1, v2, v3 =>
    if v1 < v3 then some v2 else (p_X8_rainAt fu (x 10) v3).bind fun r_26 => p_X9_rained_L15 fu x  n v1 (v2 + r_26) (v3 + 1)
def p_X9_rained (fu : Nat) (x : Nat → Ob) (v1 : Int32) : Option (Int32) :=
  (p_X9_hasStep fu x v1).bind fun r_2 => if r_2 = 0 then some ((-2) : Int32) else p_X9_rained_L15 fu x fu v1 0 0
abbrev rm_X9_rained : Room := { frames := 2, cells := 0, slots := 0, locals := 42 }
set_option maxHeartbeats 4000000 in
set_option maxRecDepth 100000 in
theorem b_X9_rained {p : Program} {l : Launch} {e : Env} {s : State} {m : MethodId} {args : Array Value} {below : List Frame} {meth : Method} {c : Code} {ls : Array Slot} {D : va_G} {ct : Nat → ClassId} {G : GT} (A : Nat → Nat) (fu : Nat) (x : Nat → Ob) (v1 : Int32) {r : Int32} (hx : p.tables.exec = Jvm.exec) (hb : c.code = cX9_rained) (hr : meth.sig.returnType = (some .int)) (hml : c.maxLocals = 4) (hown : s.vm.findClass RX9 = some m.cls) (htl : ∀ w ∈ wsL_law, w.before args s = true) (hlocks : meth.locks = false) (hK : va_K D vwCl (tyl ct) s) (hN : ∀ w ∈ NW, va_Nw w s) (hX : SX G s s.heap) (hP0 : va_P D vwCl (csQ ct A x) s.heap) (hf : p_X9_rained fu x v1 = some r)  (hl : lv_has ls 4 [(0, .ref (A 0)), (1, .int v1)]) : W p l e rm_X9_rained s m args below meth c s.heap [] 0 0 (MQ below (Qro (some (.int r))) args s 0 0 (fun _ => False)) (F0 m 0 ls []) := by
  generalize hQQ : MQ below (Qro (some (.int r))) args s 0 0 (fun _ => False) = QQ
  have hP := hP0
  have hL15 : ∀ (n : Nat) (v1 : Int32) (v2 : Int32) (v3 : Int32), ∀ (ls : Array Slot), lv_has ls 4 [(0, .ref (A 0)), (1, .int v1), (2, .int v2), (3, .int v3)] → p_X9_rained_L15 fu x  n v1 v2 v3 = some r → W p l e rm_X9_rained s m args below meth c s.heap [] 0 0 QQ (F0 m 15 ls []) := by
    intro  n
    induction n with
    | zero =>
      intro v1 v2 v3 ls hl hf 
      rw [p_X9_rained_L15] at hf
      cases hf
    | succ n ih =>
      intro v1 v2 v3 ls hl hf 
      rw [p_X9_rained_L15] at hf
      refine lv_iload_n hx hb dX9_rained_15 rfl (lv_at hl 3 rfl) ?_
      refine lv_iload_n hx hb dX9_rained_16 rfl (lv_at hl 1 rfl) ?_
      refine lv_icmp_gt (tgt := 37) hx hb dX9_rained_17 (by decide) (fun c_17 => ?_) (fun c_17 => ?_)
      · rw [if_pos c_17] at hf
        refine lv_iload_n hx hb dX9_rained_37 rfl (lv_at hl 2 rfl) ?_
        rw [← hQQ]
        exact rf_i hx hb hr hlocks hf dX9_rained_38
      rw [if_neg c_17] at hf
      refine lv_iload_n hx hb dX9_rained_20 rfl (lv_at hl 2 rfl) ?_
      refine lv_aload_n hx hb dX9_rained_21 rfl (lv_at hl 0 rfl) ?_
      refine va_get (D := D) (ci := 9) (v := .ref (A 87)) (C := RX9) (T := TX9) (N := 14) hx hb htl inlX9 hown hK hP 0 qh_0 rfl 6 (by decide) (htl _ wq_2_7) (fun _ h9 => h9) rfl dX9_rained_22 ?_
      refine lv_iload_n hx hb dX9_rained_25 rfl (lv_at hl 3 rfl) ?_
      obtain ⟨r_26, e_26, hf⟩ := ob_bind hf
      have hPX_26 : va_P D vwCl (cs8 ct (fun i => A (87 + i)) (x 10)) s.heap := (qs_10 hP)
      refine ro_call1 (va_runVN (As := [.int v3]) (rest := [.int v2]) ⟨hx, hb, hml, hown, htl⟩ (c_X8_rainAt l D ct G (fun i => A (87 + i)) fu (x 10) v3 e_26) (cw_X9_X8_rainAt htl hN ⟨Nat.le_of_ble_eq_true rfl, Nat.le_of_ble_eq_true rfl⟩) ⟨Bx_blind, va_recv hK hPX_26 (ci := 8) (q0 := 0) rfl rfl, Bx_pre hPX_26 hK hN hX⟩ rfl rfl hl.1 rfl (lv_room (Nat.le_of_ble_eq_true rfl)) dX9_rained_26 ⟨Nat.zero_le _, Nat.zero_le _⟩) ?_
      refine lv_iadd hx hb dX9_rained_29 ?_
      refine lv_istore_n (lv' := [(2, .int (v2 + r_26)), (0, .ref (A 0)), (1, .int v1), (3, .int v3)]) hx hb dX9_rained_30 rfl hl (by decide) rfl (fun ls hl => ?_)
      refine lv_iinc (v := (v3 + 1)) (lv' := [(3, .int (v3 + 1)), (2, .int (v2 + r_26)), (0, .ref (A 0)), (1, .int v1)]) hx hb dX9_rained_31 hl (k := 3) rfl rfl (by decide) rfl (fun ls hl => ?_)
      refine lv_goto (tgt := 15) hx hb dX9_rained_34 (by decide) ?_
      exact ih v1 (v2 + r_26) (v3 + 1) _ (lv_sub hl [2, 3, 1, 0] rfl) hf 
  rw [p_X9_rained] at hf
  refine lv_aload_n hx hb dX9_rained_0 rfl (lv_at hl 0 rfl) ?_
  refine lv_iload_n hx hb dX9_rained_1 rfl (lv_at hl 1 rfl) ?_
  obtain ⟨r_2, e_2, hf⟩ := ob_bind hf
  have hPX_2 : va_P D vwCl (csQ ct A x) s.heap := hP
  refine ro_call1 (va_runV (As := [.int v1]) (rest := []) ⟨hx, hb, hml, hown, htl⟩ (c_X9_hasStep l D ct G A fu x v1 e_2) (cw_X9_X9_hasStep htl ⟨Nat.le_of_ble_eq_true rfl, Nat.le_of_ble_eq_true rfl⟩) ⟨Bx_blind, va_recv hK hPX_2 (ci := 9) (q0 := 0) rfl rfl, Bx_pre hPX_2 hK hN hX⟩ rfl rfl hl.1 rfl (lv_room (Nat.le_of_ble_eq_true rfl)) dX9_rained_2 ⟨Nat.zero_le _, Nat.zero_le _⟩) ?_
  refine lv_if_ne (tgt := 11) hx hb dX9_rained_5 (by decide) (fun c_5 => ?_) (fun c_5 => ?_)
  rotate_left 1
  · rw [if_pos c_5] at hf
    refine lv_bipush (v := (-2)) hx hb dX9_rained_8 (by decide) ?_
    rw [← hQQ]
    exact rf_i hx hb hr hlocks hf dX9_rained_10
  rw [if_neg c_5] at hf
  refine lv_iconst (v := 0) hx hb dX9_rained_11 (by decide) ?_
  refine lv_istore_n (lv' := [(2, .int 0), (0, .ref (A 0)), (1, .int v1)]) hx hb dX9_rained_12 rfl hl (by decide) rfl (fun ls hl => ?_)
  refine lv_iconst (v := 0) hx hb dX9_rained_13 (by decide) ?_
  refine lv_istore_n (lv' := [(3, .int 0), (2, .int 0), (0, .ref (A 0)), (1, .int v1)]) hx hb dX9_rained_14 rfl hl (by decide) rfl (fun ls hl => ?_)
  exact hL15 fu v1 0 0 _ (lv_sub hl [2, 3, 1, 0] rfl) hf 
theorem c_X9_rained (l : Launch) (D : va_G) (ct : Nat → ClassId) (G : GT) (A : Nat → Nat) (fu : Nat) (x : Nat → Ob) (v1 : Int32) {r : Int32} (hf : p_X9_rained fu x v1 = some r)  : Met l yX9_rained (.code yX9_rained cX9_rained 4 (some .int) :: wsL_law) rm_X9_rained (va_Pc [.ref (A 0), .int v1] (Bx D ct G (csQ ct A x))) (Qro (some (.int r))) 0 0 (fun _ => False) := by
  refine Met.ofW (cc := cX9_rained) (maxL := 4) (ret := (some .int)) (by decide) rfl ?_
  intro p e s m args below meth c s₁ B hml hv
  obtain ⟨rfl, hP, hK, hN, hX⟩ := hv
  have hts := atoms_spec (ws := .code yX9_rained cX9_rained 4 (some .int) :: wsL_law) B.pre
  rw [lg_entry_eq]
  exact b_X9_rained A fu x v1 B.exec B.bytes B.returns hml (findClass_of_methodNamed B.named) (fun w h => hts w (List.mem_cons_of_mem _ h)) B.notSynchronized hK hN hX hP hf   (lv_entry [.ref (A 0), .int v1] (n := 4) (Nat.le_of_ble_eq_true rfl))
def p_X9_leastStep_L4 (fu : Nat) (x : Nat → Ob)  : Nat → Int32 → Int32 → Option (Int32)
  | 0, _, _ => none
  | n + 1, v1, v2 =>
    if (60 : Int32) < v2 then some v1 else (p_X8_levelAt fu (x 10) v2).bind fun r_15 => (p_X8_levelAt fu (x 10) v1).bind fun r_23 => if r_23 ≤ r_15 then p_X9_leastStep_L4 fu x  n v1 (v2 + 1) else p_X9_leastStep_L4 fu x  n v2 (v2 + 1)
def p_X9_leastStep (fu : Nat) (x : Nat → Ob) : Option (Int32) :=
  p_X9_leastStep_L4 fu x fu 0 1
abbrev rm_X9_leastStep : Room := { frames := 2, cells := 0, slots := 0, locals := 42 }
set_option maxHeartbeats 4000000 in
set_option maxRecDepth 100000 in
theorem b_X9_leastStep {p : Program} {l : Launch} {e : Env} {s : State} {m : MethodId} {args : Array Value} {below : List Frame} {meth : Method} {c : Code} {ls : Array Slot} {D : va_G} {ct : Nat → ClassId} {G : GT} (A : Nat → Nat) (fu : Nat) (x : Nat → Ob) {r : Int32} (hx : p.tables.exec = Jvm.exec) (hb : c.code = cX9_leastStep) (hr : meth.sig.returnType = (some .int)) (hml : c.maxLocals = 3) (hown : s.vm.findClass RX9 = some m.cls) (htl : ∀ w ∈ wsL_law, w.before args s = true) (hlocks : meth.locks = false) (hK : va_K D vwCl (tyl ct) s) (hN : ∀ w ∈ NW, va_Nw w s) (hX : SX G s s.heap) (hP0 : va_P D vwCl (csQ ct A x) s.heap) (hf : p_X9_leastStep fu x = some r)  (hl : lv_has ls 3 [(0, .ref (A 0))]) : W p l e rm_X9_leastStep s m args below meth c s.heap [] 0 0 (MQ below (Qro (some (.int r))) args s 0 0 (fun _ => False)) (F0 m 0 ls []) := by
  generalize hQQ : MQ below (Qro (some (.int r))) args s 0 0 (fun _ => False) = QQ
  have hP := hP0
  have hL4 : ∀ (n : Nat) (v1 : Int32) (v2 : Int32), ∀ (ls : Array Slot), lv_has ls 3 [(0, .ref (A 0)), (1, .int v1), (2, .int v2)] → p_X9_leastStep_L4 fu x  n v1 v2 = some r → W p l e rm_X9_leastStep s m args below meth c s.heap [] 0 0 QQ (F0 m 4 ls []) := by
    intro  n
    induction n with
    | zero =>
      intro v1 v2 ls hl hf 
      rw [p_X9_leastStep_L4] at hf
      cases hf
    | succ n ih =>
      intro v1 v2 ls hl hf 
      rw [p_X9_leastStep_L4] at hf
      refine lv_iload_n hx hb dX9_leastStep_4 rfl (lv_at hl 2 rfl) ?_
      refine lv_bipush (v := 60) hx hb dX9_leastStep_5 (by decide) ?_
      refine lv_icmp_gt (tgt := 37) hx hb dX9_leastStep_7 (by decide) (fun c_7 => ?_) (fun c_7 => ?_)
      · rw [if_pos c_7] at hf
        refine lv_iload_n hx hb dX9_leastStep_37 rfl (lv_at hl 1 rfl) ?_
        rw [← hQQ]
        exact rf_i hx hb hr hlocks hf dX9_leastStep_38
      rw [if_neg c_7] at hf
      refine lv_aload_n hx hb dX9_leastStep_10 rfl (lv_at hl 0 rfl) ?_
      refine va_get (D := D) (ci := 9) (v := .ref (A 87)) (C := RX9) (T := TX9) (N := 14) hx hb htl inlX9 hown hK hP 0 qh_0 rfl 6 (by decide) (htl _ wq_2_7) (fun _ h9 => h9) rfl dX9_leastStep_11 ?_
      refine lv_iload_n hx hb dX9_leastStep_14 rfl (lv_at hl 2 rfl) ?_
      obtain ⟨r_15, e_15, hf⟩ := ob_bind hf
      have hPX_15 : va_P D vwCl (cs8 ct (fun i => A (87 + i)) (x 10)) s.heap := (qs_10 hP)
      refine ro_call1 (va_runVN (As := [.int v2]) (rest := []) ⟨hx, hb, hml, hown, htl⟩ (c_X8_levelAt l D ct G (fun i => A (87 + i)) fu (x 10) v2 e_15) (cw_X9_X8_levelAt htl hN ⟨Nat.le_of_ble_eq_true rfl, Nat.le_of_ble_eq_true rfl⟩) ⟨Bx_blind, va_recv hK hPX_15 (ci := 8) (q0 := 0) rfl rfl, Bx_pre hPX_15 hK hN hX⟩ rfl rfl hl.1 rfl (lv_room (Nat.le_of_ble_eq_true rfl)) dX9_leastStep_15 ⟨Nat.zero_le _, Nat.zero_le _⟩) ?_
      refine lv_aload_n hx hb dX9_leastStep_18 rfl (lv_at hl 0 rfl) ?_
      refine va_get (D := D) (ci := 9) (v := .ref (A 87)) (C := RX9) (T := TX9) (N := 14) hx hb htl inlX9 hown hK hP 0 qh_0 rfl 6 (by decide) (htl _ wq_2_7) (fun _ h9 => h9) rfl dX9_leastStep_19 ?_
      refine lv_iload_n hx hb dX9_leastStep_22 rfl (lv_at hl 1 rfl) ?_
      obtain ⟨r_23, e_23, hf⟩ := ob_bind hf
      have hPX_23 : va_P D vwCl (cs8 ct (fun i => A (87 + i)) (x 10)) s.heap := (qs_10 hP)
      refine ro_call1 (va_runVN (As := [.int v1]) (rest := [.int r_15]) ⟨hx, hb, hml, hown, htl⟩ (c_X8_levelAt l D ct G (fun i => A (87 + i)) fu (x 10) v1 e_23) (cw_X9_X8_levelAt htl hN ⟨Nat.le_of_ble_eq_true rfl, Nat.le_of_ble_eq_true rfl⟩) ⟨Bx_blind, va_recv hK hPX_23 (ci := 8) (q0 := 0) rfl rfl, Bx_pre hPX_23 hK hN hX⟩ rfl rfl hl.1 rfl (lv_room (Nat.le_of_ble_eq_true rfl)) dX9_leastStep_23 ⟨Nat.zero_le _, Nat.zero_le _⟩) ?_
      refine lv_icmp_ge (tgt := 31) hx hb dX9_leastStep_26 (by decide) (fun c_26 => ?_) (fun c_26 => ?_)
      · rw [if_pos c_26] at hf
        refine lv_iinc (v := (v2 + 1)) (lv' := [(2, .int (v2 + 1)), (0, .ref (A 0)), (1, .int v1)]) hx hb dX9_leastStep_31 hl (k := 2) rfl rfl (by decide) rfl (fun ls hl => ?_)
        refine lv_goto (tgt := 4) hx hb dX9_leastStep_34 (by decide) ?_
        exact ih v1 (v2 + 1) _ (lv_sub hl [1, 2, 0] rfl) hf 
      rw [if_neg c_26] at hf
      refine lv_iload_n hx hb dX9_leastStep_29 rfl (lv_at hl 2 rfl) ?_
      refine lv_istore_n (lv' := [(1, .int v2), (0, .ref (A 0)), (2, .int v2)]) hx hb dX9_leastStep_30 rfl hl (by decide) rfl (fun ls hl => ?_)
      refine lv_iinc (v := (v2 + 1)) (lv' := [(2, .int (v2 + 1)), (1, .int v2), (0, .ref (A 0))]) hx hb dX9_leastStep_31 hl (k := 2) rfl rfl (by decide) rfl (fun ls hl => ?_)
      refine lv_goto (tgt := 4) hx hb dX9_leastStep_34 (by decide) ?_
      exact ih v2 (v2 + 1) _ (lv_sub hl [2, 1, 0] rfl) hf 
  rw [p_X9_leastStep] at hf
  refine lv_iconst (v := 0) hx hb dX9_leastStep_0 (by decide) ?_
  refine lv_istore_n (lv' := [(1, .int 0), (0, .ref (A 0))]) hx hb dX9_leastStep_1 rfl hl (by decide) rfl (fun ls hl => ?_)
  refine lv_iconst (v := 1) hx hb dX9_leastStep_2 (by decide) ?_
  refine lv_istore_n (lv' := [(2, .int 1), (1, .int 0), (0, .ref (A 0))]) hx hb dX9_leastStep_3 rfl hl (by decide) rfl (fun ls hl => ?_)
  exact hL4 fu 0 1 _ (lv_sub hl [2, 1, 0] rfl) hf 
theorem c_X9_leastStep (l : Launch) (D : va_G) (ct : Nat → ClassId) (G : GT) (A : Nat → Nat) (fu : Nat) (x : Nat → Ob) {r : Int32} (hf : p_X9_leastStep fu x = some r)  : Met l yX9_leastStep (.code yX9_leastStep cX9_leastStep 3 (some .int) :: wsL_law) rm_X9_leastStep (va_Pc [.ref (A 0)] (Bx D ct G (csQ ct A x))) (Qro (some (.int r))) 0 0 (fun _ => False) := by
  refine Met.ofW (cc := cX9_leastStep) (maxL := 3) (ret := (some .int)) (by decide) rfl ?_
  intro p e s m args below meth c s₁ B hml hv
  obtain ⟨rfl, hP, hK, hN, hX⟩ := hv
  have hts := atoms_spec (ws := .code yX9_leastStep cX9_leastStep 3 (some .int) :: wsL_law) B.pre
  rw [lg_entry_eq]
  exact b_X9_leastStep A fu x B.exec B.bytes B.returns hml (findClass_of_methodNamed B.named) (fun w h => hts w (List.mem_cons_of_mem _ h)) B.notSynchronized hK hN hX hP hf   (lv_entry [.ref (A 0)] (n := 3) (Nat.le_of_ble_eq_true rfl))
theorem hd_X9_leastStep : yX9_leastStep.cls ≠ "java/lang/invoke/MethodHandle" ∧ yX9_leastStep.cls ≠ "java/lang/invoke/VarHandle" ∧ (parseMethodDescriptor yX9_leastStep.desc).map (fun d => d.parameters.length) = some 0 := by decide +kernel
theorem cw_X9_X9_leastStep {R : Room} {s : State} {args : Array Value} (ht : ∀ w ∈ wsL_law, w.before args s = true) (hR : rm_X9_leastStep.frames + 1 ≤ R.frames ∧ 8 + (3 + 11) + rm_X9_leastStep.locals ≤ R.locals) : CallW R s args RX9 RX9 188 yX9_leastStep cX9_leastStep 3 (some .int) ((.code yX9_leastStep cX9_leastStep 3 (some .int)) :: wsL_law) rm_X9_leastStep 0 0 0 := cwV 0 ht (GV wq_34_22 wq_34_23 wq_35_0 wq_1_2 wq_35_1) rfl rfl rfl ⟨rfl, hd_X9_leastStep⟩ hR
def p_X9_lowest (fu : Nat) (x : Nat → Ob) : Option (Int32) :=
  if ((x 5).1 0 0) = 0 then some ((-2) : Int32) else (p_X9_leastStep fu x).bind fun r_11 => some r_11
abbrev rm_X9_lowest : Room := { frames := 3, cells := 0, slots := 0, locals := 64 }
set_option maxHeartbeats 4000000 in
set_option maxRecDepth 100000 in
theorem b_X9_lowest {p : Program} {l : Launch} {e : Env} {s : State} {m : MethodId} {args : Array Value} {below : List Frame} {meth : Method} {c : Code} {ls : Array Slot} {D : va_G} {ct : Nat → ClassId} {G : GT} (A : Nat → Nat) (fu : Nat) (x : Nat → Ob) {r : Int32} (hx : p.tables.exec = Jvm.exec) (hb : c.code = cX9_lowest) (hr : meth.sig.returnType = (some .int)) (hml : c.maxLocals = 1) (hown : s.vm.findClass RX9 = some m.cls) (htl : ∀ w ∈ wsL_law, w.before args s = true) (hlocks : meth.locks = false) (hK : va_K D vwCl (tyl ct) s) (hN : ∀ w ∈ NW, va_Nw w s) (hX : SX G s s.heap) (hP0 : va_P D vwCl (csQ ct A x) s.heap) (hf : p_X9_lowest fu x = some r)  (hl : lv_has ls 1 [(0, .ref (A 0))]) : W p l e rm_X9_lowest s m args below meth c s.heap [] 0 0 (MQ below (Qro (some (.int r))) args s 0 0 (fun _ => False)) (F0 m 0 ls []) := by
  generalize hQQ : MQ below (Qro (some (.int r))) args s 0 0 (fun _ => False) = QQ
  have hP := hP0
  rw [p_X9_lowest] at hf
  refine lv_aload_n hx hb dX9_lowest_0 rfl (lv_at hl 0 rfl) ?_
  refine va_get (D := D) (ci := 9) (v := .ref (A 21)) (C := RX9) (T := TX9) (N := 14) hx hb htl inlX9 hown hK hP 0 qh_0 rfl 2 (by decide) (htl _ wq_2_0) (fun _ h9 => h9) rfl dX9_lowest_1 ?_
  refine va_getN (D := D) (ci := 2) (v := .int ((x 5).1 0 0)) (C := RX2) (T := TX2) (N := 20) hx hb htl inlX2 hown hK hP 21 qh_5 rfl 0 (by decide) (va_Nw.use rfl (hN _ nm_14)) (fun _ h9 => h9) rfl dX9_lowest_4 ?_
  refine lv_if_eq (tgt := 17) hx hb dX9_lowest_7 (by decide) (fun c_7 => ?_) (fun c_7 => ?_)
  · rw [if_pos c_7] at hf
    refine lv_bipush (v := (-2)) hx hb dX9_lowest_17 (by decide) ?_
    rw [← hQQ]
    exact rf_i hx hb hr hlocks hf dX9_lowest_19
  rw [if_neg c_7] at hf
  refine lv_aload_n hx hb dX9_lowest_10 rfl (lv_at hl 0 rfl) ?_
  obtain ⟨r_11, e_11, hf⟩ := ob_bind hf
  have hPX_11 : va_P D vwCl (csQ ct A x) s.heap := hP
  refine ro_call1 (va_runV (As := []) (rest := []) ⟨hx, hb, hml, hown, htl⟩ (c_X9_leastStep l D ct G A fu x e_11) (cw_X9_X9_leastStep htl ⟨Nat.le_of_ble_eq_true rfl, Nat.le_of_ble_eq_true rfl⟩) ⟨Bx_blind, va_recv hK hPX_11 (ci := 9) (q0 := 0) rfl rfl, Bx_pre hPX_11 hK hN hX⟩ rfl rfl hl.1 rfl (lv_room (Nat.le_of_ble_eq_true rfl)) dX9_lowest_11 ⟨Nat.zero_le _, Nat.zero_le _⟩) ?_
  refine lv_goto (tgt := 19) hx hb dX9_lowest_14 (by decide) ?_
  rw [← hQQ]
  exact rf_i hx hb hr hlocks hf dX9_lowest_19
theorem c_X9_lowest (l : Launch) (D : va_G) (ct : Nat → ClassId) (G : GT) (A : Nat → Nat) (fu : Nat) (x : Nat → Ob) {r : Int32} (hf : p_X9_lowest fu x = some r)  : Met l yX9_lowest (.code yX9_lowest cX9_lowest 1 (some .int) :: wsL_law) rm_X9_lowest (va_Pc [.ref (A 0)] (Bx D ct G (csQ ct A x))) (Qro (some (.int r))) 0 0 (fun _ => False) := by
  refine Met.ofW (cc := cX9_lowest) (maxL := 1) (ret := (some .int)) (by decide) rfl ?_
  intro p e s m args below meth c s₁ B hml hv
  obtain ⟨rfl, hP, hK, hN, hX⟩ := hv
  have hts := atoms_spec (ws := .code yX9_lowest cX9_lowest 1 (some .int) :: wsL_law) B.pre
  rw [lg_entry_eq]
  exact b_X9_lowest A fu x B.exec B.bytes B.returns hml (findClass_of_methodNamed B.named) (fun w h => hts w (List.mem_cons_of_mem _ h)) B.notSynchronized hK hN hX hP hf   (lv_entry [.ref (A 0)] (n := 1) (Nat.le_of_ble_eq_true rfl))
def p_X9_deeper (fu : Nat) (x : Nat → Ob) : Option (Int32) :=
  if ((x 5).1 0 0) = 0 then some ((-2) : Int32) else (p_X9_leastStep fu x).bind fun r_17 => (p_X8_levelAt fu (x 10) r_17).bind fun r_20 => some (if r_20 < (20 : Int32) then r_20 else (20 : Int32))
abbrev rm_X9_deeper : Room := { frames := 3, cells := 0, slots := 0, locals := 64 }
set_option maxHeartbeats 4000000 in
set_option maxRecDepth 100000 in
theorem b_X9_deeper {p : Program} {l : Launch} {e : Env} {s : State} {m : MethodId} {args : Array Value} {below : List Frame} {meth : Method} {c : Code} {ls : Array Slot} {D : va_G} {ct : Nat → ClassId} {G : GT} (A : Nat → Nat) (fu : Nat) (x : Nat → Ob) {r : Int32} (hx : p.tables.exec = Jvm.exec) (hb : c.code = cX9_deeper) (hr : meth.sig.returnType = (some .int)) (hml : c.maxLocals = 1) (hown : s.vm.findClass RX9 = some m.cls) (htl : ∀ w ∈ wsL_law, w.before args s = true) (hlocks : meth.locks = false) (hK : va_K D vwCl (tyl ct) s) (hN : ∀ w ∈ NW, va_Nw w s) (hX : SX G s s.heap) (hP0 : va_P D vwCl (csQ ct A x) s.heap) (hf : p_X9_deeper fu x = some r)  (hl : lv_has ls 1 [(0, .ref (A 0))]) : W p l e rm_X9_deeper s m args below meth c s.heap [] 0 0 (MQ below (Qro (some (.int r))) args s 0 0 (fun _ => False)) (F0 m 0 ls []) := by
  generalize hQQ : MQ below (Qro (some (.int r))) args s 0 0 (fun _ => False) = QQ
  have hP := hP0
  rw [p_X9_deeper] at hf
  refine lv_aload_n hx hb dX9_deeper_0 rfl (lv_at hl 0 rfl) ?_
  refine va_get (D := D) (ci := 9) (v := .ref (A 21)) (C := RX9) (T := TX9) (N := 14) hx hb htl inlX9 hown hK hP 0 qh_0 rfl 2 (by decide) (htl _ wq_2_0) (fun _ h9 => h9) rfl dX9_deeper_1 ?_
  refine va_getN (D := D) (ci := 2) (v := .int ((x 5).1 0 0)) (C := RX2) (T := TX2) (N := 20) hx hb htl inlX2 hown hK hP 21 qh_5 rfl 0 (by decide) (va_Nw.use rfl (hN _ nm_14)) (fun _ h9 => h9) rfl dX9_deeper_4 ?_
  refine lv_if_eq (tgt := 29) hx hb dX9_deeper_7 (by decide) (fun c_7 => ?_) (fun c_7 => ?_)
  · rw [if_pos c_7] at hf
    refine lv_bipush (v := (-2)) hx hb dX9_deeper_29 (by decide) ?_
    rw [← hQQ]
    exact rf_i hx hb hr hlocks hf dX9_deeper_31
  rw [if_neg c_7] at hf
  refine lv_bipush (v := 20) hx hb dX9_deeper_10 (by decide) ?_
  refine lv_aload_n hx hb dX9_deeper_12 rfl (lv_at hl 0 rfl) ?_
  refine va_get (D := D) (ci := 9) (v := .ref (A 87)) (C := RX9) (T := TX9) (N := 14) hx hb htl inlX9 hown hK hP 0 qh_0 rfl 6 (by decide) (htl _ wq_2_7) (fun _ h9 => h9) rfl dX9_deeper_13 ?_
  refine lv_aload_n hx hb dX9_deeper_16 rfl (lv_at hl 0 rfl) ?_
  obtain ⟨r_17, e_17, hf⟩ := ob_bind hf
  have hPX_17 : va_P D vwCl (csQ ct A x) s.heap := hP
  refine ro_call1 (va_runV (As := []) (rest := [.ref (A 87), .int 20]) ⟨hx, hb, hml, hown, htl⟩ (c_X9_leastStep l D ct G A fu x e_17) (cw_X9_X9_leastStep htl ⟨Nat.le_of_ble_eq_true rfl, Nat.le_of_ble_eq_true rfl⟩) ⟨Bx_blind, va_recv hK hPX_17 (ci := 9) (q0 := 0) rfl rfl, Bx_pre hPX_17 hK hN hX⟩ rfl rfl hl.1 rfl (lv_room (Nat.le_of_ble_eq_true rfl)) dX9_deeper_17 ⟨Nat.zero_le _, Nat.zero_le _⟩) ?_
  obtain ⟨r_20, e_20, hf⟩ := ob_bind hf
  have hPX_20 : va_P D vwCl (cs8 ct (fun i => A (87 + i)) (x 10)) s.heap := (qs_10 hP)
  refine ro_call1 (va_runVN (As := [.int r_17]) (rest := [.int 20]) ⟨hx, hb, hml, hown, htl⟩ (c_X8_levelAt l D ct G (fun i => A (87 + i)) fu (x 10) r_17 e_20) (cw_X9_X8_levelAt htl hN ⟨Nat.le_of_ble_eq_true rfl, Nat.le_of_ble_eq_true rfl⟩) ⟨Bx_blind, va_recv hK hPX_20 (ci := 8) (q0 := 0) rfl rfl, Bx_pre hPX_20 hK hN hX⟩ rfl rfl hl.1 rfl (lv_room (Nat.le_of_ble_eq_true rfl)) dX9_deeper_20 ⟨Nat.zero_le _, Nat.zero_le _⟩) ?_
  refine va_mmin hx hb (hml.trans hl.1.symm) hown (htl _ wq_35_14) (htl _ wq_12_22) (htl _ wq_12_23) (htl _ wq_13_0) (Nat.le_of_ble_eq_true rfl) (Nat.le_of_ble_eq_true rfl) (Nat.zero_le _) (Nat.zero_le _) dX9_deeper_23 ?_
  refine lv_goto (tgt := 31) hx hb dX9_deeper_26 (by decide) ?_
  rw [← hQQ]
  exact rf_i hx hb hr hlocks hf dX9_deeper_31
theorem c_X9_deeper (l : Launch) (D : va_G) (ct : Nat → ClassId) (G : GT) (A : Nat → Nat) (fu : Nat) (x : Nat → Ob) {r : Int32} (hf : p_X9_deeper fu x = some r)  : Met l yX9_deeper (.code yX9_deeper cX9_deeper 1 (some .int) :: wsL_law) rm_X9_deeper (va_Pc [.ref (A 0)] (Bx D ct G (csQ ct A x))) (Qro (some (.int r))) 0 0 (fun _ => False) := by
  refine Met.ofW (cc := cX9_deeper) (maxL := 1) (ret := (some .int)) (by decide) rfl ?_
  intro p e s m args below meth c s₁ B hml hv
  obtain ⟨rfl, hP, hK, hN, hX⟩ := hv
  have hts := atoms_spec (ws := .code yX9_deeper cX9_deeper 1 (some .int) :: wsL_law) B.pre
  rw [lg_entry_eq]
  exact b_X9_deeper A fu x B.exec B.bytes B.returns hml (findClass_of_methodNamed B.named) (fun w h => hts w (List.mem_cons_of_mem _ h)) B.notSynchronized hK hN hX hP hf   (lv_entry [.ref (A 0)] (n := 1) (Nat.le_of_ble_eq_true rfl))
theorem hd_X5_drift : yX5_drift.cls ≠ "java/lang/invoke/MethodHandle" ∧ yX5_drift.cls ≠ "java/lang/invoke/VarHandle" ∧ (parseMethodDescriptor yX5_drift.desc).map (fun d => d.parameters.length) = some 4 := by decide +kernel
theorem cw_X9_X5_drift {R : Room} {s : State} {args : Array Value} (ht : ∀ w ∈ wsL_law, w.before args s = true) (hN : ∀ w ∈ NW, va_Nw w s) (hR : rm_X5_drift.frames + 1 ≤ R.frames ∧ 8 + (8 + 11) + rm_X5_drift.locals ≤ R.locals) : va_CN R s args RX9 233 yX5_drift "QuotedRiver" cX5_drift 8 none ((.code yX5_drift cX5_drift 8 none) :: wsL_law) rm_X5_drift 0 0 4 ∧ (Cond.instanceMethod yX5_drift).before args s = true ∧ (Cond.selects RX5 yX5_drift yX5_drift).before args s = true := ⟨va_cnB 4 ht (GL wq_25_19) rfl rfl rfl (hN _ nm_90) (ht _ wq_2_11) hd_X5_drift hR, ht _ wq_25_17, ht _ wq_25_18⟩
def p_X9_putIn (fu : Nat) (x : Nat → Ob) (v1 : Int32) (v2 : Int32) : Option (Int32 × (Nat → Ob)) :=
  (p_X9_isReach fu x v1).bind fun r_2 => if r_2 = 0 then some ((0 : Int32), x) else (p_X9_isStep fu v2).bind fun r_9 => if r_9 = 0 then some ((0 : Int32), x) else (p_X5_drift fu (x 12) (x 5) (x 10) v1 v2).bind fun r_31 => some ((1 : Int32), (va_up x 12 r_31))
abbrev rm_X9_putIn : Room := { frames := 4, cells := 0, slots := 0, locals := 97 }
set_option maxHeartbeats 4000000 in
set_option maxRecDepth 100000 in
theorem b_X9_putIn {p : Program} {l : Launch} {e : Env} {s : State} {m : MethodId} {args : Array Value} {below : List Frame} {meth : Method} {c : Code} {ls : Array Slot} {D : va_G} {ct : Nat → ClassId} {G : GT} (A : Nat → Nat) (fu : Nat) (x : Nat → Ob) (v1 : Int32) (v2 : Int32) {r : Int32 × (Nat → Ob)} (hx : p.tables.exec = Jvm.exec) (hb : c.code = cX9_putIn) (hr : meth.sig.returnType = (some .boolean)) (hml : c.maxLocals = 3) (hown : s.vm.findClass RX9 = some m.cls) (htl : ∀ w ∈ wsL_law, w.before args s = true) (hlocks : meth.locks = false) (hK : va_K D vwCl (tyl ct) s) (hN : ∀ w ∈ NW, va_Nw w s) (hX : SX G s s.heap) (hP0 : va_P D vwCl (csQ ct A x) s.heap) (hf : p_X9_putIn fu x v1 v2 = some r) (hDx : ∀ x : Nat → Ob, va_D (GE G) (csQ ct A x))  (hl : lv_has ls 3 [(0, .ref (A 0)), (1, .int v1), (2, .int v2)]) : W p l e rm_X9_putIn s m args below meth c s.heap [] 0 0 (MQ below (Qwr (some (.int r.1)) (fun H => va_P D vwCl (csQ ct A r.2) H) (wA (csQ ct A x))) args s 0 0 (wA (csQ ct A x))) (F0 m 0 ls []) := by
  generalize hQQ : MQ below (Qwr (some (.int r.1)) (fun H => va_P D vwCl (csQ ct A r.2) H) (wA (csQ ct A x))) args s 0 0 (wA (csQ ct A x)) = QQ
  have hDW : ∀ x1 : Nat → Ob, va_D (wA (csQ ct A x)) (csQ ct A x1) := fun x1 => D_any (D_self (hDx x1)) (wA_Q x1 x)
  have hGE : ∀ q, wA (csQ ct A x) q → GE G q := wA_GE (hDx x)
  have hP := hP0
  have hS : va_S (wA (csQ ct A x)) s.heap s.heap [] := va_S.rf
  rw [p_X9_putIn] at hf
  refine lv_aload_n hx hb dX9_putIn_0 rfl (lv_at hl 0 rfl) ?_
  refine lv_iload_n hx hb dX9_putIn_1 rfl (lv_at hl 1 rfl) ?_
  obtain ⟨r_2, e_2, hf⟩ := ob_bind hf
  have hPX_2 : va_P D vwCl (csQ ct A x) s.heap := hP
  refine ro_call1 (va_runV (As := [.int v1]) (rest := []) ⟨hx, hb, hml, hown, htl⟩ (c_X9_isReach l D ct G A fu x v1 e_2) (cw_X9_X9_isReach htl ⟨Nat.le_of_ble_eq_true rfl, Nat.le_of_ble_eq_true rfl⟩) ⟨Bx_blind, va_recv hK hPX_2 (ci := 9) (q0 := 0) rfl rfl, Bx_pre hPX_2 hK hN (hX.stay hS hGE)⟩ rfl rfl hl.1 rfl (lv_room (Nat.le_of_ble_eq_true rfl)) dX9_putIn_2 ⟨Nat.zero_le _, Nat.zero_le _⟩) ?_
  refine lv_if_eq (tgt := 15) hx hb dX9_putIn_5 (by decide) (fun c_5 => ?_) (fun c_5 => ?_)
  · rw [if_pos c_5] at hf
    refine lv_iconst (v := 0) hx hb dX9_putIn_15 (by decide) ?_
    rw [← hQQ]
    cases hf
    exact rw_z hx hb hr hlocks (show narrow .boolean (.int 0) = .int 0 from rfl) hP hS dX9_putIn_16
  rw [if_neg c_5] at hf
  refine lv_iload_n hx hb dX9_putIn_8 rfl (lv_at hl 2 rfl) ?_
  obtain ⟨r_9, e_9, hf⟩ := ob_bind hf
  have hPX_9 : va_P D vwCl ([]) s.heap := P_nil
  refine ro_call1 (va_runS (As := [.int v2]) (rest := []) ⟨hx, hb, hml, hown, htl⟩ (c_X9_isStep l D ct G fu v2 e_9) (cw_X9_X9_isStep htl ⟨Nat.le_of_ble_eq_true rfl, Nat.le_of_ble_eq_true rfl⟩) ⟨Bx_blind, Bx_pre hPX_9 hK hN (hX.stay hS hGE)⟩ rfl rfl hl.1 rfl (lv_room (Nat.le_of_ble_eq_true rfl)) dX9_putIn_9 ⟨Nat.zero_le _, Nat.zero_le _⟩) ?_
  refine lv_if_ne (tgt := 17) hx hb dX9_putIn_12 (by decide) (fun c_12 => ?_) (fun c_12 => ?_)
  rotate_left 1
  · rw [if_pos c_12] at hf
    refine lv_iconst (v := 0) hx hb dX9_putIn_15 (by decide) ?_
    rw [← hQQ]
    cases hf
    exact rw_z hx hb hr hlocks (show narrow .boolean (.int 0) = .int 0 from rfl) hP hS dX9_putIn_16
  rw [if_neg c_12] at hf
  refine lv_aload_n hx hb dX9_putIn_17 rfl (lv_at hl 0 rfl) ?_
  refine va_get (D := D) (ci := 9) (v := .ref (A 93)) (C := RX9) (T := TX9) (N := 14) hx hb htl inlX9 hown hK hP 0 qh_0 rfl 8 (by decide) (htl _ wq_2_12) (fun _ h9 => h9) rfl dX9_putIn_18 ?_
  refine lv_aload_n hx hb dX9_putIn_21 rfl (lv_at hl 0 rfl) ?_
  refine va_get (D := D) (ci := 9) (v := .ref (A 21)) (C := RX9) (T := TX9) (N := 14) hx hb htl inlX9 hown hK hP 0 qh_0 rfl 2 (by decide) (htl _ wq_2_0) (fun _ h9 => h9) rfl dX9_putIn_22 ?_
  refine lv_aload_n hx hb dX9_putIn_25 rfl (lv_at hl 0 rfl) ?_
  refine va_get (D := D) (ci := 9) (v := .ref (A 87)) (C := RX9) (T := TX9) (N := 14) hx hb htl inlX9 hown hK hP 0 qh_0 rfl 6 (by decide) (htl _ wq_2_7) (fun _ h9 => h9) rfl dX9_putIn_26 ?_
  refine lv_iload_n hx hb dX9_putIn_29 rfl (lv_at hl 1 rfl) ?_
  refine lv_iload_n hx hb dX9_putIn_30 rfl (lv_at hl 2 rfl) ?_
  obtain ⟨r_31, e_31, hf⟩ := ob_bind hf
  have hPX_31 : va_P D vwCl (cs5 ct (fun i => A (93 + i)) (x 12) ++ (cs2 ct (fun i => A (21 + i)) (x 5) ++ (cs8 ct (fun i => A (87 + i)) (x 10)))) s.heap := (va_P.app (qs_12 hP) (va_P.app (qs_5 hP) (qs_10 hP)))
  refine wr_call0 (va_runVN (As := [.ref (A 21), .ref (A 87), .int v1, .int v2]) (rest := []) ⟨hx, hb, hml, hown, htl⟩ (c_X5_drift l D ct G (fun i => A (93 + i)) (fun i => A (21 + i)) (fun i => A (87 + i)) fu (x 12) (x 5) (x 10) v1 v2 e_31 ((hDx x).sub (ws' := cs5 ct (fun i => A (93 + i)) (x 12) ++ (cs2 ct (fun i => A (21 + i)) (x 5) ++ (cs8 ct (fun i => A (87 + i)) (x 10)))) [93, 94, 21, 22, 23, 24, 25, 26, 27, 28, 29, 30, 31, 32, 33, 87, 88, 89] (by decide) rfl)) (cw_X9_X5_drift htl hN ⟨Nat.le_of_ble_eq_true rfl, Nat.le_of_ble_eq_true rfl⟩) ⟨Bx_blind, va_recv hK hPX_31 (ci := 5) (q0 := 0) rfl rfl, Bx_pre hPX_31 hK hN (hX.stay hS hGE)⟩ rfl rfl hl.1 rfl (lv_room (Nat.le_of_ble_eq_true rfl)) dX9_putIn_31 ⟨Nat.zero_le _, Nat.zero_le _⟩) hS qa_12 (fun H_31 locs_31 hB_31 _ hk_31 hS => ?_)
  have hP : va_P D vwCl (csQ ct A (va_up x 12 r_31)) H_31 := qj_12 hP (hDW x) hk_31 hB_31
  refine lv_iconst (v := 1) hx hb dX9_putIn_34 (by decide) ?_
  rw [← hQQ]
  cases hf
  exact rw_z hx hb hr hlocks (show narrow .boolean (.int 1) = .int 1 from rfl) hP hS dX9_putIn_35
theorem c_X9_putIn (l : Launch) (D : va_G) (ct : Nat → ClassId) (G : GT) (A : Nat → Nat) (fu : Nat) (x : Nat → Ob) (v1 : Int32) (v2 : Int32) {r : Int32 × (Nat → Ob)} (hf : p_X9_putIn fu x v1 v2 = some r)  (hDx : ∀ x : Nat → Ob, va_D (GE G) (csQ ct A x)) : Met l yX9_putIn (.code yX9_putIn cX9_putIn 3 (some .boolean) :: wsL_law) rm_X9_putIn (va_Pc [.ref (A 0), .int v1, .int v2] (Bx D ct G (csQ ct A x))) (Qwr (some (.int r.1)) (fun H => va_P D vwCl (csQ ct A r.2) H) (wA (csQ ct A x))) 0 0 (wA (csQ ct A x)) := by
  refine Met.ofW (cc := cX9_putIn) (maxL := 3) (ret := (some .boolean)) (by decide) rfl ?_
  intro p e s m args below meth c s₁ B hml hv
  obtain ⟨rfl, hP, hK, hN, hX⟩ := hv
  have hts := atoms_spec (ws := .code yX9_putIn cX9_putIn 3 (some .boolean) :: wsL_law) B.pre
  rw [lg_entry_eq]
  exact b_X9_putIn A fu x v1 v2 B.exec B.bytes B.returns hml (findClass_of_methodNamed B.named) (fun w h => hts w (List.mem_cons_of_mem _ h)) B.notSynchronized hK hN hX hP hf hDx  (lv_entry [.ref (A 0), .int v1, .int v2] (n := 3) (Nat.le_of_ble_eq_true rfl))
theorem hd_X9_putIn : yX9_putIn.cls ≠ "java/lang/invoke/MethodHandle" ∧ yX9_putIn.cls ≠ "java/lang/invoke/VarHandle" ∧ (parseMethodDescriptor yX9_putIn.desc).map (fun d => d.parameters.length) = some 2 := by decide +kernel
theorem cw_X9_X9_putIn {R : Room} {s : State} {args : Array Value} (ht : ∀ w ∈ wsL_law, w.before args s = true) (hR : rm_X9_putIn.frames + 1 ≤ R.frames ∧ 8 + (3 + 11) + rm_X9_putIn.locals ≤ R.locals) : CallW R s args RX9 RX9 197 yX9_putIn cX9_putIn 3 (some .boolean) ((.code yX9_putIn cX9_putIn 3 (some .boolean)) :: wsL_law) rm_X9_putIn 0 0 2 := cwV 2 ht (GV wq_25_13 wq_25_14 wq_25_15 wq_1_2 wq_25_16) rfl rfl rfl ⟨rfl, hd_X9_putIn⟩ hR
theorem cw_X9_X5_spotAt {R : Room} {s : State} {args : Array Value} (ht : ∀ w ∈ wsL_law, w.before args s = true) (hN : ∀ w ∈ NW, va_Nw w s) (hR : rm_X5_spotAt.frames + 1 ≤ R.frames ∧ 8 + (2 + 11) + rm_X5_spotAt.locals ≤ R.locals) : va_CN R s args RX9 200 yX5_spotAt "QuotedRiver" cX5_spotAt 2 (some .int) ((.code yX5_spotAt cX5_spotAt 2 (some .int)) :: wsL_law) rm_X5_spotAt 0 0 1 ∧ (Cond.instanceMethod yX5_spotAt).before args s = true ∧ (Cond.selects RX5 yX5_spotAt yX5_spotAt).before args s = true := ⟨va_cnB 1 ht (GL wq_26_13) rfl rfl rfl (hN _ nm_88) (ht _ wq_2_11) hd_X5_spotAt hR, ht _ wq_26_11, ht _ wq_26_12⟩
def p_X9_where (fu : Nat) (x : Nat → Ob) (v1 : Int32) (v2 : Int32) (v3 : Int32) : Option (Int32 × (Nat → Ob)) :=
  (p_X9_isStep fu v3).bind fun r_1 => if r_1 = 0 then some (((-2) : Int32), x) else if v3 < v2 then some (((-2) : Int32), x) else (p_X9_putIn fu x v1 v2).bind fun r_15 => if r_15.1 = 0 then some (((-2) : Int32), r_15.2) else (p_X5_spotAt fu (r_15.2 12) v3).bind fun r_29 => some (r_29, r_15.2)
abbrev rm_X9_where : Room := { frames := 5, cells := 0, slots := 0, locals := 119 }
set_option maxHeartbeats 4000000 in
set_option maxRecDepth 100000 in
theorem b_X9_where {p : Program} {l : Launch} {e : Env} {s : State} {m : MethodId} {args : Array Value} {below : List Frame} {meth : Method} {c : Code} {ls : Array Slot} {D : va_G} {ct : Nat → ClassId} {G : GT} (A : Nat → Nat) (fu : Nat) (x : Nat → Ob) (v1 : Int32) (v2 : Int32) (v3 : Int32) {r : Int32 × (Nat → Ob)} (hx : p.tables.exec = Jvm.exec) (hb : c.code = cX9_where) (hr : meth.sig.returnType = (some .int)) (hml : c.maxLocals = 4) (hown : s.vm.findClass RX9 = some m.cls) (htl : ∀ w ∈ wsL_law, w.before args s = true) (hlocks : meth.locks = false) (hK : va_K D vwCl (tyl ct) s) (hN : ∀ w ∈ NW, va_Nw w s) (hX : SX G s s.heap) (hP0 : va_P D vwCl (csQ ct A x) s.heap) (hf : p_X9_where fu x v1 v2 v3 = some r) (hDx : ∀ x : Nat → Ob, va_D (GE G) (csQ ct A x))  (hl : lv_has ls 4 [(0, .ref (A 0)), (1, .int v1), (2, .int v2), (3, .int v3)]) : W p l e rm_X9_where s m args below meth c s.heap [] 0 0 (MQ below (Qwr (some (.int r.1)) (fun H => va_P D vwCl (csQ ct A r.2) H) (wA (csQ ct A x))) args s 0 0 (wA (csQ ct A x))) (F0 m 0 ls []) := by
  generalize hQQ : MQ below (Qwr (some (.int r.1)) (fun H => va_P D vwCl (csQ ct A r.2) H) (wA (csQ ct A x))) args s 0 0 (wA (csQ ct A x)) = QQ
  have hDW : ∀ x1 : Nat → Ob, va_D (wA (csQ ct A x)) (csQ ct A x1) := fun x1 => D_any (D_self (hDx x1)) (wA_Q x1 x)
  have hGE : ∀ q, wA (csQ ct A x) q → GE G q := wA_GE (hDx x)
  have hP := hP0
  have hS : va_S (wA (csQ ct A x)) s.heap s.heap [] := va_S.rf
  rw [p_X9_where] at hf
  refine lv_iload_n hx hb dX9_where_0 rfl (lv_at hl 3 rfl) ?_
  obtain ⟨r_1, e_1, hf⟩ := ob_bind hf
  have hPX_1 : va_P D vwCl ([]) s.heap := P_nil
  refine ro_call1 (va_runS (As := [.int v3]) (rest := []) ⟨hx, hb, hml, hown, htl⟩ (c_X9_isStep l D ct G fu v3 e_1) (cw_X9_X9_isStep htl ⟨Nat.le_of_ble_eq_true rfl, Nat.le_of_ble_eq_true rfl⟩) ⟨Bx_blind, Bx_pre hPX_1 hK hN (hX.stay hS hGE)⟩ rfl rfl hl.1 rfl (lv_room (Nat.le_of_ble_eq_true rfl)) dX9_where_1 ⟨Nat.zero_le _, Nat.zero_le _⟩) ?_
  refine lv_if_eq (tgt := 21) hx hb dX9_where_4 (by decide) (fun c_4 => ?_) (fun c_4 => ?_)
  · rw [if_pos c_4] at hf
    refine lv_bipush (v := (-2)) hx hb dX9_where_21 (by decide) ?_
    rw [← hQQ]
    cases hf
    exact rw_i hx hb hr hlocks hP hS dX9_where_23
  rw [if_neg c_4] at hf
  refine lv_iload_n hx hb dX9_where_7 rfl (lv_at hl 3 rfl) ?_
  refine lv_iload_n hx hb dX9_where_8 rfl (lv_at hl 2 rfl) ?_
  refine lv_icmp_lt (tgt := 21) hx hb dX9_where_9 (by decide) (fun c_9 => ?_) (fun c_9 => ?_)
  · rw [if_pos c_9] at hf
    refine lv_bipush (v := (-2)) hx hb dX9_where_21 (by decide) ?_
    rw [← hQQ]
    cases hf
    exact rw_i hx hb hr hlocks hP hS dX9_where_23
  rw [if_neg c_9] at hf
  refine lv_aload_n hx hb dX9_where_12 rfl (lv_at hl 0 rfl) ?_
  refine lv_iload_n hx hb dX9_where_13 rfl (lv_at hl 1 rfl) ?_
  refine lv_iload_n hx hb dX9_where_14 rfl (lv_at hl 2 rfl) ?_
  obtain ⟨r_15, e_15, hf⟩ := ob_bind hf
  have hPX_15 : va_P D vwCl (csQ ct A x) s.heap := hP
  refine wr_call1 (va_runV (As := [.int v1, .int v2]) (rest := []) ⟨hx, hb, hml, hown, htl⟩ (c_X9_putIn l D ct G A fu x v1 v2 e_15 hDx) (cw_X9_X9_putIn htl ⟨Nat.le_of_ble_eq_true rfl, Nat.le_of_ble_eq_true rfl⟩) ⟨Bx_blind, va_recv hK hPX_15 (ci := 9) (q0 := 0) rfl rfl, Bx_pre hPX_15 hK hN (hX.stay hS hGE)⟩ rfl rfl hl.1 rfl (lv_room (Nat.le_of_ble_eq_true rfl)) dX9_where_15 ⟨Nat.zero_le _, Nat.zero_le _⟩) hS (wA_Q _ _) (fun H_15 locs_15 hB_15 _ hk_15 hS => ?_)
  have hP : va_P D vwCl (csQ ct A r_15.2) H_15 := hB_15
  refine lv_if_ne (tgt := 24) hx hb dX9_where_18 (by decide) (fun c_18 => ?_) (fun c_18 => ?_)
  rotate_left 1
  · rw [if_pos c_18] at hf
    refine lv_bipush (v := (-2)) hx hb dX9_where_21 (by decide) ?_
    rw [← hQQ]
    cases hf
    exact rw_i hx hb hr hlocks hP hS dX9_where_23
  rw [if_neg c_18] at hf
  refine lv_aload_n hx hb dX9_where_24 rfl (lv_at hl 0 rfl) ?_
  refine va_get (D := D) (ci := 9) (v := .ref (A 93)) (C := RX9) (T := TX9) (N := 14) hx hb htl inlX9 hown hK hP 0 qh_0 rfl 8 (by decide) (htl _ wq_2_12) (fun _ h9 => h9) rfl dX9_where_25 ?_
  refine lv_iload_n hx hb dX9_where_28 rfl (lv_at hl 3 rfl) ?_
  obtain ⟨r_29, e_29, hf⟩ := ob_bind hf
  have hPX_29 : va_P D vwCl (cs5 ct (fun i => A (93 + i)) (r_15.2 12)) H_15 := (qs_12 hP)
  refine ro_call1 (va_runVN (As := [.int v3]) (rest := []) ⟨hx, hb, hml, hown, htl⟩ (c_X5_spotAt l D ct G (fun i => A (93 + i)) fu (r_15.2 12) v3 e_29) (cw_X9_X5_spotAt htl hN ⟨Nat.le_of_ble_eq_true rfl, Nat.le_of_ble_eq_true rfl⟩) ⟨Bx_blind, va_recv hK hPX_29 (ci := 5) (q0 := 0) rfl rfl, Bx_pre hPX_29 hK hN (hX.stay hS hGE)⟩ rfl rfl hl.1 rfl (lv_room (Nat.le_of_ble_eq_true rfl)) dX9_where_29 ⟨Nat.zero_le _, Nat.zero_le _⟩) ?_
  rw [← hQQ]
  cases hf
  exact rw_i hx hb hr hlocks hP hS dX9_where_32
theorem c_X9_where (l : Launch) (D : va_G) (ct : Nat → ClassId) (G : GT) (A : Nat → Nat) (fu : Nat) (x : Nat → Ob) (v1 : Int32) (v2 : Int32) (v3 : Int32) {r : Int32 × (Nat → Ob)} (hf : p_X9_where fu x v1 v2 v3 = some r)  (hDx : ∀ x : Nat → Ob, va_D (GE G) (csQ ct A x)) : Met l yX9_where (.code yX9_where cX9_where 4 (some .int) :: wsL_law) rm_X9_where (va_Pc [.ref (A 0), .int v1, .int v2, .int v3] (Bx D ct G (csQ ct A x))) (Qwr (some (.int r.1)) (fun H => va_P D vwCl (csQ ct A r.2) H) (wA (csQ ct A x))) 0 0 (wA (csQ ct A x)) := by
  refine Met.ofW (cc := cX9_where) (maxL := 4) (ret := (some .int)) (by decide) rfl ?_
  intro p e s m args below meth c s₁ B hml hv
  obtain ⟨rfl, hP, hK, hN, hX⟩ := hv
  have hts := atoms_spec (ws := .code yX9_where cX9_where 4 (some .int) :: wsL_law) B.pre
  rw [lg_entry_eq]
  exact b_X9_where A fu x v1 v2 v3 B.exec B.bytes B.returns hml (findClass_of_methodNamed B.named) (fun w h => hts w (List.mem_cons_of_mem _ h)) B.notSynchronized hK hN hX hP hf hDx  (lv_entry [.ref (A 0), .int v1, .int v2, .int v3] (n := 4) (Nat.le_of_ble_eq_true rfl))
def p_X9_sea (fu : Nat) (x : Nat → Ob) (v1 : Int32) (v2 : Int32) : Option (Int32 × (Nat → Ob)) :=
  (p_X9_putIn fu x v1 v2).bind fun r_3 => if r_3.1 = 0 then some (((-2) : Int32), r_3.2) else some (((r_3.2 12).1 4 0), r_3.2)
abbrev rm_X9_sea : Room := { frames := 5, cells := 0, slots := 0, locals := 119 }
set_option maxHeartbeats 4000000 in
set_option maxRecDepth 100000 in
theorem b_X9_sea {p : Program} {l : Launch} {e : Env} {s : State} {m : MethodId} {args : Array Value} {below : List Frame} {meth : Method} {c : Code} {ls : Array Slot} {D : va_G} {ct : Nat → ClassId} {G : GT} (A : Nat → Nat) (fu : Nat) (x : Nat → Ob) (v1 : Int32) (v2 : Int32) {r : Int32 × (Nat → Ob)} (hx : p.tables.exec = Jvm.exec) (hb : c.code = cX9_sea) (hr : meth.sig.returnType = (some .int)) (hml : c.maxLocals = 3) (hown : s.vm.findClass RX9 = some m.cls) (htl : ∀ w ∈ wsL_law, w.before args s = true) (hlocks : meth.locks = false) (hK : va_K D vwCl (tyl ct) s) (hN : ∀ w ∈ NW, va_Nw w s) (hX : SX G s s.heap) (hP0 : va_P D vwCl (csQ ct A x) s.heap) (hf : p_X9_sea fu x v1 v2 = some r) (hDx : ∀ x : Nat → Ob, va_D (GE G) (csQ ct A x))  (hl : lv_has ls 3 [(0, .ref (A 0)), (1, .int v1), (2, .int v2)]) : W p l e rm_X9_sea s m args below meth c s.heap [] 0 0 (MQ below (Qwr (some (.int r.1)) (fun H => va_P D vwCl (csQ ct A r.2) H) (wA (csQ ct A x))) args s 0 0 (wA (csQ ct A x))) (F0 m 0 ls []) := by
  generalize hQQ : MQ below (Qwr (some (.int r.1)) (fun H => va_P D vwCl (csQ ct A r.2) H) (wA (csQ ct A x))) args s 0 0 (wA (csQ ct A x)) = QQ
  have hDW : ∀ x1 : Nat → Ob, va_D (wA (csQ ct A x)) (csQ ct A x1) := fun x1 => D_any (D_self (hDx x1)) (wA_Q x1 x)
  have hGE : ∀ q, wA (csQ ct A x) q → GE G q := wA_GE (hDx x)
  have hP := hP0
  have hS : va_S (wA (csQ ct A x)) s.heap s.heap [] := va_S.rf
  rw [p_X9_sea] at hf
  refine lv_aload_n hx hb dX9_sea_0 rfl (lv_at hl 0 rfl) ?_
  refine lv_iload_n hx hb dX9_sea_1 rfl (lv_at hl 1 rfl) ?_
  refine lv_iload_n hx hb dX9_sea_2 rfl (lv_at hl 2 rfl) ?_
  obtain ⟨r_3, e_3, hf⟩ := ob_bind hf
  have hPX_3 : va_P D vwCl (csQ ct A x) s.heap := hP
  refine wr_call1 (va_runV (As := [.int v1, .int v2]) (rest := []) ⟨hx, hb, hml, hown, htl⟩ (c_X9_putIn l D ct G A fu x v1 v2 e_3 hDx) (cw_X9_X9_putIn htl ⟨Nat.le_of_ble_eq_true rfl, Nat.le_of_ble_eq_true rfl⟩) ⟨Bx_blind, va_recv hK hPX_3 (ci := 9) (q0 := 0) rfl rfl, Bx_pre hPX_3 hK hN (hX.stay hS hGE)⟩ rfl rfl hl.1 rfl (lv_room (Nat.le_of_ble_eq_true rfl)) dX9_sea_3 ⟨Nat.zero_le _, Nat.zero_le _⟩) hS (wA_Q _ _) (fun H_3 locs_3 hB_3 _ hk_3 hS => ?_)
  have hP : va_P D vwCl (csQ ct A r_3.2) H_3 := hB_3
  refine lv_if_eq (tgt := 19) hx hb dX9_sea_6 (by decide) (fun c_6 => ?_) (fun c_6 => ?_)
  · rw [if_pos c_6] at hf
    refine lv_bipush (v := (-2)) hx hb dX9_sea_19 (by decide) ?_
    rw [← hQQ]
    cases hf
    exact rw_i hx hb hr hlocks hP hS dX9_sea_21
  rw [if_neg c_6] at hf
  refine lv_aload_n hx hb dX9_sea_9 rfl (lv_at hl 0 rfl) ?_
  refine va_get (D := D) (ci := 9) (v := .ref (A 93)) (C := RX9) (T := TX9) (N := 14) hx hb htl inlX9 hown hK hP 0 qh_0 rfl 8 (by decide) (htl _ wq_2_12) (fun _ h9 => h9) rfl dX9_sea_10 ?_
  refine va_getN (D := D) (ci := 5) (v := .int ((r_3.2 12).1 4 0)) (C := RX5) (T := TX5) (N := 9) hx hb htl inlX5 hown hK hP 93 qh_12 rfl 4 (by decide) (va_Nw.use rfl (hN _ nm_15)) (fun _ h9 => h9) rfl dX9_sea_13 ?_
  refine lv_goto (tgt := 21) hx hb dX9_sea_16 (by decide) ?_
  rw [← hQQ]
  cases hf
  exact rw_i hx hb hr hlocks hP hS dX9_sea_21
theorem c_X9_sea (l : Launch) (D : va_G) (ct : Nat → ClassId) (G : GT) (A : Nat → Nat) (fu : Nat) (x : Nat → Ob) (v1 : Int32) (v2 : Int32) {r : Int32 × (Nat → Ob)} (hf : p_X9_sea fu x v1 v2 = some r)  (hDx : ∀ x : Nat → Ob, va_D (GE G) (csQ ct A x)) : Met l yX9_sea (.code yX9_sea cX9_sea 3 (some .int) :: wsL_law) rm_X9_sea (va_Pc [.ref (A 0), .int v1, .int v2] (Bx D ct G (csQ ct A x))) (Qwr (some (.int r.1)) (fun H => va_P D vwCl (csQ ct A r.2) H) (wA (csQ ct A x))) 0 0 (wA (csQ ct A x)) := by
  refine Met.ofW (cc := cX9_sea) (maxL := 3) (ret := (some .int)) (by decide) rfl ?_
  intro p e s m args below meth c s₁ B hml hv
  obtain ⟨rfl, hP, hK, hN, hX⟩ := hv
  have hts := atoms_spec (ws := .code yX9_sea cX9_sea 3 (some .int) :: wsL_law) B.pre
  rw [lg_entry_eq]
  exact b_X9_sea A fu x v1 v2 B.exec B.bytes B.returns hml (findClass_of_methodNamed B.named) (fun w h => hts w (List.mem_cons_of_mem _ h)) B.notSynchronized hK hN hX hP hf hDx  (lv_entry [.ref (A 0), .int v1, .int v2] (n := 3) (Nat.le_of_ble_eq_true rfl))
theorem hd_X5_firstIn : yX5_firstIn.cls ≠ "java/lang/invoke/MethodHandle" ∧ yX5_firstIn.cls ≠ "java/lang/invoke/VarHandle" ∧ (parseMethodDescriptor yX5_firstIn.desc).map (fun d => d.parameters.length) = some 1 := by decide +kernel
theorem cw_X9_X5_firstIn {R : Room} {s : State} {args : Array Value} (ht : ∀ w ∈ wsL_law, w.before args s = true) (hN : ∀ w ∈ NW, va_Nw w s) (hR : rm_X5_firstIn.frames + 1 ≤ R.frames ∧ 8 + (3 + 11) + rm_X5_firstIn.locals ≤ R.locals) : va_CN R s args RX9 206 yX5_firstIn "QuotedRiver" cX5_firstIn 3 (some .int) ((.code yX5_firstIn cX5_firstIn 3 (some .int)) :: wsL_law) rm_X5_firstIn 0 0 1 ∧ (Cond.instanceMethod yX5_firstIn).before args s = true ∧ (Cond.selects RX5 yX5_firstIn yX5_firstIn).before args s = true := ⟨va_cnB 1 ht (GL wq_28_3) rfl rfl rfl (hN _ nm_89) (ht _ wq_2_11) hd_X5_firstIn hR, ht _ wq_28_1, ht _ wq_28_2⟩
def p_X9_comes (fu : Nat) (x : Nat → Ob) (v1 : Int32) (v2 : Int32) (v3 : Int32) : Option (Int32 × (Nat → Ob)) :=
  (p_X9_isReach fu x v3).bind fun r_2 => if r_2 = 0 then some (((-2) : Int32), x) else (p_X9_putIn fu x v1 v2).bind fun r_11 => if r_11.1 = 0 then some (((-2) : Int32), r_11.2) else (p_X5_firstIn fu (r_11.2 12) v3).bind fun r_25 => some (r_25, r_11.2)
abbrev rm_X9_comes : Room := { frames := 5, cells := 0, slots := 0, locals := 119 }
set_option maxHeartbeats 4000000 in
set_option maxRecDepth 100000 in
theorem b_X9_comes {p : Program} {l : Launch} {e : Env} {s : State} {m : MethodId} {args : Array Value} {below : List Frame} {meth : Method} {c : Code} {ls : Array Slot} {D : va_G} {ct : Nat → ClassId} {G : GT} (A : Nat → Nat) (fu : Nat) (x : Nat → Ob) (v1 : Int32) (v2 : Int32) (v3 : Int32) {r : Int32 × (Nat → Ob)} (hx : p.tables.exec = Jvm.exec) (hb : c.code = cX9_comes) (hr : meth.sig.returnType = (some .int)) (hml : c.maxLocals = 4) (hown : s.vm.findClass RX9 = some m.cls) (htl : ∀ w ∈ wsL_law, w.before args s = true) (hlocks : meth.locks = false) (hK : va_K D vwCl (tyl ct) s) (hN : ∀ w ∈ NW, va_Nw w s) (hX : SX G s s.heap) (hP0 : va_P D vwCl (csQ ct A x) s.heap) (hf : p_X9_comes fu x v1 v2 v3 = some r) (hDx : ∀ x : Nat → Ob, va_D (GE G) (csQ ct A x))  (hl : lv_has ls 4 [(0, .ref (A 0)), (1, .int v1), (2, .int v2), (3, .int v3)]) : W p l e rm_X9_comes s m args below meth c s.heap [] 0 0 (MQ below (Qwr (some (.int r.1)) (fun H => va_P D vwCl (csQ ct A r.2) H) (wA (csQ ct A x))) args s 0 0 (wA (csQ ct A x))) (F0 m 0 ls []) := by
  generalize hQQ : MQ below (Qwr (some (.int r.1)) (fun H => va_P D vwCl (csQ ct A r.2) H) (wA (csQ ct A x))) args s 0 0 (wA (csQ ct A x)) = QQ
  have hDW : ∀ x1 : Nat → Ob, va_D (wA (csQ ct A x)) (csQ ct A x1) := fun x1 => D_any (D_self (hDx x1)) (wA_Q x1 x)
  have hGE : ∀ q, wA (csQ ct A x) q → GE G q := wA_GE (hDx x)
  have hP := hP0
  have hS : va_S (wA (csQ ct A x)) s.heap s.heap [] := va_S.rf
  rw [p_X9_comes] at hf
  refine lv_aload_n hx hb dX9_comes_0 rfl (lv_at hl 0 rfl) ?_
  refine lv_iload_n hx hb dX9_comes_1 rfl (lv_at hl 3 rfl) ?_
  obtain ⟨r_2, e_2, hf⟩ := ob_bind hf
  have hPX_2 : va_P D vwCl (csQ ct A x) s.heap := hP
  refine ro_call1 (va_runV (As := [.int v3]) (rest := []) ⟨hx, hb, hml, hown, htl⟩ (c_X9_isReach l D ct G A fu x v3 e_2) (cw_X9_X9_isReach htl ⟨Nat.le_of_ble_eq_true rfl, Nat.le_of_ble_eq_true rfl⟩) ⟨Bx_blind, va_recv hK hPX_2 (ci := 9) (q0 := 0) rfl rfl, Bx_pre hPX_2 hK hN (hX.stay hS hGE)⟩ rfl rfl hl.1 rfl (lv_room (Nat.le_of_ble_eq_true rfl)) dX9_comes_2 ⟨Nat.zero_le _, Nat.zero_le _⟩) ?_
  refine lv_if_eq (tgt := 17) hx hb dX9_comes_5 (by decide) (fun c_5 => ?_) (fun c_5 => ?_)
  · rw [if_pos c_5] at hf
    refine lv_bipush (v := (-2)) hx hb dX9_comes_17 (by decide) ?_
    rw [← hQQ]
    cases hf
    exact rw_i hx hb hr hlocks hP hS dX9_comes_19
  rw [if_neg c_5] at hf
  refine lv_aload_n hx hb dX9_comes_8 rfl (lv_at hl 0 rfl) ?_
  refine lv_iload_n hx hb dX9_comes_9 rfl (lv_at hl 1 rfl) ?_
  refine lv_iload_n hx hb dX9_comes_10 rfl (lv_at hl 2 rfl) ?_
  obtain ⟨r_11, e_11, hf⟩ := ob_bind hf
  have hPX_11 : va_P D vwCl (csQ ct A x) s.heap := hP
  refine wr_call1 (va_runV (As := [.int v1, .int v2]) (rest := []) ⟨hx, hb, hml, hown, htl⟩ (c_X9_putIn l D ct G A fu x v1 v2 e_11 hDx) (cw_X9_X9_putIn htl ⟨Nat.le_of_ble_eq_true rfl, Nat.le_of_ble_eq_true rfl⟩) ⟨Bx_blind, va_recv hK hPX_11 (ci := 9) (q0 := 0) rfl rfl, Bx_pre hPX_11 hK hN (hX.stay hS hGE)⟩ rfl rfl hl.1 rfl (lv_room (Nat.le_of_ble_eq_true rfl)) dX9_comes_11 ⟨Nat.zero_le _, Nat.zero_le _⟩) hS (wA_Q _ _) (fun H_11 locs_11 hB_11 _ hk_11 hS => ?_)
  have hP : va_P D vwCl (csQ ct A r_11.2) H_11 := hB_11
  refine lv_if_ne (tgt := 20) hx hb dX9_comes_14 (by decide) (fun c_14 => ?_) (fun c_14 => ?_)
  rotate_left 1
  · rw [if_pos c_14] at hf
    refine lv_bipush (v := (-2)) hx hb dX9_comes_17 (by decide) ?_
    rw [← hQQ]
    cases hf
    exact rw_i hx hb hr hlocks hP hS dX9_comes_19
  rw [if_neg c_14] at hf
  refine lv_aload_n hx hb dX9_comes_20 rfl (lv_at hl 0 rfl) ?_
  refine va_get (D := D) (ci := 9) (v := .ref (A 93)) (C := RX9) (T := TX9) (N := 14) hx hb htl inlX9 hown hK hP 0 qh_0 rfl 8 (by decide) (htl _ wq_2_12) (fun _ h9 => h9) rfl dX9_comes_21 ?_
  refine lv_iload_n hx hb dX9_comes_24 rfl (lv_at hl 3 rfl) ?_
  obtain ⟨r_25, e_25, hf⟩ := ob_bind hf
  have hPX_25 : va_P D vwCl (cs5 ct (fun i => A (93 + i)) (r_11.2 12)) H_11 := (qs_12 hP)
  refine ro_call1 (va_runVN (As := [.int v3]) (rest := []) ⟨hx, hb, hml, hown, htl⟩ (c_X5_firstIn l D ct G (fun i => A (93 + i)) fu (r_11.2 12) v3 e_25) (cw_X9_X5_firstIn htl hN ⟨Nat.le_of_ble_eq_true rfl, Nat.le_of_ble_eq_true rfl⟩) ⟨Bx_blind, va_recv hK hPX_25 (ci := 5) (q0 := 0) rfl rfl, Bx_pre hPX_25 hK hN (hX.stay hS hGE)⟩ rfl rfl hl.1 rfl (lv_room (Nat.le_of_ble_eq_true rfl)) dX9_comes_25 ⟨Nat.zero_le _, Nat.zero_le _⟩) ?_
  rw [← hQQ]
  cases hf
  exact rw_i hx hb hr hlocks hP hS dX9_comes_28
theorem c_X9_comes (l : Launch) (D : va_G) (ct : Nat → ClassId) (G : GT) (A : Nat → Nat) (fu : Nat) (x : Nat → Ob) (v1 : Int32) (v2 : Int32) (v3 : Int32) {r : Int32 × (Nat → Ob)} (hf : p_X9_comes fu x v1 v2 v3 = some r)  (hDx : ∀ x : Nat → Ob, va_D (GE G) (csQ ct A x)) : Met l yX9_comes (.code yX9_comes cX9_comes 4 (some .int) :: wsL_law) rm_X9_comes (va_Pc [.ref (A 0), .int v1, .int v2, .int v3] (Bx D ct G (csQ ct A x))) (Qwr (some (.int r.1)) (fun H => va_P D vwCl (csQ ct A r.2) H) (wA (csQ ct A x))) 0 0 (wA (csQ ct A x)) := by
  refine Met.ofW (cc := cX9_comes) (maxL := 4) (ret := (some .int)) (by decide) rfl ?_
  intro p e s m args below meth c s₁ B hml hv
  obtain ⟨rfl, hP, hK, hN, hX⟩ := hv
  have hts := atoms_spec (ws := .code yX9_comes cX9_comes 4 (some .int) :: wsL_law) B.pre
  rw [lg_entry_eq]
  exact b_X9_comes A fu x v1 v2 v3 B.exec B.bytes B.returns hml (findClass_of_methodNamed B.named) (fun w h => hts w (List.mem_cons_of_mem _ h)) B.notSynchronized hK hN hX hP hf hDx  (lv_entry [.ref (A 0), .int v1, .int v2, .int v3] (n := 4) (Nat.le_of_ble_eq_true rfl))
def p_X9_way (fu : Nat) (x : Nat → Ob) (v1 : Int32) (v2 : Int32) : Option (Int32 × (Nat → Ob)) :=
  (p_X9_putIn fu x v1 v2).bind fun r_3 => if r_3.1 = 0 then some (((-2) : Int32), r_3.2) else some (((r_3.2 12).1 1 0), r_3.2)
abbrev rm_X9_way : Room := { frames := 5, cells := 0, slots := 0, locals := 119 }
set_option maxHeartbeats 4000000 in
set_option maxRecDepth 100000 in
theorem b_X9_way {p : Program} {l : Launch} {e : Env} {s : State} {m : MethodId} {args : Array Value} {below : List Frame} {meth : Method} {c : Code} {ls : Array Slot} {D : va_G} {ct : Nat → ClassId} {G : GT} (A : Nat → Nat) (fu : Nat) (x : Nat → Ob) (v1 : Int32) (v2 : Int32) {r : Int32 × (Nat → Ob)} (hx : p.tables.exec = Jvm.exec) (hb : c.code = cX9_way) (hr : meth.sig.returnType = (some .int)) (hml : c.maxLocals = 3) (hown : s.vm.findClass RX9 = some m.cls) (htl : ∀ w ∈ wsL_law, w.before args s = true) (hlocks : meth.locks = false) (hK : va_K D vwCl (tyl ct) s) (hN : ∀ w ∈ NW, va_Nw w s) (hX : SX G s s.heap) (hP0 : va_P D vwCl (csQ ct A x) s.heap) (hf : p_X9_way fu x v1 v2 = some r) (hDx : ∀ x : Nat → Ob, va_D (GE G) (csQ ct A x))  (hl : lv_has ls 3 [(0, .ref (A 0)), (1, .int v1), (2, .int v2)]) : W p l e rm_X9_way s m args below meth c s.heap [] 0 0 (MQ below (Qwr (some (.int r.1)) (fun H => va_P D vwCl (csQ ct A r.2) H) (wA (csQ ct A x))) args s 0 0 (wA (csQ ct A x))) (F0 m 0 ls []) := by
  generalize hQQ : MQ below (Qwr (some (.int r.1)) (fun H => va_P D vwCl (csQ ct A r.2) H) (wA (csQ ct A x))) args s 0 0 (wA (csQ ct A x)) = QQ
  have hDW : ∀ x1 : Nat → Ob, va_D (wA (csQ ct A x)) (csQ ct A x1) := fun x1 => D_any (D_self (hDx x1)) (wA_Q x1 x)
  have hGE : ∀ q, wA (csQ ct A x) q → GE G q := wA_GE (hDx x)
  have hP := hP0
  have hS : va_S (wA (csQ ct A x)) s.heap s.heap [] := va_S.rf
  rw [p_X9_way] at hf
  refine lv_aload_n hx hb dX9_way_0 rfl (lv_at hl 0 rfl) ?_
  refine lv_iload_n hx hb dX9_way_1 rfl (lv_at hl 1 rfl) ?_
  refine lv_iload_n hx hb dX9_way_2 rfl (lv_at hl 2 rfl) ?_
  obtain ⟨r_3, e_3, hf⟩ := ob_bind hf
  have hPX_3 : va_P D vwCl (csQ ct A x) s.heap := hP
  refine wr_call1 (va_runV (As := [.int v1, .int v2]) (rest := []) ⟨hx, hb, hml, hown, htl⟩ (c_X9_putIn l D ct G A fu x v1 v2 e_3 hDx) (cw_X9_X9_putIn htl ⟨Nat.le_of_ble_eq_true rfl, Nat.le_of_ble_eq_true rfl⟩) ⟨Bx_blind, va_recv hK hPX_3 (ci := 9) (q0 := 0) rfl rfl, Bx_pre hPX_3 hK hN (hX.stay hS hGE)⟩ rfl rfl hl.1 rfl (lv_room (Nat.le_of_ble_eq_true rfl)) dX9_way_3 ⟨Nat.zero_le _, Nat.zero_le _⟩) hS (wA_Q _ _) (fun H_3 locs_3 hB_3 _ hk_3 hS => ?_)
  have hP : va_P D vwCl (csQ ct A r_3.2) H_3 := hB_3
  refine lv_if_eq (tgt := 19) hx hb dX9_way_6 (by decide) (fun c_6 => ?_) (fun c_6 => ?_)
  · rw [if_pos c_6] at hf
    refine lv_bipush (v := (-2)) hx hb dX9_way_19 (by decide) ?_
    rw [← hQQ]
    cases hf
    exact rw_i hx hb hr hlocks hP hS dX9_way_21
  rw [if_neg c_6] at hf
  refine lv_aload_n hx hb dX9_way_9 rfl (lv_at hl 0 rfl) ?_
  refine va_get (D := D) (ci := 9) (v := .ref (A 93)) (C := RX9) (T := TX9) (N := 14) hx hb htl inlX9 hown hK hP 0 qh_0 rfl 8 (by decide) (htl _ wq_2_12) (fun _ h9 => h9) rfl dX9_way_10 ?_
  refine va_getN (D := D) (ci := 5) (v := .int ((r_3.2 12).1 1 0)) (C := RX5) (T := TX5) (N := 9) hx hb htl inlX5 hown hK hP 93 qh_12 rfl 1 (by decide) (va_Nw.use rfl (hN _ nm_16)) (fun _ h9 => h9) rfl dX9_way_13 ?_
  refine lv_goto (tgt := 21) hx hb dX9_way_16 (by decide) ?_
  rw [← hQQ]
  cases hf
  exact rw_i hx hb hr hlocks hP hS dX9_way_21
theorem c_X9_way (l : Launch) (D : va_G) (ct : Nat → ClassId) (G : GT) (A : Nat → Nat) (fu : Nat) (x : Nat → Ob) (v1 : Int32) (v2 : Int32) {r : Int32 × (Nat → Ob)} (hf : p_X9_way fu x v1 v2 = some r)  (hDx : ∀ x : Nat → Ob, va_D (GE G) (csQ ct A x)) : Met l yX9_way (.code yX9_way cX9_way 3 (some .int) :: wsL_law) rm_X9_way (va_Pc [.ref (A 0), .int v1, .int v2] (Bx D ct G (csQ ct A x))) (Qwr (some (.int r.1)) (fun H => va_P D vwCl (csQ ct A r.2) H) (wA (csQ ct A x))) 0 0 (wA (csQ ct A x)) := by
  refine Met.ofW (cc := cX9_way) (maxL := 3) (ret := (some .int)) (by decide) rfl ?_
  intro p e s m args below meth c s₁ B hml hv
  obtain ⟨rfl, hP, hK, hN, hX⟩ := hv
  have hts := atoms_spec (ws := .code yX9_way cX9_way 3 (some .int) :: wsL_law) B.pre
  rw [lg_entry_eq]
  exact b_X9_way A fu x v1 v2 B.exec B.bytes B.returns hml (findClass_of_methodNamed B.named) (fun w h => hts w (List.mem_cons_of_mem _ h)) B.notSynchronized hK hN hX hP hf hDx  (lv_entry [.ref (A 0), .int v1, .int v2] (n := 3) (Nat.le_of_ble_eq_true rfl))
def p_X9_leaves (fu : Nat) (x : Nat → Ob) (v1 : Int32) (v2 : Int32) : Option (Int32 × (Nat → Ob)) :=
  (p_X9_putIn fu x v1 v2).bind fun r_3 => if r_3.1 = 0 then some (((-2) : Int32), r_3.2) else some (((r_3.2 12).1 6 0), r_3.2)
abbrev rm_X9_leaves : Room := { frames := 5, cells := 0, slots := 0, locals := 119 }
set_option maxHeartbeats 4000000 in
set_option maxRecDepth 100000 in
theorem b_X9_leaves {p : Program} {l : Launch} {e : Env} {s : State} {m : MethodId} {args : Array Value} {below : List Frame} {meth : Method} {c : Code} {ls : Array Slot} {D : va_G} {ct : Nat → ClassId} {G : GT} (A : Nat → Nat) (fu : Nat) (x : Nat → Ob) (v1 : Int32) (v2 : Int32) {r : Int32 × (Nat → Ob)} (hx : p.tables.exec = Jvm.exec) (hb : c.code = cX9_leaves) (hr : meth.sig.returnType = (some .int)) (hml : c.maxLocals = 3) (hown : s.vm.findClass RX9 = some m.cls) (htl : ∀ w ∈ wsL_law, w.before args s = true) (hlocks : meth.locks = false) (hK : va_K D vwCl (tyl ct) s) (hN : ∀ w ∈ NW, va_Nw w s) (hX : SX G s s.heap) (hP0 : va_P D vwCl (csQ ct A x) s.heap) (hf : p_X9_leaves fu x v1 v2 = some r) (hDx : ∀ x : Nat → Ob, va_D (GE G) (csQ ct A x))  (hl : lv_has ls 3 [(0, .ref (A 0)), (1, .int v1), (2, .int v2)]) : W p l e rm_X9_leaves s m args below meth c s.heap [] 0 0 (MQ below (Qwr (some (.int r.1)) (fun H => va_P D vwCl (csQ ct A r.2) H) (wA (csQ ct A x))) args s 0 0 (wA (csQ ct A x))) (F0 m 0 ls []) := by
  generalize hQQ : MQ below (Qwr (some (.int r.1)) (fun H => va_P D vwCl (csQ ct A r.2) H) (wA (csQ ct A x))) args s 0 0 (wA (csQ ct A x)) = QQ
  have hDW : ∀ x1 : Nat → Ob, va_D (wA (csQ ct A x)) (csQ ct A x1) := fun x1 => D_any (D_self (hDx x1)) (wA_Q x1 x)
  have hGE : ∀ q, wA (csQ ct A x) q → GE G q := wA_GE (hDx x)
  have hP := hP0
  have hS : va_S (wA (csQ ct A x)) s.heap s.heap [] := va_S.rf
  rw [p_X9_leaves] at hf
  refine lv_aload_n hx hb dX9_leaves_0 rfl (lv_at hl 0 rfl) ?_
  refine lv_iload_n hx hb dX9_leaves_1 rfl (lv_at hl 1 rfl) ?_
  refine lv_iload_n hx hb dX9_leaves_2 rfl (lv_at hl 2 rfl) ?_
  obtain ⟨r_3, e_3, hf⟩ := ob_bind hf
  have hPX_3 : va_P D vwCl (csQ ct A x) s.heap := hP
  refine wr_call1 (va_runV (As := [.int v1, .int v2]) (rest := []) ⟨hx, hb, hml, hown, htl⟩ (c_X9_putIn l D ct G A fu x v1 v2 e_3 hDx) (cw_X9_X9_putIn htl ⟨Nat.le_of_ble_eq_true rfl, Nat.le_of_ble_eq_true rfl⟩) ⟨Bx_blind, va_recv hK hPX_3 (ci := 9) (q0 := 0) rfl rfl, Bx_pre hPX_3 hK hN (hX.stay hS hGE)⟩ rfl rfl hl.1 rfl (lv_room (Nat.le_of_ble_eq_true rfl)) dX9_leaves_3 ⟨Nat.zero_le _, Nat.zero_le _⟩) hS (wA_Q _ _) (fun H_3 locs_3 hB_3 _ hk_3 hS => ?_)
  have hP : va_P D vwCl (csQ ct A r_3.2) H_3 := hB_3
  refine lv_if_eq (tgt := 19) hx hb dX9_leaves_6 (by decide) (fun c_6 => ?_) (fun c_6 => ?_)
  · rw [if_pos c_6] at hf
    refine lv_bipush (v := (-2)) hx hb dX9_leaves_19 (by decide) ?_
    rw [← hQQ]
    cases hf
    exact rw_i hx hb hr hlocks hP hS dX9_leaves_21
  rw [if_neg c_6] at hf
  refine lv_aload_n hx hb dX9_leaves_9 rfl (lv_at hl 0 rfl) ?_
  refine va_get (D := D) (ci := 9) (v := .ref (A 93)) (C := RX9) (T := TX9) (N := 14) hx hb htl inlX9 hown hK hP 0 qh_0 rfl 8 (by decide) (htl _ wq_2_12) (fun _ h9 => h9) rfl dX9_leaves_10 ?_
  refine va_getN (D := D) (ci := 5) (v := .int ((r_3.2 12).1 6 0)) (C := RX5) (T := TX5) (N := 9) hx hb htl inlX5 hown hK hP 93 qh_12 rfl 6 (by decide) (va_Nw.use rfl (hN _ nm_17)) (fun _ h9 => h9) rfl dX9_leaves_13 ?_
  refine lv_goto (tgt := 21) hx hb dX9_leaves_16 (by decide) ?_
  rw [← hQQ]
  cases hf
  exact rw_i hx hb hr hlocks hP hS dX9_leaves_21
theorem c_X9_leaves (l : Launch) (D : va_G) (ct : Nat → ClassId) (G : GT) (A : Nat → Nat) (fu : Nat) (x : Nat → Ob) (v1 : Int32) (v2 : Int32) {r : Int32 × (Nat → Ob)} (hf : p_X9_leaves fu x v1 v2 = some r)  (hDx : ∀ x : Nat → Ob, va_D (GE G) (csQ ct A x)) : Met l yX9_leaves (.code yX9_leaves cX9_leaves 3 (some .int) :: wsL_law) rm_X9_leaves (va_Pc [.ref (A 0), .int v1, .int v2] (Bx D ct G (csQ ct A x))) (Qwr (some (.int r.1)) (fun H => va_P D vwCl (csQ ct A r.2) H) (wA (csQ ct A x))) 0 0 (wA (csQ ct A x)) := by
  refine Met.ofW (cc := cX9_leaves) (maxL := 3) (ret := (some .int)) (by decide) rfl ?_
  intro p e s m args below meth c s₁ B hml hv
  obtain ⟨rfl, hP, hK, hN, hX⟩ := hv
  have hts := atoms_spec (ws := .code yX9_leaves cX9_leaves 3 (some .int) :: wsL_law) B.pre
  rw [lg_entry_eq]
  exact b_X9_leaves A fu x v1 v2 B.exec B.bytes B.returns hml (findClass_of_methodNamed B.named) (fun w h => hts w (List.mem_cons_of_mem _ h)) B.notSynchronized hK hN hX hP hf hDx  (lv_entry [.ref (A 0), .int v1, .int v2] (n := 3) (Nat.le_of_ble_eq_true rfl))
def p_X9_waits (fu : Nat) (x : Nat → Ob) (v1 : Int32) (v2 : Int32) : Option (Int32 × (Nat → Ob)) :=
  (p_X9_putIn fu x v1 v2).bind fun r_3 => if r_3.1 = 0 then some (((-2) : Int32), r_3.2) else some (((r_3.2 12).1 5 0), r_3.2)
abbrev rm_X9_waits : Room := { frames := 5, cells := 0, slots := 0, locals := 119 }
set_option maxHeartbeats 4000000 in
set_option maxRecDepth 100000 in
theorem b_X9_waits {p : Program} {l : Launch} {e : Env} {s : State} {m : MethodId} {args : Array Value} {below : List Frame} {meth : Method} {c : Code} {ls : Array Slot} {D : va_G} {ct : Nat → ClassId} {G : GT} (A : Nat → Nat) (fu : Nat) (x : Nat → Ob) (v1 : Int32) (v2 : Int32) {r : Int32 × (Nat → Ob)} (hx : p.tables.exec = Jvm.exec) (hb : c.code = cX9_waits) (hr : meth.sig.returnType = (some .int)) (hml : c.maxLocals = 3) (hown : s.vm.findClass RX9 = some m.cls) (htl : ∀ w ∈ wsL_law, w.before args s = true) (hlocks : meth.locks = false) (hK : va_K D vwCl (tyl ct) s) (hN : ∀ w ∈ NW, va_Nw w s) (hX : SX G s s.heap) (hP0 : va_P D vwCl (csQ ct A x) s.heap) (hf : p_X9_waits fu x v1 v2 = some r) (hDx : ∀ x : Nat → Ob, va_D (GE G) (csQ ct A x))  (hl : lv_has ls 3 [(0, .ref (A 0)), (1, .int v1), (2, .int v2)]) : W p l e rm_X9_waits s m args below meth c s.heap [] 0 0 (MQ below (Qwr (some (.int r.1)) (fun H => va_P D vwCl (csQ ct A r.2) H) (wA (csQ ct A x))) args s 0 0 (wA (csQ ct A x))) (F0 m 0 ls []) := by
  generalize hQQ : MQ below (Qwr (some (.int r.1)) (fun H => va_P D vwCl (csQ ct A r.2) H) (wA (csQ ct A x))) args s 0 0 (wA (csQ ct A x)) = QQ
  have hDW : ∀ x1 : Nat → Ob, va_D (wA (csQ ct A x)) (csQ ct A x1) := fun x1 => D_any (D_self (hDx x1)) (wA_Q x1 x)
  have hGE : ∀ q, wA (csQ ct A x) q → GE G q := wA_GE (hDx x)
  have hP := hP0
  have hS : va_S (wA (csQ ct A x)) s.heap s.heap [] := va_S.rf
  rw [p_X9_waits] at hf
  refine lv_aload_n hx hb dX9_waits_0 rfl (lv_at hl 0 rfl) ?_
  refine lv_iload_n hx hb dX9_waits_1 rfl (lv_at hl 1 rfl) ?_
  refine lv_iload_n hx hb dX9_waits_2 rfl (lv_at hl 2 rfl) ?_
  obtain ⟨r_3, e_3, hf⟩ := ob_bind hf
  have hPX_3 : va_P D vwCl (csQ ct A x) s.heap := hP
  refine wr_call1 (va_runV (As := [.int v1, .int v2]) (rest := []) ⟨hx, hb, hml, hown, htl⟩ (c_X9_putIn l D ct G A fu x v1 v2 e_3 hDx) (cw_X9_X9_putIn htl ⟨Nat.le_of_ble_eq_true rfl, Nat.le_of_ble_eq_true rfl⟩) ⟨Bx_blind, va_recv hK hPX_3 (ci := 9) (q0 := 0) rfl rfl, Bx_pre hPX_3 hK hN (hX.stay hS hGE)⟩ rfl rfl hl.1 rfl (lv_room (Nat.le_of_ble_eq_true rfl)) dX9_waits_3 ⟨Nat.zero_le _, Nat.zero_le _⟩) hS (wA_Q _ _) (fun H_3 locs_3 hB_3 _ hk_3 hS => ?_)
  have hP : va_P D vwCl (csQ ct A r_3.2) H_3 := hB_3
  refine lv_if_eq (tgt := 19) hx hb dX9_waits_6 (by decide) (fun c_6 => ?_) (fun c_6 => ?_)
  · rw [if_pos c_6] at hf
    refine lv_bipush (v := (-2)) hx hb dX9_waits_19 (by decide) ?_
    rw [← hQQ]
    cases hf
    exact rw_i hx hb hr hlocks hP hS dX9_waits_21
  rw [if_neg c_6] at hf
  refine lv_aload_n hx hb dX9_waits_9 rfl (lv_at hl 0 rfl) ?_
  refine va_get (D := D) (ci := 9) (v := .ref (A 93)) (C := RX9) (T := TX9) (N := 14) hx hb htl inlX9 hown hK hP 0 qh_0 rfl 8 (by decide) (htl _ wq_2_12) (fun _ h9 => h9) rfl dX9_waits_10 ?_
  refine va_getN (D := D) (ci := 5) (v := .int ((r_3.2 12).1 5 0)) (C := RX5) (T := TX5) (N := 9) hx hb htl inlX5 hown hK hP 93 qh_12 rfl 5 (by decide) (va_Nw.use rfl (hN _ nm_18)) (fun _ h9 => h9) rfl dX9_waits_13 ?_
  refine lv_goto (tgt := 21) hx hb dX9_waits_16 (by decide) ?_
  rw [← hQQ]
  cases hf
  exact rw_i hx hb hr hlocks hP hS dX9_waits_21
theorem c_X9_waits (l : Launch) (D : va_G) (ct : Nat → ClassId) (G : GT) (A : Nat → Nat) (fu : Nat) (x : Nat → Ob) (v1 : Int32) (v2 : Int32) {r : Int32 × (Nat → Ob)} (hf : p_X9_waits fu x v1 v2 = some r)  (hDx : ∀ x : Nat → Ob, va_D (GE G) (csQ ct A x)) : Met l yX9_waits (.code yX9_waits cX9_waits 3 (some .int) :: wsL_law) rm_X9_waits (va_Pc [.ref (A 0), .int v1, .int v2] (Bx D ct G (csQ ct A x))) (Qwr (some (.int r.1)) (fun H => va_P D vwCl (csQ ct A r.2) H) (wA (csQ ct A x))) 0 0 (wA (csQ ct A x)) := by
  refine Met.ofW (cc := cX9_waits) (maxL := 3) (ret := (some .int)) (by decide) rfl ?_
  intro p e s m args below meth c s₁ B hml hv
  obtain ⟨rfl, hP, hK, hN, hX⟩ := hv
  have hts := atoms_spec (ws := .code yX9_waits cX9_waits 3 (some .int) :: wsL_law) B.pre
  rw [lg_entry_eq]
  exact b_X9_waits A fu x v1 v2 B.exec B.bytes B.returns hml (findClass_of_methodNamed B.named) (fun w h => hts w (List.mem_cons_of_mem _ h)) B.notSynchronized hK hN hX hP hf hDx  (lv_entry [.ref (A 0), .int v1, .int v2] (n := 3) (Nat.le_of_ble_eq_true rfl))
def p_X9_jumps (fu : Nat) (x : Nat → Ob) (v1 : Int32) (v2 : Int32) : Option (Int32 × (Nat → Ob)) :=
  (p_X9_putIn fu x v1 v2).bind fun r_3 => if r_3.1 = 0 then some (((-2) : Int32), r_3.2) else some (((r_3.2 12).1 7 0), r_3.2)
abbrev rm_X9_jumps : Room := { frames := 5, cells := 0, slots := 0, locals := 119 }
set_option maxHeartbeats 4000000 in
set_option maxRecDepth 100000 in
theorem b_X9_jumps {p : Program} {l : Launch} {e : Env} {s : State} {m : MethodId} {args : Array Value} {below : List Frame} {meth : Method} {c : Code} {ls : Array Slot} {D : va_G} {ct : Nat → ClassId} {G : GT} (A : Nat → Nat) (fu : Nat) (x : Nat → Ob) (v1 : Int32) (v2 : Int32) {r : Int32 × (Nat → Ob)} (hx : p.tables.exec = Jvm.exec) (hb : c.code = cX9_jumps) (hr : meth.sig.returnType = (some .int)) (hml : c.maxLocals = 3) (hown : s.vm.findClass RX9 = some m.cls) (htl : ∀ w ∈ wsL_law, w.before args s = true) (hlocks : meth.locks = false) (hK : va_K D vwCl (tyl ct) s) (hN : ∀ w ∈ NW, va_Nw w s) (hX : SX G s s.heap) (hP0 : va_P D vwCl (csQ ct A x) s.heap) (hf : p_X9_jumps fu x v1 v2 = some r) (hDx : ∀ x : Nat → Ob, va_D (GE G) (csQ ct A x))  (hl : lv_has ls 3 [(0, .ref (A 0)), (1, .int v1), (2, .int v2)]) : W p l e rm_X9_jumps s m args below meth c s.heap [] 0 0 (MQ below (Qwr (some (.int r.1)) (fun H => va_P D vwCl (csQ ct A r.2) H) (wA (csQ ct A x))) args s 0 0 (wA (csQ ct A x))) (F0 m 0 ls []) := by
  generalize hQQ : MQ below (Qwr (some (.int r.1)) (fun H => va_P D vwCl (csQ ct A r.2) H) (wA (csQ ct A x))) args s 0 0 (wA (csQ ct A x)) = QQ
  have hDW : ∀ x1 : Nat → Ob, va_D (wA (csQ ct A x)) (csQ ct A x1) := fun x1 => D_any (D_self (hDx x1)) (wA_Q x1 x)
  have hGE : ∀ q, wA (csQ ct A x) q → GE G q := wA_GE (hDx x)
  have hP := hP0
  have hS : va_S (wA (csQ ct A x)) s.heap s.heap [] := va_S.rf
  rw [p_X9_jumps] at hf
  refine lv_aload_n hx hb dX9_jumps_0 rfl (lv_at hl 0 rfl) ?_
  refine lv_iload_n hx hb dX9_jumps_1 rfl (lv_at hl 1 rfl) ?_
  refine lv_iload_n hx hb dX9_jumps_2 rfl (lv_at hl 2 rfl) ?_
  obtain ⟨r_3, e_3, hf⟩ := ob_bind hf
  have hPX_3 : va_P D vwCl (csQ ct A x) s.heap := hP
  refine wr_call1 (va_runV (As := [.int v1, .int v2]) (rest := []) ⟨hx, hb, hml, hown, htl⟩ (c_X9_putIn l D ct G A fu x v1 v2 e_3 hDx) (cw_X9_X9_putIn htl ⟨Nat.le_of_ble_eq_true rfl, Nat.le_of_ble_eq_true rfl⟩) ⟨Bx_blind, va_recv hK hPX_3 (ci := 9) (q0 := 0) rfl rfl, Bx_pre hPX_3 hK hN (hX.stay hS hGE)⟩ rfl rfl hl.1 rfl (lv_room (Nat.le_of_ble_eq_true rfl)) dX9_jumps_3 ⟨Nat.zero_le _, Nat.zero_le _⟩) hS (wA_Q _ _) (fun H_3 locs_3 hB_3 _ hk_3 hS => ?_)
  have hP : va_P D vwCl (csQ ct A r_3.2) H_3 := hB_3
  refine lv_if_eq (tgt := 19) hx hb dX9_jumps_6 (by decide) (fun c_6 => ?_) (fun c_6 => ?_)
  · rw [if_pos c_6] at hf
    refine lv_bipush (v := (-2)) hx hb dX9_jumps_19 (by decide) ?_
    rw [← hQQ]
    cases hf
    exact rw_i hx hb hr hlocks hP hS dX9_jumps_21
  rw [if_neg c_6] at hf
  refine lv_aload_n hx hb dX9_jumps_9 rfl (lv_at hl 0 rfl) ?_
  refine va_get (D := D) (ci := 9) (v := .ref (A 93)) (C := RX9) (T := TX9) (N := 14) hx hb htl inlX9 hown hK hP 0 qh_0 rfl 8 (by decide) (htl _ wq_2_12) (fun _ h9 => h9) rfl dX9_jumps_10 ?_
  refine va_getN (D := D) (ci := 5) (v := .int ((r_3.2 12).1 7 0)) (C := RX5) (T := TX5) (N := 9) hx hb htl inlX5 hown hK hP 93 qh_12 rfl 7 (by decide) (va_Nw.use rfl (hN _ nm_19)) (fun _ h9 => h9) rfl dX9_jumps_13 ?_
  refine lv_goto (tgt := 21) hx hb dX9_jumps_16 (by decide) ?_
  rw [← hQQ]
  cases hf
  exact rw_i hx hb hr hlocks hP hS dX9_jumps_21
theorem c_X9_jumps (l : Launch) (D : va_G) (ct : Nat → ClassId) (G : GT) (A : Nat → Nat) (fu : Nat) (x : Nat → Ob) (v1 : Int32) (v2 : Int32) {r : Int32 × (Nat → Ob)} (hf : p_X9_jumps fu x v1 v2 = some r)  (hDx : ∀ x : Nat → Ob, va_D (GE G) (csQ ct A x)) : Met l yX9_jumps (.code yX9_jumps cX9_jumps 3 (some .int) :: wsL_law) rm_X9_jumps (va_Pc [.ref (A 0), .int v1, .int v2] (Bx D ct G (csQ ct A x))) (Qwr (some (.int r.1)) (fun H => va_P D vwCl (csQ ct A r.2) H) (wA (csQ ct A x))) 0 0 (wA (csQ ct A x)) := by
  refine Met.ofW (cc := cX9_jumps) (maxL := 3) (ret := (some .int)) (by decide) rfl ?_
  intro p e s m args below meth c s₁ B hml hv
  obtain ⟨rfl, hP, hK, hN, hX⟩ := hv
  have hts := atoms_spec (ws := .code yX9_jumps cX9_jumps 3 (some .int) :: wsL_law) B.pre
  rw [lg_entry_eq]
  exact b_X9_jumps A fu x v1 v2 B.exec B.bytes B.returns hml (findClass_of_methodNamed B.named) (fun w h => hts w (List.mem_cons_of_mem _ h)) B.notSynchronized hK hN hX hP hf hDx  (lv_entry [.ref (A 0), .int v1, .int v2] (n := 3) (Nat.le_of_ble_eq_true rfl))
def p_X9_finds (fu : Nat) (x : Nat → Ob) (v1 : Int32) (v2 : Int32) : Option (Int32 × (Nat → Ob)) :=
  (p_X9_putIn fu x v1 v2).bind fun r_3 => if r_3.1 = 0 then some (((-2) : Int32), r_3.2) else some (((r_3.2 12).1 2 0), r_3.2)
abbrev rm_X9_finds : Room := { frames := 5, cells := 0, slots := 0, locals := 119 }
set_option maxHeartbeats 4000000 in
set_option maxRecDepth 100000 in
theorem b_X9_finds {p : Program} {l : Launch} {e : Env} {s : State} {m : MethodId} {args : Array Value} {below : List Frame} {meth : Method} {c : Code} {ls : Array Slot} {D : va_G} {ct : Nat → ClassId} {G : GT} (A : Nat → Nat) (fu : Nat) (x : Nat → Ob) (v1 : Int32) (v2 : Int32) {r : Int32 × (Nat → Ob)} (hx : p.tables.exec = Jvm.exec) (hb : c.code = cX9_finds) (hr : meth.sig.returnType = (some .int)) (hml : c.maxLocals = 3) (hown : s.vm.findClass RX9 = some m.cls) (htl : ∀ w ∈ wsL_law, w.before args s = true) (hlocks : meth.locks = false) (hK : va_K D vwCl (tyl ct) s) (hN : ∀ w ∈ NW, va_Nw w s) (hX : SX G s s.heap) (hP0 : va_P D vwCl (csQ ct A x) s.heap) (hf : p_X9_finds fu x v1 v2 = some r) (hDx : ∀ x : Nat → Ob, va_D (GE G) (csQ ct A x))  (hl : lv_has ls 3 [(0, .ref (A 0)), (1, .int v1), (2, .int v2)]) : W p l e rm_X9_finds s m args below meth c s.heap [] 0 0 (MQ below (Qwr (some (.int r.1)) (fun H => va_P D vwCl (csQ ct A r.2) H) (wA (csQ ct A x))) args s 0 0 (wA (csQ ct A x))) (F0 m 0 ls []) := by
  generalize hQQ : MQ below (Qwr (some (.int r.1)) (fun H => va_P D vwCl (csQ ct A r.2) H) (wA (csQ ct A x))) args s 0 0 (wA (csQ ct A x)) = QQ
  have hDW : ∀ x1 : Nat → Ob, va_D (wA (csQ ct A x)) (csQ ct A x1) := fun x1 => D_any (D_self (hDx x1)) (wA_Q x1 x)
  have hGE : ∀ q, wA (csQ ct A x) q → GE G q := wA_GE (hDx x)
  have hP := hP0
  have hS : va_S (wA (csQ ct A x)) s.heap s.heap [] := va_S.rf
  rw [p_X9_finds] at hf
  refine lv_aload_n hx hb dX9_finds_0 rfl (lv_at hl 0 rfl) ?_
  refine lv_iload_n hx hb dX9_finds_1 rfl (lv_at hl 1 rfl) ?_
  refine lv_iload_n hx hb dX9_finds_2 rfl (lv_at hl 2 rfl) ?_
  obtain ⟨r_3, e_3, hf⟩ := ob_bind hf
  have hPX_3 : va_P D vwCl (csQ ct A x) s.heap := hP
  refine wr_call1 (va_runV (As := [.int v1, .int v2]) (rest := []) ⟨hx, hb, hml, hown, htl⟩ (c_X9_putIn l D ct G A fu x v1 v2 e_3 hDx) (cw_X9_X9_putIn htl ⟨Nat.le_of_ble_eq_true rfl, Nat.le_of_ble_eq_true rfl⟩) ⟨Bx_blind, va_recv hK hPX_3 (ci := 9) (q0 := 0) rfl rfl, Bx_pre hPX_3 hK hN (hX.stay hS hGE)⟩ rfl rfl hl.1 rfl (lv_room (Nat.le_of_ble_eq_true rfl)) dX9_finds_3 ⟨Nat.zero_le _, Nat.zero_le _⟩) hS (wA_Q _ _) (fun H_3 locs_3 hB_3 _ hk_3 hS => ?_)
  have hP : va_P D vwCl (csQ ct A r_3.2) H_3 := hB_3
  refine lv_if_eq (tgt := 19) hx hb dX9_finds_6 (by decide) (fun c_6 => ?_) (fun c_6 => ?_)
  · rw [if_pos c_6] at hf
    refine lv_bipush (v := (-2)) hx hb dX9_finds_19 (by decide) ?_
    rw [← hQQ]
    cases hf
    exact rw_i hx hb hr hlocks hP hS dX9_finds_21
  rw [if_neg c_6] at hf
  refine lv_aload_n hx hb dX9_finds_9 rfl (lv_at hl 0 rfl) ?_
  refine va_get (D := D) (ci := 9) (v := .ref (A 93)) (C := RX9) (T := TX9) (N := 14) hx hb htl inlX9 hown hK hP 0 qh_0 rfl 8 (by decide) (htl _ wq_2_12) (fun _ h9 => h9) rfl dX9_finds_10 ?_
  refine va_getN (D := D) (ci := 5) (v := .int ((r_3.2 12).1 2 0)) (C := RX5) (T := TX5) (N := 9) hx hb htl inlX5 hown hK hP 93 qh_12 rfl 2 (by decide) (va_Nw.use rfl (hN _ nm_20)) (fun _ h9 => h9) rfl dX9_finds_13 ?_
  refine lv_goto (tgt := 21) hx hb dX9_finds_16 (by decide) ?_
  rw [← hQQ]
  cases hf
  exact rw_i hx hb hr hlocks hP hS dX9_finds_21
theorem c_X9_finds (l : Launch) (D : va_G) (ct : Nat → ClassId) (G : GT) (A : Nat → Nat) (fu : Nat) (x : Nat → Ob) (v1 : Int32) (v2 : Int32) {r : Int32 × (Nat → Ob)} (hf : p_X9_finds fu x v1 v2 = some r)  (hDx : ∀ x : Nat → Ob, va_D (GE G) (csQ ct A x)) : Met l yX9_finds (.code yX9_finds cX9_finds 3 (some .int) :: wsL_law) rm_X9_finds (va_Pc [.ref (A 0), .int v1, .int v2] (Bx D ct G (csQ ct A x))) (Qwr (some (.int r.1)) (fun H => va_P D vwCl (csQ ct A r.2) H) (wA (csQ ct A x))) 0 0 (wA (csQ ct A x)) := by
  refine Met.ofW (cc := cX9_finds) (maxL := 3) (ret := (some .int)) (by decide) rfl ?_
  intro p e s m args below meth c s₁ B hml hv
  obtain ⟨rfl, hP, hK, hN, hX⟩ := hv
  have hts := atoms_spec (ws := .code yX9_finds cX9_finds 3 (some .int) :: wsL_law) B.pre
  rw [lg_entry_eq]
  exact b_X9_finds A fu x v1 v2 B.exec B.bytes B.returns hml (findClass_of_methodNamed B.named) (fun w h => hts w (List.mem_cons_of_mem _ h)) B.notSynchronized hK hN hX hP hf hDx  (lv_entry [.ref (A 0), .int v1, .int v2] (n := 3) (Nat.le_of_ble_eq_true rfl))
