def p_X10_from_L24 (fu : Nat)  : Nat → Ob → Int32 → Int32 → Int32 → Int32 → Option (Int32 × Ob)
  | 0, _, _, _, _, _ => none
  | n + 1, oz, v1, v2, v3, v4 =>
    if inb (3 : Int32) 98 = true then if ((oz.1 1) (3 : Int32).toNatClampNeg) ≤ v4 then some (v3, oz) else (p_X10_goStick fu oz v4 (0 : Int32)).bind fun r_39 => if inb v2 61 = true then if ((r_39.1 22) v2.toNatClampNeg) = v1 then p_X10_from_L24 fu  n r_39 v1 v2 (v3 ||| ((1 : Int32) <<< (v4 &&& 31))) (v4 + 1) else p_X10_from_L24 fu  n r_39 v1 v2 (v3 ||| 0) (v4 + 1) else none else none
def p_X10_from (fu : Nat) (o : Ob) (v1 : Int32) (v2 : Int32) : Option (Int32 × Ob) :=
  (p_X10_asksReach fu o v1).bind fun r_2 => if r_2.1 = 0 then some (((-2) : Int32), r_2.2) else (p_X10_isStep fu v2.toInt64).bind fun r_10 => if r_10 = 0 then some (((-2) : Int32), r_2.2) else p_X10_from_L24 fu fu r_2.2 v1 v2 0 0
abbrev rm_X10_from : Room := { frames := 4, cells := 0, slots := 0, locals := 87 }
set_option maxHeartbeats 4000000 in
set_option maxRecDepth 100000 in
theorem b_X10_from {p : Program} {l : Launch} {e : Env} {s : State} {m : MethodId} {args : Array Value} {below : List Frame} {meth : Method} {c : Code} {ls : Array Slot} {D : va_G} {ct : Nat → ClassId} {G : GT} (a : Nat → Nat) (fu : Nat) (o : Ob) (v1 : Int32) (v2 : Int32) {r : Int32 × Ob} (hx : p.tables.exec = Jvm.exec) (hb : c.code = cX10_from) (hr : meth.sig.returnType = (some .int)) (hml : c.maxLocals = 5) (hown : s.vm.findClass RX10 = some m.cls) (htl : ∀ w ∈ wsL_law, w.before args s = true) (hlocks : meth.locks = false) (hK : va_K D vwCl (tyl ct) s) (hN : ∀ w ∈ NW, va_Nw w s) (hX : SX G s s.heap) (hP0 : va_P D vwCl (cs10 ct a o) s.heap) (hf : p_X10_from fu o v1 v2 = some r) (hD0 : va_D (GE G) (cs10 ct a o))  (hl : lv_has ls 5 [(0, .ref (a 0)), (1, .int v1), (2, .int v2)]) : W p l e rm_X10_from s m args below meth c s.heap [] 0 0 (MQ below (Qwr (some (.int r.1)) (fun H => va_P D vwCl (cs10 ct a r.2) H) (wA (cs10 ct a o))) args s 0 0 (wA (cs10 ct a o))) (F0 m 0 ls []) := by
  generalize hQQ : MQ below (Qwr (some (.int r.1)) (fun H => va_P D vwCl (cs10 ct a r.2) H) (wA (cs10 ct a o))) args s 0 0 (wA (cs10 ct a o)) = QQ
  have hDx : ∀ (oy : Ob), va_D (GE G) (cs10 ct a oy) := fun oy => D_cr hD0 rfl
  have hDW : ∀ (oy : Ob), va_D (wA (cs10 ct a o)) (cs10 ct a oy) := fun oy => D_cr (D_self hD0) rfl
  have hGE : ∀ q, wA (cs10 ct a o) q → GE G q := wA_GE hD0
  have hP := hP0
  have hS : va_S (wA (cs10 ct a o)) s.heap s.heap [] := va_S.rf
  have hL24 : ∀ (n : Nat) (oz : Ob) (v1 : Int32) (v2 : Int32) (v3 : Int32) (v4 : Int32), ∀ (H : Heap) (locs : List Loc) (ls : Array Slot), va_P D vwCl (cs10 ct a oz) H → va_S (wA (cs10 ct a o)) s.heap H locs → lv_has ls 5 [(0, .ref (a 0)), (1, .int v1), (2, .int v2), (3, .int v3), (4, .int v4)] → p_X10_from_L24 fu  n oz v1 v2 v3 v4 = some r → W p l e rm_X10_from s m args below meth c H locs 0 0 QQ (F0 m 24 ls []) := by
    intro  n
    induction n with
    | zero =>
      intro oz v1 v2 v3 v4 H locs ls hP hS hl hf 
      rw [p_X10_from_L24] at hf
      cases hf
    | succ n ih =>
      intro oz v1 v2 v3 v4 H locs ls hP hS hl hf 
      rw [p_X10_from_L24] at hf
      refine lv_iload hx hb dX10_from_24 (lv_at hl 4 rfl) ?_
      refine lv_aload_n hx hb dX10_from_26 rfl (lv_at hl 0 rfl) ?_
      refine va_get (D := D) (ci := 10) (v := .ref (a 1)) (C := RX10) (T := TX10) (N := 42) hx hb htl inlX10 hown hK hP 0 rfl rfl 1 (by decide) (htl _ wq_7_0) (fun _ h9 => h9) rfl dX10_from_27 ?_
      refine lv_iconst (v := 3) hx hb dX10_from_30 (by decide) ?_
      obtain ⟨hi_31, hf⟩ := ob_in hf
      refine va_iald (D := D) (tys := tyl ct) hx hb hK hP 1 0 rfl rfl hi_31 dX10_from_31 ?_
      refine lv_icmp_ge (tgt := 69) hx hb dX10_from_32 (by decide) (fun c_32 => ?_) (fun c_32 => ?_)
      · rw [if_pos c_32] at hf
        refine lv_iload_n hx hb dX10_from_69 rfl (lv_at hl 3 rfl) ?_
        rw [← hQQ]
        cases hf
        exact rw_i hx hb hr hlocks hP hS dX10_from_70
      rw [if_neg c_32] at hf
      refine lv_aload_n hx hb dX10_from_35 rfl (lv_at hl 0 rfl) ?_
      refine lv_iload hx hb dX10_from_36 (lv_at hl 4 rfl) ?_
      refine lv_iconst (v := 0) hx hb dX10_from_38 (by decide) ?_
      obtain ⟨r_39, e_39, hf⟩ := ob_bind hf
      have hPX_39 : va_P D vwCl (cs10 ct a oz) H := hP
      refine wr_call0 (va_runV (As := [.int v4, .int 0]) (rest := []) ⟨hx, hb, hml, hown, htl⟩ (c_X10_goStick l D ct G a fu oz v4 (0 : Int32) e_39 (hDx oz)) (cw_X10_X10_goStick htl ⟨Nat.le_of_ble_eq_true rfl, Nat.le_of_ble_eq_true rfl⟩) ⟨Bx_blind, va_recv hK hPX_39 (ci := 10) (q0 := 0) rfl rfl, Bx_pre hPX_39 hK hN (hX.stay hS hGE)⟩ rfl rfl hl.1 rfl (lv_room (Nat.le_of_ble_eq_true rfl)) dX10_from_39 ⟨Nat.zero_le _, Nat.zero_le _⟩) hS (wA_cg rfl) (fun H_39 locs_39 hB_39 _ hk_39 hS => ?_)
      have hP : va_P D vwCl (cs10 ct a r_39) H_39 := hB_39
      refine lv_iload_n hx hb dX10_from_42 rfl (lv_at hl 3 rfl) ?_
      refine lv_aload_n hx hb dX10_from_43 rfl (lv_at hl 0 rfl) ?_
      refine va_get (D := D) (ci := 10) (v := .ref (a 12)) (C := RX10) (T := TX10) (N := 42) hx hb htl inlX10 hown hK hP 0 rfl rfl 22 (by decide) (htl _ wq_7_14) (fun _ h9 => h9) rfl dX10_from_44 ?_
      refine lv_iload_n hx hb dX10_from_47 rfl (lv_at hl 2 rfl) ?_
      obtain ⟨hi_48, hf⟩ := ob_in hf
      refine va_iald (D := D) (tys := tyl ct) hx hb hK hP 12 0 rfl rfl hi_48 dX10_from_48 ?_
      refine lv_iload_n hx hb dX10_from_49 rfl (lv_at hl 1 rfl) ?_
      refine lv_icmp_ne (tgt := 60) hx hb dX10_from_50 (by decide) (fun c_50 => ?_) (fun c_50 => ?_)
      · rw [if_neg c_50] at hf
        refine lv_iconst (v := 0) hx hb dX10_from_60 (by decide) ?_
        refine lv_ior hx hb dX10_from_61 ?_
        refine lv_istore_n (lv' := [(3, .int (v3 ||| 0)), (0, .ref (a 0)), (1, .int v1), (2, .int v2), (4, .int v4)]) hx hb dX10_from_62 rfl hl (by decide) rfl (fun ls hl => ?_)
        refine lv_iinc (v := (v4 + 1)) (lv' := [(4, .int (v4 + 1)), (3, .int (v3 ||| 0)), (0, .ref (a 0)), (1, .int v1), (2, .int v2)]) hx hb dX10_from_63 hl (k := 4) rfl rfl (by decide) rfl (fun ls hl => ?_)
        refine lv_goto (tgt := 24) hx hb dX10_from_66 (by decide) ?_
        exact ih r_39 v1 v2 (v3 ||| 0) (v4 + 1) _ _ _ hP hS (lv_sub hl [2, 3, 4, 1, 0] rfl) hf 
      rw [if_pos c_50] at hf
      refine lv_iconst (v := 1) hx hb dX10_from_53 (by decide) ?_
      refine lv_iload hx hb dX10_from_54 (lv_at hl 4 rfl) ?_
      refine lv_ishl hx hb dX10_from_56 ?_
      refine lv_goto (tgt := 61) hx hb dX10_from_57 (by decide) ?_
      refine lv_ior hx hb dX10_from_61 ?_
      refine lv_istore_n (lv' := [(3, .int (v3 ||| ((1 : Int32) <<< (v4 &&& 31)))), (0, .ref (a 0)), (1, .int v1), (2, .int v2), (4, .int v4)]) hx hb dX10_from_62 rfl hl (by decide) rfl (fun ls hl => ?_)
      refine lv_iinc (v := (v4 + 1)) (lv' := [(4, .int (v4 + 1)), (3, .int (v3 ||| ((1 : Int32) <<< (v4 &&& 31)))), (0, .ref (a 0)), (1, .int v1), (2, .int v2)]) hx hb dX10_from_63 hl (k := 4) rfl rfl (by decide) rfl (fun ls hl => ?_)
      refine lv_goto (tgt := 24) hx hb dX10_from_66 (by decide) ?_
      exact ih r_39 v1 v2 (v3 ||| ((1 : Int32) <<< (v4 &&& 31))) (v4 + 1) _ _ _ hP hS (lv_sub hl [2, 3, 4, 1, 0] rfl) hf 
  rw [p_X10_from] at hf
  refine lv_aload_n hx hb dX10_from_0 rfl (lv_at hl 0 rfl) ?_
  refine lv_iload_n hx hb dX10_from_1 rfl (lv_at hl 1 rfl) ?_
  obtain ⟨r_2, e_2, hf⟩ := ob_bind hf
  have hPX_2 : va_P D vwCl (cs10 ct a o) s.heap := hP
  refine wr_call1 (va_runV (As := [.int v1]) (rest := []) ⟨hx, hb, hml, hown, htl⟩ (c_X10_asksReach l D ct G a fu o v1 e_2 (hDx o)) (cw_X10_X10_asksReach htl ⟨Nat.le_of_ble_eq_true rfl, Nat.le_of_ble_eq_true rfl⟩) ⟨Bx_blind, va_recv hK hPX_2 (ci := 10) (q0 := 0) rfl rfl, Bx_pre hPX_2 hK hN (hX.stay hS hGE)⟩ rfl rfl hl.1 rfl (lv_room (Nat.le_of_ble_eq_true rfl)) dX10_from_2 ⟨Nat.zero_le _, Nat.zero_le _⟩) hS (wA_cg rfl) (fun H_2 locs_2 hB_2 _ hk_2 hS => ?_)
  have hP : va_P D vwCl (cs10 ct a r_2.2) H_2 := hB_2
  refine lv_if_eq (tgt := 16) hx hb dX10_from_5 (by decide) (fun c_5 => ?_) (fun c_5 => ?_)
  · rw [if_pos c_5] at hf
    refine lv_bipush (v := (-2)) hx hb dX10_from_16 (by decide) ?_
    rw [← hQQ]
    cases hf
    exact rw_i hx hb hr hlocks hP hS dX10_from_18
  rw [if_neg c_5] at hf
  refine lv_iload_n hx hb dX10_from_8 rfl (lv_at hl 2 rfl) ?_
  refine lv_i2l hx hb dX10_from_9 rfl ?_
  obtain ⟨r_10, e_10, hf⟩ := ob_bind hf
  have hPX_10 : va_P D vwCl ([]) H_2 := P_nil
  refine ro_call1 (va_runS (As := [.long v2.toInt64]) (rest := []) ⟨hx, hb, hml, hown, htl⟩ (c_X10_isStep l D ct G fu v2.toInt64 e_10) (cw_X10_X10_isStep htl ⟨Nat.le_of_ble_eq_true rfl, Nat.le_of_ble_eq_true rfl⟩) ⟨Bx_blind, Bx_pre hPX_10 hK hN (hX.stay hS hGE)⟩ rfl rfl hl.1 rfl (lv_room (Nat.le_of_ble_eq_true rfl)) dX10_from_10 ⟨Nat.zero_le _, Nat.zero_le _⟩) ?_
  refine lv_if_ne (tgt := 19) hx hb dX10_from_13 (by decide) (fun c_13 => ?_) (fun c_13 => ?_)
  rotate_left 1
  · rw [if_pos c_13] at hf
    refine lv_bipush (v := (-2)) hx hb dX10_from_16 (by decide) ?_
    rw [← hQQ]
    cases hf
    exact rw_i hx hb hr hlocks hP hS dX10_from_18
  rw [if_neg c_13] at hf
  refine lv_iconst (v := 0) hx hb dX10_from_19 (by decide) ?_
  refine lv_istore_n (lv' := [(3, .int 0), (0, .ref (a 0)), (1, .int v1), (2, .int v2)]) hx hb dX10_from_20 rfl hl (by decide) rfl (fun ls hl => ?_)
  refine lv_iconst (v := 0) hx hb dX10_from_21 (by decide) ?_
  refine lv_istore (lv' := [(4, .int 0), (3, .int 0), (0, .ref (a 0)), (1, .int v1), (2, .int v2)]) hx hb dX10_from_22 hl (by decide) rfl (fun ls hl => ?_)
  exact hL24 fu r_2.2 v1 v2 0 0 _ _ _ hP hS (lv_sub hl [2, 3, 4, 1, 0] rfl) hf 
theorem c_X10_from (l : Launch) (D : va_G) (ct : Nat → ClassId) (G : GT) (a : Nat → Nat) (fu : Nat) (o : Ob) (v1 : Int32) (v2 : Int32) {r : Int32 × Ob} (hf : p_X10_from fu o v1 v2 = some r)  (hD0 : va_D (GE G) (cs10 ct a o)) : Met l yX10_from (.code yX10_from cX10_from 5 (some .int) :: wsL_law) rm_X10_from (va_Pc [.ref (a 0), .int v1, .int v2] (Bx D ct G (cs10 ct a o))) (Qwr (some (.int r.1)) (fun H => va_P D vwCl (cs10 ct a r.2) H) (wA (cs10 ct a o))) 0 0 (wA (cs10 ct a o)) := by
  refine Met.ofW (cc := cX10_from) (maxL := 5) (ret := (some .int)) (by decide) rfl ?_
  intro p e s m args below meth c s₁ B hml hv
  obtain ⟨rfl, hP, hK, hN, hX⟩ := hv
  have hts := atoms_spec (ws := .code yX10_from cX10_from 5 (some .int) :: wsL_law) B.pre
  rw [lg_entry_eq]
  exact b_X10_from a fu o v1 v2 B.exec B.bytes B.returns hml (findClass_of_methodNamed B.named) (fun w h => hts w (List.mem_cons_of_mem _ h)) B.notSynchronized hK hN hX hP hf hD0  (lv_entry [.ref (a 0), .int v1, .int v2] (n := 5) (Nat.le_of_ble_eq_true rfl))
def p_X10_ends_L22 (fu : Nat)  : Nat → Ob → Int32 → Int32 → Int32 → Option (Int32 × Ob)
  | 0, _, _, _, _ => none
  | n + 1, oz, v1, v2, v3 =>
    if inb (3 : Int32) 98 = true then if ((oz.1 1) (3 : Int32).toNatClampNeg) ≤ v3 then some (v2, oz) else (p_X10_goStick fu oz v3 v1).bind fun r_35 => (p_X10_comesOf fu r_35 v1 ((-1) : Int32)).bind fun r_42 => if r_42 = ((-1) : Int32) then p_X10_ends_L22 fu  n r_35 v1 (v2 ||| 0) (v3 + 1) else p_X10_ends_L22 fu  n r_35 v1 (v2 ||| ((1 : Int32) <<< (v3 &&& 31))) (v3 + 1) else none
def p_X10_ends (fu : Nat) (o : Ob) (v1 : Int32) : Option (Int32 × Ob) :=
  (p_X10_asksRivers fu o).bind fun r_1 => if r_1.1 = 0 then some (((-2) : Int32), r_1.2) else (p_X10_isStep fu v1.toInt64).bind fun r_9 => if r_9 = 0 then some (((-2) : Int32), r_1.2) else p_X10_ends_L22 fu fu r_1.2 v1 0 0
abbrev rm_X10_ends : Room := { frames := 4, cells := 0, slots := 0, locals := 86 }
set_option maxHeartbeats 4000000 in
set_option maxRecDepth 100000 in
theorem b_X10_ends {p : Program} {l : Launch} {e : Env} {s : State} {m : MethodId} {args : Array Value} {below : List Frame} {meth : Method} {c : Code} {ls : Array Slot} {D : va_G} {ct : Nat → ClassId} {G : GT} (a : Nat → Nat) (fu : Nat) (o : Ob) (v1 : Int32) {r : Int32 × Ob} (hx : p.tables.exec = Jvm.exec) (hb : c.code = cX10_ends) (hr : meth.sig.returnType = (some .int)) (hml : c.maxLocals = 4) (hown : s.vm.findClass RX10 = some m.cls) (htl : ∀ w ∈ wsL_law, w.before args s = true) (hlocks : meth.locks = false) (hK : va_K D vwCl (tyl ct) s) (hN : ∀ w ∈ NW, va_Nw w s) (hX : SX G s s.heap) (hP0 : va_P D vwCl (cs10 ct a o) s.heap) (hf : p_X10_ends fu o v1 = some r) (hD0 : va_D (GE G) (cs10 ct a o))  (hl : lv_has ls 4 [(0, .ref (a 0)), (1, .int v1)]) : W p l e rm_X10_ends s m args below meth c s.heap [] 0 0 (MQ below (Qwr (some (.int r.1)) (fun H => va_P D vwCl (cs10 ct a r.2) H) (wA (cs10 ct a o))) args s 0 0 (wA (cs10 ct a o))) (F0 m 0 ls []) := by
  generalize hQQ : MQ below (Qwr (some (.int r.1)) (fun H => va_P D vwCl (cs10 ct a r.2) H) (wA (cs10 ct a o))) args s 0 0 (wA (cs10 ct a o)) = QQ
  have hDx : ∀ (oy : Ob), va_D (GE G) (cs10 ct a oy) := fun oy => D_cr hD0 rfl
  have hDW : ∀ (oy : Ob), va_D (wA (cs10 ct a o)) (cs10 ct a oy) := fun oy => D_cr (D_self hD0) rfl
  have hGE : ∀ q, wA (cs10 ct a o) q → GE G q := wA_GE hD0
  have hP := hP0
  have hS : va_S (wA (cs10 ct a o)) s.heap s.heap [] := va_S.rf
  have hL22 : ∀ (n : Nat) (oz : Ob) (v1 : Int32) (v2 : Int32) (v3 : Int32), ∀ (H : Heap) (locs : List Loc) (ls : Array Slot), va_P D vwCl (cs10 ct a oz) H → va_S (wA (cs10 ct a o)) s.heap H locs → lv_has ls 4 [(0, .ref (a 0)), (1, .int v1), (2, .int v2), (3, .int v3)] → p_X10_ends_L22 fu  n oz v1 v2 v3 = some r → W p l e rm_X10_ends s m args below meth c H locs 0 0 QQ (F0 m 22 ls []) := by
    intro  n
    induction n with
    | zero =>
      intro oz v1 v2 v3 H locs ls hP hS hl hf 
      rw [p_X10_ends_L22] at hf
      cases hf
    | succ n ih =>
      intro oz v1 v2 v3 H locs ls hP hS hl hf 
      rw [p_X10_ends_L22] at hf
      refine lv_iload_n hx hb dX10_ends_22 rfl (lv_at hl 3 rfl) ?_
      refine lv_aload_n hx hb dX10_ends_23 rfl (lv_at hl 0 rfl) ?_
      refine va_get (D := D) (ci := 10) (v := .ref (a 1)) (C := RX10) (T := TX10) (N := 42) hx hb htl inlX10 hown hK hP 0 rfl rfl 1 (by decide) (htl _ wq_7_0) (fun _ h9 => h9) rfl dX10_ends_24 ?_
      refine lv_iconst (v := 3) hx hb dX10_ends_27 (by decide) ?_
      obtain ⟨hi_28, hf⟩ := ob_in hf
      refine va_iald (D := D) (tys := tyl ct) hx hb hK hP 1 0 rfl rfl hi_28 dX10_ends_28 ?_
      refine lv_icmp_ge (tgt := 64) hx hb dX10_ends_29 (by decide) (fun c_29 => ?_) (fun c_29 => ?_)
      · rw [if_pos c_29] at hf
        refine lv_iload_n hx hb dX10_ends_64 rfl (lv_at hl 2 rfl) ?_
        rw [← hQQ]
        cases hf
        exact rw_i hx hb hr hlocks hP hS dX10_ends_65
      rw [if_neg c_29] at hf
      refine lv_aload_n hx hb dX10_ends_32 rfl (lv_at hl 0 rfl) ?_
      refine lv_iload_n hx hb dX10_ends_33 rfl (lv_at hl 3 rfl) ?_
      refine lv_iload_n hx hb dX10_ends_34 rfl (lv_at hl 1 rfl) ?_
      obtain ⟨r_35, e_35, hf⟩ := ob_bind hf
      have hPX_35 : va_P D vwCl (cs10 ct a oz) H := hP
      refine wr_call0 (va_runV (As := [.int v3, .int v1]) (rest := []) ⟨hx, hb, hml, hown, htl⟩ (c_X10_goStick l D ct G a fu oz v3 v1 e_35 (hDx oz)) (cw_X10_X10_goStick htl ⟨Nat.le_of_ble_eq_true rfl, Nat.le_of_ble_eq_true rfl⟩) ⟨Bx_blind, va_recv hK hPX_35 (ci := 10) (q0 := 0) rfl rfl, Bx_pre hPX_35 hK hN (hX.stay hS hGE)⟩ rfl rfl hl.1 rfl (lv_room (Nat.le_of_ble_eq_true rfl)) dX10_ends_35 ⟨Nat.zero_le _, Nat.zero_le _⟩) hS (wA_cg rfl) (fun H_35 locs_35 hB_35 _ hk_35 hS => ?_)
      have hP : va_P D vwCl (cs10 ct a r_35) H_35 := hB_35
      refine lv_iload_n hx hb dX10_ends_38 rfl (lv_at hl 2 rfl) ?_
      refine lv_aload_n hx hb dX10_ends_39 rfl (lv_at hl 0 rfl) ?_
      refine lv_iload_n hx hb dX10_ends_40 rfl (lv_at hl 1 rfl) ?_
      refine lv_iconst (v := (-1)) hx hb dX10_ends_41 (by decide) ?_
      obtain ⟨r_42, e_42, hf⟩ := ob_bind hf
      have hPX_42 : va_P D vwCl (cs10 ct a r_35) H_35 := hP
      refine ro_call1 (va_runV (As := [.int v1, .int (-1)]) (rest := [.int v2]) ⟨hx, hb, hml, hown, htl⟩ (c_X10_comesOf l D ct G a fu r_35 v1 ((-1) : Int32) e_42) (cw_X10_X10_comesOf htl ⟨Nat.le_of_ble_eq_true rfl, Nat.le_of_ble_eq_true rfl⟩) ⟨Bx_blind, va_recv hK hPX_42 (ci := 10) (q0 := 0) rfl rfl, Bx_pre hPX_42 hK hN (hX.stay hS hGE)⟩ rfl rfl hl.1 rfl (lv_room (Nat.le_of_ble_eq_true rfl)) dX10_ends_42 ⟨Nat.zero_le _, Nat.zero_le _⟩) ?_
      refine lv_iconst (v := (-1)) hx hb dX10_ends_45 (by decide) ?_
      refine lv_icmp_ne (tgt := 53) hx hb dX10_ends_46 (by decide) (fun c_46 => ?_) (fun c_46 => ?_)
      rotate_left 1
      · rw [if_pos c_46] at hf
        refine lv_iconst (v := 0) hx hb dX10_ends_49 (by decide) ?_
        refine lv_goto (tgt := 56) hx hb dX10_ends_50 (by decide) ?_
        refine lv_ior hx hb dX10_ends_56 ?_
        refine lv_istore_n (lv' := [(2, .int (v2 ||| 0)), (0, .ref (a 0)), (1, .int v1), (3, .int v3)]) hx hb dX10_ends_57 rfl hl (by decide) rfl (fun ls hl => ?_)
        refine lv_iinc (v := (v3 + 1)) (lv' := [(3, .int (v3 + 1)), (2, .int (v2 ||| 0)), (0, .ref (a 0)), (1, .int v1)]) hx hb dX10_ends_58 hl (k := 3) rfl rfl (by decide) rfl (fun ls hl => ?_)
        refine lv_goto (tgt := 22) hx hb dX10_ends_61 (by decide) ?_
        exact ih r_35 v1 (v2 ||| 0) (v3 + 1) _ _ _ hP hS (lv_sub hl [2, 3, 1, 0] rfl) hf 
      rw [if_neg c_46] at hf
      refine lv_iconst (v := 1) hx hb dX10_ends_53 (by decide) ?_
      refine lv_iload_n hx hb dX10_ends_54 rfl (lv_at hl 3 rfl) ?_
      refine lv_ishl hx hb dX10_ends_55 ?_
      refine lv_ior hx hb dX10_ends_56 ?_
      refine lv_istore_n (lv' := [(2, .int (v2 ||| ((1 : Int32) <<< (v3 &&& 31)))), (0, .ref (a 0)), (1, .int v1), (3, .int v3)]) hx hb dX10_ends_57 rfl hl (by decide) rfl (fun ls hl => ?_)
      refine lv_iinc (v := (v3 + 1)) (lv' := [(3, .int (v3 + 1)), (2, .int (v2 ||| ((1 : Int32) <<< (v3 &&& 31)))), (0, .ref (a 0)), (1, .int v1)]) hx hb dX10_ends_58 hl (k := 3) rfl rfl (by decide) rfl (fun ls hl => ?_)
      refine lv_goto (tgt := 22) hx hb dX10_ends_61 (by decide) ?_
      exact ih r_35 v1 (v2 ||| ((1 : Int32) <<< (v3 &&& 31))) (v3 + 1) _ _ _ hP hS (lv_sub hl [2, 3, 1, 0] rfl) hf 
  rw [p_X10_ends] at hf
  refine lv_aload_n hx hb dX10_ends_0 rfl (lv_at hl 0 rfl) ?_
  obtain ⟨r_1, e_1, hf⟩ := ob_bind hf
  have hPX_1 : va_P D vwCl (cs10 ct a o) s.heap := hP
  refine wr_call1 (va_runV (As := []) (rest := []) ⟨hx, hb, hml, hown, htl⟩ (c_X10_asksRivers l D ct G a fu o e_1 (hDx o)) (cw_X10_X10_asksRivers htl ⟨Nat.le_of_ble_eq_true rfl, Nat.le_of_ble_eq_true rfl⟩) ⟨Bx_blind, va_recv hK hPX_1 (ci := 10) (q0 := 0) rfl rfl, Bx_pre hPX_1 hK hN (hX.stay hS hGE)⟩ rfl rfl hl.1 rfl (lv_room (Nat.le_of_ble_eq_true rfl)) dX10_ends_1 ⟨Nat.zero_le _, Nat.zero_le _⟩) hS (wA_cg rfl) (fun H_1 locs_1 hB_1 _ hk_1 hS => ?_)
  have hP : va_P D vwCl (cs10 ct a r_1.2) H_1 := hB_1
  refine lv_if_eq (tgt := 15) hx hb dX10_ends_4 (by decide) (fun c_4 => ?_) (fun c_4 => ?_)
  · rw [if_pos c_4] at hf
    refine lv_bipush (v := (-2)) hx hb dX10_ends_15 (by decide) ?_
    rw [← hQQ]
    cases hf
    exact rw_i hx hb hr hlocks hP hS dX10_ends_17
  rw [if_neg c_4] at hf
  refine lv_iload_n hx hb dX10_ends_7 rfl (lv_at hl 1 rfl) ?_
  refine lv_i2l hx hb dX10_ends_8 rfl ?_
  obtain ⟨r_9, e_9, hf⟩ := ob_bind hf
  have hPX_9 : va_P D vwCl ([]) H_1 := P_nil
  refine ro_call1 (va_runS (As := [.long v1.toInt64]) (rest := []) ⟨hx, hb, hml, hown, htl⟩ (c_X10_isStep l D ct G fu v1.toInt64 e_9) (cw_X10_X10_isStep htl ⟨Nat.le_of_ble_eq_true rfl, Nat.le_of_ble_eq_true rfl⟩) ⟨Bx_blind, Bx_pre hPX_9 hK hN (hX.stay hS hGE)⟩ rfl rfl hl.1 rfl (lv_room (Nat.le_of_ble_eq_true rfl)) dX10_ends_9 ⟨Nat.zero_le _, Nat.zero_le _⟩) ?_
  refine lv_if_ne (tgt := 18) hx hb dX10_ends_12 (by decide) (fun c_12 => ?_) (fun c_12 => ?_)
  rotate_left 1
  · rw [if_pos c_12] at hf
    refine lv_bipush (v := (-2)) hx hb dX10_ends_15 (by decide) ?_
    rw [← hQQ]
    cases hf
    exact rw_i hx hb hr hlocks hP hS dX10_ends_17
  rw [if_neg c_12] at hf
  refine lv_iconst (v := 0) hx hb dX10_ends_18 (by decide) ?_
  refine lv_istore_n (lv' := [(2, .int 0), (0, .ref (a 0)), (1, .int v1)]) hx hb dX10_ends_19 rfl hl (by decide) rfl (fun ls hl => ?_)
  refine lv_iconst (v := 0) hx hb dX10_ends_20 (by decide) ?_
  refine lv_istore_n (lv' := [(3, .int 0), (2, .int 0), (0, .ref (a 0)), (1, .int v1)]) hx hb dX10_ends_21 rfl hl (by decide) rfl (fun ls hl => ?_)
  exact hL22 fu r_1.2 v1 0 0 _ _ _ hP hS (lv_sub hl [2, 3, 1, 0] rfl) hf 
theorem c_X10_ends (l : Launch) (D : va_G) (ct : Nat → ClassId) (G : GT) (a : Nat → Nat) (fu : Nat) (o : Ob) (v1 : Int32) {r : Int32 × Ob} (hf : p_X10_ends fu o v1 = some r)  (hD0 : va_D (GE G) (cs10 ct a o)) : Met l yX10_ends (.code yX10_ends cX10_ends 4 (some .int) :: wsL_law) rm_X10_ends (va_Pc [.ref (a 0), .int v1] (Bx D ct G (cs10 ct a o))) (Qwr (some (.int r.1)) (fun H => va_P D vwCl (cs10 ct a r.2) H) (wA (cs10 ct a o))) 0 0 (wA (cs10 ct a o)) := by
  refine Met.ofW (cc := cX10_ends) (maxL := 4) (ret := (some .int)) (by decide) rfl ?_
  intro p e s m args below meth c s₁ B hml hv
  obtain ⟨rfl, hP, hK, hN, hX⟩ := hv
  have hts := atoms_spec (ws := .code yX10_ends cX10_ends 4 (some .int) :: wsL_law) B.pre
  rw [lg_entry_eq]
  exact b_X10_ends a fu o v1 B.exec B.bytes B.returns hml (findClass_of_methodNamed B.named) (fun w h => hts w (List.mem_cons_of_mem _ h)) B.notSynchronized hK hN hX hP hf hD0  (lv_entry [.ref (a 0), .int v1] (n := 4) (Nat.le_of_ble_eq_true rfl))
def p_X10_meet_L23 (fu : Nat) (c47 : Ob → Int32 → Option (Int32 × Ob)) : Nat → Ob → Int32 → Int32 → Option (Int32 × Ob)
  | 0, _, _, _ => none
  | n + 1, oz, v2, v3 =>
    if (60 : Int32) < v3 then c47 oz v2 else if inb v3 61 = true then if inb v3 61 = true then p_X10_meet_L23 fu c47 n (oA oz 27 (upd (oz.1 27) v3.toNatClampNeg ((oz.1 22) v3.toNatClampNeg))) v2 (v3 + 1) else none else none
def p_X10_meet_L55 (fu : Nat)  : Nat → Ob → Int32 → Option (Int32 × Ob)
  | 0, _, _ => none
  | n + 1, oz, v3 =>
    if (60 : Int32) < v3 then some (((-1) : Int32), oz) else if inb v3 61 = true then if ((oz.1 22) v3.toNatClampNeg) < 0 then p_X10_meet_L55 fu  n oz (v3 + 1) else if inb v3 61 = true then if inb v3 61 = true then if ((oz.1 22) v3.toNatClampNeg) = ((oz.1 27) v3.toNatClampNeg) then some (v3, oz) else p_X10_meet_L55 fu  n oz (v3 + 1) else none else none else none
def p_X10_meet (fu : Nat) (o : Ob) (v1 : Int32) (v2 : Int32) : Option (Int32 × Ob) :=
  (p_X10_isReach fu o v2.toInt64).bind fun r_3 => if r_3 = 0 then some (((-2) : Int32), o) else (p_X10_putsIn fu o v1 (0 : Int32)).bind fun r_12 => if r_12.1 = 0 then some (((-2) : Int32), r_12.2) else p_X10_meet_L23 fu (fun oz v2 => (p_X10_goStick fu oz v2 (0 : Int32)).bind fun r_50 => p_X10_meet_L55 fu fu r_50 0) fu r_12.2 v2 0
abbrev rm_X10_meet : Room := { frames := 5, cells := 0, slots := 0, locals := 109 }
set_option maxHeartbeats 4000000 in
set_option maxRecDepth 100000 in
theorem b_X10_meet {p : Program} {l : Launch} {e : Env} {s : State} {m : MethodId} {args : Array Value} {below : List Frame} {meth : Method} {c : Code} {ls : Array Slot} {D : va_G} {ct : Nat → ClassId} {G : GT} (a : Nat → Nat) (fu : Nat) (o : Ob) (v1 : Int32) (v2 : Int32) {r : Int32 × Ob} (hx : p.tables.exec = Jvm.exec) (hb : c.code = cX10_meet) (hr : meth.sig.returnType = (some .int)) (hml : c.maxLocals = 4) (hown : s.vm.findClass RX10 = some m.cls) (htl : ∀ w ∈ wsL_law, w.before args s = true) (hlocks : meth.locks = false) (hK : va_K D vwCl (tyl ct) s) (hN : ∀ w ∈ NW, va_Nw w s) (hX : SX G s s.heap) (hP0 : va_P D vwCl (cs10 ct a o) s.heap) (hf : p_X10_meet fu o v1 v2 = some r) (hD0 : va_D (GE G) (cs10 ct a o))  (hl : lv_has ls 4 [(0, .ref (a 0)), (1, .int v1), (2, .int v2)]) : W p l e rm_X10_meet s m args below meth c s.heap [] 0 0 (MQ below (Qwr (some (.int r.1)) (fun H => va_P D vwCl (cs10 ct a r.2) H) (wA (cs10 ct a o))) args s 0 0 (wA (cs10 ct a o))) (F0 m 0 ls []) := by
  generalize hQQ : MQ below (Qwr (some (.int r.1)) (fun H => va_P D vwCl (cs10 ct a r.2) H) (wA (cs10 ct a o))) args s 0 0 (wA (cs10 ct a o)) = QQ
  have hDx : ∀ (oy : Ob), va_D (GE G) (cs10 ct a oy) := fun oy => D_cr hD0 rfl
  have hDW : ∀ (oy : Ob), va_D (wA (cs10 ct a o)) (cs10 ct a oy) := fun oy => D_cr (D_self hD0) rfl
  have hGE : ∀ q, wA (cs10 ct a o) q → GE G q := wA_GE hD0
  have hP := hP0
  have hS : va_S (wA (cs10 ct a o)) s.heap s.heap [] := va_S.rf
  have hL23 : ∀ (c47 : Ob → Int32 → Option (Int32 × Ob)) (n : Nat) (oz : Ob) (v2 : Int32) (v3 : Int32), ∀ (H : Heap) (locs : List Loc) (ls : Array Slot), va_P D vwCl (cs10 ct a oz) H → va_S (wA (cs10 ct a o)) s.heap H locs → lv_has ls 4 [(0, .ref (a 0)), (2, .int v2), (3, .int v3)] → p_X10_meet_L23 fu c47 n oz v2 v3 = some r → (∀ (oz : Ob) (v2 : Int32), ∀ (H : Heap) (locs : List Loc) (ls : Array Slot), va_P D vwCl (cs10 ct a oz) H → va_S (wA (cs10 ct a o)) s.heap H locs → lv_has ls 4 [(0, .ref (a 0)), (2, .int v2)] → c47 oz v2 = some r → W p l e rm_X10_meet s m args below meth c H locs 0 0 QQ (F0 m 47 ls [])) → W p l e rm_X10_meet s m args below meth c H locs 0 0 QQ (F0 m 23 ls []) := by
    intro c47 n
    induction n with
    | zero =>
      intro oz v2 v3 H locs ls hP hS hl hf k47
      rw [p_X10_meet_L23] at hf
      cases hf
    | succ n ih =>
      intro oz v2 v3 H locs ls hP hS hl hf k47
      rw [p_X10_meet_L23] at hf
      refine lv_iload_n hx hb dX10_meet_23 rfl (lv_at hl 2 rfl) ?_
      refine lv_bipush (v := 60) hx hb dX10_meet_24 (by decide) ?_
      refine lv_icmp_gt (tgt := 47) hx hb dX10_meet_26 (by decide) (fun c_26 => ?_) (fun c_26 => ?_)
      · rw [if_pos c_26] at hf
        exact k47 oz v2 _ _ _ hP hS (lv_sub hl [0, 1] rfl) hf
      rw [if_neg c_26] at hf
      refine lv_aload_n hx hb dX10_meet_29 rfl (lv_at hl 0 rfl) ?_
      refine va_get (D := D) (ci := 10) (v := .ref (a 14)) (C := RX10) (T := TX10) (N := 42) hx hb htl inlX10 hown hK hP 0 rfl rfl 27 (by decide) (htl _ wq_7_16) (fun _ h9 => h9) rfl dX10_meet_30 ?_
      refine lv_iload_n hx hb dX10_meet_33 rfl (lv_at hl 2 rfl) ?_
      refine lv_aload_n hx hb dX10_meet_34 rfl (lv_at hl 0 rfl) ?_
      refine va_get (D := D) (ci := 10) (v := .ref (a 12)) (C := RX10) (T := TX10) (N := 42) hx hb htl inlX10 hown hK hP 0 rfl rfl 22 (by decide) (htl _ wq_7_14) (fun _ h9 => h9) rfl dX10_meet_35 ?_
      refine lv_iload_n hx hb dX10_meet_38 rfl (lv_at hl 2 rfl) ?_
      obtain ⟨hi_39, hf⟩ := ob_in hf
      refine va_iald (D := D) (tys := tyl ct) hx hb hK hP 12 0 rfl rfl hi_39 dX10_meet_39 ?_
      obtain ⟨hi_40, hf⟩ := ob_in hf
      refine va_iast (D := D) (tys := tyl ct) hx hb hK hP (hDW oz) hS 14 0 rfl rfl hi_40 dX10_meet_40 (fun H_40 locs_40 hP _ hS => ?_)
      have hP : va_P D vwCl (cs10 ct a (oA oz 27 (upd (oz.1 27) v3.toNatClampNeg ((oz.1 22) v3.toNatClampNeg)))) H_40 := sa10_27 hP
      refine lv_iinc (v := (v3 + 1)) (lv' := [(3, .int (v3 + 1)), (0, .ref (a 0)), (2, .int v2)]) hx hb dX10_meet_41 hl (k := 2) rfl rfl (by decide) rfl (fun ls hl => ?_)
      refine lv_goto (tgt := 23) hx hb dX10_meet_44 (by decide) ?_
      exact ih (oA oz 27 (upd (oz.1 27) v3.toNatClampNeg ((oz.1 22) v3.toNatClampNeg))) v2 (v3 + 1) _ _ _ hP hS (lv_sub hl [1, 2, 0] rfl) hf k47
  have hL55 : ∀ (n : Nat) (oz : Ob) (v3 : Int32), ∀ (H : Heap) (locs : List Loc) (ls : Array Slot), va_P D vwCl (cs10 ct a oz) H → va_S (wA (cs10 ct a o)) s.heap H locs → lv_has ls 4 [(0, .ref (a 0)), (3, .int v3)] → p_X10_meet_L55 fu  n oz v3 = some r → W p l e rm_X10_meet s m args below meth c H locs 0 0 QQ (F0 m 55 ls []) := by
    intro  n
    induction n with
    | zero =>
      intro oz v3 H locs ls hP hS hl hf 
      rw [p_X10_meet_L55] at hf
      cases hf
    | succ n ih =>
      intro oz v3 H locs ls hP hS hl hf 
      rw [p_X10_meet_L55] at hf
      refine lv_iload_n hx hb dX10_meet_55 rfl (lv_at hl 1 rfl) ?_
      refine lv_bipush (v := 60) hx hb dX10_meet_56 (by decide) ?_
      refine lv_icmp_gt (tgt := 93) hx hb dX10_meet_58 (by decide) (fun c_58 => ?_) (fun c_58 => ?_)
      · rw [if_pos c_58] at hf
        refine lv_iconst (v := (-1)) hx hb dX10_meet_93 (by decide) ?_
        rw [← hQQ]
        cases hf
        exact rw_i hx hb hr hlocks hP hS dX10_meet_94
      rw [if_neg c_58] at hf
      refine lv_aload_n hx hb dX10_meet_61 rfl (lv_at hl 0 rfl) ?_
      refine va_get (D := D) (ci := 10) (v := .ref (a 12)) (C := RX10) (T := TX10) (N := 42) hx hb htl inlX10 hown hK hP 0 rfl rfl 22 (by decide) (htl _ wq_7_14) (fun _ h9 => h9) rfl dX10_meet_62 ?_
      refine lv_iload_n hx hb dX10_meet_65 rfl (lv_at hl 1 rfl) ?_
      obtain ⟨hi_66, hf⟩ := ob_in hf
      refine va_iald (D := D) (tys := tyl ct) hx hb hK hP 12 0 rfl rfl hi_66 dX10_meet_66 ?_
      refine lv_if_lt (tgt := 87) hx hb dX10_meet_67 (by decide) (fun c_67 => ?_) (fun c_67 => ?_)
      · rw [if_pos c_67] at hf
        refine lv_iinc (v := (v3 + 1)) (lv' := [(3, .int (v3 + 1)), (0, .ref (a 0))]) hx hb dX10_meet_87 hl (k := 1) rfl rfl (by decide) rfl (fun ls hl => ?_)
        refine lv_goto (tgt := 55) hx hb dX10_meet_90 (by decide) ?_
        exact ih oz (v3 + 1) _ _ _ hP hS (lv_sub hl [1, 0] rfl) hf 
      rw [if_neg c_67] at hf
      refine lv_aload_n hx hb dX10_meet_70 rfl (lv_at hl 0 rfl) ?_
      refine va_get (D := D) (ci := 10) (v := .ref (a 12)) (C := RX10) (T := TX10) (N := 42) hx hb htl inlX10 hown hK hP 0 rfl rfl 22 (by decide) (htl _ wq_7_14) (fun _ h9 => h9) rfl dX10_meet_71 ?_
      refine lv_iload_n hx hb dX10_meet_74 rfl (lv_at hl 1 rfl) ?_
      obtain ⟨hi_75, hf⟩ := ob_in hf
      refine va_iald (D := D) (tys := tyl ct) hx hb hK hP 12 0 rfl rfl hi_75 dX10_meet_75 ?_
      refine lv_aload_n hx hb dX10_meet_76 rfl (lv_at hl 0 rfl) ?_
      refine va_get (D := D) (ci := 10) (v := .ref (a 14)) (C := RX10) (T := TX10) (N := 42) hx hb htl inlX10 hown hK hP 0 rfl rfl 27 (by decide) (htl _ wq_7_16) (fun _ h9 => h9) rfl dX10_meet_77 ?_
      refine lv_iload_n hx hb dX10_meet_80 rfl (lv_at hl 1 rfl) ?_
      obtain ⟨hi_81, hf⟩ := ob_in hf
      refine va_iald (D := D) (tys := tyl ct) hx hb hK hP 14 0 rfl rfl hi_81 dX10_meet_81 ?_
      refine lv_icmp_ne (tgt := 87) hx hb dX10_meet_82 (by decide) (fun c_82 => ?_) (fun c_82 => ?_)
      · rw [if_neg c_82] at hf
        refine lv_iinc (v := (v3 + 1)) (lv' := [(3, .int (v3 + 1)), (0, .ref (a 0))]) hx hb dX10_meet_87 hl (k := 1) rfl rfl (by decide) rfl (fun ls hl => ?_)
        refine lv_goto (tgt := 55) hx hb dX10_meet_90 (by decide) ?_
        exact ih oz (v3 + 1) _ _ _ hP hS (lv_sub hl [1, 0] rfl) hf 
      rw [if_pos c_82] at hf
      refine lv_iload_n hx hb dX10_meet_85 rfl (lv_at hl 1 rfl) ?_
      rw [← hQQ]
      cases hf
      exact rw_i hx hb hr hlocks hP hS dX10_meet_86
  rw [p_X10_meet] at hf
  refine lv_aload_n hx hb dX10_meet_0 rfl (lv_at hl 0 rfl) ?_
  refine lv_iload_n hx hb dX10_meet_1 rfl (lv_at hl 2 rfl) ?_
  refine lv_i2l hx hb dX10_meet_2 rfl ?_
  obtain ⟨r_3, e_3, hf⟩ := ob_bind hf
  have hPX_3 : va_P D vwCl (cs10 ct a o) s.heap := hP
  refine ro_call1 (va_runV (As := [.long v2.toInt64]) (rest := []) ⟨hx, hb, hml, hown, htl⟩ (c_X10_isReach l D ct G a fu o v2.toInt64 e_3) (cw_X10_X10_isReach htl ⟨Nat.le_of_ble_eq_true rfl, Nat.le_of_ble_eq_true rfl⟩) ⟨Bx_blind, va_recv hK hPX_3 (ci := 10) (q0 := 0) rfl rfl, Bx_pre hPX_3 hK hN (hX.stay hS hGE)⟩ rfl rfl hl.1 rfl (lv_room (Nat.le_of_ble_eq_true rfl)) dX10_meet_3 ⟨Nat.zero_le _, Nat.zero_le _⟩) ?_
  refine lv_if_eq (tgt := 18) hx hb dX10_meet_6 (by decide) (fun c_6 => ?_) (fun c_6 => ?_)
  · rw [if_pos c_6] at hf
    refine lv_bipush (v := (-2)) hx hb dX10_meet_18 (by decide) ?_
    rw [← hQQ]
    cases hf
    exact rw_i hx hb hr hlocks hP hS dX10_meet_20
  rw [if_neg c_6] at hf
  refine lv_aload_n hx hb dX10_meet_9 rfl (lv_at hl 0 rfl) ?_
  refine lv_iload_n hx hb dX10_meet_10 rfl (lv_at hl 1 rfl) ?_
  refine lv_iconst (v := 0) hx hb dX10_meet_11 (by decide) ?_
  obtain ⟨r_12, e_12, hf⟩ := ob_bind hf
  have hPX_12 : va_P D vwCl (cs10 ct a o) s.heap := hP
  refine wr_call1 (va_runV (As := [.int v1, .int 0]) (rest := []) ⟨hx, hb, hml, hown, htl⟩ (c_X10_putsIn l D ct G a fu o v1 (0 : Int32) e_12 (hDx o)) (cw_X10_X10_putsIn htl ⟨Nat.le_of_ble_eq_true rfl, Nat.le_of_ble_eq_true rfl⟩) ⟨Bx_blind, va_recv hK hPX_12 (ci := 10) (q0 := 0) rfl rfl, Bx_pre hPX_12 hK hN (hX.stay hS hGE)⟩ rfl rfl hl.1 rfl (lv_room (Nat.le_of_ble_eq_true rfl)) dX10_meet_12 ⟨Nat.zero_le _, Nat.zero_le _⟩) hS (wA_cg rfl) (fun H_12 locs_12 hB_12 _ hk_12 hS => ?_)
  have hP : va_P D vwCl (cs10 ct a r_12.2) H_12 := hB_12
  refine lv_if_ne (tgt := 21) hx hb dX10_meet_15 (by decide) (fun c_15 => ?_) (fun c_15 => ?_)
  rotate_left 1
  · rw [if_pos c_15] at hf
    refine lv_bipush (v := (-2)) hx hb dX10_meet_18 (by decide) ?_
    rw [← hQQ]
    cases hf
    exact rw_i hx hb hr hlocks hP hS dX10_meet_20
  rw [if_neg c_15] at hf
  refine lv_iconst (v := 0) hx hb dX10_meet_21 (by decide) ?_
  refine lv_istore_n (lv' := [(3, .int 0), (0, .ref (a 0)), (1, .int v1), (2, .int v2)]) hx hb dX10_meet_22 rfl hl (by decide) rfl (fun ls hl => ?_)
  refine hL23 _ fu r_12.2 v2 0 _ _ _ hP hS (lv_sub hl [1, 3, 0] rfl) hf (fun oz v2 H locs ls hP hS hl hf => ?_)
  refine lv_aload_n hx hb dX10_meet_47 rfl (lv_at hl 0 rfl) ?_
  refine lv_iload_n hx hb dX10_meet_48 rfl (lv_at hl 1 rfl) ?_
  refine lv_iconst (v := 0) hx hb dX10_meet_49 (by decide) ?_
  obtain ⟨r_50, e_50, hf⟩ := ob_bind hf
  have hPX_50 : va_P D vwCl (cs10 ct a oz) H := hP
  refine wr_call0 (va_runV (As := [.int v2, .int 0]) (rest := []) ⟨hx, hb, hml, hown, htl⟩ (c_X10_goStick l D ct G a fu oz v2 (0 : Int32) e_50 (hDx oz)) (cw_X10_X10_goStick htl ⟨Nat.le_of_ble_eq_true rfl, Nat.le_of_ble_eq_true rfl⟩) ⟨Bx_blind, va_recv hK hPX_50 (ci := 10) (q0 := 0) rfl rfl, Bx_pre hPX_50 hK hN (hX.stay hS hGE)⟩ rfl rfl hl.1 rfl (lv_room (Nat.le_of_ble_eq_true rfl)) dX10_meet_50 ⟨Nat.zero_le _, Nat.zero_le _⟩) hS (wA_cg rfl) (fun H_50 locs_50 hB_50 _ hk_50 hS => ?_)
  have hP : va_P D vwCl (cs10 ct a r_50) H_50 := hB_50
  refine lv_iconst (v := 0) hx hb dX10_meet_53 (by decide) ?_
  refine lv_istore_n (lv' := [(3, .int 0), (0, .ref (a 0)), (2, .int v2)]) hx hb dX10_meet_54 rfl hl (by decide) rfl (fun ls hl => ?_)
  exact hL55 fu r_50 0 _ _ _ hP hS (lv_sub hl [1, 0] rfl) hf 
theorem c_X10_meet (l : Launch) (D : va_G) (ct : Nat → ClassId) (G : GT) (a : Nat → Nat) (fu : Nat) (o : Ob) (v1 : Int32) (v2 : Int32) {r : Int32 × Ob} (hf : p_X10_meet fu o v1 v2 = some r)  (hD0 : va_D (GE G) (cs10 ct a o)) : Met l yX10_meet (.code yX10_meet cX10_meet 4 (some .int) :: wsL_law) rm_X10_meet (va_Pc [.ref (a 0), .int v1, .int v2] (Bx D ct G (cs10 ct a o))) (Qwr (some (.int r.1)) (fun H => va_P D vwCl (cs10 ct a r.2) H) (wA (cs10 ct a o))) 0 0 (wA (cs10 ct a o)) := by
  refine Met.ofW (cc := cX10_meet) (maxL := 4) (ret := (some .int)) (by decide) rfl ?_
  intro p e s m args below meth c s₁ B hml hv
  obtain ⟨rfl, hP, hK, hN, hX⟩ := hv
  have hts := atoms_spec (ws := .code yX10_meet cX10_meet 4 (some .int) :: wsL_law) B.pre
  rw [lg_entry_eq]
  exact b_X10_meet a fu o v1 v2 B.exec B.bytes B.returns hml (findClass_of_methodNamed B.named) (fun w h => hts w (List.mem_cons_of_mem _ h)) B.notSynchronized hK hN hX hP hf hD0  (lv_entry [.ref (a 0), .int v1, .int v2] (n := 4) (Nat.le_of_ble_eq_true rfl))
def p_X10_alike_L23 (fu : Nat) (c47 : Ob → Int32 → Option (Int32 × Ob)) : Nat → Ob → Int32 → Int32 → Option (Int32 × Ob)
  | 0, _, _, _ => none
  | n + 1, oz, v2, v3 =>
    if (60 : Int32) < v3 then c47 oz v2 else if inb v3 61 = true then if inb v3 61 = true then p_X10_alike_L23 fu c47 n (oA oz 27 (upd (oz.1 27) v3.toNatClampNeg ((oz.1 22) v3.toNatClampNeg))) v2 (v3 + 1) else none else none
def p_X10_alike_L58 (fu : Nat)  : Nat → Ob → Int32 → Int32 → Option (Int32 × Ob)
  | 0, _, _, _ => none
  | n + 1, oz, v3, v4 =>
    if (60 : Int32) < v4 then some (v3, oz) else if inb v4 61 = true then if ((oz.1 22) v4.toNatClampNeg) < 0 then p_X10_alike_L58 fu  n oz (v3 + 0) (v4 + 1) else if inb v4 61 = true then if inb v4 61 = true then if ((oz.1 22) v4.toNatClampNeg) = ((oz.1 27) v4.toNatClampNeg) then p_X10_alike_L58 fu  n oz (v3 + 1) (v4 + 1) else p_X10_alike_L58 fu  n oz (v3 + 0) (v4 + 1) else none else none else none
def p_X10_alike (fu : Nat) (o : Ob) (v1 : Int32) (v2 : Int32) : Option (Int32 × Ob) :=
  (p_X10_isReach fu o v2.toInt64).bind fun r_3 => if r_3 = 0 then some (((-2) : Int32), o) else (p_X10_putsIn fu o v1 (0 : Int32)).bind fun r_12 => if r_12.1 = 0 then some (((-2) : Int32), r_12.2) else p_X10_alike_L23 fu (fun oz v2 => (p_X10_goStick fu oz v2 (0 : Int32)).bind fun r_50 => p_X10_alike_L58 fu fu r_50 0 0) fu r_12.2 v2 0
abbrev rm_X10_alike : Room := { frames := 5, cells := 0, slots := 0, locals := 109 }
set_option maxHeartbeats 4000000 in
set_option maxRecDepth 100000 in
theorem b_X10_alike {p : Program} {l : Launch} {e : Env} {s : State} {m : MethodId} {args : Array Value} {below : List Frame} {meth : Method} {c : Code} {ls : Array Slot} {D : va_G} {ct : Nat → ClassId} {G : GT} (a : Nat → Nat) (fu : Nat) (o : Ob) (v1 : Int32) (v2 : Int32) {r : Int32 × Ob} (hx : p.tables.exec = Jvm.exec) (hb : c.code = cX10_alike) (hr : meth.sig.returnType = (some .int)) (hml : c.maxLocals = 5) (hown : s.vm.findClass RX10 = some m.cls) (htl : ∀ w ∈ wsL_law, w.before args s = true) (hlocks : meth.locks = false) (hK : va_K D vwCl (tyl ct) s) (hN : ∀ w ∈ NW, va_Nw w s) (hX : SX G s s.heap) (hP0 : va_P D vwCl (cs10 ct a o) s.heap) (hf : p_X10_alike fu o v1 v2 = some r) (hD0 : va_D (GE G) (cs10 ct a o))  (hl : lv_has ls 5 [(0, .ref (a 0)), (1, .int v1), (2, .int v2)]) : W p l e rm_X10_alike s m args below meth c s.heap [] 0 0 (MQ below (Qwr (some (.int r.1)) (fun H => va_P D vwCl (cs10 ct a r.2) H) (wA (cs10 ct a o))) args s 0 0 (wA (cs10 ct a o))) (F0 m 0 ls []) := by
  generalize hQQ : MQ below (Qwr (some (.int r.1)) (fun H => va_P D vwCl (cs10 ct a r.2) H) (wA (cs10 ct a o))) args s 0 0 (wA (cs10 ct a o)) = QQ
  have hDx : ∀ (oy : Ob), va_D (GE G) (cs10 ct a oy) := fun oy => D_cr hD0 rfl
  have hDW : ∀ (oy : Ob), va_D (wA (cs10 ct a o)) (cs10 ct a oy) := fun oy => D_cr (D_self hD0) rfl
  have hGE : ∀ q, wA (cs10 ct a o) q → GE G q := wA_GE hD0
  have hP := hP0
  have hS : va_S (wA (cs10 ct a o)) s.heap s.heap [] := va_S.rf
  have hL23 : ∀ (c47 : Ob → Int32 → Option (Int32 × Ob)) (n : Nat) (oz : Ob) (v2 : Int32) (v3 : Int32), ∀ (H : Heap) (locs : List Loc) (ls : Array Slot), va_P D vwCl (cs10 ct a oz) H → va_S (wA (cs10 ct a o)) s.heap H locs → lv_has ls 5 [(0, .ref (a 0)), (2, .int v2), (3, .int v3)] → p_X10_alike_L23 fu c47 n oz v2 v3 = some r → (∀ (oz : Ob) (v2 : Int32), ∀ (H : Heap) (locs : List Loc) (ls : Array Slot), va_P D vwCl (cs10 ct a oz) H → va_S (wA (cs10 ct a o)) s.heap H locs → lv_has ls 5 [(0, .ref (a 0)), (2, .int v2)] → c47 oz v2 = some r → W p l e rm_X10_alike s m args below meth c H locs 0 0 QQ (F0 m 47 ls [])) → W p l e rm_X10_alike s m args below meth c H locs 0 0 QQ (F0 m 23 ls []) := by
    intro c47 n
    induction n with
    | zero =>
      intro oz v2 v3 H locs ls hP hS hl hf k47
      rw [p_X10_alike_L23] at hf
      cases hf
    | succ n ih =>
      intro oz v2 v3 H locs ls hP hS hl hf k47
      rw [p_X10_alike_L23] at hf
      refine lv_iload_n hx hb dX10_alike_23 rfl (lv_at hl 2 rfl) ?_
      refine lv_bipush (v := 60) hx hb dX10_alike_24 (by decide) ?_
      refine lv_icmp_gt (tgt := 47) hx hb dX10_alike_26 (by decide) (fun c_26 => ?_) (fun c_26 => ?_)
      · rw [if_pos c_26] at hf
        exact k47 oz v2 _ _ _ hP hS (lv_sub hl [0, 1] rfl) hf
      rw [if_neg c_26] at hf
      refine lv_aload_n hx hb dX10_alike_29 rfl (lv_at hl 0 rfl) ?_
      refine va_get (D := D) (ci := 10) (v := .ref (a 14)) (C := RX10) (T := TX10) (N := 42) hx hb htl inlX10 hown hK hP 0 rfl rfl 27 (by decide) (htl _ wq_7_16) (fun _ h9 => h9) rfl dX10_alike_30 ?_
      refine lv_iload_n hx hb dX10_alike_33 rfl (lv_at hl 2 rfl) ?_
      refine lv_aload_n hx hb dX10_alike_34 rfl (lv_at hl 0 rfl) ?_
      refine va_get (D := D) (ci := 10) (v := .ref (a 12)) (C := RX10) (T := TX10) (N := 42) hx hb htl inlX10 hown hK hP 0 rfl rfl 22 (by decide) (htl _ wq_7_14) (fun _ h9 => h9) rfl dX10_alike_35 ?_
      refine lv_iload_n hx hb dX10_alike_38 rfl (lv_at hl 2 rfl) ?_
      obtain ⟨hi_39, hf⟩ := ob_in hf
      refine va_iald (D := D) (tys := tyl ct) hx hb hK hP 12 0 rfl rfl hi_39 dX10_alike_39 ?_
      obtain ⟨hi_40, hf⟩ := ob_in hf
      refine va_iast (D := D) (tys := tyl ct) hx hb hK hP (hDW oz) hS 14 0 rfl rfl hi_40 dX10_alike_40 (fun H_40 locs_40 hP _ hS => ?_)
      have hP : va_P D vwCl (cs10 ct a (oA oz 27 (upd (oz.1 27) v3.toNatClampNeg ((oz.1 22) v3.toNatClampNeg)))) H_40 := sa10_27 hP
      refine lv_iinc (v := (v3 + 1)) (lv' := [(3, .int (v3 + 1)), (0, .ref (a 0)), (2, .int v2)]) hx hb dX10_alike_41 hl (k := 2) rfl rfl (by decide) rfl (fun ls hl => ?_)
      refine lv_goto (tgt := 23) hx hb dX10_alike_44 (by decide) ?_
      exact ih (oA oz 27 (upd (oz.1 27) v3.toNatClampNeg ((oz.1 22) v3.toNatClampNeg))) v2 (v3 + 1) _ _ _ hP hS (lv_sub hl [1, 2, 0] rfl) hf k47
  have hL58 : ∀ (n : Nat) (oz : Ob) (v3 : Int32) (v4 : Int32), ∀ (H : Heap) (locs : List Loc) (ls : Array Slot), va_P D vwCl (cs10 ct a oz) H → va_S (wA (cs10 ct a o)) s.heap H locs → lv_has ls 5 [(0, .ref (a 0)), (3, .int v3), (4, .int v4)] → p_X10_alike_L58 fu  n oz v3 v4 = some r → W p l e rm_X10_alike s m args below meth c H locs 0 0 QQ (F0 m 58 ls []) := by
    intro  n
    induction n with
    | zero =>
      intro oz v3 v4 H locs ls hP hS hl hf 
      rw [p_X10_alike_L58] at hf
      cases hf
    | succ n ih =>
      intro oz v3 v4 H locs ls hP hS hl hf 
      rw [p_X10_alike_L58] at hf
      refine lv_iload hx hb dX10_alike_58 (lv_at hl 2 rfl) ?_
      refine lv_bipush (v := 60) hx hb dX10_alike_60 (by decide) ?_
      refine lv_icmp_gt (tgt := 106) hx hb dX10_alike_62 (by decide) (fun c_62 => ?_) (fun c_62 => ?_)
      · rw [if_pos c_62] at hf
        refine lv_iload_n hx hb dX10_alike_106 rfl (lv_at hl 1 rfl) ?_
        rw [← hQQ]
        cases hf
        exact rw_i hx hb hr hlocks hP hS dX10_alike_107
      rw [if_neg c_62] at hf
      refine lv_iload_n hx hb dX10_alike_65 rfl (lv_at hl 1 rfl) ?_
      refine lv_aload_n hx hb dX10_alike_66 rfl (lv_at hl 0 rfl) ?_
      refine va_get (D := D) (ci := 10) (v := .ref (a 12)) (C := RX10) (T := TX10) (N := 42) hx hb htl inlX10 hown hK hP 0 rfl rfl 22 (by decide) (htl _ wq_7_14) (fun _ h9 => h9) rfl dX10_alike_67 ?_
      refine lv_iload hx hb dX10_alike_70 (lv_at hl 2 rfl) ?_
      obtain ⟨hi_72, hf⟩ := ob_in hf
      refine va_iald (D := D) (tys := tyl ct) hx hb hK hP 12 0 rfl rfl hi_72 dX10_alike_72 ?_
      refine lv_if_lt (tgt := 97) hx hb dX10_alike_73 (by decide) (fun c_73 => ?_) (fun c_73 => ?_)
      · rw [if_pos c_73] at hf
        refine lv_iconst (v := 0) hx hb dX10_alike_97 (by decide) ?_
        refine lv_iadd hx hb dX10_alike_98 ?_
        refine lv_istore_n (lv' := [(3, .int (v3 + 0)), (0, .ref (a 0)), (4, .int v4)]) hx hb dX10_alike_99 rfl hl (by decide) rfl (fun ls hl => ?_)
        refine lv_iinc (v := (v4 + 1)) (lv' := [(4, .int (v4 + 1)), (3, .int (v3 + 0)), (0, .ref (a 0))]) hx hb dX10_alike_100 hl (k := 2) rfl rfl (by decide) rfl (fun ls hl => ?_)
        refine lv_goto (tgt := 58) hx hb dX10_alike_103 (by decide) ?_
        exact ih oz (v3 + 0) (v4 + 1) _ _ _ hP hS (lv_sub hl [2, 1, 0] rfl) hf 
      rw [if_neg c_73] at hf
      refine lv_aload_n hx hb dX10_alike_76 rfl (lv_at hl 0 rfl) ?_
      refine va_get (D := D) (ci := 10) (v := .ref (a 12)) (C := RX10) (T := TX10) (N := 42) hx hb htl inlX10 hown hK hP 0 rfl rfl 22 (by decide) (htl _ wq_7_14) (fun _ h9 => h9) rfl dX10_alike_77 ?_
      refine lv_iload hx hb dX10_alike_80 (lv_at hl 2 rfl) ?_
      obtain ⟨hi_82, hf⟩ := ob_in hf
      refine va_iald (D := D) (tys := tyl ct) hx hb hK hP 12 0 rfl rfl hi_82 dX10_alike_82 ?_
      refine lv_aload_n hx hb dX10_alike_83 rfl (lv_at hl 0 rfl) ?_
      refine va_get (D := D) (ci := 10) (v := .ref (a 14)) (C := RX10) (T := TX10) (N := 42) hx hb htl inlX10 hown hK hP 0 rfl rfl 27 (by decide) (htl _ wq_7_16) (fun _ h9 => h9) rfl dX10_alike_84 ?_
      refine lv_iload hx hb dX10_alike_87 (lv_at hl 2 rfl) ?_
      obtain ⟨hi_89, hf⟩ := ob_in hf
      refine va_iald (D := D) (tys := tyl ct) hx hb hK hP 14 0 rfl rfl hi_89 dX10_alike_89 ?_
      refine lv_icmp_ne (tgt := 97) hx hb dX10_alike_90 (by decide) (fun c_90 => ?_) (fun c_90 => ?_)
      · rw [if_neg c_90] at hf
        refine lv_iconst (v := 0) hx hb dX10_alike_97 (by decide) ?_
        refine lv_iadd hx hb dX10_alike_98 ?_
        refine lv_istore_n (lv' := [(3, .int (v3 + 0)), (0, .ref (a 0)), (4, .int v4)]) hx hb dX10_alike_99 rfl hl (by decide) rfl (fun ls hl => ?_)
        refine lv_iinc (v := (v4 + 1)) (lv' := [(4, .int (v4 + 1)), (3, .int (v3 + 0)), (0, .ref (a 0))]) hx hb dX10_alike_100 hl (k := 2) rfl rfl (by decide) rfl (fun ls hl => ?_)
        refine lv_goto (tgt := 58) hx hb dX10_alike_103 (by decide) ?_
        exact ih oz (v3 + 0) (v4 + 1) _ _ _ hP hS (lv_sub hl [2, 1, 0] rfl) hf 
      rw [if_pos c_90] at hf
      refine lv_iconst (v := 1) hx hb dX10_alike_93 (by decide) ?_
      refine lv_goto (tgt := 98) hx hb dX10_alike_94 (by decide) ?_
      refine lv_iadd hx hb dX10_alike_98 ?_
      refine lv_istore_n (lv' := [(3, .int (v3 + 1)), (0, .ref (a 0)), (4, .int v4)]) hx hb dX10_alike_99 rfl hl (by decide) rfl (fun ls hl => ?_)
      refine lv_iinc (v := (v4 + 1)) (lv' := [(4, .int (v4 + 1)), (3, .int (v3 + 1)), (0, .ref (a 0))]) hx hb dX10_alike_100 hl (k := 2) rfl rfl (by decide) rfl (fun ls hl => ?_)
      refine lv_goto (tgt := 58) hx hb dX10_alike_103 (by decide) ?_
      exact ih oz (v3 + 1) (v4 + 1) _ _ _ hP hS (lv_sub hl [2, 1, 0] rfl) hf 
  rw [p_X10_alike] at hf
  refine lv_aload_n hx hb dX10_alike_0 rfl (lv_at hl 0 rfl) ?_
  refine lv_iload_n hx hb dX10_alike_1 rfl (lv_at hl 2 rfl) ?_
  refine lv_i2l hx hb dX10_alike_2 rfl ?_
  obtain ⟨r_3, e_3, hf⟩ := ob_bind hf
  have hPX_3 : va_P D vwCl (cs10 ct a o) s.heap := hP
  refine ro_call1 (va_runV (As := [.long v2.toInt64]) (rest := []) ⟨hx, hb, hml, hown, htl⟩ (c_X10_isReach l D ct G a fu o v2.toInt64 e_3) (cw_X10_X10_isReach htl ⟨Nat.le_of_ble_eq_true rfl, Nat.le_of_ble_eq_true rfl⟩) ⟨Bx_blind, va_recv hK hPX_3 (ci := 10) (q0 := 0) rfl rfl, Bx_pre hPX_3 hK hN (hX.stay hS hGE)⟩ rfl rfl hl.1 rfl (lv_room (Nat.le_of_ble_eq_true rfl)) dX10_alike_3 ⟨Nat.zero_le _, Nat.zero_le _⟩) ?_
  refine lv_if_eq (tgt := 18) hx hb dX10_alike_6 (by decide) (fun c_6 => ?_) (fun c_6 => ?_)
  · rw [if_pos c_6] at hf
    refine lv_bipush (v := (-2)) hx hb dX10_alike_18 (by decide) ?_
    rw [← hQQ]
    cases hf
    exact rw_i hx hb hr hlocks hP hS dX10_alike_20
  rw [if_neg c_6] at hf
  refine lv_aload_n hx hb dX10_alike_9 rfl (lv_at hl 0 rfl) ?_
  refine lv_iload_n hx hb dX10_alike_10 rfl (lv_at hl 1 rfl) ?_
  refine lv_iconst (v := 0) hx hb dX10_alike_11 (by decide) ?_
  obtain ⟨r_12, e_12, hf⟩ := ob_bind hf
  have hPX_12 : va_P D vwCl (cs10 ct a o) s.heap := hP
  refine wr_call1 (va_runV (As := [.int v1, .int 0]) (rest := []) ⟨hx, hb, hml, hown, htl⟩ (c_X10_putsIn l D ct G a fu o v1 (0 : Int32) e_12 (hDx o)) (cw_X10_X10_putsIn htl ⟨Nat.le_of_ble_eq_true rfl, Nat.le_of_ble_eq_true rfl⟩) ⟨Bx_blind, va_recv hK hPX_12 (ci := 10) (q0 := 0) rfl rfl, Bx_pre hPX_12 hK hN (hX.stay hS hGE)⟩ rfl rfl hl.1 rfl (lv_room (Nat.le_of_ble_eq_true rfl)) dX10_alike_12 ⟨Nat.zero_le _, Nat.zero_le _⟩) hS (wA_cg rfl) (fun H_12 locs_12 hB_12 _ hk_12 hS => ?_)
  have hP : va_P D vwCl (cs10 ct a r_12.2) H_12 := hB_12
  refine lv_if_ne (tgt := 21) hx hb dX10_alike_15 (by decide) (fun c_15 => ?_) (fun c_15 => ?_)
  rotate_left 1
  · rw [if_pos c_15] at hf
    refine lv_bipush (v := (-2)) hx hb dX10_alike_18 (by decide) ?_
    rw [← hQQ]
    cases hf
    exact rw_i hx hb hr hlocks hP hS dX10_alike_20
  rw [if_neg c_15] at hf
  refine lv_iconst (v := 0) hx hb dX10_alike_21 (by decide) ?_
  refine lv_istore_n (lv' := [(3, .int 0), (0, .ref (a 0)), (1, .int v1), (2, .int v2)]) hx hb dX10_alike_22 rfl hl (by decide) rfl (fun ls hl => ?_)
  refine hL23 _ fu r_12.2 v2 0 _ _ _ hP hS (lv_sub hl [1, 3, 0] rfl) hf (fun oz v2 H locs ls hP hS hl hf => ?_)
  refine lv_aload_n hx hb dX10_alike_47 rfl (lv_at hl 0 rfl) ?_
  refine lv_iload_n hx hb dX10_alike_48 rfl (lv_at hl 1 rfl) ?_
  refine lv_iconst (v := 0) hx hb dX10_alike_49 (by decide) ?_
  obtain ⟨r_50, e_50, hf⟩ := ob_bind hf
  have hPX_50 : va_P D vwCl (cs10 ct a oz) H := hP
  refine wr_call0 (va_runV (As := [.int v2, .int 0]) (rest := []) ⟨hx, hb, hml, hown, htl⟩ (c_X10_goStick l D ct G a fu oz v2 (0 : Int32) e_50 (hDx oz)) (cw_X10_X10_goStick htl ⟨Nat.le_of_ble_eq_true rfl, Nat.le_of_ble_eq_true rfl⟩) ⟨Bx_blind, va_recv hK hPX_50 (ci := 10) (q0 := 0) rfl rfl, Bx_pre hPX_50 hK hN (hX.stay hS hGE)⟩ rfl rfl hl.1 rfl (lv_room (Nat.le_of_ble_eq_true rfl)) dX10_alike_50 ⟨Nat.zero_le _, Nat.zero_le _⟩) hS (wA_cg rfl) (fun H_50 locs_50 hB_50 _ hk_50 hS => ?_)
  have hP : va_P D vwCl (cs10 ct a r_50) H_50 := hB_50
  refine lv_iconst (v := 0) hx hb dX10_alike_53 (by decide) ?_
  refine lv_istore_n (lv' := [(3, .int 0), (0, .ref (a 0)), (2, .int v2)]) hx hb dX10_alike_54 rfl hl (by decide) rfl (fun ls hl => ?_)
  refine lv_iconst (v := 0) hx hb dX10_alike_55 (by decide) ?_
  refine lv_istore (lv' := [(4, .int 0), (3, .int 0), (0, .ref (a 0)), (2, .int v2)]) hx hb dX10_alike_56 hl (by decide) rfl (fun ls hl => ?_)
  exact hL58 fu r_50 0 0 _ _ _ hP hS (lv_sub hl [2, 1, 0] rfl) hf 
theorem c_X10_alike (l : Launch) (D : va_G) (ct : Nat → ClassId) (G : GT) (a : Nat → Nat) (fu : Nat) (o : Ob) (v1 : Int32) (v2 : Int32) {r : Int32 × Ob} (hf : p_X10_alike fu o v1 v2 = some r)  (hD0 : va_D (GE G) (cs10 ct a o)) : Met l yX10_alike (.code yX10_alike cX10_alike 5 (some .int) :: wsL_law) rm_X10_alike (va_Pc [.ref (a 0), .int v1, .int v2] (Bx D ct G (cs10 ct a o))) (Qwr (some (.int r.1)) (fun H => va_P D vwCl (cs10 ct a r.2) H) (wA (cs10 ct a o))) 0 0 (wA (cs10 ct a o)) := by
  refine Met.ofW (cc := cX10_alike) (maxL := 5) (ret := (some .int)) (by decide) rfl ?_
  intro p e s m args below meth c s₁ B hml hv
  obtain ⟨rfl, hP, hK, hN, hX⟩ := hv
  have hts := atoms_spec (ws := .code yX10_alike cX10_alike 5 (some .int) :: wsL_law) B.pre
  rw [lg_entry_eq]
  exact b_X10_alike a fu o v1 v2 B.exec B.bytes B.returns hml (findClass_of_methodNamed B.named) (fun w h => hts w (List.mem_cons_of_mem _ h)) B.notSynchronized hK hN hX hP hf hD0  (lv_entry [.ref (a 0), .int v1, .int v2] (n := 5) (Nat.le_of_ble_eq_true rfl))
def p_X10_busy_L20 (fu : Nat) (c39 : Ob → Int32 → Option (Int32 × Ob)) : Nat → Ob → Int32 → Int32 → Option (Int32 × Ob)
  | 0, _, _, _ => none
  | n + 1, oz, v1, v2 =>
    if (10 : Int32) ≤ v2 then c39 oz v1 else if inb v2 10 = true then p_X10_busy_L20 fu c39 n (oA oz 28 (upd (oz.1 28) v2.toNatClampNeg (0 : Int32))) v1 (v2 + 1) else none
def p_X10_busy_L41 (fu : Nat) (c87 : Ob → Option (Int32 × Ob)) : Nat → Ob → Int32 → Int32 → Option (Int32 × Ob)
  | 0, _, _, _ => none
  | n + 1, oz, v1, v2 =>
    if inb (3 : Int32) 98 = true then if ((oz.1 1) (3 : Int32).toNatClampNeg) ≤ v2 then c87 oz else (p_X10_goStick fu oz v2 (0 : Int32)).bind fun r_54 => if inb v1 61 = true then if ((r_54.1 22) v1.toNatClampNeg) < 0 then p_X10_busy_L41 fu c87 n r_54 v1 (v2 + 1) else if inb v1 61 = true then if inb ((r_54.1 22) v1.toNatClampNeg) 10 = true then if inb ((r_54.1 22) v1.toNatClampNeg) 10 = true then p_X10_busy_L41 fu c87 n (oA r_54 28 (upd (r_54.1 28) (((r_54.1 22) v1.toNatClampNeg).toNatClampNeg) (((r_54.1 28) ((r_54.1 22) v1.toNatClampNeg).toNatClampNeg) + 1))) v1 (v2 + 1) else none else none else none else none else none
def p_X10_busy_J118 (fu : Nat) (c91 : Ob → Int32 → Int32 → Option (Int32 × Ob)) (oz : Ob) (v2 : Int32) (v3 : Int32) (s0 : Int32) (s1 : Int32) : Option (Int32 × Ob) :=
    if s0 ≤ s1 then c91 oz v2 (v3 + 1) else c91 oz v3 (v3 + 1)
def p_X10_busy_L91 (fu : Nat)  : Nat → Ob → Int32 → Int32 → Option (Int32 × Ob)
  | 0, _, _, _ => none
  | n + 1, oz, v2, v3 =>
    if (10 : Int32) ≤ v3 then some (v2, oz) else if inb v3 10 = true then if v2 = ((-1) : Int32) then p_X10_busy_J118 fu (fun oz v2 v3 => p_X10_busy_L91 fu  n oz v2 v3) oz v2 v3 ((oz.1 28) v3.toNatClampNeg) 0 else if inb v2 10 = true then p_X10_busy_J118 fu (fun oz v2 v3 => p_X10_busy_L91 fu  n oz v2 v3) oz v2 v3 ((oz.1 28) v3.toNatClampNeg) ((oz.1 28) v2.toNatClampNeg) else none else none
def p_X10_busy (fu : Nat) (o : Ob) (v1 : Int32) : Option (Int32 × Ob) :=
  (p_X10_asksRivers fu o).bind fun r_1 => if r_1.1 = 0 then some (((-2) : Int32), r_1.2) else (p_X10_isStep fu v1.toInt64).bind fun r_9 => if r_9 = 0 then some (((-2) : Int32), r_1.2) else p_X10_busy_L20 fu (fun oz v1 => p_X10_busy_L41 fu (fun oz => p_X10_busy_L91 fu fu oz (-1) 0) fu oz v1 0) fu r_1.2 v1 0
abbrev rm_X10_busy : Room := { frames := 4, cells := 0, slots := 0, locals := 86 }
set_option maxHeartbeats 4000000 in
set_option maxRecDepth 100000 in
theorem b_X10_busy {p : Program} {l : Launch} {e : Env} {s : State} {m : MethodId} {args : Array Value} {below : List Frame} {meth : Method} {c : Code} {ls : Array Slot} {D : va_G} {ct : Nat → ClassId} {G : GT} (a : Nat → Nat) (fu : Nat) (o : Ob) (v1 : Int32) {r : Int32 × Ob} (hx : p.tables.exec = Jvm.exec) (hb : c.code = cX10_busy) (hr : meth.sig.returnType = (some .int)) (hml : c.maxLocals = 4) (hown : s.vm.findClass RX10 = some m.cls) (htl : ∀ w ∈ wsL_law, w.before args s = true) (hlocks : meth.locks = false) (hK : va_K D vwCl (tyl ct) s) (hN : ∀ w ∈ NW, va_Nw w s) (hX : SX G s s.heap) (hP0 : va_P D vwCl (cs10 ct a o) s.heap) (hf : p_X10_busy fu o v1 = some r) (hD0 : va_D (GE G) (cs10 ct a o))  (hl : lv_has ls 4 [(0, .ref (a 0)), (1, .int v1)]) : W p l e rm_X10_busy s m args below meth c s.heap [] 0 0 (MQ below (Qwr (some (.int r.1)) (fun H => va_P D vwCl (cs10 ct a r.2) H) (wA (cs10 ct a o))) args s 0 0 (wA (cs10 ct a o))) (F0 m 0 ls []) := by
  generalize hQQ : MQ below (Qwr (some (.int r.1)) (fun H => va_P D vwCl (cs10 ct a r.2) H) (wA (cs10 ct a o))) args s 0 0 (wA (cs10 ct a o)) = QQ
  have hDx : ∀ (oy : Ob), va_D (GE G) (cs10 ct a oy) := fun oy => D_cr hD0 rfl
  have hDW : ∀ (oy : Ob), va_D (wA (cs10 ct a o)) (cs10 ct a oy) := fun oy => D_cr (D_self hD0) rfl
  have hGE : ∀ q, wA (cs10 ct a o) q → GE G q := wA_GE hD0
  have hP := hP0
  have hS : va_S (wA (cs10 ct a o)) s.heap s.heap [] := va_S.rf
  have hL20 : ∀ (c39 : Ob → Int32 → Option (Int32 × Ob)) (n : Nat) (oz : Ob) (v1 : Int32) (v2 : Int32), ∀ (H : Heap) (locs : List Loc) (ls : Array Slot), va_P D vwCl (cs10 ct a oz) H → va_S (wA (cs10 ct a o)) s.heap H locs → lv_has ls 4 [(0, .ref (a 0)), (1, .int v1), (2, .int v2)] → p_X10_busy_L20 fu c39 n oz v1 v2 = some r → (∀ (oz : Ob) (v1 : Int32), ∀ (H : Heap) (locs : List Loc) (ls : Array Slot), va_P D vwCl (cs10 ct a oz) H → va_S (wA (cs10 ct a o)) s.heap H locs → lv_has ls 4 [(0, .ref (a 0)), (1, .int v1)] → c39 oz v1 = some r → W p l e rm_X10_busy s m args below meth c H locs 0 0 QQ (F0 m 39 ls [])) → W p l e rm_X10_busy s m args below meth c H locs 0 0 QQ (F0 m 20 ls []) := by
    intro c39 n
    induction n with
    | zero =>
      intro oz v1 v2 H locs ls hP hS hl hf k39
      rw [p_X10_busy_L20] at hf
      cases hf
    | succ n ih =>
      intro oz v1 v2 H locs ls hP hS hl hf k39
      rw [p_X10_busy_L20] at hf
      refine lv_iload_n hx hb dX10_busy_20 rfl (lv_at hl 2 rfl) ?_
      refine lv_bipush (v := 10) hx hb dX10_busy_21 (by decide) ?_
      refine lv_icmp_ge (tgt := 39) hx hb dX10_busy_23 (by decide) (fun c_23 => ?_) (fun c_23 => ?_)
      · rw [if_pos c_23] at hf
        exact k39 oz v1 _ _ _ hP hS (lv_sub hl [0, 1] rfl) hf
      rw [if_neg c_23] at hf
      refine lv_aload_n hx hb dX10_busy_26 rfl (lv_at hl 0 rfl) ?_
      refine va_get (D := D) (ci := 10) (v := .ref (a 15)) (C := RX10) (T := TX10) (N := 42) hx hb htl inlX10 hown hK hP 0 rfl rfl 28 (by decide) (htl _ wq_7_17) (fun _ h9 => h9) rfl dX10_busy_27 ?_
      refine lv_iload_n hx hb dX10_busy_30 rfl (lv_at hl 2 rfl) ?_
      refine lv_iconst (v := 0) hx hb dX10_busy_31 (by decide) ?_
      obtain ⟨hi_32, hf⟩ := ob_in hf
      refine va_iast (D := D) (tys := tyl ct) hx hb hK hP (hDW oz) hS 15 0 rfl rfl hi_32 dX10_busy_32 (fun H_32 locs_32 hP _ hS => ?_)
      have hP : va_P D vwCl (cs10 ct a (oA oz 28 (upd (oz.1 28) v2.toNatClampNeg (0 : Int32)))) H_32 := sa10_28 hP
      refine lv_iinc (v := (v2 + 1)) (lv' := [(2, .int (v2 + 1)), (0, .ref (a 0)), (1, .int v1)]) hx hb dX10_busy_33 hl (k := 2) rfl rfl (by decide) rfl (fun ls hl => ?_)
      refine lv_goto (tgt := 20) hx hb dX10_busy_36 (by decide) ?_
      exact ih (oA oz 28 (upd (oz.1 28) v2.toNatClampNeg (0 : Int32))) v1 (v2 + 1) _ _ _ hP hS (lv_sub hl [1, 2, 0] rfl) hf k39
  have hL41 : ∀ (c87 : Ob → Option (Int32 × Ob)) (n : Nat) (oz : Ob) (v1 : Int32) (v2 : Int32), ∀ (H : Heap) (locs : List Loc) (ls : Array Slot), va_P D vwCl (cs10 ct a oz) H → va_S (wA (cs10 ct a o)) s.heap H locs → lv_has ls 4 [(0, .ref (a 0)), (1, .int v1), (2, .int v2)] → p_X10_busy_L41 fu c87 n oz v1 v2 = some r → (∀ (oz : Ob), ∀ (H : Heap) (locs : List Loc) (ls : Array Slot), va_P D vwCl (cs10 ct a oz) H → va_S (wA (cs10 ct a o)) s.heap H locs → lv_has ls 4 [(0, .ref (a 0))] → c87 oz = some r → W p l e rm_X10_busy s m args below meth c H locs 0 0 QQ (F0 m 87 ls [])) → W p l e rm_X10_busy s m args below meth c H locs 0 0 QQ (F0 m 41 ls []) := by
    intro c87 n
    induction n with
    | zero =>
      intro oz v1 v2 H locs ls hP hS hl hf k87
      rw [p_X10_busy_L41] at hf
      cases hf
    | succ n ih =>
      intro oz v1 v2 H locs ls hP hS hl hf k87
      rw [p_X10_busy_L41] at hf
      refine lv_iload_n hx hb dX10_busy_41 rfl (lv_at hl 2 rfl) ?_
      refine lv_aload_n hx hb dX10_busy_42 rfl (lv_at hl 0 rfl) ?_
      refine va_get (D := D) (ci := 10) (v := .ref (a 1)) (C := RX10) (T := TX10) (N := 42) hx hb htl inlX10 hown hK hP 0 rfl rfl 1 (by decide) (htl _ wq_7_0) (fun _ h9 => h9) rfl dX10_busy_43 ?_
      refine lv_iconst (v := 3) hx hb dX10_busy_46 (by decide) ?_
      obtain ⟨hi_47, hf⟩ := ob_in hf
      refine va_iald (D := D) (tys := tyl ct) hx hb hK hP 1 0 rfl rfl hi_47 dX10_busy_47 ?_
      refine lv_icmp_ge (tgt := 87) hx hb dX10_busy_48 (by decide) (fun c_48 => ?_) (fun c_48 => ?_)
      · rw [if_pos c_48] at hf
        exact k87 oz _ _ _ hP hS (lv_sub hl [0] rfl) hf
      rw [if_neg c_48] at hf
      refine lv_aload_n hx hb dX10_busy_51 rfl (lv_at hl 0 rfl) ?_
      refine lv_iload_n hx hb dX10_busy_52 rfl (lv_at hl 2 rfl) ?_
      refine lv_iconst (v := 0) hx hb dX10_busy_53 (by decide) ?_
      obtain ⟨r_54, e_54, hf⟩ := ob_bind hf
      have hPX_54 : va_P D vwCl (cs10 ct a oz) H := hP
      refine wr_call0 (va_runV (As := [.int v2, .int 0]) (rest := []) ⟨hx, hb, hml, hown, htl⟩ (c_X10_goStick l D ct G a fu oz v2 (0 : Int32) e_54 (hDx oz)) (cw_X10_X10_goStick htl ⟨Nat.le_of_ble_eq_true rfl, Nat.le_of_ble_eq_true rfl⟩) ⟨Bx_blind, va_recv hK hPX_54 (ci := 10) (q0 := 0) rfl rfl, Bx_pre hPX_54 hK hN (hX.stay hS hGE)⟩ rfl rfl hl.1 rfl (lv_room (Nat.le_of_ble_eq_true rfl)) dX10_busy_54 ⟨Nat.zero_le _, Nat.zero_le _⟩) hS (wA_cg rfl) (fun H_54 locs_54 hB_54 _ hk_54 hS => ?_)
      have hP : va_P D vwCl (cs10 ct a r_54) H_54 := hB_54
      refine lv_aload_n hx hb dX10_busy_57 rfl (lv_at hl 0 rfl) ?_
      refine va_get (D := D) (ci := 10) (v := .ref (a 12)) (C := RX10) (T := TX10) (N := 42) hx hb htl inlX10 hown hK hP 0 rfl rfl 22 (by decide) (htl _ wq_7_14) (fun _ h9 => h9) rfl dX10_busy_58 ?_
      refine lv_iload_n hx hb dX10_busy_61 rfl (lv_at hl 1 rfl) ?_
      obtain ⟨hi_62, hf⟩ := ob_in hf
      refine va_iald (D := D) (tys := tyl ct) hx hb hK hP 12 0 rfl rfl hi_62 dX10_busy_62 ?_
      refine lv_if_lt (tgt := 81) hx hb dX10_busy_63 (by decide) (fun c_63 => ?_) (fun c_63 => ?_)
      · rw [if_pos c_63] at hf
        refine lv_iinc (v := (v2 + 1)) (lv' := [(2, .int (v2 + 1)), (0, .ref (a 0)), (1, .int v1)]) hx hb dX10_busy_81 hl (k := 2) rfl rfl (by decide) rfl (fun ls hl => ?_)
        refine lv_goto (tgt := 41) hx hb dX10_busy_84 (by decide) ?_
        exact ih r_54 v1 (v2 + 1) _ _ _ hP hS (lv_sub hl [1, 2, 0] rfl) hf k87
      rw [if_neg c_63] at hf
      refine lv_aload_n hx hb dX10_busy_66 rfl (lv_at hl 0 rfl) ?_
      refine va_get (D := D) (ci := 10) (v := .ref (a 15)) (C := RX10) (T := TX10) (N := 42) hx hb htl inlX10 hown hK hP 0 rfl rfl 28 (by decide) (htl _ wq_7_17) (fun _ h9 => h9) rfl dX10_busy_67 ?_
      refine lv_aload_n hx hb dX10_busy_70 rfl (lv_at hl 0 rfl) ?_
      refine va_get (D := D) (ci := 10) (v := .ref (a 12)) (C := RX10) (T := TX10) (N := 42) hx hb htl inlX10 hown hK hP 0 rfl rfl 22 (by decide) (htl _ wq_7_14) (fun _ h9 => h9) rfl dX10_busy_71 ?_
      refine lv_iload_n hx hb dX10_busy_74 rfl (lv_at hl 1 rfl) ?_
      obtain ⟨hi_75, hf⟩ := ob_in hf
      refine va_iald (D := D) (tys := tyl ct) hx hb hK hP 12 0 rfl rfl hi_75 dX10_busy_75 ?_
      refine lv_dup2_11 hx hb dX10_busy_76 rfl rfl ?_
      obtain ⟨hi_77, hf⟩ := ob_in hf
      refine va_iald (D := D) (tys := tyl ct) hx hb hK hP 15 0 rfl rfl hi_77 dX10_busy_77 ?_
      refine lv_iconst (v := 1) hx hb dX10_busy_78 (by decide) ?_
      refine lv_iadd hx hb dX10_busy_79 ?_
      obtain ⟨hi_80, hf⟩ := ob_in hf
      refine va_iast (D := D) (tys := tyl ct) hx hb hK hP (hDW r_54) hS 15 0 rfl rfl hi_80 dX10_busy_80 (fun H_80 locs_80 hP _ hS => ?_)
      have hP : va_P D vwCl (cs10 ct a (oA r_54 28 (upd (r_54.1 28) (((r_54.1 22) v1.toNatClampNeg).toNatClampNeg) (((r_54.1 28) ((r_54.1 22) v1.toNatClampNeg).toNatClampNeg) + 1)))) H_80 := sa10_28 hP
      refine lv_iinc (v := (v2 + 1)) (lv' := [(2, .int (v2 + 1)), (0, .ref (a 0)), (1, .int v1)]) hx hb dX10_busy_81 hl (k := 2) rfl rfl (by decide) rfl (fun ls hl => ?_)
      refine lv_goto (tgt := 41) hx hb dX10_busy_84 (by decide) ?_
      exact ih (oA r_54 28 (upd (r_54.1 28) (((r_54.1 22) v1.toNatClampNeg).toNatClampNeg) (((r_54.1 28) ((r_54.1 22) v1.toNatClampNeg).toNatClampNeg) + 1))) v1 (v2 + 1) _ _ _ hP hS (lv_sub hl [1, 2, 0] rfl) hf k87
  have hJ118 : ∀ (c91 : Ob → Int32 → Int32 → Option (Int32 × Ob)) (oz : Ob) (v2 : Int32) (v3 : Int32) (s0 : Int32) (s1 : Int32), ∀ (H : Heap) (locs : List Loc) (ls : Array Slot), va_P D vwCl (cs10 ct a oz) H → va_S (wA (cs10 ct a o)) s.heap H locs → lv_has ls 4 [(0, .ref (a 0)), (2, .int v2), (3, .int v3)] → p_X10_busy_J118 fu c91 oz v2 v3 s0 s1 = some r → (∀ (oz : Ob) (v2 : Int32) (v3 : Int32), ∀ (H : Heap) (locs : List Loc) (ls : Array Slot), va_P D vwCl (cs10 ct a oz) H → va_S (wA (cs10 ct a o)) s.heap H locs → lv_has ls 4 [(0, .ref (a 0)), (2, .int v2), (3, .int v3)] → c91 oz v2 v3 = some r → W p l e rm_X10_busy s m args below meth c H locs 0 0 QQ (F0 m 91 ls [])) → W p l e rm_X10_busy s m args below meth c H locs 0 0 QQ (F0 m 118 ls [.int s1, .int s0]) := by
    intro c91 oz v2 v3 s0 s1 H locs ls hP hS hl hf k91
    rw [p_X10_busy_J118] at hf
    refine lv_icmp_le (tgt := 123) hx hb dX10_busy_118 (by decide) (fun c_118 => ?_) (fun c_118 => ?_)
    · rw [if_pos c_118] at hf
      refine lv_iinc (v := (v3 + 1)) (lv' := [(3, .int (v3 + 1)), (0, .ref (a 0)), (2, .int v2)]) hx hb dX10_busy_123 hl (k := 2) rfl rfl (by decide) rfl (fun ls hl => ?_)
      refine lv_goto (tgt := 91) hx hb dX10_busy_126 (by decide) ?_
      exact k91 oz v2 (v3 + 1) _ _ _ hP hS (lv_sub hl [1, 2, 0] rfl) hf
    rw [if_neg c_118] at hf
    refine lv_iload_n hx hb dX10_busy_121 rfl (lv_at hl 2 rfl) ?_
    refine lv_istore_n (lv' := [(2, .int v3), (0, .ref (a 0)), (3, .int v3)]) hx hb dX10_busy_122 rfl hl (by decide) rfl (fun ls hl => ?_)
    refine lv_iinc (v := (v3 + 1)) (lv' := [(3, .int (v3 + 1)), (2, .int v3), (0, .ref (a 0))]) hx hb dX10_busy_123 hl (k := 2) rfl rfl (by decide) rfl (fun ls hl => ?_)
    refine lv_goto (tgt := 91) hx hb dX10_busy_126 (by decide) ?_
    exact k91 oz v3 (v3 + 1) _ _ _ hP hS (lv_sub hl [2, 1, 0] rfl) hf
  have hL91 : ∀ (n : Nat) (oz : Ob) (v2 : Int32) (v3 : Int32), ∀ (H : Heap) (locs : List Loc) (ls : Array Slot), va_P D vwCl (cs10 ct a oz) H → va_S (wA (cs10 ct a o)) s.heap H locs → lv_has ls 4 [(0, .ref (a 0)), (2, .int v2), (3, .int v3)] → p_X10_busy_L91 fu  n oz v2 v3 = some r → W p l e rm_X10_busy s m args below meth c H locs 0 0 QQ (F0 m 91 ls []) := by
    intro  n
    induction n with
    | zero =>
      intro oz v2 v3 H locs ls hP hS hl hf 
      rw [p_X10_busy_L91] at hf
      cases hf
    | succ n ih =>
      intro oz v2 v3 H locs ls hP hS hl hf 
      rw [p_X10_busy_L91] at hf
      refine lv_iload_n hx hb dX10_busy_91 rfl (lv_at hl 2 rfl) ?_
      refine lv_bipush (v := 10) hx hb dX10_busy_92 (by decide) ?_
      refine lv_icmp_ge (tgt := 129) hx hb dX10_busy_94 (by decide) (fun c_94 => ?_) (fun c_94 => ?_)
      · rw [if_pos c_94] at hf
        refine lv_iload_n hx hb dX10_busy_129 rfl (lv_at hl 1 rfl) ?_
        rw [← hQQ]
        cases hf
        exact rw_i hx hb hr hlocks hP hS dX10_busy_130
      rw [if_neg c_94] at hf
      refine lv_aload_n hx hb dX10_busy_97 rfl (lv_at hl 0 rfl) ?_
      refine va_get (D := D) (ci := 10) (v := .ref (a 15)) (C := RX10) (T := TX10) (N := 42) hx hb htl inlX10 hown hK hP 0 rfl rfl 28 (by decide) (htl _ wq_7_17) (fun _ h9 => h9) rfl dX10_busy_98 ?_
      refine lv_iload_n hx hb dX10_busy_101 rfl (lv_at hl 2 rfl) ?_
      obtain ⟨hi_102, hf⟩ := ob_in hf
      refine va_iald (D := D) (tys := tyl ct) hx hb hK hP 15 0 rfl rfl hi_102 dX10_busy_102 ?_
      refine lv_iload_n hx hb dX10_busy_103 rfl (lv_at hl 1 rfl) ?_
      refine lv_iconst (v := (-1)) hx hb dX10_busy_104 (by decide) ?_
      refine lv_icmp_ne (tgt := 112) hx hb dX10_busy_105 (by decide) (fun c_105 => ?_) (fun c_105 => ?_)
      rotate_left 1
      · rw [if_pos c_105] at hf
        refine lv_iconst (v := 0) hx hb dX10_busy_108 (by decide) ?_
        refine lv_goto (tgt := 118) hx hb dX10_busy_109 (by decide) ?_
        exact hJ118 _ oz v2 v3 ((oz.1 28) v3.toNatClampNeg) 0 _ _ _ hP hS (lv_sub hl [0, 1, 2] rfl) hf (fun oz v2 v3 H locs ls hP hS hl hf => ih oz v2 v3 H locs ls hP hS hl hf )
      rw [if_neg c_105] at hf
      refine lv_aload_n hx hb dX10_busy_112 rfl (lv_at hl 0 rfl) ?_
      refine va_get (D := D) (ci := 10) (v := .ref (a 15)) (C := RX10) (T := TX10) (N := 42) hx hb htl inlX10 hown hK hP 0 rfl rfl 28 (by decide) (htl _ wq_7_17) (fun _ h9 => h9) rfl dX10_busy_113 ?_
      refine lv_iload_n hx hb dX10_busy_116 rfl (lv_at hl 1 rfl) ?_
      obtain ⟨hi_117, hf⟩ := ob_in hf
      refine va_iald (D := D) (tys := tyl ct) hx hb hK hP 15 0 rfl rfl hi_117 dX10_busy_117 ?_
      exact hJ118 _ oz v2 v3 ((oz.1 28) v3.toNatClampNeg) ((oz.1 28) v2.toNatClampNeg) _ _ _ hP hS (lv_sub hl [0, 1, 2] rfl) hf (fun oz v2 v3 H locs ls hP hS hl hf => ih oz v2 v3 H locs ls hP hS hl hf )
  rw [p_X10_busy] at hf
  refine lv_aload_n hx hb dX10_busy_0 rfl (lv_at hl 0 rfl) ?_
  obtain ⟨r_1, e_1, hf⟩ := ob_bind hf
  have hPX_1 : va_P D vwCl (cs10 ct a o) s.heap := hP
  refine wr_call1 (va_runV (As := []) (rest := []) ⟨hx, hb, hml, hown, htl⟩ (c_X10_asksRivers l D ct G a fu o e_1 (hDx o)) (cw_X10_X10_asksRivers htl ⟨Nat.le_of_ble_eq_true rfl, Nat.le_of_ble_eq_true rfl⟩) ⟨Bx_blind, va_recv hK hPX_1 (ci := 10) (q0 := 0) rfl rfl, Bx_pre hPX_1 hK hN (hX.stay hS hGE)⟩ rfl rfl hl.1 rfl (lv_room (Nat.le_of_ble_eq_true rfl)) dX10_busy_1 ⟨Nat.zero_le _, Nat.zero_le _⟩) hS (wA_cg rfl) (fun H_1 locs_1 hB_1 _ hk_1 hS => ?_)
  have hP : va_P D vwCl (cs10 ct a r_1.2) H_1 := hB_1
  refine lv_if_eq (tgt := 15) hx hb dX10_busy_4 (by decide) (fun c_4 => ?_) (fun c_4 => ?_)
  · rw [if_pos c_4] at hf
    refine lv_bipush (v := (-2)) hx hb dX10_busy_15 (by decide) ?_
    rw [← hQQ]
    cases hf
    exact rw_i hx hb hr hlocks hP hS dX10_busy_17
  rw [if_neg c_4] at hf
  refine lv_iload_n hx hb dX10_busy_7 rfl (lv_at hl 1 rfl) ?_
  refine lv_i2l hx hb dX10_busy_8 rfl ?_
  obtain ⟨r_9, e_9, hf⟩ := ob_bind hf
  have hPX_9 : va_P D vwCl ([]) H_1 := P_nil
  refine ro_call1 (va_runS (As := [.long v1.toInt64]) (rest := []) ⟨hx, hb, hml, hown, htl⟩ (c_X10_isStep l D ct G fu v1.toInt64 e_9) (cw_X10_X10_isStep htl ⟨Nat.le_of_ble_eq_true rfl, Nat.le_of_ble_eq_true rfl⟩) ⟨Bx_blind, Bx_pre hPX_9 hK hN (hX.stay hS hGE)⟩ rfl rfl hl.1 rfl (lv_room (Nat.le_of_ble_eq_true rfl)) dX10_busy_9 ⟨Nat.zero_le _, Nat.zero_le _⟩) ?_
  refine lv_if_ne (tgt := 18) hx hb dX10_busy_12 (by decide) (fun c_12 => ?_) (fun c_12 => ?_)
  rotate_left 1
  · rw [if_pos c_12] at hf
    refine lv_bipush (v := (-2)) hx hb dX10_busy_15 (by decide) ?_
    rw [← hQQ]
    cases hf
    exact rw_i hx hb hr hlocks hP hS dX10_busy_17
  rw [if_neg c_12] at hf
  refine lv_iconst (v := 0) hx hb dX10_busy_18 (by decide) ?_
  refine lv_istore_n (lv' := [(2, .int 0), (0, .ref (a 0)), (1, .int v1)]) hx hb dX10_busy_19 rfl hl (by decide) rfl (fun ls hl => ?_)
  refine hL20 _ fu r_1.2 v1 0 _ _ _ hP hS (lv_sub hl [1, 2, 0] rfl) hf (fun oz v1 H locs ls hP hS hl hf => ?_)
  refine lv_iconst (v := 0) hx hb dX10_busy_39 (by decide) ?_
  refine lv_istore_n (lv' := [(2, .int 0), (0, .ref (a 0)), (1, .int v1)]) hx hb dX10_busy_40 rfl hl (by decide) rfl (fun ls hl => ?_)
  refine hL41 _ fu oz v1 0 _ _ _ hP hS (lv_sub hl [1, 2, 0] rfl) hf (fun oz H locs ls hP hS hl hf => ?_)
  refine lv_iconst (v := (-1)) hx hb dX10_busy_87 (by decide) ?_
  refine lv_istore_n (lv' := [(2, .int (-1)), (0, .ref (a 0))]) hx hb dX10_busy_88 rfl hl (by decide) rfl (fun ls hl => ?_)
  refine lv_iconst (v := 0) hx hb dX10_busy_89 (by decide) ?_
  refine lv_istore_n (lv' := [(3, .int 0), (2, .int (-1)), (0, .ref (a 0))]) hx hb dX10_busy_90 rfl hl (by decide) rfl (fun ls hl => ?_)
  exact hL91 fu oz (-1) 0 _ _ _ hP hS (lv_sub hl [2, 1, 0] rfl) hf 
theorem c_X10_busy (l : Launch) (D : va_G) (ct : Nat → ClassId) (G : GT) (a : Nat → Nat) (fu : Nat) (o : Ob) (v1 : Int32) {r : Int32 × Ob} (hf : p_X10_busy fu o v1 = some r)  (hD0 : va_D (GE G) (cs10 ct a o)) : Met l yX10_busy (.code yX10_busy cX10_busy 4 (some .int) :: wsL_law) rm_X10_busy (va_Pc [.ref (a 0), .int v1] (Bx D ct G (cs10 ct a o))) (Qwr (some (.int r.1)) (fun H => va_P D vwCl (cs10 ct a r.2) H) (wA (cs10 ct a o))) 0 0 (wA (cs10 ct a o)) := by
  refine Met.ofW (cc := cX10_busy) (maxL := 4) (ret := (some .int)) (by decide) rfl ?_
  intro p e s m args below meth c s₁ B hml hv
  obtain ⟨rfl, hP, hK, hN, hX⟩ := hv
  have hts := atoms_spec (ws := .code yX10_busy cX10_busy 4 (some .int) :: wsL_law) B.pre
  rw [lg_entry_eq]
  exact b_X10_busy a fu o v1 B.exec B.bytes B.returns hml (findClass_of_methodNamed B.named) (fun w h => hts w (List.mem_cons_of_mem _ h)) B.notSynchronized hK hN hX hP hf hD0  (lv_entry [.ref (a 0), .int v1] (n := 4) (Nat.le_of_ble_eq_true rfl))
def p_X10_areTwo (fu : Nat) (o : Ob) (v1 : Int32) (v2 : Int32) : Option (Int32 × Ob) :=
  (p_X10_asksReach fu o v1).bind fun r_2 => if r_2.1 = 0 then some ((0 : Int32), r_2.2) else (p_X10_isReach fu r_2.2 v2.toInt64).bind fun r_11 => if r_11 = 0 then some ((0 : Int32), r_2.2) else some ((1 : Int32), r_2.2)
abbrev rm_X10_areTwo : Room := { frames := 4, cells := 0, slots := 0, locals := 87 }
set_option maxHeartbeats 4000000 in
set_option maxRecDepth 100000 in
theorem b_X10_areTwo {p : Program} {l : Launch} {e : Env} {s : State} {m : MethodId} {args : Array Value} {below : List Frame} {meth : Method} {c : Code} {ls : Array Slot} {D : va_G} {ct : Nat → ClassId} {G : GT} (a : Nat → Nat) (fu : Nat) (o : Ob) (v1 : Int32) (v2 : Int32) {r : Int32 × Ob} (hx : p.tables.exec = Jvm.exec) (hb : c.code = cX10_areTwo) (hr : meth.sig.returnType = (some .boolean)) (hml : c.maxLocals = 3) (hown : s.vm.findClass RX10 = some m.cls) (htl : ∀ w ∈ wsL_law, w.before args s = true) (hlocks : meth.locks = false) (hK : va_K D vwCl (tyl ct) s) (hN : ∀ w ∈ NW, va_Nw w s) (hX : SX G s s.heap) (hP0 : va_P D vwCl (cs10 ct a o) s.heap) (hf : p_X10_areTwo fu o v1 v2 = some r) (hD0 : va_D (GE G) (cs10 ct a o))  (hl : lv_has ls 3 [(0, .ref (a 0)), (1, .int v1), (2, .int v2)]) : W p l e rm_X10_areTwo s m args below meth c s.heap [] 0 0 (MQ below (Qwr (some (.int r.1)) (fun H => va_P D vwCl (cs10 ct a r.2) H) (wA (cs10 ct a o))) args s 0 0 (wA (cs10 ct a o))) (F0 m 0 ls []) := by
  generalize hQQ : MQ below (Qwr (some (.int r.1)) (fun H => va_P D vwCl (cs10 ct a r.2) H) (wA (cs10 ct a o))) args s 0 0 (wA (cs10 ct a o)) = QQ
  have hDx : ∀ (oy : Ob), va_D (GE G) (cs10 ct a oy) := fun oy => D_cr hD0 rfl
  have hDW : ∀ (oy : Ob), va_D (wA (cs10 ct a o)) (cs10 ct a oy) := fun oy => D_cr (D_self hD0) rfl
  have hGE : ∀ q, wA (cs10 ct a o) q → GE G q := wA_GE hD0
  have hP := hP0
  have hS : va_S (wA (cs10 ct a o)) s.heap s.heap [] := va_S.rf
  rw [p_X10_areTwo] at hf
  refine lv_aload_n hx hb dX10_areTwo_0 rfl (lv_at hl 0 rfl) ?_
  refine lv_iload_n hx hb dX10_areTwo_1 rfl (lv_at hl 1 rfl) ?_
  obtain ⟨r_2, e_2, hf⟩ := ob_bind hf
  have hPX_2 : va_P D vwCl (cs10 ct a o) s.heap := hP
  refine wr_call1 (va_runV (As := [.int v1]) (rest := []) ⟨hx, hb, hml, hown, htl⟩ (c_X10_asksReach l D ct G a fu o v1 e_2 (hDx o)) (cw_X10_X10_asksReach htl ⟨Nat.le_of_ble_eq_true rfl, Nat.le_of_ble_eq_true rfl⟩) ⟨Bx_blind, va_recv hK hPX_2 (ci := 10) (q0 := 0) rfl rfl, Bx_pre hPX_2 hK hN (hX.stay hS hGE)⟩ rfl rfl hl.1 rfl (lv_room (Nat.le_of_ble_eq_true rfl)) dX10_areTwo_2 ⟨Nat.zero_le _, Nat.zero_le _⟩) hS (wA_cg rfl) (fun H_2 locs_2 hB_2 _ hk_2 hS => ?_)
  have hP : va_P D vwCl (cs10 ct a r_2.2) H_2 := hB_2
  refine lv_if_eq (tgt := 21) hx hb dX10_areTwo_5 (by decide) (fun c_5 => ?_) (fun c_5 => ?_)
  · rw [if_pos c_5] at hf
    refine lv_iconst (v := 0) hx hb dX10_areTwo_21 (by decide) ?_
    rw [← hQQ]
    cases hf
    exact rw_z hx hb hr hlocks (show narrow .boolean (.int 0) = .int 0 from rfl) hP hS dX10_areTwo_22
  rw [if_neg c_5] at hf
  refine lv_aload_n hx hb dX10_areTwo_8 rfl (lv_at hl 0 rfl) ?_
  refine lv_iload_n hx hb dX10_areTwo_9 rfl (lv_at hl 2 rfl) ?_
  refine lv_i2l hx hb dX10_areTwo_10 rfl ?_
  obtain ⟨r_11, e_11, hf⟩ := ob_bind hf
  have hPX_11 : va_P D vwCl (cs10 ct a r_2.2) H_2 := hP
  refine ro_call1 (va_runV (As := [.long v2.toInt64]) (rest := []) ⟨hx, hb, hml, hown, htl⟩ (c_X10_isReach l D ct G a fu r_2.2 v2.toInt64 e_11) (cw_X10_X10_isReach htl ⟨Nat.le_of_ble_eq_true rfl, Nat.le_of_ble_eq_true rfl⟩) ⟨Bx_blind, va_recv hK hPX_11 (ci := 10) (q0 := 0) rfl rfl, Bx_pre hPX_11 hK hN (hX.stay hS hGE)⟩ rfl rfl hl.1 rfl (lv_room (Nat.le_of_ble_eq_true rfl)) dX10_areTwo_11 ⟨Nat.zero_le _, Nat.zero_le _⟩) ?_
  refine lv_if_eq (tgt := 21) hx hb dX10_areTwo_14 (by decide) (fun c_14 => ?_) (fun c_14 => ?_)
  · rw [if_pos c_14] at hf
    refine lv_iconst (v := 0) hx hb dX10_areTwo_21 (by decide) ?_
    rw [← hQQ]
    cases hf
    exact rw_z hx hb hr hlocks (show narrow .boolean (.int 0) = .int 0 from rfl) hP hS dX10_areTwo_22
  rw [if_neg c_14] at hf
  refine lv_iconst (v := 1) hx hb dX10_areTwo_17 (by decide) ?_
  refine lv_goto (tgt := 22) hx hb dX10_areTwo_18 (by decide) ?_
  rw [← hQQ]
  cases hf
  exact rw_z hx hb hr hlocks (show narrow .boolean (.int 1) = .int 1 from rfl) hP hS dX10_areTwo_22
theorem c_X10_areTwo (l : Launch) (D : va_G) (ct : Nat → ClassId) (G : GT) (a : Nat → Nat) (fu : Nat) (o : Ob) (v1 : Int32) (v2 : Int32) {r : Int32 × Ob} (hf : p_X10_areTwo fu o v1 v2 = some r)  (hD0 : va_D (GE G) (cs10 ct a o)) : Met l yX10_areTwo (.code yX10_areTwo cX10_areTwo 3 (some .boolean) :: wsL_law) rm_X10_areTwo (va_Pc [.ref (a 0), .int v1, .int v2] (Bx D ct G (cs10 ct a o))) (Qwr (some (.int r.1)) (fun H => va_P D vwCl (cs10 ct a r.2) H) (wA (cs10 ct a o))) 0 0 (wA (cs10 ct a o)) := by
  refine Met.ofW (cc := cX10_areTwo) (maxL := 3) (ret := (some .boolean)) (by decide) rfl ?_
  intro p e s m args below meth c s₁ B hml hv
  obtain ⟨rfl, hP, hK, hN, hX⟩ := hv
  have hts := atoms_spec (ws := .code yX10_areTwo cX10_areTwo 3 (some .boolean) :: wsL_law) B.pre
  rw [lg_entry_eq]
  exact b_X10_areTwo a fu o v1 v2 B.exec B.bytes B.returns hml (findClass_of_methodNamed B.named) (fun w h => hts w (List.mem_cons_of_mem _ h)) B.notSynchronized hK hN hX hP hf hD0  (lv_entry [.ref (a 0), .int v1, .int v2] (n := 3) (Nat.le_of_ble_eq_true rfl))
theorem hd_X10_areTwo : yX10_areTwo.cls ≠ "java/lang/invoke/MethodHandle" ∧ yX10_areTwo.cls ≠ "java/lang/invoke/VarHandle" ∧ (parseMethodDescriptor yX10_areTwo.desc).map (fun d => d.parameters.length) = some 2 := by decide +kernel
theorem cw_X10_X10_areTwo {R : Room} {s : State} {args : Array Value} (ht : ∀ w ∈ wsL_law, w.before args s = true) (hR : rm_X10_areTwo.frames + 1 ≤ R.frames ∧ 8 + (3 + 11) + rm_X10_areTwo.locals ≤ R.locals) : CallW R s args RX10 RX10 294 yX10_areTwo cX10_areTwo 3 (some .boolean) ((.code yX10_areTwo cX10_areTwo 3 (some .boolean)) :: wsL_law) rm_X10_areTwo 0 0 2 := cwV 2 ht (GV wq_38_0 wq_38_1 wq_38_2 wq_1_5 wq_38_3) rfl rfl rfl ⟨rfl, hd_X10_areTwo⟩ hR
def p_X10_soon_L22 (fu : Nat)  : Nat → Ob → Int32 → Int32 → Int32 → Int32 → Int32 → Option (Int32 × Ob)
  | 0, _, _, _, _, _, _ => none
  | n + 1, oz, v1, v2, v3, v4, v5 =>
    if (60 : Int32) < v5 then some (v3, oz) else (p_X10_goStick fu oz v1 v5).bind fun r_33 => (p_X10_comesOf fu r_33 v5 v2).bind fun r_40 => if r_40 = ((-1) : Int32) then p_X10_soon_L22 fu  n r_33 v1 v2 v3 v4 (v5 + 1) else if r_40 ≤ v4 then p_X10_soon_L22 fu  n r_33 v1 v2 v5 r_40 (v5 + 1) else p_X10_soon_L22 fu  n r_33 v1 v2 v3 v4 (v5 + 1)
def p_X10_soon (fu : Nat) (o : Ob) (v1 : Int32) (v2 : Int32) : Option (Int32 × Ob) :=
  (p_X10_areTwo fu o v1 v2).bind fun r_3 => if r_3.1 = 0 then some (((-2) : Int32), r_3.2) else p_X10_soon_L22 fu fu r_3.2 v1 v2 (-1) 1000000000 0
abbrev rm_X10_soon : Room := { frames := 5, cells := 0, slots := 0, locals := 109 }
set_option maxHeartbeats 4000000 in
set_option maxRecDepth 100000 in
theorem b_X10_soon {p : Program} {l : Launch} {e : Env} {s : State} {m : MethodId} {args : Array Value} {below : List Frame} {meth : Method} {c : Code} {ls : Array Slot} {D : va_G} {ct : Nat → ClassId} {G : GT} (a : Nat → Nat) (fu : Nat) (o : Ob) (v1 : Int32) (v2 : Int32) {r : Int32 × Ob} (hx : p.tables.exec = Jvm.exec) (hb : c.code = cX10_soon) (hr : meth.sig.returnType = (some .int)) (hml : c.maxLocals = 7) (hown : s.vm.findClass RX10 = some m.cls) (htl : ∀ w ∈ wsL_law, w.before args s = true) (hlocks : meth.locks = false) (hK : va_K D vwCl (tyl ct) s) (hN : ∀ w ∈ NW, va_Nw w s) (hX : SX G s s.heap) (hP0 : va_P D vwCl (cs10 ct a o) s.heap) (hf : p_X10_soon fu o v1 v2 = some r) (hD0 : va_D (GE G) (cs10 ct a o))  (hl : lv_has ls 7 [(0, .ref (a 0)), (1, .int v1), (2, .int v2)]) : W p l e rm_X10_soon s m args below meth c s.heap [] 0 0 (MQ below (Qwr (some (.int r.1)) (fun H => va_P D vwCl (cs10 ct a r.2) H) (wA (cs10 ct a o))) args s 0 0 (wA (cs10 ct a o))) (F0 m 0 ls []) := by
  generalize hQQ : MQ below (Qwr (some (.int r.1)) (fun H => va_P D vwCl (cs10 ct a r.2) H) (wA (cs10 ct a o))) args s 0 0 (wA (cs10 ct a o)) = QQ
  have hDx : ∀ (oy : Ob), va_D (GE G) (cs10 ct a oy) := fun oy => D_cr hD0 rfl
  have hDW : ∀ (oy : Ob), va_D (wA (cs10 ct a o)) (cs10 ct a oy) := fun oy => D_cr (D_self hD0) rfl
  have hGE : ∀ q, wA (cs10 ct a o) q → GE G q := wA_GE hD0
  have hP := hP0
  have hS : va_S (wA (cs10 ct a o)) s.heap s.heap [] := va_S.rf
  have hL22 : ∀ (n : Nat) (oz : Ob) (v1 : Int32) (v2 : Int32) (v3 : Int32) (v4 : Int32) (v5 : Int32), ∀ (H : Heap) (locs : List Loc) (ls : Array Slot), va_P D vwCl (cs10 ct a oz) H → va_S (wA (cs10 ct a o)) s.heap H locs → lv_has ls 7 [(0, .ref (a 0)), (1, .int v1), (2, .int v2), (3, .int v3), (4, .int v4), (5, .int v5)] → p_X10_soon_L22 fu  n oz v1 v2 v3 v4 v5 = some r → W p l e rm_X10_soon s m args below meth c H locs 0 0 QQ (F0 m 22 ls []) := by
    intro  n
    induction n with
    | zero =>
      intro oz v1 v2 v3 v4 v5 H locs ls hP hS hl hf 
      rw [p_X10_soon_L22] at hf
      cases hf
    | succ n ih =>
      intro oz v1 v2 v3 v4 v5 H locs ls hP hS hl hf 
      rw [p_X10_soon_L22] at hf
      refine lv_iload hx hb dX10_soon_22 (lv_at hl 5 rfl) ?_
      refine lv_bipush (v := 60) hx hb dX10_soon_24 (by decide) ?_
      refine lv_icmp_gt (tgt := 74) hx hb dX10_soon_26 (by decide) (fun c_26 => ?_) (fun c_26 => ?_)
      · rw [if_pos c_26] at hf
        refine lv_iload_n hx hb dX10_soon_74 rfl (lv_at hl 3 rfl) ?_
        rw [← hQQ]
        cases hf
        exact rw_i hx hb hr hlocks hP hS dX10_soon_75
      rw [if_neg c_26] at hf
      refine lv_aload_n hx hb dX10_soon_29 rfl (lv_at hl 0 rfl) ?_
      refine lv_iload_n hx hb dX10_soon_30 rfl (lv_at hl 1 rfl) ?_
      refine lv_iload hx hb dX10_soon_31 (lv_at hl 5 rfl) ?_
      obtain ⟨r_33, e_33, hf⟩ := ob_bind hf
      have hPX_33 : va_P D vwCl (cs10 ct a oz) H := hP
      refine wr_call0 (va_runV (As := [.int v1, .int v5]) (rest := []) ⟨hx, hb, hml, hown, htl⟩ (c_X10_goStick l D ct G a fu oz v1 v5 e_33 (hDx oz)) (cw_X10_X10_goStick htl ⟨Nat.le_of_ble_eq_true rfl, Nat.le_of_ble_eq_true rfl⟩) ⟨Bx_blind, va_recv hK hPX_33 (ci := 10) (q0 := 0) rfl rfl, Bx_pre hPX_33 hK hN (hX.stay hS hGE)⟩ rfl rfl hl.1 rfl (lv_room (Nat.le_of_ble_eq_true rfl)) dX10_soon_33 ⟨Nat.zero_le _, Nat.zero_le _⟩) hS (wA_cg rfl) (fun H_33 locs_33 hB_33 _ hk_33 hS => ?_)
      have hP : va_P D vwCl (cs10 ct a r_33) H_33 := hB_33
      refine lv_aload_n hx hb dX10_soon_36 rfl (lv_at hl 0 rfl) ?_
      refine lv_iload hx hb dX10_soon_37 (lv_at hl 5 rfl) ?_
      refine lv_iload_n hx hb dX10_soon_39 rfl (lv_at hl 2 rfl) ?_
      obtain ⟨r_40, e_40, hf⟩ := ob_bind hf
      have hPX_40 : va_P D vwCl (cs10 ct a r_33) H_33 := hP
      refine ro_call1 (va_runV (As := [.int v5, .int v2]) (rest := []) ⟨hx, hb, hml, hown, htl⟩ (c_X10_comesOf l D ct G a fu r_33 v5 v2 e_40) (cw_X10_X10_comesOf htl ⟨Nat.le_of_ble_eq_true rfl, Nat.le_of_ble_eq_true rfl⟩) ⟨Bx_blind, va_recv hK hPX_40 (ci := 10) (q0 := 0) rfl rfl, Bx_pre hPX_40 hK hN (hX.stay hS hGE)⟩ rfl rfl hl.1 rfl (lv_room (Nat.le_of_ble_eq_true rfl)) dX10_soon_40 ⟨Nat.zero_le _, Nat.zero_le _⟩) ?_
      refine lv_istore (lv' := [(6, .int r_40), (0, .ref (a 0)), (1, .int v1), (2, .int v2), (3, .int v3), (4, .int v4), (5, .int v5)]) hx hb dX10_soon_43 hl (by decide) rfl (fun ls hl => ?_)
      refine lv_iload hx hb dX10_soon_45 (lv_at hl 0 rfl) ?_
      refine lv_iconst (v := (-1)) hx hb dX10_soon_47 (by decide) ?_
      refine lv_icmp_eq (tgt := 68) hx hb dX10_soon_48 (by decide) (fun c_48 => ?_) (fun c_48 => ?_)
      · rw [if_pos c_48] at hf
        refine lv_iinc (v := (v5 + 1)) (lv' := [(5, .int (v5 + 1)), (6, .int r_40), (0, .ref (a 0)), (1, .int v1), (2, .int v2), (3, .int v3), (4, .int v4)]) hx hb dX10_soon_68 hl (k := 6) rfl rfl (by decide) rfl (fun ls hl => ?_)
        refine lv_goto (tgt := 22) hx hb dX10_soon_71 (by decide) ?_
        exact ih r_33 v1 v2 v3 v4 (v5 + 1) _ _ _ hP hS (lv_sub hl [2, 3, 4, 5, 6, 0] rfl) hf 
      rw [if_neg c_48] at hf
      refine lv_iload hx hb dX10_soon_51 (lv_at hl 0 rfl) ?_
      refine lv_iload hx hb dX10_soon_53 (lv_at hl 5 rfl) ?_
      refine lv_icmp_le (tgt := 61) hx hb dX10_soon_55 (by decide) (fun c_55 => ?_) (fun c_55 => ?_)
      rotate_left 1
      · rw [if_neg c_55] at hf
        refine lv_goto (tgt := 68) hx hb dX10_soon_58 (by decide) ?_
        refine lv_iinc (v := (v5 + 1)) (lv' := [(5, .int (v5 + 1)), (6, .int r_40), (0, .ref (a 0)), (1, .int v1), (2, .int v2), (3, .int v3), (4, .int v4)]) hx hb dX10_soon_68 hl (k := 6) rfl rfl (by decide) rfl (fun ls hl => ?_)
        refine lv_goto (tgt := 22) hx hb dX10_soon_71 (by decide) ?_
        exact ih r_33 v1 v2 v3 v4 (v5 + 1) _ _ _ hP hS (lv_sub hl [2, 3, 4, 5, 6, 0] rfl) hf 
      rw [if_pos c_55] at hf
      refine lv_iload hx hb dX10_soon_61 (lv_at hl 0 rfl) ?_
      refine lv_istore (lv' := [(4, .int r_40), (6, .int r_40), (0, .ref (a 0)), (1, .int v1), (2, .int v2), (3, .int v3), (5, .int v5)]) hx hb dX10_soon_63 hl (by decide) rfl (fun ls hl => ?_)
      refine lv_iload hx hb dX10_soon_65 (lv_at hl 6 rfl) ?_
      refine lv_istore_n (lv' := [(3, .int v5), (4, .int r_40), (6, .int r_40), (0, .ref (a 0)), (1, .int v1), (2, .int v2), (5, .int v5)]) hx hb dX10_soon_67 rfl hl (by decide) rfl (fun ls hl => ?_)
      refine lv_iinc (v := (v5 + 1)) (lv' := [(5, .int (v5 + 1)), (3, .int v5), (4, .int r_40), (6, .int r_40), (0, .ref (a 0)), (1, .int v1), (2, .int v2)]) hx hb dX10_soon_68 hl (k := 6) rfl rfl (by decide) rfl (fun ls hl => ?_)
      refine lv_goto (tgt := 22) hx hb dX10_soon_71 (by decide) ?_
      exact ih r_33 v1 v2 v5 r_40 (v5 + 1) _ _ _ hP hS (lv_sub hl [4, 5, 6, 1, 2, 0] rfl) hf 
  rw [p_X10_soon] at hf
  refine lv_aload_n hx hb dX10_soon_0 rfl (lv_at hl 0 rfl) ?_
  refine lv_iload_n hx hb dX10_soon_1 rfl (lv_at hl 1 rfl) ?_
  refine lv_iload_n hx hb dX10_soon_2 rfl (lv_at hl 2 rfl) ?_
  obtain ⟨r_3, e_3, hf⟩ := ob_bind hf
  have hPX_3 : va_P D vwCl (cs10 ct a o) s.heap := hP
  refine wr_call1 (va_runV (As := [.int v1, .int v2]) (rest := []) ⟨hx, hb, hml, hown, htl⟩ (c_X10_areTwo l D ct G a fu o v1 v2 e_3 (hDx o)) (cw_X10_X10_areTwo htl ⟨Nat.le_of_ble_eq_true rfl, Nat.le_of_ble_eq_true rfl⟩) ⟨Bx_blind, va_recv hK hPX_3 (ci := 10) (q0 := 0) rfl rfl, Bx_pre hPX_3 hK hN (hX.stay hS hGE)⟩ rfl rfl hl.1 rfl (lv_room (Nat.le_of_ble_eq_true rfl)) dX10_soon_3 ⟨Nat.zero_le _, Nat.zero_le _⟩) hS (wA_cg rfl) (fun H_3 locs_3 hB_3 _ hk_3 hS => ?_)
  have hP : va_P D vwCl (cs10 ct a r_3.2) H_3 := hB_3
  refine lv_if_ne (tgt := 12) hx hb dX10_soon_6 (by decide) (fun c_6 => ?_) (fun c_6 => ?_)
  rotate_left 1
  · rw [if_pos c_6] at hf
    refine lv_bipush (v := (-2)) hx hb dX10_soon_9 (by decide) ?_
    rw [← hQQ]
    cases hf
    exact rw_i hx hb hr hlocks hP hS dX10_soon_11
  rw [if_neg c_6] at hf
  refine lv_iconst (v := (-1)) hx hb dX10_soon_12 (by decide) ?_
  refine lv_istore_n (lv' := [(3, .int (-1)), (0, .ref (a 0)), (1, .int v1), (2, .int v2)]) hx hb dX10_soon_13 rfl hl (by decide) rfl (fun ls hl => ?_)
  refine lv_ldcw (v := 1000000000) hx hb hown (htl _ wq_41_22) dX10_soon_14 ?_
  refine lv_istore (lv' := [(4, .int 1000000000), (3, .int (-1)), (0, .ref (a 0)), (1, .int v1), (2, .int v2)]) hx hb dX10_soon_17 hl (by decide) rfl (fun ls hl => ?_)
  refine lv_iconst (v := 0) hx hb dX10_soon_19 (by decide) ?_
  refine lv_istore (lv' := [(5, .int 0), (4, .int 1000000000), (3, .int (-1)), (0, .ref (a 0)), (1, .int v1), (2, .int v2)]) hx hb dX10_soon_20 hl (by decide) rfl (fun ls hl => ?_)
  exact hL22 fu r_3.2 v1 v2 (-1) 1000000000 0 _ _ _ hP hS (lv_sub hl [3, 4, 5, 2, 1, 0] rfl) hf 
theorem c_X10_soon (l : Launch) (D : va_G) (ct : Nat → ClassId) (G : GT) (a : Nat → Nat) (fu : Nat) (o : Ob) (v1 : Int32) (v2 : Int32) {r : Int32 × Ob} (hf : p_X10_soon fu o v1 v2 = some r)  (hD0 : va_D (GE G) (cs10 ct a o)) : Met l yX10_soon (.code yX10_soon cX10_soon 7 (some .int) :: wsL_law) rm_X10_soon (va_Pc [.ref (a 0), .int v1, .int v2] (Bx D ct G (cs10 ct a o))) (Qwr (some (.int r.1)) (fun H => va_P D vwCl (cs10 ct a r.2) H) (wA (cs10 ct a o))) 0 0 (wA (cs10 ct a o)) := by
  refine Met.ofW (cc := cX10_soon) (maxL := 7) (ret := (some .int)) (by decide) rfl ?_
  intro p e s m args below meth c s₁ B hml hv
  obtain ⟨rfl, hP, hK, hN, hX⟩ := hv
  have hts := atoms_spec (ws := .code yX10_soon cX10_soon 7 (some .int) :: wsL_law) B.pre
  rw [lg_entry_eq]
  exact b_X10_soon a fu o v1 v2 B.exec B.bytes B.returns hml (findClass_of_methodNamed B.named) (fun w h => hts w (List.mem_cons_of_mem _ h)) B.notSynchronized hK hN hX hP hf hD0  (lv_entry [.ref (a 0), .int v1, .int v2] (n := 7) (Nat.le_of_ble_eq_true rfl))
def p_X10_quickOf_L12 (fu : Nat)  : Nat → Ob → Int32 → Int32 → Int32 → Int32 → Option (Int32 × Ob)
  | 0, _, _, _, _, _ => none
  | n + 1, oz, v1, v2, v3, v4 =>
    if (60 : Int32) < v4 then if v3 = (1000000000 : Int32) then some (((-1) : Int32), oz) else some (v3, oz) else (p_X10_goStick fu oz v1 v4).bind fun r_23 => (p_X10_comesOf fu r_23 v4 v2).bind fun r_30 => if r_30 = ((-1) : Int32) then p_X10_quickOf_L12 fu  n r_23 v1 v2 v3 (v4 + 1) else if (r_30 - v4) < v3 then p_X10_quickOf_L12 fu  n (oI r_23 29 v4) v1 v2 (r_30 - v4) (v4 + 1) else p_X10_quickOf_L12 fu  n r_23 v1 v2 v3 (v4 + 1)
def p_X10_quickOf (fu : Nat) (o : Ob) (v1 : Int32) (v2 : Int32) : Option (Int32 × Ob) :=
  p_X10_quickOf_L12 fu fu (oI o 29 ((-1) : Int32)) v1 v2 1000000000 0
abbrev rm_X10_quickOf : Room := { frames := 3, cells := 0, slots := 0, locals := 72 }
set_option maxHeartbeats 4000000 in
set_option maxRecDepth 100000 in
theorem b_X10_quickOf {p : Program} {l : Launch} {e : Env} {s : State} {m : MethodId} {args : Array Value} {below : List Frame} {meth : Method} {c : Code} {ls : Array Slot} {D : va_G} {ct : Nat → ClassId} {G : GT} (a : Nat → Nat) (fu : Nat) (o : Ob) (v1 : Int32) (v2 : Int32) {r : Int32 × Ob} (hx : p.tables.exec = Jvm.exec) (hb : c.code = cX10_quickOf) (hr : meth.sig.returnType = (some .int)) (hml : c.maxLocals = 6) (hown : s.vm.findClass RX10 = some m.cls) (htl : ∀ w ∈ wsL_law, w.before args s = true) (hlocks : meth.locks = false) (hK : va_K D vwCl (tyl ct) s) (hN : ∀ w ∈ NW, va_Nw w s) (hX : SX G s s.heap) (hP0 : va_P D vwCl (cs10 ct a o) s.heap) (hf : p_X10_quickOf fu o v1 v2 = some r) (hD0 : va_D (GE G) (cs10 ct a o))  (hl : lv_has ls 6 [(0, .ref (a 0)), (1, .int v1), (2, .int v2)]) : W p l e rm_X10_quickOf s m args below meth c s.heap [] 0 0 (MQ below (Qwr (some (.int r.1)) (fun H => va_P D vwCl (cs10 ct a r.2) H) (wA (cs10 ct a o))) args s 0 0 (wA (cs10 ct a o))) (F0 m 0 ls []) := by
  generalize hQQ : MQ below (Qwr (some (.int r.1)) (fun H => va_P D vwCl (cs10 ct a r.2) H) (wA (cs10 ct a o))) args s 0 0 (wA (cs10 ct a o)) = QQ
  have hDx : ∀ (oy : Ob), va_D (GE G) (cs10 ct a oy) := fun oy => D_cr hD0 rfl
  have hDW : ∀ (oy : Ob), va_D (wA (cs10 ct a o)) (cs10 ct a oy) := fun oy => D_cr (D_self hD0) rfl
  have hGE : ∀ q, wA (cs10 ct a o) q → GE G q := wA_GE hD0
  have hP := hP0
  have hS : va_S (wA (cs10 ct a o)) s.heap s.heap [] := va_S.rf
  have hL12 : ∀ (n : Nat) (oz : Ob) (v1 : Int32) (v2 : Int32) (v3 : Int32) (v4 : Int32), ∀ (H : Heap) (locs : List Loc) (ls : Array Slot), va_P D vwCl (cs10 ct a oz) H → va_S (wA (cs10 ct a o)) s.heap H locs → lv_has ls 6 [(0, .ref (a 0)), (1, .int v1), (2, .int v2), (3, .int v3), (4, .int v4)] → p_X10_quickOf_L12 fu  n oz v1 v2 v3 v4 = some r → W p l e rm_X10_quickOf s m args below meth c H locs 0 0 QQ (F0 m 12 ls []) := by
    intro  n
    induction n with
    | zero =>
      intro oz v1 v2 v3 v4 H locs ls hP hS hl hf 
      rw [p_X10_quickOf_L12] at hf
      cases hf
    | succ n ih =>
      intro oz v1 v2 v3 v4 H locs ls hP hS hl hf 
      rw [p_X10_quickOf_L12] at hf
      refine lv_iload hx hb dX10_quickOf_12 (lv_at hl 4 rfl) ?_
      refine lv_bipush (v := 60) hx hb dX10_quickOf_14 (by decide) ?_
      refine lv_icmp_gt (tgt := 71) hx hb dX10_quickOf_16 (by decide) (fun c_16 => ?_) (fun c_16 => ?_)
      · rw [if_pos c_16] at hf
        refine lv_iload_n hx hb dX10_quickOf_71 rfl (lv_at hl 3 rfl) ?_
        refine lv_ldcw (v := 1000000000) hx hb hown (htl _ wq_41_22) dX10_quickOf_72 ?_
        refine lv_icmp_ne (tgt := 82) hx hb dX10_quickOf_75 (by decide) (fun c_75 => ?_) (fun c_75 => ?_)
        · rw [if_neg c_75] at hf
          refine lv_iload_n hx hb dX10_quickOf_82 rfl (lv_at hl 3 rfl) ?_
          rw [← hQQ]
          cases hf
          exact rw_i hx hb hr hlocks hP hS dX10_quickOf_83
        rw [if_pos c_75] at hf
        refine lv_iconst (v := (-1)) hx hb dX10_quickOf_78 (by decide) ?_
        refine lv_goto (tgt := 83) hx hb dX10_quickOf_79 (by decide) ?_
        rw [← hQQ]
        cases hf
        exact rw_i hx hb hr hlocks hP hS dX10_quickOf_83
      rw [if_neg c_16] at hf
      refine lv_aload_n hx hb dX10_quickOf_19 rfl (lv_at hl 0 rfl) ?_
      refine lv_iload_n hx hb dX10_quickOf_20 rfl (lv_at hl 1 rfl) ?_
      refine lv_iload hx hb dX10_quickOf_21 (lv_at hl 4 rfl) ?_
      obtain ⟨r_23, e_23, hf⟩ := ob_bind hf
      have hPX_23 : va_P D vwCl (cs10 ct a oz) H := hP
      refine wr_call0 (va_runV (As := [.int v1, .int v4]) (rest := []) ⟨hx, hb, hml, hown, htl⟩ (c_X10_goStick l D ct G a fu oz v1 v4 e_23 (hDx oz)) (cw_X10_X10_goStick htl ⟨Nat.le_of_ble_eq_true rfl, Nat.le_of_ble_eq_true rfl⟩) ⟨Bx_blind, va_recv hK hPX_23 (ci := 10) (q0 := 0) rfl rfl, Bx_pre hPX_23 hK hN (hX.stay hS hGE)⟩ rfl rfl hl.1 rfl (lv_room (Nat.le_of_ble_eq_true rfl)) dX10_quickOf_23 ⟨Nat.zero_le _, Nat.zero_le _⟩) hS (wA_cg rfl) (fun H_23 locs_23 hB_23 _ hk_23 hS => ?_)
      have hP : va_P D vwCl (cs10 ct a r_23) H_23 := hB_23
      refine lv_aload_n hx hb dX10_quickOf_26 rfl (lv_at hl 0 rfl) ?_
      refine lv_iload hx hb dX10_quickOf_27 (lv_at hl 4 rfl) ?_
      refine lv_iload_n hx hb dX10_quickOf_29 rfl (lv_at hl 2 rfl) ?_
      obtain ⟨r_30, e_30, hf⟩ := ob_bind hf
      have hPX_30 : va_P D vwCl (cs10 ct a r_23) H_23 := hP
      refine ro_call1 (va_runV (As := [.int v4, .int v2]) (rest := []) ⟨hx, hb, hml, hown, htl⟩ (c_X10_comesOf l D ct G a fu r_23 v4 v2 e_30) (cw_X10_X10_comesOf htl ⟨Nat.le_of_ble_eq_true rfl, Nat.le_of_ble_eq_true rfl⟩) ⟨Bx_blind, va_recv hK hPX_30 (ci := 10) (q0 := 0) rfl rfl, Bx_pre hPX_30 hK hN (hX.stay hS hGE)⟩ rfl rfl hl.1 rfl (lv_room (Nat.le_of_ble_eq_true rfl)) dX10_quickOf_30 ⟨Nat.zero_le _, Nat.zero_le _⟩) ?_
      refine lv_istore (lv' := [(5, .int r_30), (0, .ref (a 0)), (1, .int v1), (2, .int v2), (3, .int v3), (4, .int v4)]) hx hb dX10_quickOf_33 hl (by decide) rfl (fun ls hl => ?_)
      refine lv_iload hx hb dX10_quickOf_35 (lv_at hl 0 rfl) ?_
      refine lv_iconst (v := (-1)) hx hb dX10_quickOf_37 (by decide) ?_
      refine lv_icmp_eq (tgt := 65) hx hb dX10_quickOf_38 (by decide) (fun c_38 => ?_) (fun c_38 => ?_)
      · rw [if_pos c_38] at hf
        refine lv_iinc (v := (v4 + 1)) (lv' := [(4, .int (v4 + 1)), (5, .int r_30), (0, .ref (a 0)), (1, .int v1), (2, .int v2), (3, .int v3)]) hx hb dX10_quickOf_65 hl (k := 5) rfl rfl (by decide) rfl (fun ls hl => ?_)
        refine lv_goto (tgt := 12) hx hb dX10_quickOf_68 (by decide) ?_
        exact ih r_23 v1 v2 v3 (v4 + 1) _ _ _ hP hS (lv_sub hl [2, 3, 4, 5, 0] rfl) hf 
      rw [if_neg c_38] at hf
      refine lv_iload hx hb dX10_quickOf_41 (lv_at hl 0 rfl) ?_
      refine lv_iload hx hb dX10_quickOf_43 (lv_at hl 5 rfl) ?_
      refine lv_isub hx hb dX10_quickOf_45 ?_
      refine lv_iload_n hx hb dX10_quickOf_46 rfl (lv_at hl 4 rfl) ?_
      refine lv_icmp_lt (tgt := 53) hx hb dX10_quickOf_47 (by decide) (fun c_47 => ?_) (fun c_47 => ?_)
      rotate_left 1
      · rw [if_neg c_47] at hf
        refine lv_goto (tgt := 65) hx hb dX10_quickOf_50 (by decide) ?_
        refine lv_iinc (v := (v4 + 1)) (lv' := [(4, .int (v4 + 1)), (5, .int r_30), (0, .ref (a 0)), (1, .int v1), (2, .int v2), (3, .int v3)]) hx hb dX10_quickOf_65 hl (k := 5) rfl rfl (by decide) rfl (fun ls hl => ?_)
        refine lv_goto (tgt := 12) hx hb dX10_quickOf_68 (by decide) ?_
        exact ih r_23 v1 v2 v3 (v4 + 1) _ _ _ hP hS (lv_sub hl [2, 3, 4, 5, 0] rfl) hf 
      rw [if_pos c_47] at hf
      refine lv_iload hx hb dX10_quickOf_53 (lv_at hl 0 rfl) ?_
      refine lv_iload hx hb dX10_quickOf_55 (lv_at hl 5 rfl) ?_
      refine lv_isub hx hb dX10_quickOf_57 ?_
      refine lv_istore_n (lv' := [(3, .int (r_30 - v4)), (5, .int r_30), (0, .ref (a 0)), (1, .int v1), (2, .int v2), (4, .int v4)]) hx hb dX10_quickOf_58 rfl hl (by decide) rfl (fun ls hl => ?_)
      refine lv_aload_n hx hb dX10_quickOf_59 rfl (lv_at hl 2 rfl) ?_
      refine lv_iload hx hb dX10_quickOf_60 (lv_at hl 5 rfl) ?_
      refine va_put (D := D) (ci := 10) (v := .int v4) (ty := .int) (C := RX10) (T := TX10) (N := 42) hx hb htl inlX10 tyX10 tyX10_ok nmX10 hown hK hP (hDW r_23) hS 0 rfl rfl 29 (by decide) (htl _ wq_42_15) (fun _ h9 => h9) rfl (tyX10_ok 29 (by decide)) rfl rfl (Nat.le_of_ble_eq_true rfl) dX10_quickOf_62 (fun H_62 locs_62 hP _ hS => ?_)
      have hP : va_P D vwCl (cs10 ct a (oI r_23 29 v4)) H_62 := st10_29 hP
      refine lv_iinc (v := (v4 + 1)) (lv' := [(4, .int (v4 + 1)), (3, .int (r_30 - v4)), (5, .int r_30), (0, .ref (a 0)), (1, .int v1), (2, .int v2)]) hx hb dX10_quickOf_65 hl (k := 5) rfl rfl (by decide) rfl (fun ls hl => ?_)
      refine lv_goto (tgt := 12) hx hb dX10_quickOf_68 (by decide) ?_
      exact ih (oI r_23 29 v4) v1 v2 (r_30 - v4) (v4 + 1) _ _ _ hP hS (lv_sub hl [3, 4, 5, 1, 0] rfl) hf 
  rw [p_X10_quickOf] at hf
  refine lv_ldcw (v := 1000000000) hx hb hown (htl _ wq_41_22) dX10_quickOf_0 ?_
  refine lv_istore_n (lv' := [(3, .int 1000000000), (0, .ref (a 0)), (1, .int v1), (2, .int v2)]) hx hb dX10_quickOf_3 rfl hl (by decide) rfl (fun ls hl => ?_)
  refine lv_aload_n hx hb dX10_quickOf_4 rfl (lv_at hl 1 rfl) ?_
  refine lv_iconst (v := (-1)) hx hb dX10_quickOf_5 (by decide) ?_
  refine va_put (D := D) (ci := 10) (v := .int (-1)) (ty := .int) (C := RX10) (T := TX10) (N := 42) hx hb htl inlX10 tyX10 tyX10_ok nmX10 hown hK hP (hDW o) hS 0 rfl rfl 29 (by decide) (htl _ wq_42_15) (fun _ h9 => h9) rfl (tyX10_ok 29 (by decide)) rfl rfl (Nat.le_of_ble_eq_true rfl) dX10_quickOf_6 (fun H_6 locs_6 hP _ hS => ?_)
  have hP : va_P D vwCl (cs10 ct a (oI o 29 ((-1) : Int32))) H_6 := st10_29 hP
  refine lv_iconst (v := 0) hx hb dX10_quickOf_9 (by decide) ?_
  refine lv_istore (lv' := [(4, .int 0), (3, .int 1000000000), (0, .ref (a 0)), (1, .int v1), (2, .int v2)]) hx hb dX10_quickOf_10 hl (by decide) rfl (fun ls hl => ?_)
  exact hL12 fu (oI o 29 ((-1) : Int32)) v1 v2 1000000000 0 _ _ _ hP hS (lv_sub hl [2, 3, 4, 1, 0] rfl) hf 
theorem c_X10_quickOf (l : Launch) (D : va_G) (ct : Nat → ClassId) (G : GT) (a : Nat → Nat) (fu : Nat) (o : Ob) (v1 : Int32) (v2 : Int32) {r : Int32 × Ob} (hf : p_X10_quickOf fu o v1 v2 = some r)  (hD0 : va_D (GE G) (cs10 ct a o)) : Met l yX10_quickOf (.code yX10_quickOf cX10_quickOf 6 (some .int) :: wsL_law) rm_X10_quickOf (va_Pc [.ref (a 0), .int v1, .int v2] (Bx D ct G (cs10 ct a o))) (Qwr (some (.int r.1)) (fun H => va_P D vwCl (cs10 ct a r.2) H) (wA (cs10 ct a o))) 0 0 (wA (cs10 ct a o)) := by
  refine Met.ofW (cc := cX10_quickOf) (maxL := 6) (ret := (some .int)) (by decide) rfl ?_
  intro p e s m args below meth c s₁ B hml hv
  obtain ⟨rfl, hP, hK, hN, hX⟩ := hv
  have hts := atoms_spec (ws := .code yX10_quickOf cX10_quickOf 6 (some .int) :: wsL_law) B.pre
  rw [lg_entry_eq]
  exact b_X10_quickOf a fu o v1 v2 B.exec B.bytes B.returns hml (findClass_of_methodNamed B.named) (fun w h => hts w (List.mem_cons_of_mem _ h)) B.notSynchronized hK hN hX hP hf hD0  (lv_entry [.ref (a 0), .int v1, .int v2] (n := 6) (Nat.le_of_ble_eq_true rfl))
theorem hd_X10_quickOf : yX10_quickOf.cls ≠ "java/lang/invoke/MethodHandle" ∧ yX10_quickOf.cls ≠ "java/lang/invoke/VarHandle" ∧ (parseMethodDescriptor yX10_quickOf.desc).map (fun d => d.parameters.length) = some 2 := by decide +kernel
theorem cw_X10_X10_quickOf {R : Room} {s : State} {args : Array Value} (ht : ∀ w ∈ wsL_law, w.before args s = true) (hR : rm_X10_quickOf.frames + 1 ≤ R.frames ∧ 8 + (6 + 11) + rm_X10_quickOf.locals ≤ R.locals) : CallW R s args RX10 RX10 301 yX10_quickOf cX10_quickOf 6 (some .int) ((.code yX10_quickOf cX10_quickOf 6 (some .int)) :: wsL_law) rm_X10_quickOf 0 0 2 := cwV 2 ht (GV wq_42_11 wq_42_12 wq_42_13 wq_1_5 wq_42_14) rfl rfl rfl ⟨rfl, hd_X10_quickOf⟩ hR
def p_X10_quick (fu : Nat) (o : Ob) (v1 : Int32) (v2 : Int32) : Option (Int32 × Ob) :=
  (p_X10_areTwo fu o v1 v2).bind fun r_3 => if r_3.1 = 0 then some (((-2) : Int32), r_3.2) else (p_X10_quickOf fu r_3.2 v1 v2).bind fun r_12 => some (r_12.1, r_12.2)
abbrev rm_X10_quick : Room := { frames := 5, cells := 0, slots := 0, locals := 109 }
set_option maxHeartbeats 4000000 in
set_option maxRecDepth 100000 in
theorem b_X10_quick {p : Program} {l : Launch} {e : Env} {s : State} {m : MethodId} {args : Array Value} {below : List Frame} {meth : Method} {c : Code} {ls : Array Slot} {D : va_G} {ct : Nat → ClassId} {G : GT} (a : Nat → Nat) (fu : Nat) (o : Ob) (v1 : Int32) (v2 : Int32) {r : Int32 × Ob} (hx : p.tables.exec = Jvm.exec) (hb : c.code = cX10_quick) (hr : meth.sig.returnType = (some .int)) (hml : c.maxLocals = 3) (hown : s.vm.findClass RX10 = some m.cls) (htl : ∀ w ∈ wsL_law, w.before args s = true) (hlocks : meth.locks = false) (hK : va_K D vwCl (tyl ct) s) (hN : ∀ w ∈ NW, va_Nw w s) (hX : SX G s s.heap) (hP0 : va_P D vwCl (cs10 ct a o) s.heap) (hf : p_X10_quick fu o v1 v2 = some r) (hD0 : va_D (GE G) (cs10 ct a o))  (hl : lv_has ls 3 [(0, .ref (a 0)), (1, .int v1), (2, .int v2)]) : W p l e rm_X10_quick s m args below meth c s.heap [] 0 0 (MQ below (Qwr (some (.int r.1)) (fun H => va_P D vwCl (cs10 ct a r.2) H) (wA (cs10 ct a o))) args s 0 0 (wA (cs10 ct a o))) (F0 m 0 ls []) := by
  generalize hQQ : MQ below (Qwr (some (.int r.1)) (fun H => va_P D vwCl (cs10 ct a r.2) H) (wA (cs10 ct a o))) args s 0 0 (wA (cs10 ct a o)) = QQ
  have hDx : ∀ (oy : Ob), va_D (GE G) (cs10 ct a oy) := fun oy => D_cr hD0 rfl
  have hDW : ∀ (oy : Ob), va_D (wA (cs10 ct a o)) (cs10 ct a oy) := fun oy => D_cr (D_self hD0) rfl
  have hGE : ∀ q, wA (cs10 ct a o) q → GE G q := wA_GE hD0
  have hP := hP0
  have hS : va_S (wA (cs10 ct a o)) s.heap s.heap [] := va_S.rf
  rw [p_X10_quick] at hf
  refine lv_aload_n hx hb dX10_quick_0 rfl (lv_at hl 0 rfl) ?_
  refine lv_iload_n hx hb dX10_quick_1 rfl (lv_at hl 1 rfl) ?_
  refine lv_iload_n hx hb dX10_quick_2 rfl (lv_at hl 2 rfl) ?_
  obtain ⟨r_3, e_3, hf⟩ := ob_bind hf
  have hPX_3 : va_P D vwCl (cs10 ct a o) s.heap := hP
  refine wr_call1 (va_runV (As := [.int v1, .int v2]) (rest := []) ⟨hx, hb, hml, hown, htl⟩ (c_X10_areTwo l D ct G a fu o v1 v2 e_3 (hDx o)) (cw_X10_X10_areTwo htl ⟨Nat.le_of_ble_eq_true rfl, Nat.le_of_ble_eq_true rfl⟩) ⟨Bx_blind, va_recv hK hPX_3 (ci := 10) (q0 := 0) rfl rfl, Bx_pre hPX_3 hK hN (hX.stay hS hGE)⟩ rfl rfl hl.1 rfl (lv_room (Nat.le_of_ble_eq_true rfl)) dX10_quick_3 ⟨Nat.zero_le _, Nat.zero_le _⟩) hS (wA_cg rfl) (fun H_3 locs_3 hB_3 _ hk_3 hS => ?_)
  have hP : va_P D vwCl (cs10 ct a r_3.2) H_3 := hB_3
  refine lv_if_eq (tgt := 18) hx hb dX10_quick_6 (by decide) (fun c_6 => ?_) (fun c_6 => ?_)
  · rw [if_pos c_6] at hf
    refine lv_bipush (v := (-2)) hx hb dX10_quick_18 (by decide) ?_
    rw [← hQQ]
    cases hf
    exact rw_i hx hb hr hlocks hP hS dX10_quick_20
  rw [if_neg c_6] at hf
  refine lv_aload_n hx hb dX10_quick_9 rfl (lv_at hl 0 rfl) ?_
  refine lv_iload_n hx hb dX10_quick_10 rfl (lv_at hl 1 rfl) ?_
  refine lv_iload_n hx hb dX10_quick_11 rfl (lv_at hl 2 rfl) ?_
  obtain ⟨r_12, e_12, hf⟩ := ob_bind hf
  have hPX_12 : va_P D vwCl (cs10 ct a r_3.2) H_3 := hP
  refine wr_call1 (va_runV (As := [.int v1, .int v2]) (rest := []) ⟨hx, hb, hml, hown, htl⟩ (c_X10_quickOf l D ct G a fu r_3.2 v1 v2 e_12 (hDx r_3.2)) (cw_X10_X10_quickOf htl ⟨Nat.le_of_ble_eq_true rfl, Nat.le_of_ble_eq_true rfl⟩) ⟨Bx_blind, va_recv hK hPX_12 (ci := 10) (q0 := 0) rfl rfl, Bx_pre hPX_12 hK hN (hX.stay hS hGE)⟩ rfl rfl hl.1 rfl (lv_room (Nat.le_of_ble_eq_true rfl)) dX10_quick_12 ⟨Nat.zero_le _, Nat.zero_le _⟩) hS (wA_cg rfl) (fun H_12 locs_12 hB_12 _ hk_12 hS => ?_)
  have hP : va_P D vwCl (cs10 ct a r_12.2) H_12 := hB_12
  refine lv_goto (tgt := 20) hx hb dX10_quick_15 (by decide) ?_
  rw [← hQQ]
  cases hf
  exact rw_i hx hb hr hlocks hP hS dX10_quick_20
theorem c_X10_quick (l : Launch) (D : va_G) (ct : Nat → ClassId) (G : GT) (a : Nat → Nat) (fu : Nat) (o : Ob) (v1 : Int32) (v2 : Int32) {r : Int32 × Ob} (hf : p_X10_quick fu o v1 v2 = some r)  (hD0 : va_D (GE G) (cs10 ct a o)) : Met l yX10_quick (.code yX10_quick cX10_quick 3 (some .int) :: wsL_law) rm_X10_quick (va_Pc [.ref (a 0), .int v1, .int v2] (Bx D ct G (cs10 ct a o))) (Qwr (some (.int r.1)) (fun H => va_P D vwCl (cs10 ct a r.2) H) (wA (cs10 ct a o))) 0 0 (wA (cs10 ct a o)) := by
  refine Met.ofW (cc := cX10_quick) (maxL := 3) (ret := (some .int)) (by decide) rfl ?_
  intro p e s m args below meth c s₁ B hml hv
  obtain ⟨rfl, hP, hK, hN, hX⟩ := hv
  have hts := atoms_spec (ws := .code yX10_quick cX10_quick 3 (some .int) :: wsL_law) B.pre
  rw [lg_entry_eq]
  exact b_X10_quick a fu o v1 v2 B.exec B.bytes B.returns hml (findClass_of_methodNamed B.named) (fun w h => hts w (List.mem_cons_of_mem _ h)) B.notSynchronized hK hN hX hP hf hD0  (lv_entry [.ref (a 0), .int v1, .int v2] (n := 3) (Nat.le_of_ble_eq_true rfl))
def p_X10_quickly (fu : Nat) (o : Ob) (v1 : Int32) (v2 : Int32) : Option (Int32 × Ob) :=
  (p_X10_areTwo fu o v1 v2).bind fun r_3 => if r_3.1 = 0 then some (((-2) : Int32), r_3.2) else (p_X10_quickOf fu r_3.2 v1 v2).bind fun r_15 => some ((r_15.2.1 29 0), r_15.2)
abbrev rm_X10_quickly : Room := { frames := 5, cells := 0, slots := 0, locals := 109 }
set_option maxHeartbeats 4000000 in
set_option maxRecDepth 100000 in
theorem b_X10_quickly {p : Program} {l : Launch} {e : Env} {s : State} {m : MethodId} {args : Array Value} {below : List Frame} {meth : Method} {c : Code} {ls : Array Slot} {D : va_G} {ct : Nat → ClassId} {G : GT} (a : Nat → Nat) (fu : Nat) (o : Ob) (v1 : Int32) (v2 : Int32) {r : Int32 × Ob} (hx : p.tables.exec = Jvm.exec) (hb : c.code = cX10_quickly) (hr : meth.sig.returnType = (some .int)) (hml : c.maxLocals = 3) (hown : s.vm.findClass RX10 = some m.cls) (htl : ∀ w ∈ wsL_law, w.before args s = true) (hlocks : meth.locks = false) (hK : va_K D vwCl (tyl ct) s) (hN : ∀ w ∈ NW, va_Nw w s) (hX : SX G s s.heap) (hP0 : va_P D vwCl (cs10 ct a o) s.heap) (hf : p_X10_quickly fu o v1 v2 = some r) (hD0 : va_D (GE G) (cs10 ct a o))  (hl : lv_has ls 3 [(0, .ref (a 0)), (1, .int v1), (2, .int v2)]) : W p l e rm_X10_quickly s m args below meth c s.heap [] 0 0 (MQ below (Qwr (some (.int r.1)) (fun H => va_P D vwCl (cs10 ct a r.2) H) (wA (cs10 ct a o))) args s 0 0 (wA (cs10 ct a o))) (F0 m 0 ls []) := by
  generalize hQQ : MQ below (Qwr (some (.int r.1)) (fun H => va_P D vwCl (cs10 ct a r.2) H) (wA (cs10 ct a o))) args s 0 0 (wA (cs10 ct a o)) = QQ
  have hDx : ∀ (oy : Ob), va_D (GE G) (cs10 ct a oy) := fun oy => D_cr hD0 rfl
  have hDW : ∀ (oy : Ob), va_D (wA (cs10 ct a o)) (cs10 ct a oy) := fun oy => D_cr (D_self hD0) rfl
  have hGE : ∀ q, wA (cs10 ct a o) q → GE G q := wA_GE hD0
  have hP := hP0
  have hS : va_S (wA (cs10 ct a o)) s.heap s.heap [] := va_S.rf
  rw [p_X10_quickly] at hf
  refine lv_aload_n hx hb dX10_quickly_0 rfl (lv_at hl 0 rfl) ?_
  refine lv_iload_n hx hb dX10_quickly_1 rfl (lv_at hl 1 rfl) ?_
  refine lv_iload_n hx hb dX10_quickly_2 rfl (lv_at hl 2 rfl) ?_
  obtain ⟨r_3, e_3, hf⟩ := ob_bind hf
  have hPX_3 : va_P D vwCl (cs10 ct a o) s.heap := hP
  refine wr_call1 (va_runV (As := [.int v1, .int v2]) (rest := []) ⟨hx, hb, hml, hown, htl⟩ (c_X10_areTwo l D ct G a fu o v1 v2 e_3 (hDx o)) (cw_X10_X10_areTwo htl ⟨Nat.le_of_ble_eq_true rfl, Nat.le_of_ble_eq_true rfl⟩) ⟨Bx_blind, va_recv hK hPX_3 (ci := 10) (q0 := 0) rfl rfl, Bx_pre hPX_3 hK hN (hX.stay hS hGE)⟩ rfl rfl hl.1 rfl (lv_room (Nat.le_of_ble_eq_true rfl)) dX10_quickly_3 ⟨Nat.zero_le _, Nat.zero_le _⟩) hS (wA_cg rfl) (fun H_3 locs_3 hB_3 _ hk_3 hS => ?_)
  have hP : va_P D vwCl (cs10 ct a r_3.2) H_3 := hB_3
  refine lv_if_ne (tgt := 12) hx hb dX10_quickly_6 (by decide) (fun c_6 => ?_) (fun c_6 => ?_)
  rotate_left 1
  · rw [if_pos c_6] at hf
    refine lv_bipush (v := (-2)) hx hb dX10_quickly_9 (by decide) ?_
    rw [← hQQ]
    cases hf
    exact rw_i hx hb hr hlocks hP hS dX10_quickly_11
  rw [if_neg c_6] at hf
  refine lv_aload_n hx hb dX10_quickly_12 rfl (lv_at hl 0 rfl) ?_
  refine lv_iload_n hx hb dX10_quickly_13 rfl (lv_at hl 1 rfl) ?_
  refine lv_iload_n hx hb dX10_quickly_14 rfl (lv_at hl 2 rfl) ?_
  obtain ⟨r_15, e_15, hf⟩ := ob_bind hf
  have hPX_15 : va_P D vwCl (cs10 ct a r_3.2) H_3 := hP
  refine wr_call1 (va_runV (As := [.int v1, .int v2]) (rest := []) ⟨hx, hb, hml, hown, htl⟩ (c_X10_quickOf l D ct G a fu r_3.2 v1 v2 e_15 (hDx r_3.2)) (cw_X10_X10_quickOf htl ⟨Nat.le_of_ble_eq_true rfl, Nat.le_of_ble_eq_true rfl⟩) ⟨Bx_blind, va_recv hK hPX_15 (ci := 10) (q0 := 0) rfl rfl, Bx_pre hPX_15 hK hN (hX.stay hS hGE)⟩ rfl rfl hl.1 rfl (lv_room (Nat.le_of_ble_eq_true rfl)) dX10_quickly_15 ⟨Nat.zero_le _, Nat.zero_le _⟩) hS (wA_cg rfl) (fun H_15 locs_15 hB_15 _ hk_15 hS => ?_)
  have hP : va_P D vwCl (cs10 ct a r_15.2) H_15 := hB_15
  refine lv_pop hx hb dX10_quickly_18 rfl ?_
  refine lv_aload_n hx hb dX10_quickly_19 rfl (lv_at hl 0 rfl) ?_
  refine va_get (D := D) (ci := 10) (v := .int (r_15.2.1 29 0)) (C := RX10) (T := TX10) (N := 42) hx hb htl inlX10 hown hK hP 0 rfl rfl 29 (by decide) (htl _ wq_42_15) (fun _ h9 => h9) rfl dX10_quickly_20 ?_
  rw [← hQQ]
  cases hf
  exact rw_i hx hb hr hlocks hP hS dX10_quickly_23
theorem c_X10_quickly (l : Launch) (D : va_G) (ct : Nat → ClassId) (G : GT) (a : Nat → Nat) (fu : Nat) (o : Ob) (v1 : Int32) (v2 : Int32) {r : Int32 × Ob} (hf : p_X10_quickly fu o v1 v2 = some r)  (hD0 : va_D (GE G) (cs10 ct a o)) : Met l yX10_quickly (.code yX10_quickly cX10_quickly 3 (some .int) :: wsL_law) rm_X10_quickly (va_Pc [.ref (a 0), .int v1, .int v2] (Bx D ct G (cs10 ct a o))) (Qwr (some (.int r.1)) (fun H => va_P D vwCl (cs10 ct a r.2) H) (wA (cs10 ct a o))) 0 0 (wA (cs10 ct a o)) := by
  refine Met.ofW (cc := cX10_quickly) (maxL := 3) (ret := (some .int)) (by decide) rfl ?_
  intro p e s m args below meth c s₁ B hml hv
  obtain ⟨rfl, hP, hK, hN, hX⟩ := hv
  have hts := atoms_spec (ws := .code yX10_quickly cX10_quickly 3 (some .int) :: wsL_law) B.pre
  rw [lg_entry_eq]
  exact b_X10_quickly a fu o v1 v2 B.exec B.bytes B.returns hml (findClass_of_methodNamed B.named) (fun w h => hts w (List.mem_cons_of_mem _ h)) B.notSynchronized hK hN hX hP hf hD0  (lv_entry [.ref (a 0), .int v1, .int v2] (n := 3) (Nat.le_of_ble_eq_true rfl))
def p_X10_slowly_L17 (fu : Nat)  : Nat → Ob → Int32 → Int32 → Int32 → Int32 → Option (Int32 × Ob)
  | 0, _, _, _, _, _ => none
  | n + 1, oz, v1, v2, v3, v4 =>
    if (60 : Int32) < v4 then some (v3, oz) else (p_X10_goStick fu oz v1 v4).bind fun r_28 => (p_X10_comesOf fu r_28 v4 v2).bind fun r_35 => if r_35 = ((-1) : Int32) then p_X10_slowly_L17 fu  n r_28 v1 v2 v3 (v4 + 1) else p_X10_slowly_L17 fu  n r_28 v1 v2 (if v3 < (r_35 - v4) then (r_35 - v4) else v3) (v4 + 1)
def p_X10_slowly (fu : Nat) (o : Ob) (v1 : Int32) (v2 : Int32) : Option (Int32 × Ob) :=
  (p_X10_areTwo fu o v1 v2).bind fun r_3 => if r_3.1 = 0 then some (((-2) : Int32), r_3.2) else p_X10_slowly_L17 fu fu r_3.2 v1 v2 (-1) 0
abbrev rm_X10_slowly : Room := { frames := 5, cells := 0, slots := 0, locals := 109 }
set_option maxHeartbeats 4000000 in
set_option maxRecDepth 100000 in
theorem b_X10_slowly {p : Program} {l : Launch} {e : Env} {s : State} {m : MethodId} {args : Array Value} {below : List Frame} {meth : Method} {c : Code} {ls : Array Slot} {D : va_G} {ct : Nat → ClassId} {G : GT} (a : Nat → Nat) (fu : Nat) (o : Ob) (v1 : Int32) (v2 : Int32) {r : Int32 × Ob} (hx : p.tables.exec = Jvm.exec) (hb : c.code = cX10_slowly) (hr : meth.sig.returnType = (some .int)) (hml : c.maxLocals = 6) (hown : s.vm.findClass RX10 = some m.cls) (htl : ∀ w ∈ wsL_law, w.before args s = true) (hlocks : meth.locks = false) (hK : va_K D vwCl (tyl ct) s) (hN : ∀ w ∈ NW, va_Nw w s) (hX : SX G s s.heap) (hP0 : va_P D vwCl (cs10 ct a o) s.heap) (hf : p_X10_slowly fu o v1 v2 = some r) (hD0 : va_D (GE G) (cs10 ct a o))  (hl : lv_has ls 6 [(0, .ref (a 0)), (1, .int v1), (2, .int v2)]) : W p l e rm_X10_slowly s m args below meth c s.heap [] 0 0 (MQ below (Qwr (some (.int r.1)) (fun H => va_P D vwCl (cs10 ct a r.2) H) (wA (cs10 ct a o))) args s 0 0 (wA (cs10 ct a o))) (F0 m 0 ls []) := by
  generalize hQQ : MQ below (Qwr (some (.int r.1)) (fun H => va_P D vwCl (cs10 ct a r.2) H) (wA (cs10 ct a o))) args s 0 0 (wA (cs10 ct a o)) = QQ
  have hDx : ∀ (oy : Ob), va_D (GE G) (cs10 ct a oy) := fun oy => D_cr hD0 rfl
  have hDW : ∀ (oy : Ob), va_D (wA (cs10 ct a o)) (cs10 ct a oy) := fun oy => D_cr (D_self hD0) rfl
  have hGE : ∀ q, wA (cs10 ct a o) q → GE G q := wA_GE hD0
  have hP := hP0
  have hS : va_S (wA (cs10 ct a o)) s.heap s.heap [] := va_S.rf
  have hL17 : ∀ (n : Nat) (oz : Ob) (v1 : Int32) (v2 : Int32) (v3 : Int32) (v4 : Int32), ∀ (H : Heap) (locs : List Loc) (ls : Array Slot), va_P D vwCl (cs10 ct a oz) H → va_S (wA (cs10 ct a o)) s.heap H locs → lv_has ls 6 [(0, .ref (a 0)), (1, .int v1), (2, .int v2), (3, .int v3), (4, .int v4)] → p_X10_slowly_L17 fu  n oz v1 v2 v3 v4 = some r → W p l e rm_X10_slowly s m args below meth c H locs 0 0 QQ (F0 m 17 ls []) := by
    intro  n
    induction n with
    | zero =>
      intro oz v1 v2 v3 v4 H locs ls hP hS hl hf 
      rw [p_X10_slowly_L17] at hf
      cases hf
    | succ n ih =>
      intro oz v1 v2 v3 v4 H locs ls hP hS hl hf 
      rw [p_X10_slowly_L17] at hf
      refine lv_iload hx hb dX10_slowly_17 (lv_at hl 4 rfl) ?_
      refine lv_bipush (v := 60) hx hb dX10_slowly_19 (by decide) ?_
      refine lv_icmp_gt (tgt := 66) hx hb dX10_slowly_21 (by decide) (fun c_21 => ?_) (fun c_21 => ?_)
      · rw [if_pos c_21] at hf
        refine lv_iload_n hx hb dX10_slowly_66 rfl (lv_at hl 3 rfl) ?_
        rw [← hQQ]
        cases hf
        exact rw_i hx hb hr hlocks hP hS dX10_slowly_67
      rw [if_neg c_21] at hf
      refine lv_aload_n hx hb dX10_slowly_24 rfl (lv_at hl 0 rfl) ?_
      refine lv_iload_n hx hb dX10_slowly_25 rfl (lv_at hl 1 rfl) ?_
      refine lv_iload hx hb dX10_slowly_26 (lv_at hl 4 rfl) ?_
      obtain ⟨r_28, e_28, hf⟩ := ob_bind hf
      have hPX_28 : va_P D vwCl (cs10 ct a oz) H := hP
      refine wr_call0 (va_runV (As := [.int v1, .int v4]) (rest := []) ⟨hx, hb, hml, hown, htl⟩ (c_X10_goStick l D ct G a fu oz v1 v4 e_28 (hDx oz)) (cw_X10_X10_goStick htl ⟨Nat.le_of_ble_eq_true rfl, Nat.le_of_ble_eq_true rfl⟩) ⟨Bx_blind, va_recv hK hPX_28 (ci := 10) (q0 := 0) rfl rfl, Bx_pre hPX_28 hK hN (hX.stay hS hGE)⟩ rfl rfl hl.1 rfl (lv_room (Nat.le_of_ble_eq_true rfl)) dX10_slowly_28 ⟨Nat.zero_le _, Nat.zero_le _⟩) hS (wA_cg rfl) (fun H_28 locs_28 hB_28 _ hk_28 hS => ?_)
      have hP : va_P D vwCl (cs10 ct a r_28) H_28 := hB_28
      refine lv_aload_n hx hb dX10_slowly_31 rfl (lv_at hl 0 rfl) ?_
      refine lv_iload hx hb dX10_slowly_32 (lv_at hl 4 rfl) ?_
      refine lv_iload_n hx hb dX10_slowly_34 rfl (lv_at hl 2 rfl) ?_
      obtain ⟨r_35, e_35, hf⟩ := ob_bind hf
      have hPX_35 : va_P D vwCl (cs10 ct a r_28) H_28 := hP
      refine ro_call1 (va_runV (As := [.int v4, .int v2]) (rest := []) ⟨hx, hb, hml, hown, htl⟩ (c_X10_comesOf l D ct G a fu r_28 v4 v2 e_35) (cw_X10_X10_comesOf htl ⟨Nat.le_of_ble_eq_true rfl, Nat.le_of_ble_eq_true rfl⟩) ⟨Bx_blind, va_recv hK hPX_35 (ci := 10) (q0 := 0) rfl rfl, Bx_pre hPX_35 hK hN (hX.stay hS hGE)⟩ rfl rfl hl.1 rfl (lv_room (Nat.le_of_ble_eq_true rfl)) dX10_slowly_35 ⟨Nat.zero_le _, Nat.zero_le _⟩) ?_
      refine lv_istore (lv' := [(5, .int r_35), (0, .ref (a 0)), (1, .int v1), (2, .int v2), (3, .int v3), (4, .int v4)]) hx hb dX10_slowly_38 hl (by decide) rfl (fun ls hl => ?_)
      refine lv_iload hx hb dX10_slowly_40 (lv_at hl 0 rfl) ?_
      refine lv_iconst (v := (-1)) hx hb dX10_slowly_42 (by decide) ?_
      refine lv_icmp_ne (tgt := 50) hx hb dX10_slowly_43 (by decide) (fun c_43 => ?_) (fun c_43 => ?_)
      rotate_left 1
      · rw [if_pos c_43] at hf
        refine lv_iload_n hx hb dX10_slowly_46 rfl (lv_at hl 4 rfl) ?_
        refine lv_goto (tgt := 59) hx hb dX10_slowly_47 (by decide) ?_
        refine lv_istore_n (lv' := [(3, .int v3), (5, .int r_35), (0, .ref (a 0)), (1, .int v1), (2, .int v2), (4, .int v4)]) hx hb dX10_slowly_59 rfl hl (by decide) rfl (fun ls hl => ?_)
        refine lv_iinc (v := (v4 + 1)) (lv' := [(4, .int (v4 + 1)), (3, .int v3), (5, .int r_35), (0, .ref (a 0)), (1, .int v1), (2, .int v2)]) hx hb dX10_slowly_60 hl (k := 5) rfl rfl (by decide) rfl (fun ls hl => ?_)
        refine lv_goto (tgt := 17) hx hb dX10_slowly_63 (by decide) ?_
        exact ih r_28 v1 v2 v3 (v4 + 1) _ _ _ hP hS (lv_sub hl [3, 4, 5, 1, 0] rfl) hf 
      rw [if_neg c_43] at hf
      refine lv_iload_n hx hb dX10_slowly_50 rfl (lv_at hl 4 rfl) ?_
      refine lv_iload hx hb dX10_slowly_51 (lv_at hl 0 rfl) ?_
      refine lv_iload hx hb dX10_slowly_53 (lv_at hl 5 rfl) ?_
      refine lv_isub hx hb dX10_slowly_55 ?_
      refine va_mmax hx hb (hml.trans hl.1.symm) hown (htl _ wq_23_7) (htl _ wq_15_21) (htl _ wq_12_23) (htl _ wq_15_22) (Nat.le_of_ble_eq_true rfl) (Nat.le_of_ble_eq_true rfl) (Nat.zero_le _) (Nat.zero_le _) dX10_slowly_56 ?_
      refine lv_istore_n (lv' := [(3, .int (if v3 < (r_35 - v4) then (r_35 - v4) else v3)), (5, .int r_35), (0, .ref (a 0)), (1, .int v1), (2, .int v2), (4, .int v4)]) hx hb dX10_slowly_59 rfl hl (by decide) rfl (fun ls hl => ?_)
      refine lv_iinc (v := (v4 + 1)) (lv' := [(4, .int (v4 + 1)), (3, .int (if v3 < (r_35 - v4) then (r_35 - v4) else v3)), (5, .int r_35), (0, .ref (a 0)), (1, .int v1), (2, .int v2)]) hx hb dX10_slowly_60 hl (k := 5) rfl rfl (by decide) rfl (fun ls hl => ?_)
      refine lv_goto (tgt := 17) hx hb dX10_slowly_63 (by decide) ?_
      exact ih r_28 v1 v2 (if v3 < (r_35 - v4) then (r_35 - v4) else v3) (v4 + 1) _ _ _ hP hS (lv_sub hl [3, 4, 5, 1, 0] rfl) hf 
  rw [p_X10_slowly] at hf
  refine lv_aload_n hx hb dX10_slowly_0 rfl (lv_at hl 0 rfl) ?_
  refine lv_iload_n hx hb dX10_slowly_1 rfl (lv_at hl 1 rfl) ?_
  refine lv_iload_n hx hb dX10_slowly_2 rfl (lv_at hl 2 rfl) ?_
  obtain ⟨r_3, e_3, hf⟩ := ob_bind hf
  have hPX_3 : va_P D vwCl (cs10 ct a o) s.heap := hP
  refine wr_call1 (va_runV (As := [.int v1, .int v2]) (rest := []) ⟨hx, hb, hml, hown, htl⟩ (c_X10_areTwo l D ct G a fu o v1 v2 e_3 (hDx o)) (cw_X10_X10_areTwo htl ⟨Nat.le_of_ble_eq_true rfl, Nat.le_of_ble_eq_true rfl⟩) ⟨Bx_blind, va_recv hK hPX_3 (ci := 10) (q0 := 0) rfl rfl, Bx_pre hPX_3 hK hN (hX.stay hS hGE)⟩ rfl rfl hl.1 rfl (lv_room (Nat.le_of_ble_eq_true rfl)) dX10_slowly_3 ⟨Nat.zero_le _, Nat.zero_le _⟩) hS (wA_cg rfl) (fun H_3 locs_3 hB_3 _ hk_3 hS => ?_)
  have hP : va_P D vwCl (cs10 ct a r_3.2) H_3 := hB_3
  refine lv_if_ne (tgt := 12) hx hb dX10_slowly_6 (by decide) (fun c_6 => ?_) (fun c_6 => ?_)
  rotate_left 1
  · rw [if_pos c_6] at hf
    refine lv_bipush (v := (-2)) hx hb dX10_slowly_9 (by decide) ?_
    rw [← hQQ]
    cases hf
    exact rw_i hx hb hr hlocks hP hS dX10_slowly_11
  rw [if_neg c_6] at hf
  refine lv_iconst (v := (-1)) hx hb dX10_slowly_12 (by decide) ?_
  refine lv_istore_n (lv' := [(3, .int (-1)), (0, .ref (a 0)), (1, .int v1), (2, .int v2)]) hx hb dX10_slowly_13 rfl hl (by decide) rfl (fun ls hl => ?_)
  refine lv_iconst (v := 0) hx hb dX10_slowly_14 (by decide) ?_
  refine lv_istore (lv' := [(4, .int 0), (3, .int (-1)), (0, .ref (a 0)), (1, .int v1), (2, .int v2)]) hx hb dX10_slowly_15 hl (by decide) rfl (fun ls hl => ?_)
  exact hL17 fu r_3.2 v1 v2 (-1) 0 _ _ _ hP hS (lv_sub hl [2, 3, 4, 1, 0] rfl) hf 
theorem c_X10_slowly (l : Launch) (D : va_G) (ct : Nat → ClassId) (G : GT) (a : Nat → Nat) (fu : Nat) (o : Ob) (v1 : Int32) (v2 : Int32) {r : Int32 × Ob} (hf : p_X10_slowly fu o v1 v2 = some r)  (hD0 : va_D (GE G) (cs10 ct a o)) : Met l yX10_slowly (.code yX10_slowly cX10_slowly 6 (some .int) :: wsL_law) rm_X10_slowly (va_Pc [.ref (a 0), .int v1, .int v2] (Bx D ct G (cs10 ct a o))) (Qwr (some (.int r.1)) (fun H => va_P D vwCl (cs10 ct a r.2) H) (wA (cs10 ct a o))) 0 0 (wA (cs10 ct a o)) := by
  refine Met.ofW (cc := cX10_slowly) (maxL := 6) (ret := (some .int)) (by decide) rfl ?_
  intro p e s m args below meth c s₁ B hml hv
  obtain ⟨rfl, hP, hK, hN, hX⟩ := hv
  have hts := atoms_spec (ws := .code yX10_slowly cX10_slowly 6 (some .int) :: wsL_law) B.pre
  rw [lg_entry_eq]
  exact b_X10_slowly a fu o v1 v2 B.exec B.bytes B.returns hml (findClass_of_methodNamed B.named) (fun w h => hts w (List.mem_cons_of_mem _ h)) B.notSynchronized hK hN hX hP hf hD0  (lv_entry [.ref (a 0), .int v1, .int v2] (n := 6) (Nat.le_of_ble_eq_true rfl))
def p_X10_late_L23 (fu : Nat)  : Nat → Ob → Int32 → Int32 → Int32 → Int32 → Option (Int32 × Ob)
  | 0, _, _, _, _, _ => none
  | n + 1, oz, v1, v2, v3, v4 =>
    if v4 < 0 then some (((-1) : Int32), oz) else (p_X10_goStick fu oz v1 v4).bind fun r_32 => if inb v3 61 = true then if ((r_32.1 22) v3.toNatClampNeg) = v2 then some (v4, r_32) else p_X10_late_L23 fu  n r_32 v1 v2 v3 (v4 + (-1)) else none
def p_X10_late (fu : Nat) (o : Ob) (v1 : Int32) (v2 : Int32) (v3 : Int32) : Option (Int32 × Ob) :=
  (p_X10_areTwo fu o v1 v2).bind fun r_3 => if r_3.1 = 0 then some (((-2) : Int32), r_3.2) else (p_X10_isStep fu v3.toInt64).bind fun r_11 => if r_11 = 0 then some (((-2) : Int32), r_3.2) else p_X10_late_L23 fu fu r_3.2 v1 v2 v3 v3
abbrev rm_X10_late : Room := { frames := 5, cells := 0, slots := 0, locals := 109 }
set_option maxHeartbeats 4000000 in
set_option maxRecDepth 100000 in
theorem b_X10_late {p : Program} {l : Launch} {e : Env} {s : State} {m : MethodId} {args : Array Value} {below : List Frame} {meth : Method} {c : Code} {ls : Array Slot} {D : va_G} {ct : Nat → ClassId} {G : GT} (a : Nat → Nat) (fu : Nat) (o : Ob) (v1 : Int32) (v2 : Int32) (v3 : Int32) {r : Int32 × Ob} (hx : p.tables.exec = Jvm.exec) (hb : c.code = cX10_late) (hr : meth.sig.returnType = (some .int)) (hml : c.maxLocals = 5) (hown : s.vm.findClass RX10 = some m.cls) (htl : ∀ w ∈ wsL_law, w.before args s = true) (hlocks : meth.locks = false) (hK : va_K D vwCl (tyl ct) s) (hN : ∀ w ∈ NW, va_Nw w s) (hX : SX G s s.heap) (hP0 : va_P D vwCl (cs10 ct a o) s.heap) (hf : p_X10_late fu o v1 v2 v3 = some r) (hD0 : va_D (GE G) (cs10 ct a o))  (hl : lv_has ls 5 [(0, .ref (a 0)), (1, .int v1), (2, .int v2), (3, .int v3)]) : W p l e rm_X10_late s m args below meth c s.heap [] 0 0 (MQ below (Qwr (some (.int r.1)) (fun H => va_P D vwCl (cs10 ct a r.2) H) (wA (cs10 ct a o))) args s 0 0 (wA (cs10 ct a o))) (F0 m 0 ls []) := by
  generalize hQQ : MQ below (Qwr (some (.int r.1)) (fun H => va_P D vwCl (cs10 ct a r.2) H) (wA (cs10 ct a o))) args s 0 0 (wA (cs10 ct a o)) = QQ
  have hDx : ∀ (oy : Ob), va_D (GE G) (cs10 ct a oy) := fun oy => D_cr hD0 rfl
  have hDW : ∀ (oy : Ob), va_D (wA (cs10 ct a o)) (cs10 ct a oy) := fun oy => D_cr (D_self hD0) rfl
  have hGE : ∀ q, wA (cs10 ct a o) q → GE G q := wA_GE hD0
  have hP := hP0
  have hS : va_S (wA (cs10 ct a o)) s.heap s.heap [] := va_S.rf
  have hL23 : ∀ (n : Nat) (oz : Ob) (v1 : Int32) (v2 : Int32) (v3 : Int32) (v4 : Int32), ∀ (H : Heap) (locs : List Loc) (ls : Array Slot), va_P D vwCl (cs10 ct a oz) H → va_S (wA (cs10 ct a o)) s.heap H locs → lv_has ls 5 [(0, .ref (a 0)), (1, .int v1), (2, .int v2), (3, .int v3), (4, .int v4)] → p_X10_late_L23 fu  n oz v1 v2 v3 v4 = some r → W p l e rm_X10_late s m args below meth c H locs 0 0 QQ (F0 m 23 ls []) := by
    intro  n
    induction n with
    | zero =>
      intro oz v1 v2 v3 v4 H locs ls hP hS hl hf 
      rw [p_X10_late_L23] at hf
      cases hf
    | succ n ih =>
      intro oz v1 v2 v3 v4 H locs ls hP hS hl hf 
      rw [p_X10_late_L23] at hf
      refine lv_iload hx hb dX10_late_23 (lv_at hl 4 rfl) ?_
      refine lv_if_lt (tgt := 54) hx hb dX10_late_25 (by decide) (fun c_25 => ?_) (fun c_25 => ?_)
      · rw [if_pos c_25] at hf
        refine lv_iconst (v := (-1)) hx hb dX10_late_54 (by decide) ?_
        rw [← hQQ]
        cases hf
        exact rw_i hx hb hr hlocks hP hS dX10_late_55
      rw [if_neg c_25] at hf
      refine lv_aload_n hx hb dX10_late_28 rfl (lv_at hl 0 rfl) ?_
      refine lv_iload_n hx hb dX10_late_29 rfl (lv_at hl 1 rfl) ?_
      refine lv_iload hx hb dX10_late_30 (lv_at hl 4 rfl) ?_
      obtain ⟨r_32, e_32, hf⟩ := ob_bind hf
      have hPX_32 : va_P D vwCl (cs10 ct a oz) H := hP
      refine wr_call0 (va_runV (As := [.int v1, .int v4]) (rest := []) ⟨hx, hb, hml, hown, htl⟩ (c_X10_goStick l D ct G a fu oz v1 v4 e_32 (hDx oz)) (cw_X10_X10_goStick htl ⟨Nat.le_of_ble_eq_true rfl, Nat.le_of_ble_eq_true rfl⟩) ⟨Bx_blind, va_recv hK hPX_32 (ci := 10) (q0 := 0) rfl rfl, Bx_pre hPX_32 hK hN (hX.stay hS hGE)⟩ rfl rfl hl.1 rfl (lv_room (Nat.le_of_ble_eq_true rfl)) dX10_late_32 ⟨Nat.zero_le _, Nat.zero_le _⟩) hS (wA_cg rfl) (fun H_32 locs_32 hB_32 _ hk_32 hS => ?_)
      have hP : va_P D vwCl (cs10 ct a r_32) H_32 := hB_32
      refine lv_aload_n hx hb dX10_late_35 rfl (lv_at hl 0 rfl) ?_
      refine va_get (D := D) (ci := 10) (v := .ref (a 12)) (C := RX10) (T := TX10) (N := 42) hx hb htl inlX10 hown hK hP 0 rfl rfl 22 (by decide) (htl _ wq_7_14) (fun _ h9 => h9) rfl dX10_late_36 ?_
      refine lv_iload_n hx hb dX10_late_39 rfl (lv_at hl 3 rfl) ?_
      obtain ⟨hi_40, hf⟩ := ob_in hf
      refine va_iald (D := D) (tys := tyl ct) hx hb hK hP 12 0 rfl rfl hi_40 dX10_late_40 ?_
      refine lv_iload_n hx hb dX10_late_41 rfl (lv_at hl 2 rfl) ?_
      refine lv_icmp_ne (tgt := 48) hx hb dX10_late_42 (by decide) (fun c_42 => ?_) (fun c_42 => ?_)
      · rw [if_neg c_42] at hf
        refine lv_iinc (v := (v4 + (-1))) (lv' := [(4, .int (v4 + (-1))), (0, .ref (a 0)), (1, .int v1), (2, .int v2), (3, .int v3)]) hx hb dX10_late_48 hl (k := 4) rfl rfl (by decide) rfl (fun ls hl => ?_)
        refine lv_goto (tgt := 23) hx hb dX10_late_51 (by decide) ?_
        exact ih r_32 v1 v2 v3 (v4 + (-1)) _ _ _ hP hS (lv_sub hl [1, 2, 3, 4, 0] rfl) hf 
      rw [if_pos c_42] at hf
      refine lv_iload hx hb dX10_late_45 (lv_at hl 4 rfl) ?_
      rw [← hQQ]
      cases hf
      exact rw_i hx hb hr hlocks hP hS dX10_late_47
  rw [p_X10_late] at hf
  refine lv_aload_n hx hb dX10_late_0 rfl (lv_at hl 0 rfl) ?_
  refine lv_iload_n hx hb dX10_late_1 rfl (lv_at hl 1 rfl) ?_
  refine lv_iload_n hx hb dX10_late_2 rfl (lv_at hl 2 rfl) ?_
  obtain ⟨r_3, e_3, hf⟩ := ob_bind hf
  have hPX_3 : va_P D vwCl (cs10 ct a o) s.heap := hP
  refine wr_call1 (va_runV (As := [.int v1, .int v2]) (rest := []) ⟨hx, hb, hml, hown, htl⟩ (c_X10_areTwo l D ct G a fu o v1 v2 e_3 (hDx o)) (cw_X10_X10_areTwo htl ⟨Nat.le_of_ble_eq_true rfl, Nat.le_of_ble_eq_true rfl⟩) ⟨Bx_blind, va_recv hK hPX_3 (ci := 10) (q0 := 0) rfl rfl, Bx_pre hPX_3 hK hN (hX.stay hS hGE)⟩ rfl rfl hl.1 rfl (lv_room (Nat.le_of_ble_eq_true rfl)) dX10_late_3 ⟨Nat.zero_le _, Nat.zero_le _⟩) hS (wA_cg rfl) (fun H_3 locs_3 hB_3 _ hk_3 hS => ?_)
  have hP : va_P D vwCl (cs10 ct a r_3.2) H_3 := hB_3
  refine lv_if_eq (tgt := 17) hx hb dX10_late_6 (by decide) (fun c_6 => ?_) (fun c_6 => ?_)
  · rw [if_pos c_6] at hf
    refine lv_bipush (v := (-2)) hx hb dX10_late_17 (by decide) ?_
    rw [← hQQ]
    cases hf
    exact rw_i hx hb hr hlocks hP hS dX10_late_19
  rw [if_neg c_6] at hf
  refine lv_iload_n hx hb dX10_late_9 rfl (lv_at hl 3 rfl) ?_
  refine lv_i2l hx hb dX10_late_10 rfl ?_
  obtain ⟨r_11, e_11, hf⟩ := ob_bind hf
  have hPX_11 : va_P D vwCl ([]) H_3 := P_nil
  refine ro_call1 (va_runS (As := [.long v3.toInt64]) (rest := []) ⟨hx, hb, hml, hown, htl⟩ (c_X10_isStep l D ct G fu v3.toInt64 e_11) (cw_X10_X10_isStep htl ⟨Nat.le_of_ble_eq_true rfl, Nat.le_of_ble_eq_true rfl⟩) ⟨Bx_blind, Bx_pre hPX_11 hK hN (hX.stay hS hGE)⟩ rfl rfl hl.1 rfl (lv_room (Nat.le_of_ble_eq_true rfl)) dX10_late_11 ⟨Nat.zero_le _, Nat.zero_le _⟩) ?_
  refine lv_if_ne (tgt := 20) hx hb dX10_late_14 (by decide) (fun c_14 => ?_) (fun c_14 => ?_)
  · rw [if_neg c_14] at hf
    refine lv_iload_n hx hb dX10_late_20 rfl (lv_at hl 3 rfl) ?_
    refine lv_istore (lv' := [(4, .int v3), (0, .ref (a 0)), (1, .int v1), (2, .int v2), (3, .int v3)]) hx hb dX10_late_21 hl (by decide) rfl (fun ls hl => ?_)
    exact hL23 fu r_3.2 v1 v2 v3 v3 _ _ _ hP hS (lv_sub hl [1, 2, 3, 4, 0] rfl) hf 
  rw [if_pos c_14] at hf
  refine lv_bipush (v := (-2)) hx hb dX10_late_17 (by decide) ?_
  rw [← hQQ]
  cases hf
  exact rw_i hx hb hr hlocks hP hS dX10_late_19
theorem c_X10_late (l : Launch) (D : va_G) (ct : Nat → ClassId) (G : GT) (a : Nat → Nat) (fu : Nat) (o : Ob) (v1 : Int32) (v2 : Int32) (v3 : Int32) {r : Int32 × Ob} (hf : p_X10_late fu o v1 v2 v3 = some r)  (hD0 : va_D (GE G) (cs10 ct a o)) : Met l yX10_late (.code yX10_late cX10_late 5 (some .int) :: wsL_law) rm_X10_late (va_Pc [.ref (a 0), .int v1, .int v2, .int v3] (Bx D ct G (cs10 ct a o))) (Qwr (some (.int r.1)) (fun H => va_P D vwCl (cs10 ct a r.2) H) (wA (cs10 ct a o))) 0 0 (wA (cs10 ct a o)) := by
  refine Met.ofW (cc := cX10_late) (maxL := 5) (ret := (some .int)) (by decide) rfl ?_
  intro p e s m args below meth c s₁ B hml hv
  obtain ⟨rfl, hP, hK, hN, hX⟩ := hv
  have hts := atoms_spec (ws := .code yX10_late cX10_late 5 (some .int) :: wsL_law) B.pre
  rw [lg_entry_eq]
  exact b_X10_late a fu o v1 v2 v3 B.exec B.bytes B.returns hml (findClass_of_methodNamed B.named) (fun w h => hts w (List.mem_cons_of_mem _ h)) B.notSynchronized hK hN hX hP hf hD0  (lv_entry [.ref (a 0), .int v1, .int v2, .int v3] (n := 5) (Nat.le_of_ble_eq_true rfl))
def p_X10_oftenOf_L5 (fu : Nat)  : Nat → Ob → Int32 → Int32 → Int32 → Int32 → Option (Int32 × Ob)
  | 0, _, _, _, _, _ => none
  | n + 1, oz, v1, v2, v3, v4 =>
    if (60 : Int32) < v4 then some (v3, oz) else (p_X10_goStick fu oz v1 v4).bind fun r_16 => (p_X10_comesOf fu r_16 v4 v2).bind fun r_24 => if r_24 = ((-1) : Int32) then p_X10_oftenOf_L5 fu  n r_16 v1 v2 (v3 + 0) (v4 + 1) else p_X10_oftenOf_L5 fu  n r_16 v1 v2 (v3 + 1) (v4 + 1)
def p_X10_oftenOf (fu : Nat) (o : Ob) (v1 : Int32) (v2 : Int32) : Option (Int32 × Ob) :=
  p_X10_oftenOf_L5 fu fu o v1 v2 0 0
abbrev rm_X10_oftenOf : Room := { frames := 3, cells := 0, slots := 0, locals := 72 }
set_option maxHeartbeats 4000000 in
set_option maxRecDepth 100000 in
theorem b_X10_oftenOf {p : Program} {l : Launch} {e : Env} {s : State} {m : MethodId} {args : Array Value} {below : List Frame} {meth : Method} {c : Code} {ls : Array Slot} {D : va_G} {ct : Nat → ClassId} {G : GT} (a : Nat → Nat) (fu : Nat) (o : Ob) (v1 : Int32) (v2 : Int32) {r : Int32 × Ob} (hx : p.tables.exec = Jvm.exec) (hb : c.code = cX10_oftenOf) (hr : meth.sig.returnType = (some .int)) (hml : c.maxLocals = 5) (hown : s.vm.findClass RX10 = some m.cls) (htl : ∀ w ∈ wsL_law, w.before args s = true) (hlocks : meth.locks = false) (hK : va_K D vwCl (tyl ct) s) (hN : ∀ w ∈ NW, va_Nw w s) (hX : SX G s s.heap) (hP0 : va_P D vwCl (cs10 ct a o) s.heap) (hf : p_X10_oftenOf fu o v1 v2 = some r) (hD0 : va_D (GE G) (cs10 ct a o))  (hl : lv_has ls 5 [(0, .ref (a 0)), (1, .int v1), (2, .int v2)]) : W p l e rm_X10_oftenOf s m args below meth c s.heap [] 0 0 (MQ below (Qwr (some (.int r.1)) (fun H => va_P D vwCl (cs10 ct a r.2) H) (wA (cs10 ct a o))) args s 0 0 (wA (cs10 ct a o))) (F0 m 0 ls []) := by
  generalize hQQ : MQ below (Qwr (some (.int r.1)) (fun H => va_P D vwCl (cs10 ct a r.2) H) (wA (cs10 ct a o))) args s 0 0 (wA (cs10 ct a o)) = QQ
  have hDx : ∀ (oy : Ob), va_D (GE G) (cs10 ct a oy) := fun oy => D_cr hD0 rfl
  have hDW : ∀ (oy : Ob), va_D (wA (cs10 ct a o)) (cs10 ct a oy) := fun oy => D_cr (D_self hD0) rfl
  have hGE : ∀ q, wA (cs10 ct a o) q → GE G q := wA_GE hD0
  have hP := hP0
  have hS : va_S (wA (cs10 ct a o)) s.heap s.heap [] := va_S.rf
  have hL5 : ∀ (n : Nat) (oz : Ob) (v1 : Int32) (v2 : Int32) (v3 : Int32) (v4 : Int32), ∀ (H : Heap) (locs : List Loc) (ls : Array Slot), va_P D vwCl (cs10 ct a oz) H → va_S (wA (cs10 ct a o)) s.heap H locs → lv_has ls 5 [(0, .ref (a 0)), (1, .int v1), (2, .int v2), (3, .int v3), (4, .int v4)] → p_X10_oftenOf_L5 fu  n oz v1 v2 v3 v4 = some r → W p l e rm_X10_oftenOf s m args below meth c H locs 0 0 QQ (F0 m 5 ls []) := by
    intro  n
    induction n with
    | zero =>
      intro oz v1 v2 v3 v4 H locs ls hP hS hl hf 
      rw [p_X10_oftenOf_L5] at hf
      cases hf
    | succ n ih =>
      intro oz v1 v2 v3 v4 H locs ls hP hS hl hf 
      rw [p_X10_oftenOf_L5] at hf
      refine lv_iload hx hb dX10_oftenOf_5 (lv_at hl 4 rfl) ?_
      refine lv_bipush (v := 60) hx hb dX10_oftenOf_7 (by decide) ?_
      refine lv_icmp_gt (tgt := 44) hx hb dX10_oftenOf_9 (by decide) (fun c_9 => ?_) (fun c_9 => ?_)
      · rw [if_pos c_9] at hf
        refine lv_iload_n hx hb dX10_oftenOf_44 rfl (lv_at hl 3 rfl) ?_
        rw [← hQQ]
        cases hf
        exact rw_i hx hb hr hlocks hP hS dX10_oftenOf_45
      rw [if_neg c_9] at hf
      refine lv_aload_n hx hb dX10_oftenOf_12 rfl (lv_at hl 0 rfl) ?_
      refine lv_iload_n hx hb dX10_oftenOf_13 rfl (lv_at hl 1 rfl) ?_
      refine lv_iload hx hb dX10_oftenOf_14 (lv_at hl 4 rfl) ?_
      obtain ⟨r_16, e_16, hf⟩ := ob_bind hf
      have hPX_16 : va_P D vwCl (cs10 ct a oz) H := hP
      refine wr_call0 (va_runV (As := [.int v1, .int v4]) (rest := []) ⟨hx, hb, hml, hown, htl⟩ (c_X10_goStick l D ct G a fu oz v1 v4 e_16 (hDx oz)) (cw_X10_X10_goStick htl ⟨Nat.le_of_ble_eq_true rfl, Nat.le_of_ble_eq_true rfl⟩) ⟨Bx_blind, va_recv hK hPX_16 (ci := 10) (q0 := 0) rfl rfl, Bx_pre hPX_16 hK hN (hX.stay hS hGE)⟩ rfl rfl hl.1 rfl (lv_room (Nat.le_of_ble_eq_true rfl)) dX10_oftenOf_16 ⟨Nat.zero_le _, Nat.zero_le _⟩) hS (wA_cg rfl) (fun H_16 locs_16 hB_16 _ hk_16 hS => ?_)
      have hP : va_P D vwCl (cs10 ct a r_16) H_16 := hB_16
      refine lv_iload_n hx hb dX10_oftenOf_19 rfl (lv_at hl 3 rfl) ?_
      refine lv_aload_n hx hb dX10_oftenOf_20 rfl (lv_at hl 0 rfl) ?_
      refine lv_iload hx hb dX10_oftenOf_21 (lv_at hl 4 rfl) ?_
      refine lv_iload_n hx hb dX10_oftenOf_23 rfl (lv_at hl 2 rfl) ?_
      obtain ⟨r_24, e_24, hf⟩ := ob_bind hf
      have hPX_24 : va_P D vwCl (cs10 ct a r_16) H_16 := hP
      refine ro_call1 (va_runV (As := [.int v4, .int v2]) (rest := [.int v3]) ⟨hx, hb, hml, hown, htl⟩ (c_X10_comesOf l D ct G a fu r_16 v4 v2 e_24) (cw_X10_X10_comesOf htl ⟨Nat.le_of_ble_eq_true rfl, Nat.le_of_ble_eq_true rfl⟩) ⟨Bx_blind, va_recv hK hPX_24 (ci := 10) (q0 := 0) rfl rfl, Bx_pre hPX_24 hK hN (hX.stay hS hGE)⟩ rfl rfl hl.1 rfl (lv_room (Nat.le_of_ble_eq_true rfl)) dX10_oftenOf_24 ⟨Nat.zero_le _, Nat.zero_le _⟩) ?_
      refine lv_iconst (v := (-1)) hx hb dX10_oftenOf_27 (by decide) ?_
      refine lv_icmp_ne (tgt := 35) hx hb dX10_oftenOf_28 (by decide) (fun c_28 => ?_) (fun c_28 => ?_)
      · rw [if_neg c_28] at hf
        refine lv_iconst (v := 1) hx hb dX10_oftenOf_35 (by decide) ?_
        refine lv_iadd hx hb dX10_oftenOf_36 ?_
        refine lv_istore_n (lv' := [(3, .int (v3 + 1)), (0, .ref (a 0)), (1, .int v1), (2, .int v2), (4, .int v4)]) hx hb dX10_oftenOf_37 rfl hl (by decide) rfl (fun ls hl => ?_)
        refine lv_iinc (v := (v4 + 1)) (lv' := [(4, .int (v4 + 1)), (3, .int (v3 + 1)), (0, .ref (a 0)), (1, .int v1), (2, .int v2)]) hx hb dX10_oftenOf_38 hl (k := 4) rfl rfl (by decide) rfl (fun ls hl => ?_)
        refine lv_goto (tgt := 5) hx hb dX10_oftenOf_41 (by decide) ?_
        exact ih r_16 v1 v2 (v3 + 1) (v4 + 1) _ _ _ hP hS (lv_sub hl [2, 3, 4, 1, 0] rfl) hf 
      rw [if_pos c_28] at hf
      refine lv_iconst (v := 0) hx hb dX10_oftenOf_31 (by decide) ?_
      refine lv_goto (tgt := 36) hx hb dX10_oftenOf_32 (by decide) ?_
      refine lv_iadd hx hb dX10_oftenOf_36 ?_
      refine lv_istore_n (lv' := [(3, .int (v3 + 0)), (0, .ref (a 0)), (1, .int v1), (2, .int v2), (4, .int v4)]) hx hb dX10_oftenOf_37 rfl hl (by decide) rfl (fun ls hl => ?_)
      refine lv_iinc (v := (v4 + 1)) (lv' := [(4, .int (v4 + 1)), (3, .int (v3 + 0)), (0, .ref (a 0)), (1, .int v1), (2, .int v2)]) hx hb dX10_oftenOf_38 hl (k := 4) rfl rfl (by decide) rfl (fun ls hl => ?_)
      refine lv_goto (tgt := 5) hx hb dX10_oftenOf_41 (by decide) ?_
      exact ih r_16 v1 v2 (v3 + 0) (v4 + 1) _ _ _ hP hS (lv_sub hl [2, 3, 4, 1, 0] rfl) hf 
  rw [p_X10_oftenOf] at hf
  refine lv_iconst (v := 0) hx hb dX10_oftenOf_0 (by decide) ?_
  refine lv_istore_n (lv' := [(3, .int 0), (0, .ref (a 0)), (1, .int v1), (2, .int v2)]) hx hb dX10_oftenOf_1 rfl hl (by decide) rfl (fun ls hl => ?_)
  refine lv_iconst (v := 0) hx hb dX10_oftenOf_2 (by decide) ?_
  refine lv_istore (lv' := [(4, .int 0), (3, .int 0), (0, .ref (a 0)), (1, .int v1), (2, .int v2)]) hx hb dX10_oftenOf_3 hl (by decide) rfl (fun ls hl => ?_)
  exact hL5 fu o v1 v2 0 0 _ _ _ hP hS (lv_sub hl [2, 3, 4, 1, 0] rfl) hf 
theorem c_X10_oftenOf (l : Launch) (D : va_G) (ct : Nat → ClassId) (G : GT) (a : Nat → Nat) (fu : Nat) (o : Ob) (v1 : Int32) (v2 : Int32) {r : Int32 × Ob} (hf : p_X10_oftenOf fu o v1 v2 = some r)  (hD0 : va_D (GE G) (cs10 ct a o)) : Met l yX10_oftenOf (.code yX10_oftenOf cX10_oftenOf 5 (some .int) :: wsL_law) rm_X10_oftenOf (va_Pc [.ref (a 0), .int v1, .int v2] (Bx D ct G (cs10 ct a o))) (Qwr (some (.int r.1)) (fun H => va_P D vwCl (cs10 ct a r.2) H) (wA (cs10 ct a o))) 0 0 (wA (cs10 ct a o)) := by
  refine Met.ofW (cc := cX10_oftenOf) (maxL := 5) (ret := (some .int)) (by decide) rfl ?_
  intro p e s m args below meth c s₁ B hml hv
  obtain ⟨rfl, hP, hK, hN, hX⟩ := hv
  have hts := atoms_spec (ws := .code yX10_oftenOf cX10_oftenOf 5 (some .int) :: wsL_law) B.pre
  rw [lg_entry_eq]
  exact b_X10_oftenOf a fu o v1 v2 B.exec B.bytes B.returns hml (findClass_of_methodNamed B.named) (fun w h => hts w (List.mem_cons_of_mem _ h)) B.notSynchronized hK hN hX hP hf hD0  (lv_entry [.ref (a 0), .int v1, .int v2] (n := 5) (Nat.le_of_ble_eq_true rfl))
theorem hd_X10_oftenOf : yX10_oftenOf.cls ≠ "java/lang/invoke/MethodHandle" ∧ yX10_oftenOf.cls ≠ "java/lang/invoke/VarHandle" ∧ (parseMethodDescriptor yX10_oftenOf.desc).map (fun d => d.parameters.length) = some 2 := by decide +kernel
theorem cw_X10_X10_oftenOf {R : Room} {s : State} {args : Array Value} (ht : ∀ w ∈ wsL_law, w.before args s = true) (hR : rm_X10_oftenOf.frames + 1 ≤ R.frames ∧ 8 + (5 + 11) + rm_X10_oftenOf.locals ≤ R.locals) : CallW R s args RX10 RX10 304 yX10_oftenOf cX10_oftenOf 5 (some .int) ((.code yX10_oftenOf cX10_oftenOf 5 (some .int)) :: wsL_law) rm_X10_oftenOf 0 0 2 := cwV 2 ht (GV wq_43_16 wq_43_17 wq_43_18 wq_1_5 wq_43_19) rfl rfl rfl ⟨rfl, hd_X10_oftenOf⟩ hR
def p_X10_often (fu : Nat) (o : Ob) (v1 : Int32) (v2 : Int32) : Option (Int32 × Ob) :=
  (p_X10_areTwo fu o v1 v2).bind fun r_3 => if r_3.1 = 0 then some (((-2) : Int32), r_3.2) else (p_X10_oftenOf fu r_3.2 v1 v2).bind fun r_12 => some (r_12.1, r_12.2)
abbrev rm_X10_often : Room := { frames := 5, cells := 0, slots := 0, locals := 109 }
set_option maxHeartbeats 4000000 in
set_option maxRecDepth 100000 in
theorem b_X10_often {p : Program} {l : Launch} {e : Env} {s : State} {m : MethodId} {args : Array Value} {below : List Frame} {meth : Method} {c : Code} {ls : Array Slot} {D : va_G} {ct : Nat → ClassId} {G : GT} (a : Nat → Nat) (fu : Nat) (o : Ob) (v1 : Int32) (v2 : Int32) {r : Int32 × Ob} (hx : p.tables.exec = Jvm.exec) (hb : c.code = cX10_often) (hr : meth.sig.returnType = (some .int)) (hml : c.maxLocals = 3) (hown : s.vm.findClass RX10 = some m.cls) (htl : ∀ w ∈ wsL_law, w.before args s = true) (hlocks : meth.locks = false) (hK : va_K D vwCl (tyl ct) s) (hN : ∀ w ∈ NW, va_Nw w s) (hX : SX G s s.heap) (hP0 : va_P D vwCl (cs10 ct a o) s.heap) (hf : p_X10_often fu o v1 v2 = some r) (hD0 : va_D (GE G) (cs10 ct a o))  (hl : lv_has ls 3 [(0, .ref (a 0)), (1, .int v1), (2, .int v2)]) : W p l e rm_X10_often s m args below meth c s.heap [] 0 0 (MQ below (Qwr (some (.int r.1)) (fun H => va_P D vwCl (cs10 ct a r.2) H) (wA (cs10 ct a o))) args s 0 0 (wA (cs10 ct a o))) (F0 m 0 ls []) := by
  generalize hQQ : MQ below (Qwr (some (.int r.1)) (fun H => va_P D vwCl (cs10 ct a r.2) H) (wA (cs10 ct a o))) args s 0 0 (wA (cs10 ct a o)) = QQ
  have hDx : ∀ (oy : Ob), va_D (GE G) (cs10 ct a oy) := fun oy => D_cr hD0 rfl
  have hDW : ∀ (oy : Ob), va_D (wA (cs10 ct a o)) (cs10 ct a oy) := fun oy => D_cr (D_self hD0) rfl
  have hGE : ∀ q, wA (cs10 ct a o) q → GE G q := wA_GE hD0
  have hP := hP0
  have hS : va_S (wA (cs10 ct a o)) s.heap s.heap [] := va_S.rf
  rw [p_X10_often] at hf
  refine lv_aload_n hx hb dX10_often_0 rfl (lv_at hl 0 rfl) ?_
  refine lv_iload_n hx hb dX10_often_1 rfl (lv_at hl 1 rfl) ?_
  refine lv_iload_n hx hb dX10_often_2 rfl (lv_at hl 2 rfl) ?_
  obtain ⟨r_3, e_3, hf⟩ := ob_bind hf
  have hPX_3 : va_P D vwCl (cs10 ct a o) s.heap := hP
  refine wr_call1 (va_runV (As := [.int v1, .int v2]) (rest := []) ⟨hx, hb, hml, hown, htl⟩ (c_X10_areTwo l D ct G a fu o v1 v2 e_3 (hDx o)) (cw_X10_X10_areTwo htl ⟨Nat.le_of_ble_eq_true rfl, Nat.le_of_ble_eq_true rfl⟩) ⟨Bx_blind, va_recv hK hPX_3 (ci := 10) (q0 := 0) rfl rfl, Bx_pre hPX_3 hK hN (hX.stay hS hGE)⟩ rfl rfl hl.1 rfl (lv_room (Nat.le_of_ble_eq_true rfl)) dX10_often_3 ⟨Nat.zero_le _, Nat.zero_le _⟩) hS (wA_cg rfl) (fun H_3 locs_3 hB_3 _ hk_3 hS => ?_)
  have hP : va_P D vwCl (cs10 ct a r_3.2) H_3 := hB_3
  refine lv_if_eq (tgt := 18) hx hb dX10_often_6 (by decide) (fun c_6 => ?_) (fun c_6 => ?_)
  · rw [if_pos c_6] at hf
    refine lv_bipush (v := (-2)) hx hb dX10_often_18 (by decide) ?_
    rw [← hQQ]
    cases hf
    exact rw_i hx hb hr hlocks hP hS dX10_often_20
  rw [if_neg c_6] at hf
  refine lv_aload_n hx hb dX10_often_9 rfl (lv_at hl 0 rfl) ?_
  refine lv_iload_n hx hb dX10_often_10 rfl (lv_at hl 1 rfl) ?_
  refine lv_iload_n hx hb dX10_often_11 rfl (lv_at hl 2 rfl) ?_
  obtain ⟨r_12, e_12, hf⟩ := ob_bind hf
  have hPX_12 : va_P D vwCl (cs10 ct a r_3.2) H_3 := hP
  refine wr_call1 (va_runV (As := [.int v1, .int v2]) (rest := []) ⟨hx, hb, hml, hown, htl⟩ (c_X10_oftenOf l D ct G a fu r_3.2 v1 v2 e_12 (hDx r_3.2)) (cw_X10_X10_oftenOf htl ⟨Nat.le_of_ble_eq_true rfl, Nat.le_of_ble_eq_true rfl⟩) ⟨Bx_blind, va_recv hK hPX_12 (ci := 10) (q0 := 0) rfl rfl, Bx_pre hPX_12 hK hN (hX.stay hS hGE)⟩ rfl rfl hl.1 rfl (lv_room (Nat.le_of_ble_eq_true rfl)) dX10_often_12 ⟨Nat.zero_le _, Nat.zero_le _⟩) hS (wA_cg rfl) (fun H_12 locs_12 hB_12 _ hk_12 hS => ?_)
  have hP : va_P D vwCl (cs10 ct a r_12.2) H_12 := hB_12
  refine lv_goto (tgt := 20) hx hb dX10_often_15 (by decide) ?_
  rw [← hQQ]
  cases hf
  exact rw_i hx hb hr hlocks hP hS dX10_often_20
theorem c_X10_often (l : Launch) (D : va_G) (ct : Nat → ClassId) (G : GT) (a : Nat → Nat) (fu : Nat) (o : Ob) (v1 : Int32) (v2 : Int32) {r : Int32 × Ob} (hf : p_X10_often fu o v1 v2 = some r)  (hD0 : va_D (GE G) (cs10 ct a o)) : Met l yX10_often (.code yX10_often cX10_often 3 (some .int) :: wsL_law) rm_X10_often (va_Pc [.ref (a 0), .int v1, .int v2] (Bx D ct G (cs10 ct a o))) (Qwr (some (.int r.1)) (fun H => va_P D vwCl (cs10 ct a r.2) H) (wA (cs10 ct a o))) 0 0 (wA (cs10 ct a o)) := by
  refine Met.ofW (cc := cX10_often) (maxL := 3) (ret := (some .int)) (by decide) rfl ?_
  intro p e s m args below meth c s₁ B hml hv
  obtain ⟨rfl, hP, hK, hN, hX⟩ := hv
  have hts := atoms_spec (ws := .code yX10_often cX10_often 3 (some .int) :: wsL_law) B.pre
  rw [lg_entry_eq]
  exact b_X10_often a fu o v1 v2 B.exec B.bytes B.returns hml (findClass_of_methodNamed B.named) (fun w h => hts w (List.mem_cons_of_mem _ h)) B.notSynchronized hK hN hX hP hf hD0  (lv_entry [.ref (a 0), .int v1, .int v2] (n := 3) (Nat.le_of_ble_eq_true rfl))
theorem hd_X10_bits : yX10_bits.cls ≠ "java/lang/invoke/MethodHandle" ∧ yX10_bits.cls ≠ "java/lang/invoke/VarHandle" ∧ (parseMethodDescriptor yX10_bits.desc).map (fun d => d.parameters.length) = some 1 := by decide +kernel
theorem cw_X10_X10_bits {R : Room} {s : State} {args : Array Value} (ht : ∀ w ∈ wsL_law, w.before args s = true) (hR : rm_X10_bits.frames + 1 ≤ R.frames ∧ 8 + (3 + 11) + rm_X10_bits.locals ≤ R.locals) : CallB R s args RX10 307 yX10_bits cX10_bits 3 (some .int) ((.code yX10_bits cX10_bits 3 (some .int)) :: wsL_law) rm_X10_bits 0 0 1 ∧ (Cond.static yX10_bits).before args s = true := va_cwS 1 ht (GS wq_45_6 wq_45_7 wq_1_5 wq_45_8) rfl rfl rfl hd_X10_bits hR
def p_X10_stopsOf_J58 (fu : Nat) (c5 : Ob → Int32 → Int32 → Int32 → Int32 → Option (Int32 × Ob)) (oz : Ob) (v1 : Int32) (v2 : Int32) (v3 : Int32) (v4 : Int32) : Option (Int32 × Ob) :=
    (p_X10_oftenOf fu (oI oz 21 v4) v1 v2).bind fun r_67 => if r_67.1 = 0 then c5 r_67.2 v1 v2 v4 (v4 + 1) else c5 r_67.2 v1 v2 v3 (v4 + 1)
def p_X10_stopsOf_L5 (fu : Nat)  : Nat → Ob → Int32 → Int32 → Int32 → Int32 → Option (Int32 × Ob)
  | 0, _, _, _, _, _ => none
  | n + 1, oz, v1, v2, v3, v4 =>
    if inb (3 : Int32) 98 = true then if ((1 : Int32) <<< (((oz.1 1) (3 : Int32).toNatClampNeg) &&& 31)) ≤ v4 then some (v3, (oI oz 21 (0 : Int32))) else (p_X10_bit fu v4 v1).bind fun r_21 => if r_21 = (1 : Int32) then p_X10_stopsOf_L5 fu  n oz v1 v2 v3 (v4 + 1) else (p_X10_bit fu v4 v2).bind fun r_31 => if r_31 = (1 : Int32) then p_X10_stopsOf_L5 fu  n oz v1 v2 v3 (v4 + 1) else if v3 = ((-1) : Int32) then p_X10_stopsOf_J58 fu (fun oz v1 v2 v3 v4 => p_X10_stopsOf_L5 fu  n oz v1 v2 v3 v4) oz v1 v2 v3 v4 else (p_X10_bits fu v4).bind fun r_45 => (p_X10_bits fu v3).bind fun r_49 => if r_45 < r_49 then p_X10_stopsOf_J58 fu (fun oz v1 v2 v3 v4 => p_X10_stopsOf_L5 fu  n oz v1 v2 v3 v4) oz v1 v2 v3 v4 else p_X10_stopsOf_L5 fu  n oz v1 v2 v3 (v4 + 1) else none
def p_X10_stopsOf (fu : Nat) (o : Ob) (v1 : Int32) (v2 : Int32) : Option (Int32 × Ob) :=
  p_X10_stopsOf_L5 fu fu o v1 v2 (-1) 0
abbrev rm_X10_stopsOf : Room := { frames := 4, cells := 0, slots := 0, locals := 96 }
set_option maxHeartbeats 4000000 in
set_option maxRecDepth 100000 in
theorem b_X10_stopsOf {p : Program} {l : Launch} {e : Env} {s : State} {m : MethodId} {args : Array Value} {below : List Frame} {meth : Method} {c : Code} {ls : Array Slot} {D : va_G} {ct : Nat → ClassId} {G : GT} (a : Nat → Nat) (fu : Nat) (o : Ob) (v1 : Int32) (v2 : Int32) {r : Int32 × Ob} (hx : p.tables.exec = Jvm.exec) (hb : c.code = cX10_stopsOf) (hr : meth.sig.returnType = (some .int)) (hml : c.maxLocals = 5) (hown : s.vm.findClass RX10 = some m.cls) (htl : ∀ w ∈ wsL_law, w.before args s = true) (hlocks : meth.locks = false) (hK : va_K D vwCl (tyl ct) s) (hN : ∀ w ∈ NW, va_Nw w s) (hX : SX G s s.heap) (hP0 : va_P D vwCl (cs10 ct a o) s.heap) (hf : p_X10_stopsOf fu o v1 v2 = some r) (hD0 : va_D (GE G) (cs10 ct a o))  (hl : lv_has ls 5 [(0, .ref (a 0)), (1, .int v1), (2, .int v2)]) : W p l e rm_X10_stopsOf s m args below meth c s.heap [] 0 0 (MQ below (Qwr (some (.int r.1)) (fun H => va_P D vwCl (cs10 ct a r.2) H) (wA (cs10 ct a o))) args s 0 0 (wA (cs10 ct a o))) (F0 m 0 ls []) := by
  generalize hQQ : MQ below (Qwr (some (.int r.1)) (fun H => va_P D vwCl (cs10 ct a r.2) H) (wA (cs10 ct a o))) args s 0 0 (wA (cs10 ct a o)) = QQ
  have hDx : ∀ (oy : Ob), va_D (GE G) (cs10 ct a oy) := fun oy => D_cr hD0 rfl
  have hDW : ∀ (oy : Ob), va_D (wA (cs10 ct a o)) (cs10 ct a oy) := fun oy => D_cr (D_self hD0) rfl
  have hGE : ∀ q, wA (cs10 ct a o) q → GE G q := wA_GE hD0
  have hP := hP0
  have hS : va_S (wA (cs10 ct a o)) s.heap s.heap [] := va_S.rf
  have hJ58 : ∀ (c5 : Ob → Int32 → Int32 → Int32 → Int32 → Option (Int32 × Ob)) (oz : Ob) (v1 : Int32) (v2 : Int32) (v3 : Int32) (v4 : Int32), ∀ (H : Heap) (locs : List Loc) (ls : Array Slot), va_P D vwCl (cs10 ct a oz) H → va_S (wA (cs10 ct a o)) s.heap H locs → lv_has ls 5 [(0, .ref (a 0)), (1, .int v1), (2, .int v2), (3, .int v3), (4, .int v4)] → p_X10_stopsOf_J58 fu c5 oz v1 v2 v3 v4 = some r → (∀ (oz : Ob) (v1 : Int32) (v2 : Int32) (v3 : Int32) (v4 : Int32), ∀ (H : Heap) (locs : List Loc) (ls : Array Slot), va_P D vwCl (cs10 ct a oz) H → va_S (wA (cs10 ct a o)) s.heap H locs → lv_has ls 5 [(0, .ref (a 0)), (1, .int v1), (2, .int v2), (3, .int v3), (4, .int v4)] → c5 oz v1 v2 v3 v4 = some r → W p l e rm_X10_stopsOf s m args below meth c H locs 0 0 QQ (F0 m 5 ls [])) → W p l e rm_X10_stopsOf s m args below meth c H locs 0 0 QQ (F0 m 58 ls []) := by
    intro c5 oz v1 v2 v3 v4 H locs ls hP hS hl hf k5
    rw [p_X10_stopsOf_J58] at hf
    refine lv_aload_n hx hb dX10_stopsOf_58 rfl (lv_at hl 0 rfl) ?_
    refine lv_iload hx hb dX10_stopsOf_59 (lv_at hl 4 rfl) ?_
    refine va_put (D := D) (ci := 10) (v := .int v4) (ty := .int) (C := RX10) (T := TX10) (N := 42) hx hb htl inlX10 tyX10 tyX10_ok nmX10 hown hK hP (hDW oz) hS 0 rfl rfl 21 (by decide) (htl _ wq_23_2) (fun _ h9 => h9) rfl (tyX10_ok 21 (by decide)) rfl rfl (Nat.le_of_ble_eq_true rfl) dX10_stopsOf_61 (fun H_61 locs_61 hP _ hS => ?_)
    have hP : va_P D vwCl (cs10 ct a (oI oz 21 v4)) H_61 := st10_21 hP
    refine lv_aload_n hx hb dX10_stopsOf_64 rfl (lv_at hl 0 rfl) ?_
    refine lv_iload_n hx hb dX10_stopsOf_65 rfl (lv_at hl 1 rfl) ?_
    refine lv_iload_n hx hb dX10_stopsOf_66 rfl (lv_at hl 2 rfl) ?_
    obtain ⟨r_67, e_67, hf⟩ := ob_bind hf
    have hPX_67 : va_P D vwCl (cs10 ct a (oI oz 21 v4)) H_61 := hP
    refine wr_call1 (va_runV (As := [.int v1, .int v2]) (rest := []) ⟨hx, hb, hml, hown, htl⟩ (c_X10_oftenOf l D ct G a fu (oI oz 21 v4) v1 v2 e_67 (hDx (oI oz 21 v4))) (cw_X10_X10_oftenOf htl ⟨Nat.le_of_ble_eq_true rfl, Nat.le_of_ble_eq_true rfl⟩) ⟨Bx_blind, va_recv hK hPX_67 (ci := 10) (q0 := 0) rfl rfl, Bx_pre hPX_67 hK hN (hX.stay hS hGE)⟩ rfl rfl hl.1 rfl (lv_room (Nat.le_of_ble_eq_true rfl)) dX10_stopsOf_67 ⟨Nat.zero_le _, Nat.zero_le _⟩) hS (wA_cg rfl) (fun H_67 locs_67 hB_67 _ hk_67 hS => ?_)
    have hP : va_P D vwCl (cs10 ct a r_67.2) H_67 := hB_67
    refine lv_if_ne (tgt := 76) hx hb dX10_stopsOf_70 (by decide) (fun c_70 => ?_) (fun c_70 => ?_)
    · rw [if_neg c_70] at hf
      refine lv_iinc (v := (v4 + 1)) (lv' := [(4, .int (v4 + 1)), (0, .ref (a 0)), (1, .int v1), (2, .int v2), (3, .int v3)]) hx hb dX10_stopsOf_76 hl (k := 4) rfl rfl (by decide) rfl (fun ls hl => ?_)
      refine lv_goto (tgt := 5) hx hb dX10_stopsOf_79 (by decide) ?_
      exact k5 r_67.2 v1 v2 v3 (v4 + 1) _ _ _ hP hS (lv_sub hl [1, 2, 3, 4, 0] rfl) hf
    rw [if_pos c_70] at hf
    refine lv_iload hx hb dX10_stopsOf_73 (lv_at hl 4 rfl) ?_
    refine lv_istore_n (lv' := [(3, .int v4), (0, .ref (a 0)), (1, .int v1), (2, .int v2), (4, .int v4)]) hx hb dX10_stopsOf_75 rfl hl (by decide) rfl (fun ls hl => ?_)
    refine lv_iinc (v := (v4 + 1)) (lv' := [(4, .int (v4 + 1)), (3, .int v4), (0, .ref (a 0)), (1, .int v1), (2, .int v2)]) hx hb dX10_stopsOf_76 hl (k := 4) rfl rfl (by decide) rfl (fun ls hl => ?_)
    refine lv_goto (tgt := 5) hx hb dX10_stopsOf_79 (by decide) ?_
    exact k5 r_67.2 v1 v2 v4 (v4 + 1) _ _ _ hP hS (lv_sub hl [2, 3, 4, 1, 0] rfl) hf
  have hL5 : ∀ (n : Nat) (oz : Ob) (v1 : Int32) (v2 : Int32) (v3 : Int32) (v4 : Int32), ∀ (H : Heap) (locs : List Loc) (ls : Array Slot), va_P D vwCl (cs10 ct a oz) H → va_S (wA (cs10 ct a o)) s.heap H locs → lv_has ls 5 [(0, .ref (a 0)), (1, .int v1), (2, .int v2), (3, .int v3), (4, .int v4)] → p_X10_stopsOf_L5 fu  n oz v1 v2 v3 v4 = some r → W p l e rm_X10_stopsOf s m args below meth c H locs 0 0 QQ (F0 m 5 ls []) := by
    intro  n
    induction n with
    | zero =>
      intro oz v1 v2 v3 v4 H locs ls hP hS hl hf 
      rw [p_X10_stopsOf_L5] at hf
      cases hf
    | succ n ih =>
      intro oz v1 v2 v3 v4 H locs ls hP hS hl hf 
      rw [p_X10_stopsOf_L5] at hf
      refine lv_iload hx hb dX10_stopsOf_5 (lv_at hl 4 rfl) ?_
      refine lv_iconst (v := 1) hx hb dX10_stopsOf_7 (by decide) ?_
      refine lv_aload_n hx hb dX10_stopsOf_8 rfl (lv_at hl 0 rfl) ?_
      refine va_get (D := D) (ci := 10) (v := .ref (a 1)) (C := RX10) (T := TX10) (N := 42) hx hb htl inlX10 hown hK hP 0 rfl rfl 1 (by decide) (htl _ wq_7_0) (fun _ h9 => h9) rfl dX10_stopsOf_9 ?_
      refine lv_iconst (v := 3) hx hb dX10_stopsOf_12 (by decide) ?_
      obtain ⟨hi_13, hf⟩ := ob_in hf
      refine va_iald (D := D) (tys := tyl ct) hx hb hK hP 1 0 rfl rfl hi_13 dX10_stopsOf_13 ?_
      refine lv_ishl hx hb dX10_stopsOf_14 ?_
      refine lv_icmp_ge (tgt := 82) hx hb dX10_stopsOf_15 (by decide) (fun c_15 => ?_) (fun c_15 => ?_)
      · rw [if_pos c_15] at hf
        refine lv_aload_n hx hb dX10_stopsOf_82 rfl (lv_at hl 0 rfl) ?_
        refine lv_iconst (v := 0) hx hb dX10_stopsOf_83 (by decide) ?_
        refine va_put (D := D) (ci := 10) (v := .int 0) (ty := .int) (C := RX10) (T := TX10) (N := 42) hx hb htl inlX10 tyX10 tyX10_ok nmX10 hown hK hP (hDW oz) hS 0 rfl rfl 21 (by decide) (htl _ wq_23_2) (fun _ h9 => h9) rfl (tyX10_ok 21 (by decide)) rfl rfl (Nat.le_of_ble_eq_true rfl) dX10_stopsOf_84 (fun H_84 locs_84 hP _ hS => ?_)
        have hP : va_P D vwCl (cs10 ct a (oI oz 21 (0 : Int32))) H_84 := st10_21 hP
        refine lv_iload_n hx hb dX10_stopsOf_87 rfl (lv_at hl 3 rfl) ?_
        rw [← hQQ]
        cases hf
        exact rw_i hx hb hr hlocks hP hS dX10_stopsOf_88
      rw [if_neg c_15] at hf
      refine lv_iload hx hb dX10_stopsOf_18 (lv_at hl 4 rfl) ?_
      refine lv_iload_n hx hb dX10_stopsOf_20 rfl (lv_at hl 1 rfl) ?_
      obtain ⟨r_21, e_21, hf⟩ := ob_bind hf
      have hPX_21 : va_P D vwCl ([]) H := P_nil
      refine ro_call1 (va_runS (As := [.int v4, .int v1]) (rest := []) ⟨hx, hb, hml, hown, htl⟩ (c_X10_bit l D ct G fu v4 v1 e_21) (cw_X10_X10_bit htl ⟨Nat.le_of_ble_eq_true rfl, Nat.le_of_ble_eq_true rfl⟩) ⟨Bx_blind, Bx_pre hPX_21 hK hN (hX.stay hS hGE)⟩ rfl rfl hl.1 rfl (lv_room (Nat.le_of_ble_eq_true rfl)) dX10_stopsOf_21 ⟨Nat.zero_le _, Nat.zero_le _⟩) ?_
      refine lv_iconst (v := 1) hx hb dX10_stopsOf_24 (by decide) ?_
      refine lv_icmp_eq (tgt := 76) hx hb dX10_stopsOf_25 (by decide) (fun c_25 => ?_) (fun c_25 => ?_)
      · rw [if_pos c_25] at hf
        refine lv_iinc (v := (v4 + 1)) (lv' := [(4, .int (v4 + 1)), (0, .ref (a 0)), (1, .int v1), (2, .int v2), (3, .int v3)]) hx hb dX10_stopsOf_76 hl (k := 4) rfl rfl (by decide) rfl (fun ls hl => ?_)
        refine lv_goto (tgt := 5) hx hb dX10_stopsOf_79 (by decide) ?_
        exact ih oz v1 v2 v3 (v4 + 1) _ _ _ hP hS (lv_sub hl [1, 2, 3, 4, 0] rfl) hf 
      rw [if_neg c_25] at hf
      refine lv_iload hx hb dX10_stopsOf_28 (lv_at hl 4 rfl) ?_
      refine lv_iload_n hx hb dX10_stopsOf_30 rfl (lv_at hl 2 rfl) ?_
      obtain ⟨r_31, e_31, hf⟩ := ob_bind hf
      have hPX_31 : va_P D vwCl ([]) H := P_nil
      refine ro_call1 (va_runS (As := [.int v4, .int v2]) (rest := []) ⟨hx, hb, hml, hown, htl⟩ (c_X10_bit l D ct G fu v4 v2 e_31) (cw_X10_X10_bit htl ⟨Nat.le_of_ble_eq_true rfl, Nat.le_of_ble_eq_true rfl⟩) ⟨Bx_blind, Bx_pre hPX_31 hK hN (hX.stay hS hGE)⟩ rfl rfl hl.1 rfl (lv_room (Nat.le_of_ble_eq_true rfl)) dX10_stopsOf_31 ⟨Nat.zero_le _, Nat.zero_le _⟩) ?_
      refine lv_iconst (v := 1) hx hb dX10_stopsOf_34 (by decide) ?_
      refine lv_icmp_eq (tgt := 76) hx hb dX10_stopsOf_35 (by decide) (fun c_35 => ?_) (fun c_35 => ?_)
      · rw [if_pos c_35] at hf
        refine lv_iinc (v := (v4 + 1)) (lv' := [(4, .int (v4 + 1)), (0, .ref (a 0)), (1, .int v1), (2, .int v2), (3, .int v3)]) hx hb dX10_stopsOf_76 hl (k := 4) rfl rfl (by decide) rfl (fun ls hl => ?_)
        refine lv_goto (tgt := 5) hx hb dX10_stopsOf_79 (by decide) ?_
        exact ih oz v1 v2 v3 (v4 + 1) _ _ _ hP hS (lv_sub hl [1, 2, 3, 4, 0] rfl) hf 
      rw [if_neg c_35] at hf
      refine lv_iload_n hx hb dX10_stopsOf_38 rfl (lv_at hl 3 rfl) ?_
      refine lv_iconst (v := (-1)) hx hb dX10_stopsOf_39 (by decide) ?_
      refine lv_icmp_eq (tgt := 58) hx hb dX10_stopsOf_40 (by decide) (fun c_40 => ?_) (fun c_40 => ?_)
      · rw [if_pos c_40] at hf
        exact hJ58 _ oz v1 v2 v3 v4 _ _ _ hP hS (lv_sub hl [0, 1, 2, 3, 4] rfl) hf (fun oz v1 v2 v3 v4 H locs ls hP hS hl hf => ih oz v1 v2 v3 v4 H locs ls hP hS hl hf )
      rw [if_neg c_40] at hf
      refine lv_iload hx hb dX10_stopsOf_43 (lv_at hl 4 rfl) ?_
      obtain ⟨r_45, e_45, hf⟩ := ob_bind hf
      have hPX_45 : va_P D vwCl ([]) H := P_nil
      refine ro_call1 (va_runS (As := [.int v4]) (rest := []) ⟨hx, hb, hml, hown, htl⟩ (c_X10_bits l D ct G fu v4 e_45) (cw_X10_X10_bits htl ⟨Nat.le_of_ble_eq_true rfl, Nat.le_of_ble_eq_true rfl⟩) ⟨Bx_blind, Bx_pre hPX_45 hK hN (hX.stay hS hGE)⟩ rfl rfl hl.1 rfl (lv_room (Nat.le_of_ble_eq_true rfl)) dX10_stopsOf_45 ⟨Nat.zero_le _, Nat.zero_le _⟩) ?_
      refine lv_iload_n hx hb dX10_stopsOf_48 rfl (lv_at hl 3 rfl) ?_
      obtain ⟨r_49, e_49, hf⟩ := ob_bind hf
      have hPX_49 : va_P D vwCl ([]) H := P_nil
      refine ro_call1 (va_runS (As := [.int v3]) (rest := [.int r_45]) ⟨hx, hb, hml, hown, htl⟩ (c_X10_bits l D ct G fu v3 e_49) (cw_X10_X10_bits htl ⟨Nat.le_of_ble_eq_true rfl, Nat.le_of_ble_eq_true rfl⟩) ⟨Bx_blind, Bx_pre hPX_49 hK hN (hX.stay hS hGE)⟩ rfl rfl hl.1 rfl (lv_room (Nat.le_of_ble_eq_true rfl)) dX10_stopsOf_49 ⟨Nat.zero_le _, Nat.zero_le _⟩) ?_
      refine lv_icmp_lt (tgt := 58) hx hb dX10_stopsOf_52 (by decide) (fun c_52 => ?_) (fun c_52 => ?_)
      · rw [if_pos c_52] at hf
        exact hJ58 _ oz v1 v2 v3 v4 _ _ _ hP hS (lv_sub hl [0, 1, 2, 3, 4] rfl) hf (fun oz v1 v2 v3 v4 H locs ls hP hS hl hf => ih oz v1 v2 v3 v4 H locs ls hP hS hl hf )
      rw [if_neg c_52] at hf
      refine lv_goto (tgt := 76) hx hb dX10_stopsOf_55 (by decide) ?_
      refine lv_iinc (v := (v4 + 1)) (lv' := [(4, .int (v4 + 1)), (0, .ref (a 0)), (1, .int v1), (2, .int v2), (3, .int v3)]) hx hb dX10_stopsOf_76 hl (k := 4) rfl rfl (by decide) rfl (fun ls hl => ?_)
      refine lv_goto (tgt := 5) hx hb dX10_stopsOf_79 (by decide) ?_
      exact ih oz v1 v2 v3 (v4 + 1) _ _ _ hP hS (lv_sub hl [1, 2, 3, 4, 0] rfl) hf 
  rw [p_X10_stopsOf] at hf
  refine lv_iconst (v := (-1)) hx hb dX10_stopsOf_0 (by decide) ?_
  refine lv_istore_n (lv' := [(3, .int (-1)), (0, .ref (a 0)), (1, .int v1), (2, .int v2)]) hx hb dX10_stopsOf_1 rfl hl (by decide) rfl (fun ls hl => ?_)
  refine lv_iconst (v := 0) hx hb dX10_stopsOf_2 (by decide) ?_
  refine lv_istore (lv' := [(4, .int 0), (3, .int (-1)), (0, .ref (a 0)), (1, .int v1), (2, .int v2)]) hx hb dX10_stopsOf_3 hl (by decide) rfl (fun ls hl => ?_)
  exact hL5 fu o v1 v2 (-1) 0 _ _ _ hP hS (lv_sub hl [2, 3, 4, 1, 0] rfl) hf 
theorem c_X10_stopsOf (l : Launch) (D : va_G) (ct : Nat → ClassId) (G : GT) (a : Nat → Nat) (fu : Nat) (o : Ob) (v1 : Int32) (v2 : Int32) {r : Int32 × Ob} (hf : p_X10_stopsOf fu o v1 v2 = some r)  (hD0 : va_D (GE G) (cs10 ct a o)) : Met l yX10_stopsOf (.code yX10_stopsOf cX10_stopsOf 5 (some .int) :: wsL_law) rm_X10_stopsOf (va_Pc [.ref (a 0), .int v1, .int v2] (Bx D ct G (cs10 ct a o))) (Qwr (some (.int r.1)) (fun H => va_P D vwCl (cs10 ct a r.2) H) (wA (cs10 ct a o))) 0 0 (wA (cs10 ct a o)) := by
  refine Met.ofW (cc := cX10_stopsOf) (maxL := 5) (ret := (some .int)) (by decide) rfl ?_
  intro p e s m args below meth c s₁ B hml hv
  obtain ⟨rfl, hP, hK, hN, hX⟩ := hv
  have hts := atoms_spec (ws := .code yX10_stopsOf cX10_stopsOf 5 (some .int) :: wsL_law) B.pre
  rw [lg_entry_eq]
  exact b_X10_stopsOf a fu o v1 v2 B.exec B.bytes B.returns hml (findClass_of_methodNamed B.named) (fun w h => hts w (List.mem_cons_of_mem _ h)) B.notSynchronized hK hN hX hP hf hD0  (lv_entry [.ref (a 0), .int v1, .int v2] (n := 5) (Nat.le_of_ble_eq_true rfl))
theorem hd_X10_stopsOf : yX10_stopsOf.cls ≠ "java/lang/invoke/MethodHandle" ∧ yX10_stopsOf.cls ≠ "java/lang/invoke/VarHandle" ∧ (parseMethodDescriptor yX10_stopsOf.desc).map (fun d => d.parameters.length) = some 2 := by decide +kernel
theorem cw_X10_X10_stopsOf {R : Room} {s : State} {args : Array Value} (ht : ∀ w ∈ wsL_law, w.before args s = true) (hR : rm_X10_stopsOf.frames + 1 ≤ R.frames ∧ 8 + (5 + 11) + rm_X10_stopsOf.locals ≤ R.locals) : CallW R s args RX10 RX10 310 yX10_stopsOf cX10_stopsOf 5 (some .int) ((.code yX10_stopsOf cX10_stopsOf 5 (some .int)) :: wsL_law) rm_X10_stopsOf 0 0 2 := cwV 2 ht (GV wq_45_2 wq_45_3 wq_45_4 wq_1_5 wq_45_5) rfl rfl rfl ⟨rfl, hd_X10_stopsOf⟩ hR
def p_X10_stop (fu : Nat) (o : Ob) (v1 : Int32) (v2 : Int32) : Option (Int32 × Ob) :=
  (p_X10_areTwo fu o v1 v2).bind fun r_3 => if r_3.1 = 0 then some (((-2) : Int32), r_3.2) else (p_X10_stopsOf fu r_3.2 v1 v2).bind fun r_15 => if r_15.1 = ((-1) : Int32) then some (((-1) : Int32), r_15.2) else (p_X10_bits fu r_15.1).bind fun r_29 => some (r_29, r_15.2)
abbrev rm_X10_stop : Room := { frames := 5, cells := 0, slots := 0, locals := 120 }
set_option maxHeartbeats 4000000 in
set_option maxRecDepth 100000 in
theorem b_X10_stop {p : Program} {l : Launch} {e : Env} {s : State} {m : MethodId} {args : Array Value} {below : List Frame} {meth : Method} {c : Code} {ls : Array Slot} {D : va_G} {ct : Nat → ClassId} {G : GT} (a : Nat → Nat) (fu : Nat) (o : Ob) (v1 : Int32) (v2 : Int32) {r : Int32 × Ob} (hx : p.tables.exec = Jvm.exec) (hb : c.code = cX10_stop) (hr : meth.sig.returnType = (some .int)) (hml : c.maxLocals = 4) (hown : s.vm.findClass RX10 = some m.cls) (htl : ∀ w ∈ wsL_law, w.before args s = true) (hlocks : meth.locks = false) (hK : va_K D vwCl (tyl ct) s) (hN : ∀ w ∈ NW, va_Nw w s) (hX : SX G s s.heap) (hP0 : va_P D vwCl (cs10 ct a o) s.heap) (hf : p_X10_stop fu o v1 v2 = some r) (hD0 : va_D (GE G) (cs10 ct a o))  (hl : lv_has ls 4 [(0, .ref (a 0)), (1, .int v1), (2, .int v2)]) : W p l e rm_X10_stop s m args below meth c s.heap [] 0 0 (MQ below (Qwr (some (.int r.1)) (fun H => va_P D vwCl (cs10 ct a r.2) H) (wA (cs10 ct a o))) args s 0 0 (wA (cs10 ct a o))) (F0 m 0 ls []) := by
  generalize hQQ : MQ below (Qwr (some (.int r.1)) (fun H => va_P D vwCl (cs10 ct a r.2) H) (wA (cs10 ct a o))) args s 0 0 (wA (cs10 ct a o)) = QQ
  have hDx : ∀ (oy : Ob), va_D (GE G) (cs10 ct a oy) := fun oy => D_cr hD0 rfl
  have hDW : ∀ (oy : Ob), va_D (wA (cs10 ct a o)) (cs10 ct a oy) := fun oy => D_cr (D_self hD0) rfl
  have hGE : ∀ q, wA (cs10 ct a o) q → GE G q := wA_GE hD0
  have hP := hP0
  have hS : va_S (wA (cs10 ct a o)) s.heap s.heap [] := va_S.rf
  rw [p_X10_stop] at hf
  refine lv_aload_n hx hb dX10_stop_0 rfl (lv_at hl 0 rfl) ?_
  refine lv_iload_n hx hb dX10_stop_1 rfl (lv_at hl 1 rfl) ?_
  refine lv_iload_n hx hb dX10_stop_2 rfl (lv_at hl 2 rfl) ?_
  obtain ⟨r_3, e_3, hf⟩ := ob_bind hf
  have hPX_3 : va_P D vwCl (cs10 ct a o) s.heap := hP
  refine wr_call1 (va_runV (As := [.int v1, .int v2]) (rest := []) ⟨hx, hb, hml, hown, htl⟩ (c_X10_areTwo l D ct G a fu o v1 v2 e_3 (hDx o)) (cw_X10_X10_areTwo htl ⟨Nat.le_of_ble_eq_true rfl, Nat.le_of_ble_eq_true rfl⟩) ⟨Bx_blind, va_recv hK hPX_3 (ci := 10) (q0 := 0) rfl rfl, Bx_pre hPX_3 hK hN (hX.stay hS hGE)⟩ rfl rfl hl.1 rfl (lv_room (Nat.le_of_ble_eq_true rfl)) dX10_stop_3 ⟨Nat.zero_le _, Nat.zero_le _⟩) hS (wA_cg rfl) (fun H_3 locs_3 hB_3 _ hk_3 hS => ?_)
  have hP : va_P D vwCl (cs10 ct a r_3.2) H_3 := hB_3
  refine lv_if_ne (tgt := 12) hx hb dX10_stop_6 (by decide) (fun c_6 => ?_) (fun c_6 => ?_)
  rotate_left 1
  · rw [if_pos c_6] at hf
    refine lv_bipush (v := (-2)) hx hb dX10_stop_9 (by decide) ?_
    rw [← hQQ]
    cases hf
    exact rw_i hx hb hr hlocks hP hS dX10_stop_11
  rw [if_neg c_6] at hf
  refine lv_aload_n hx hb dX10_stop_12 rfl (lv_at hl 0 rfl) ?_
  refine lv_iload_n hx hb dX10_stop_13 rfl (lv_at hl 1 rfl) ?_
  refine lv_iload_n hx hb dX10_stop_14 rfl (lv_at hl 2 rfl) ?_
  obtain ⟨r_15, e_15, hf⟩ := ob_bind hf
  have hPX_15 : va_P D vwCl (cs10 ct a r_3.2) H_3 := hP
  refine wr_call1 (va_runV (As := [.int v1, .int v2]) (rest := []) ⟨hx, hb, hml, hown, htl⟩ (c_X10_stopsOf l D ct G a fu r_3.2 v1 v2 e_15 (hDx r_3.2)) (cw_X10_X10_stopsOf htl ⟨Nat.le_of_ble_eq_true rfl, Nat.le_of_ble_eq_true rfl⟩) ⟨Bx_blind, va_recv hK hPX_15 (ci := 10) (q0 := 0) rfl rfl, Bx_pre hPX_15 hK hN (hX.stay hS hGE)⟩ rfl rfl hl.1 rfl (lv_room (Nat.le_of_ble_eq_true rfl)) dX10_stop_15 ⟨Nat.zero_le _, Nat.zero_le _⟩) hS (wA_cg rfl) (fun H_15 locs_15 hB_15 _ hk_15 hS => ?_)
  have hP : va_P D vwCl (cs10 ct a r_15.2) H_15 := hB_15
  refine lv_istore_n (lv' := [(3, .int r_15.1), (0, .ref (a 0)), (1, .int v1), (2, .int v2)]) hx hb dX10_stop_18 rfl hl (by decide) rfl (fun ls hl => ?_)
  refine lv_iload_n hx hb dX10_stop_19 rfl (lv_at hl 0 rfl) ?_
  refine lv_iconst (v := (-1)) hx hb dX10_stop_20 (by decide) ?_
  refine lv_icmp_ne (tgt := 28) hx hb dX10_stop_21 (by decide) (fun c_21 => ?_) (fun c_21 => ?_)
  rotate_left 1
  · rw [if_pos c_21] at hf
    refine lv_iconst (v := (-1)) hx hb dX10_stop_24 (by decide) ?_
    refine lv_goto (tgt := 32) hx hb dX10_stop_25 (by decide) ?_
    rw [← hQQ]
    cases hf
    exact rw_i hx hb hr hlocks hP hS dX10_stop_32
  rw [if_neg c_21] at hf
  refine lv_iload_n hx hb dX10_stop_28 rfl (lv_at hl 0 rfl) ?_
  obtain ⟨r_29, e_29, hf⟩ := ob_bind hf
  have hPX_29 : va_P D vwCl ([]) H_15 := P_nil
  refine ro_call1 (va_runS (As := [.int r_15.1]) (rest := []) ⟨hx, hb, hml, hown, htl⟩ (c_X10_bits l D ct G fu r_15.1 e_29) (cw_X10_X10_bits htl ⟨Nat.le_of_ble_eq_true rfl, Nat.le_of_ble_eq_true rfl⟩) ⟨Bx_blind, Bx_pre hPX_29 hK hN (hX.stay hS hGE)⟩ rfl rfl hl.1 rfl (lv_room (Nat.le_of_ble_eq_true rfl)) dX10_stop_29 ⟨Nat.zero_le _, Nat.zero_le _⟩) ?_
  rw [← hQQ]
  cases hf
  exact rw_i hx hb hr hlocks hP hS dX10_stop_32
theorem c_X10_stop (l : Launch) (D : va_G) (ct : Nat → ClassId) (G : GT) (a : Nat → Nat) (fu : Nat) (o : Ob) (v1 : Int32) (v2 : Int32) {r : Int32 × Ob} (hf : p_X10_stop fu o v1 v2 = some r)  (hD0 : va_D (GE G) (cs10 ct a o)) : Met l yX10_stop (.code yX10_stop cX10_stop 4 (some .int) :: wsL_law) rm_X10_stop (va_Pc [.ref (a 0), .int v1, .int v2] (Bx D ct G (cs10 ct a o))) (Qwr (some (.int r.1)) (fun H => va_P D vwCl (cs10 ct a r.2) H) (wA (cs10 ct a o))) 0 0 (wA (cs10 ct a o)) := by
  refine Met.ofW (cc := cX10_stop) (maxL := 4) (ret := (some .int)) (by decide) rfl ?_
  intro p e s m args below meth c s₁ B hml hv
  obtain ⟨rfl, hP, hK, hN, hX⟩ := hv
  have hts := atoms_spec (ws := .code yX10_stop cX10_stop 4 (some .int) :: wsL_law) B.pre
  rw [lg_entry_eq]
  exact b_X10_stop a fu o v1 v2 B.exec B.bytes B.returns hml (findClass_of_methodNamed B.named) (fun w h => hts w (List.mem_cons_of_mem _ h)) B.notSynchronized hK hN hX hP hf hD0  (lv_entry [.ref (a 0), .int v1, .int v2] (n := 4) (Nat.le_of_ble_eq_true rfl))
def p_X10_stops (fu : Nat) (o : Ob) (v1 : Int32) (v2 : Int32) : Option (Int32 × Ob) :=
  (p_X10_areTwo fu o v1 v2).bind fun r_3 => if r_3.1 = 0 then some (((-2) : Int32), r_3.2) else (p_X10_stopsOf fu r_3.2 v1 v2).bind fun r_12 => some (r_12.1, r_12.2)
abbrev rm_X10_stops : Room := { frames := 5, cells := 0, slots := 0, locals := 120 }
set_option maxHeartbeats 4000000 in
set_option maxRecDepth 100000 in
theorem b_X10_stops {p : Program} {l : Launch} {e : Env} {s : State} {m : MethodId} {args : Array Value} {below : List Frame} {meth : Method} {c : Code} {ls : Array Slot} {D : va_G} {ct : Nat → ClassId} {G : GT} (a : Nat → Nat) (fu : Nat) (o : Ob) (v1 : Int32) (v2 : Int32) {r : Int32 × Ob} (hx : p.tables.exec = Jvm.exec) (hb : c.code = cX10_stops) (hr : meth.sig.returnType = (some .int)) (hml : c.maxLocals = 3) (hown : s.vm.findClass RX10 = some m.cls) (htl : ∀ w ∈ wsL_law, w.before args s = true) (hlocks : meth.locks = false) (hK : va_K D vwCl (tyl ct) s) (hN : ∀ w ∈ NW, va_Nw w s) (hX : SX G s s.heap) (hP0 : va_P D vwCl (cs10 ct a o) s.heap) (hf : p_X10_stops fu o v1 v2 = some r) (hD0 : va_D (GE G) (cs10 ct a o))  (hl : lv_has ls 3 [(0, .ref (a 0)), (1, .int v1), (2, .int v2)]) : W p l e rm_X10_stops s m args below meth c s.heap [] 0 0 (MQ below (Qwr (some (.int r.1)) (fun H => va_P D vwCl (cs10 ct a r.2) H) (wA (cs10 ct a o))) args s 0 0 (wA (cs10 ct a o))) (F0 m 0 ls []) := by
  generalize hQQ : MQ below (Qwr (some (.int r.1)) (fun H => va_P D vwCl (cs10 ct a r.2) H) (wA (cs10 ct a o))) args s 0 0 (wA (cs10 ct a o)) = QQ
  have hDx : ∀ (oy : Ob), va_D (GE G) (cs10 ct a oy) := fun oy => D_cr hD0 rfl
  have hDW : ∀ (oy : Ob), va_D (wA (cs10 ct a o)) (cs10 ct a oy) := fun oy => D_cr (D_self hD0) rfl
  have hGE : ∀ q, wA (cs10 ct a o) q → GE G q := wA_GE hD0
  have hP := hP0
  have hS : va_S (wA (cs10 ct a o)) s.heap s.heap [] := va_S.rf
  rw [p_X10_stops] at hf
  refine lv_aload_n hx hb dX10_stops_0 rfl (lv_at hl 0 rfl) ?_
  refine lv_iload_n hx hb dX10_stops_1 rfl (lv_at hl 1 rfl) ?_
  refine lv_iload_n hx hb dX10_stops_2 rfl (lv_at hl 2 rfl) ?_
  obtain ⟨r_3, e_3, hf⟩ := ob_bind hf
  have hPX_3 : va_P D vwCl (cs10 ct a o) s.heap := hP
  refine wr_call1 (va_runV (As := [.int v1, .int v2]) (rest := []) ⟨hx, hb, hml, hown, htl⟩ (c_X10_areTwo l D ct G a fu o v1 v2 e_3 (hDx o)) (cw_X10_X10_areTwo htl ⟨Nat.le_of_ble_eq_true rfl, Nat.le_of_ble_eq_true rfl⟩) ⟨Bx_blind, va_recv hK hPX_3 (ci := 10) (q0 := 0) rfl rfl, Bx_pre hPX_3 hK hN (hX.stay hS hGE)⟩ rfl rfl hl.1 rfl (lv_room (Nat.le_of_ble_eq_true rfl)) dX10_stops_3 ⟨Nat.zero_le _, Nat.zero_le _⟩) hS (wA_cg rfl) (fun H_3 locs_3 hB_3 _ hk_3 hS => ?_)
  have hP : va_P D vwCl (cs10 ct a r_3.2) H_3 := hB_3
  refine lv_if_eq (tgt := 18) hx hb dX10_stops_6 (by decide) (fun c_6 => ?_) (fun c_6 => ?_)
  · rw [if_pos c_6] at hf
    refine lv_bipush (v := (-2)) hx hb dX10_stops_18 (by decide) ?_
    rw [← hQQ]
    cases hf
    exact rw_i hx hb hr hlocks hP hS dX10_stops_20
  rw [if_neg c_6] at hf
  refine lv_aload_n hx hb dX10_stops_9 rfl (lv_at hl 0 rfl) ?_
  refine lv_iload_n hx hb dX10_stops_10 rfl (lv_at hl 1 rfl) ?_
  refine lv_iload_n hx hb dX10_stops_11 rfl (lv_at hl 2 rfl) ?_
  obtain ⟨r_12, e_12, hf⟩ := ob_bind hf
  have hPX_12 : va_P D vwCl (cs10 ct a r_3.2) H_3 := hP
  refine wr_call1 (va_runV (As := [.int v1, .int v2]) (rest := []) ⟨hx, hb, hml, hown, htl⟩ (c_X10_stopsOf l D ct G a fu r_3.2 v1 v2 e_12 (hDx r_3.2)) (cw_X10_X10_stopsOf htl ⟨Nat.le_of_ble_eq_true rfl, Nat.le_of_ble_eq_true rfl⟩) ⟨Bx_blind, va_recv hK hPX_12 (ci := 10) (q0 := 0) rfl rfl, Bx_pre hPX_12 hK hN (hX.stay hS hGE)⟩ rfl rfl hl.1 rfl (lv_room (Nat.le_of_ble_eq_true rfl)) dX10_stops_12 ⟨Nat.zero_le _, Nat.zero_le _⟩) hS (wA_cg rfl) (fun H_12 locs_12 hB_12 _ hk_12 hS => ?_)
  have hP : va_P D vwCl (cs10 ct a r_12.2) H_12 := hB_12
  refine lv_goto (tgt := 20) hx hb dX10_stops_15 (by decide) ?_
  rw [← hQQ]
  cases hf
  exact rw_i hx hb hr hlocks hP hS dX10_stops_20
theorem c_X10_stops (l : Launch) (D : va_G) (ct : Nat → ClassId) (G : GT) (a : Nat → Nat) (fu : Nat) (o : Ob) (v1 : Int32) (v2 : Int32) {r : Int32 × Ob} (hf : p_X10_stops fu o v1 v2 = some r)  (hD0 : va_D (GE G) (cs10 ct a o)) : Met l yX10_stops (.code yX10_stops cX10_stops 3 (some .int) :: wsL_law) rm_X10_stops (va_Pc [.ref (a 0), .int v1, .int v2] (Bx D ct G (cs10 ct a o))) (Qwr (some (.int r.1)) (fun H => va_P D vwCl (cs10 ct a r.2) H) (wA (cs10 ct a o))) 0 0 (wA (cs10 ct a o)) := by
  refine Met.ofW (cc := cX10_stops) (maxL := 3) (ret := (some .int)) (by decide) rfl ?_
  intro p e s m args below meth c s₁ B hml hv
  obtain ⟨rfl, hP, hK, hN, hX⟩ := hv
  have hts := atoms_spec (ws := .code yX10_stops cX10_stops 3 (some .int) :: wsL_law) B.pre
  rw [lg_entry_eq]
  exact b_X10_stops a fu o v1 v2 B.exec B.bytes B.returns hml (findClass_of_methodNamed B.named) (fun w h => hts w (List.mem_cons_of_mem _ h)) B.notSynchronized hK hN hX hP hf hD0  (lv_entry [.ref (a 0), .int v1, .int v2] (n := 3) (Nat.le_of_ble_eq_true rfl))
def p_X10_seaOf (fu : Nat) (o : Ob) (v1 : Int32) (v2 : Int32) : Option (Int32 × Ob) :=
  (p_X10_goStick fu o v1 v2).bind fun r_3 => (p_X10_comesOf fu r_3 v2 ((-1) : Int32)).bind fun r_9 => if r_9 = ((-1) : Int32) then some ((1000000000 : Int32), r_3) else some (r_9, r_3)
abbrev rm_X10_seaOf : Room := { frames := 3, cells := 0, slots := 0, locals := 72 }
set_option maxHeartbeats 4000000 in
set_option maxRecDepth 100000 in
theorem b_X10_seaOf {p : Program} {l : Launch} {e : Env} {s : State} {m : MethodId} {args : Array Value} {below : List Frame} {meth : Method} {c : Code} {ls : Array Slot} {D : va_G} {ct : Nat → ClassId} {G : GT} (a : Nat → Nat) (fu : Nat) (o : Ob) (v1 : Int32) (v2 : Int32) {r : Int32 × Ob} (hx : p.tables.exec = Jvm.exec) (hb : c.code = cX10_seaOf) (hr : meth.sig.returnType = (some .int)) (hml : c.maxLocals = 4) (hown : s.vm.findClass RX10 = some m.cls) (htl : ∀ w ∈ wsL_law, w.before args s = true) (hlocks : meth.locks = false) (hK : va_K D vwCl (tyl ct) s) (hN : ∀ w ∈ NW, va_Nw w s) (hX : SX G s s.heap) (hP0 : va_P D vwCl (cs10 ct a o) s.heap) (hf : p_X10_seaOf fu o v1 v2 = some r) (hD0 : va_D (GE G) (cs10 ct a o))  (hl : lv_has ls 4 [(0, .ref (a 0)), (1, .int v1), (2, .int v2)]) : W p l e rm_X10_seaOf s m args below meth c s.heap [] 0 0 (MQ below (Qwr (some (.int r.1)) (fun H => va_P D vwCl (cs10 ct a r.2) H) (wA (cs10 ct a o))) args s 0 0 (wA (cs10 ct a o))) (F0 m 0 ls []) := by
  generalize hQQ : MQ below (Qwr (some (.int r.1)) (fun H => va_P D vwCl (cs10 ct a r.2) H) (wA (cs10 ct a o))) args s 0 0 (wA (cs10 ct a o)) = QQ
  have hDx : ∀ (oy : Ob), va_D (GE G) (cs10 ct a oy) := fun oy => D_cr hD0 rfl
  have hDW : ∀ (oy : Ob), va_D (wA (cs10 ct a o)) (cs10 ct a oy) := fun oy => D_cr (D_self hD0) rfl
  have hGE : ∀ q, wA (cs10 ct a o) q → GE G q := wA_GE hD0
  have hP := hP0
  have hS : va_S (wA (cs10 ct a o)) s.heap s.heap [] := va_S.rf
  rw [p_X10_seaOf] at hf
  refine lv_aload_n hx hb dX10_seaOf_0 rfl (lv_at hl 0 rfl) ?_
  refine lv_iload_n hx hb dX10_seaOf_1 rfl (lv_at hl 1 rfl) ?_
  refine lv_iload_n hx hb dX10_seaOf_2 rfl (lv_at hl 2 rfl) ?_
  obtain ⟨r_3, e_3, hf⟩ := ob_bind hf
  have hPX_3 : va_P D vwCl (cs10 ct a o) s.heap := hP
  refine wr_call0 (va_runV (As := [.int v1, .int v2]) (rest := []) ⟨hx, hb, hml, hown, htl⟩ (c_X10_goStick l D ct G a fu o v1 v2 e_3 (hDx o)) (cw_X10_X10_goStick htl ⟨Nat.le_of_ble_eq_true rfl, Nat.le_of_ble_eq_true rfl⟩) ⟨Bx_blind, va_recv hK hPX_3 (ci := 10) (q0 := 0) rfl rfl, Bx_pre hPX_3 hK hN (hX.stay hS hGE)⟩ rfl rfl hl.1 rfl (lv_room (Nat.le_of_ble_eq_true rfl)) dX10_seaOf_3 ⟨Nat.zero_le _, Nat.zero_le _⟩) hS (wA_cg rfl) (fun H_3 locs_3 hB_3 _ hk_3 hS => ?_)
  have hP : va_P D vwCl (cs10 ct a r_3) H_3 := hB_3
  refine lv_aload_n hx hb dX10_seaOf_6 rfl (lv_at hl 0 rfl) ?_
  refine lv_iload_n hx hb dX10_seaOf_7 rfl (lv_at hl 2 rfl) ?_
  refine lv_iconst (v := (-1)) hx hb dX10_seaOf_8 (by decide) ?_
  obtain ⟨r_9, e_9, hf⟩ := ob_bind hf
  have hPX_9 : va_P D vwCl (cs10 ct a r_3) H_3 := hP
  refine ro_call1 (va_runV (As := [.int v2, .int (-1)]) (rest := []) ⟨hx, hb, hml, hown, htl⟩ (c_X10_comesOf l D ct G a fu r_3 v2 ((-1) : Int32) e_9) (cw_X10_X10_comesOf htl ⟨Nat.le_of_ble_eq_true rfl, Nat.le_of_ble_eq_true rfl⟩) ⟨Bx_blind, va_recv hK hPX_9 (ci := 10) (q0 := 0) rfl rfl, Bx_pre hPX_9 hK hN (hX.stay hS hGE)⟩ rfl rfl hl.1 rfl (lv_room (Nat.le_of_ble_eq_true rfl)) dX10_seaOf_9 ⟨Nat.zero_le _, Nat.zero_le _⟩) ?_
  refine lv_istore_n (lv' := [(3, .int r_9), (0, .ref (a 0)), (1, .int v1), (2, .int v2)]) hx hb dX10_seaOf_12 rfl hl (by decide) rfl (fun ls hl => ?_)
  refine lv_iload_n hx hb dX10_seaOf_13 rfl (lv_at hl 0 rfl) ?_
  refine lv_iconst (v := (-1)) hx hb dX10_seaOf_14 (by decide) ?_
  refine lv_icmp_ne (tgt := 24) hx hb dX10_seaOf_15 (by decide) (fun c_15 => ?_) (fun c_15 => ?_)
  · rw [if_neg c_15] at hf
    refine lv_iload_n hx hb dX10_seaOf_24 rfl (lv_at hl 0 rfl) ?_
    rw [← hQQ]
    cases hf
    exact rw_i hx hb hr hlocks hP hS dX10_seaOf_25
  rw [if_pos c_15] at hf
  refine lv_ldcw (v := 1000000000) hx hb hown (htl _ wq_41_22) dX10_seaOf_18 ?_
  refine lv_goto (tgt := 25) hx hb dX10_seaOf_21 (by decide) ?_
  rw [← hQQ]
  cases hf
  exact rw_i hx hb hr hlocks hP hS dX10_seaOf_25
theorem c_X10_seaOf (l : Launch) (D : va_G) (ct : Nat → ClassId) (G : GT) (a : Nat → Nat) (fu : Nat) (o : Ob) (v1 : Int32) (v2 : Int32) {r : Int32 × Ob} (hf : p_X10_seaOf fu o v1 v2 = some r)  (hD0 : va_D (GE G) (cs10 ct a o)) : Met l yX10_seaOf (.code yX10_seaOf cX10_seaOf 4 (some .int) :: wsL_law) rm_X10_seaOf (va_Pc [.ref (a 0), .int v1, .int v2] (Bx D ct G (cs10 ct a o))) (Qwr (some (.int r.1)) (fun H => va_P D vwCl (cs10 ct a r.2) H) (wA (cs10 ct a o))) 0 0 (wA (cs10 ct a o)) := by
  refine Met.ofW (cc := cX10_seaOf) (maxL := 4) (ret := (some .int)) (by decide) rfl ?_
  intro p e s m args below meth c s₁ B hml hv
  obtain ⟨rfl, hP, hK, hN, hX⟩ := hv
  have hts := atoms_spec (ws := .code yX10_seaOf cX10_seaOf 4 (some .int) :: wsL_law) B.pre
  rw [lg_entry_eq]
  exact b_X10_seaOf a fu o v1 v2 B.exec B.bytes B.returns hml (findClass_of_methodNamed B.named) (fun w h => hts w (List.mem_cons_of_mem _ h)) B.notSynchronized hK hN hX hP hf hD0  (lv_entry [.ref (a 0), .int v1, .int v2] (n := 4) (Nat.le_of_ble_eq_true rfl))
theorem hd_X10_seaOf : yX10_seaOf.cls ≠ "java/lang/invoke/MethodHandle" ∧ yX10_seaOf.cls ≠ "java/lang/invoke/VarHandle" ∧ (parseMethodDescriptor yX10_seaOf.desc).map (fun d => d.parameters.length) = some 2 := by decide +kernel
theorem cw_X10_X10_seaOf {R : Room} {s : State} {args : Array Value} (ht : ∀ w ∈ wsL_law, w.before args s = true) (hR : rm_X10_seaOf.frames + 1 ≤ R.frames ∧ 8 + (4 + 11) + rm_X10_seaOf.locals ≤ R.locals) : CallW R s args RX10 RX10 313 yX10_seaOf cX10_seaOf 4 (some .int) ((.code yX10_seaOf cX10_seaOf 4 (some .int)) :: wsL_law) rm_X10_seaOf 0 0 2 := cwV 2 ht (GV wq_46_4 wq_46_5 wq_46_6 wq_1_5 wq_46_7) rfl rfl rfl ⟨rfl, hd_X10_seaOf⟩ hR
def p_X10_shut_L38 (fu : Nat)  : Nat → Ob → Int32 → Int32 → Int32 → Int32 → Int32 → Int32 → Option (Int32 × Ob)
  | 0, _, _, _, _, _, _, _ => none
  | n + 1, oz, v1, v2, v3, v4, v5, v6 =>
    if inb (4 : Int32) 98 = true then if ((oz.1 1) (4 : Int32).toNatClampNeg) ≤ v6 then some (v3, oz) else (p_X10_seaOf fu (oI oz 20 (v5 ||| ((1 : Int32) <<< (v6 &&& 31)))) v1 v2).bind fun r_63 => if r_63.1 < v4 then p_X10_shut_L38 fu  n r_63.2 v1 v2 v6 r_63.1 v5 (v6 + 1) else p_X10_shut_L38 fu  n r_63.2 v1 v2 v3 v4 v5 (v6 + 1) else none
def p_X10_shut (fu : Nat) (o : Ob) (v1 : Int32) (v2 : Int32) : Option (Int32 × Ob) :=
  (p_X10_asksReach fu o v1).bind fun r_2 => if r_2.1 = 0 then some (((-2) : Int32), r_2.2) else (p_X10_isStep fu v2.toInt64).bind fun r_10 => if r_10 = 0 then some (((-2) : Int32), r_2.2) else (p_X10_seaOf fu r_2.2 v1 v2).bind fun r_24 => p_X10_shut_L38 fu fu r_24.2 v1 v2 (-1) r_24.1 (r_24.2.1 20 0) 0
abbrev rm_X10_shut : Room := { frames := 4, cells := 0, slots := 0, locals := 95 }
set_option maxHeartbeats 4000000 in
set_option maxRecDepth 100000 in
theorem b_X10_shut {p : Program} {l : Launch} {e : Env} {s : State} {m : MethodId} {args : Array Value} {below : List Frame} {meth : Method} {c : Code} {ls : Array Slot} {D : va_G} {ct : Nat → ClassId} {G : GT} (a : Nat → Nat) (fu : Nat) (o : Ob) (v1 : Int32) (v2 : Int32) {r : Int32 × Ob} (hx : p.tables.exec = Jvm.exec) (hb : c.code = cX10_shut) (hr : meth.sig.returnType = (some .int)) (hml : c.maxLocals = 8) (hown : s.vm.findClass RX10 = some m.cls) (htl : ∀ w ∈ wsL_law, w.before args s = true) (hlocks : meth.locks = false) (hK : va_K D vwCl (tyl ct) s) (hN : ∀ w ∈ NW, va_Nw w s) (hX : SX G s s.heap) (hP0 : va_P D vwCl (cs10 ct a o) s.heap) (hf : p_X10_shut fu o v1 v2 = some r) (hD0 : va_D (GE G) (cs10 ct a o))  (hl : lv_has ls 8 [(0, .ref (a 0)), (1, .int v1), (2, .int v2)]) : W p l e rm_X10_shut s m args below meth c s.heap [] 0 0 (MQ below (Qwr (some (.int r.1)) (fun H => va_P D vwCl (cs10 ct a r.2) H) (wA (cs10 ct a o))) args s 0 0 (wA (cs10 ct a o))) (F0 m 0 ls []) := by
  generalize hQQ : MQ below (Qwr (some (.int r.1)) (fun H => va_P D vwCl (cs10 ct a r.2) H) (wA (cs10 ct a o))) args s 0 0 (wA (cs10 ct a o)) = QQ
  have hDx : ∀ (oy : Ob), va_D (GE G) (cs10 ct a oy) := fun oy => D_cr hD0 rfl
  have hDW : ∀ (oy : Ob), va_D (wA (cs10 ct a o)) (cs10 ct a oy) := fun oy => D_cr (D_self hD0) rfl
  have hGE : ∀ q, wA (cs10 ct a o) q → GE G q := wA_GE hD0
  have hP := hP0
  have hS : va_S (wA (cs10 ct a o)) s.heap s.heap [] := va_S.rf
  have hL38 : ∀ (n : Nat) (oz : Ob) (v1 : Int32) (v2 : Int32) (v3 : Int32) (v4 : Int32) (v5 : Int32) (v6 : Int32), ∀ (H : Heap) (locs : List Loc) (ls : Array Slot), va_P D vwCl (cs10 ct a oz) H → va_S (wA (cs10 ct a o)) s.heap H locs → lv_has ls 8 [(0, .ref (a 0)), (1, .int v1), (2, .int v2), (3, .int v3), (4, .int v4), (5, .int v5), (6, .int v6)] → p_X10_shut_L38 fu  n oz v1 v2 v3 v4 v5 v6 = some r → W p l e rm_X10_shut s m args below meth c H locs 0 0 QQ (F0 m 38 ls []) := by
    intro  n
    induction n with
    | zero =>
      intro oz v1 v2 v3 v4 v5 v6 H locs ls hP hS hl hf 
      rw [p_X10_shut_L38] at hf
      cases hf
    | succ n ih =>
      intro oz v1 v2 v3 v4 v5 v6 H locs ls hP hS hl hf 
      rw [p_X10_shut_L38] at hf
      refine lv_iload hx hb dX10_shut_38 (lv_at hl 6 rfl) ?_
      refine lv_aload_n hx hb dX10_shut_40 rfl (lv_at hl 0 rfl) ?_
      refine va_get (D := D) (ci := 10) (v := .ref (a 1)) (C := RX10) (T := TX10) (N := 42) hx hb htl inlX10 hown hK hP 0 rfl rfl 1 (by decide) (htl _ wq_7_0) (fun _ h9 => h9) rfl dX10_shut_41 ?_
      refine lv_iconst (v := 4) hx hb dX10_shut_44 (by decide) ?_
      obtain ⟨hi_45, hf⟩ := ob_in hf
      refine va_iald (D := D) (tys := tyl ct) hx hb hK hP 1 0 rfl rfl hi_45 dX10_shut_45 ?_
      refine lv_icmp_ge (tgt := 91) hx hb dX10_shut_46 (by decide) (fun c_46 => ?_) (fun c_46 => ?_)
      · rw [if_pos c_46] at hf
        refine lv_iload_n hx hb dX10_shut_91 rfl (lv_at hl 3 rfl) ?_
        rw [← hQQ]
        cases hf
        exact rw_i hx hb hr hlocks hP hS dX10_shut_92
      rw [if_neg c_46] at hf
      refine lv_aload_n hx hb dX10_shut_49 rfl (lv_at hl 0 rfl) ?_
      refine lv_iload hx hb dX10_shut_50 (lv_at hl 5 rfl) ?_
      refine lv_iconst (v := 1) hx hb dX10_shut_52 (by decide) ?_
      refine lv_iload hx hb dX10_shut_53 (lv_at hl 6 rfl) ?_
      refine lv_ishl hx hb dX10_shut_55 ?_
      refine lv_ior hx hb dX10_shut_56 ?_
      refine va_put (D := D) (ci := 10) (v := .int (v5 ||| ((1 : Int32) <<< (v6 &&& 31)))) (ty := .int) (C := RX10) (T := TX10) (N := 42) hx hb htl inlX10 tyX10 tyX10_ok nmX10 hown hK hP (hDW oz) hS 0 rfl rfl 20 (by decide) (htl _ wq_23_1) (fun _ h9 => h9) rfl (tyX10_ok 20 (by decide)) rfl rfl (Nat.le_of_ble_eq_true rfl) dX10_shut_57 (fun H_57 locs_57 hP _ hS => ?_)
      have hP : va_P D vwCl (cs10 ct a (oI oz 20 (v5 ||| ((1 : Int32) <<< (v6 &&& 31))))) H_57 := st10_20 hP
      refine lv_aload_n hx hb dX10_shut_60 rfl (lv_at hl 0 rfl) ?_
      refine lv_iload_n hx hb dX10_shut_61 rfl (lv_at hl 1 rfl) ?_
      refine lv_iload_n hx hb dX10_shut_62 rfl (lv_at hl 2 rfl) ?_
      obtain ⟨r_63, e_63, hf⟩ := ob_bind hf
      have hPX_63 : va_P D vwCl (cs10 ct a (oI oz 20 (v5 ||| ((1 : Int32) <<< (v6 &&& 31))))) H_57 := hP
      refine wr_call1 (va_runV (As := [.int v1, .int v2]) (rest := []) ⟨hx, hb, hml, hown, htl⟩ (c_X10_seaOf l D ct G a fu (oI oz 20 (v5 ||| ((1 : Int32) <<< (v6 &&& 31)))) v1 v2 e_63 (hDx (oI oz 20 (v5 ||| ((1 : Int32) <<< (v6 &&& 31)))))) (cw_X10_X10_seaOf htl ⟨Nat.le_of_ble_eq_true rfl, Nat.le_of_ble_eq_true rfl⟩) ⟨Bx_blind, va_recv hK hPX_63 (ci := 10) (q0 := 0) rfl rfl, Bx_pre hPX_63 hK hN (hX.stay hS hGE)⟩ rfl rfl hl.1 rfl (lv_room (Nat.le_of_ble_eq_true rfl)) dX10_shut_63 ⟨Nat.zero_le _, Nat.zero_le _⟩) hS (wA_cg rfl) (fun H_63 locs_63 hB_63 _ hk_63 hS => ?_)
      have hP : va_P D vwCl (cs10 ct a r_63.2) H_63 := hB_63
      refine lv_istore (lv' := [(7, .int r_63.1), (0, .ref (a 0)), (1, .int v1), (2, .int v2), (3, .int v3), (4, .int v4), (5, .int v5), (6, .int v6)]) hx hb dX10_shut_66 hl (by decide) rfl (fun ls hl => ?_)
      refine lv_iload hx hb dX10_shut_68 (lv_at hl 0 rfl) ?_
      refine lv_iload hx hb dX10_shut_70 (lv_at hl 5 rfl) ?_
      refine lv_icmp_lt (tgt := 78) hx hb dX10_shut_72 (by decide) (fun c_72 => ?_) (fun c_72 => ?_)
      rotate_left 1
      · rw [if_neg c_72] at hf
        refine lv_goto (tgt := 85) hx hb dX10_shut_75 (by decide) ?_
        refine lv_iinc (v := (v6 + 1)) (lv' := [(6, .int (v6 + 1)), (7, .int r_63.1), (0, .ref (a 0)), (1, .int v1), (2, .int v2), (3, .int v3), (4, .int v4), (5, .int v5)]) hx hb dX10_shut_85 hl (k := 7) rfl rfl (by decide) rfl (fun ls hl => ?_)
        refine lv_goto (tgt := 38) hx hb dX10_shut_88 (by decide) ?_
        exact ih r_63.2 v1 v2 v3 v4 v5 (v6 + 1) _ _ _ hP hS (lv_sub hl [2, 3, 4, 5, 6, 7, 0] rfl) hf 
      rw [if_pos c_72] at hf
      refine lv_iload hx hb dX10_shut_78 (lv_at hl 0 rfl) ?_
      refine lv_istore (lv' := [(4, .int r_63.1), (7, .int r_63.1), (0, .ref (a 0)), (1, .int v1), (2, .int v2), (3, .int v3), (5, .int v5), (6, .int v6)]) hx hb dX10_shut_80 hl (by decide) rfl (fun ls hl => ?_)
      refine lv_iload hx hb dX10_shut_82 (lv_at hl 7 rfl) ?_
      refine lv_istore_n (lv' := [(3, .int v6), (4, .int r_63.1), (7, .int r_63.1), (0, .ref (a 0)), (1, .int v1), (2, .int v2), (5, .int v5), (6, .int v6)]) hx hb dX10_shut_84 rfl hl (by decide) rfl (fun ls hl => ?_)
      refine lv_iinc (v := (v6 + 1)) (lv' := [(6, .int (v6 + 1)), (3, .int v6), (4, .int r_63.1), (7, .int r_63.1), (0, .ref (a 0)), (1, .int v1), (2, .int v2), (5, .int v5)]) hx hb dX10_shut_85 hl (k := 7) rfl rfl (by decide) rfl (fun ls hl => ?_)
      refine lv_goto (tgt := 38) hx hb dX10_shut_88 (by decide) ?_
      exact ih r_63.2 v1 v2 v6 r_63.1 v5 (v6 + 1) _ _ _ hP hS (lv_sub hl [4, 5, 6, 1, 2, 7, 0] rfl) hf 
  rw [p_X10_shut] at hf
  refine lv_aload_n hx hb dX10_shut_0 rfl (lv_at hl 0 rfl) ?_
  refine lv_iload_n hx hb dX10_shut_1 rfl (lv_at hl 1 rfl) ?_
  obtain ⟨r_2, e_2, hf⟩ := ob_bind hf
  have hPX_2 : va_P D vwCl (cs10 ct a o) s.heap := hP
  refine wr_call1 (va_runV (As := [.int v1]) (rest := []) ⟨hx, hb, hml, hown, htl⟩ (c_X10_asksReach l D ct G a fu o v1 e_2 (hDx o)) (cw_X10_X10_asksReach htl ⟨Nat.le_of_ble_eq_true rfl, Nat.le_of_ble_eq_true rfl⟩) ⟨Bx_blind, va_recv hK hPX_2 (ci := 10) (q0 := 0) rfl rfl, Bx_pre hPX_2 hK hN (hX.stay hS hGE)⟩ rfl rfl hl.1 rfl (lv_room (Nat.le_of_ble_eq_true rfl)) dX10_shut_2 ⟨Nat.zero_le _, Nat.zero_le _⟩) hS (wA_cg rfl) (fun H_2 locs_2 hB_2 _ hk_2 hS => ?_)
  have hP : va_P D vwCl (cs10 ct a r_2.2) H_2 := hB_2
  refine lv_if_eq (tgt := 16) hx hb dX10_shut_5 (by decide) (fun c_5 => ?_) (fun c_5 => ?_)
  · rw [if_pos c_5] at hf
    refine lv_bipush (v := (-2)) hx hb dX10_shut_16 (by decide) ?_
    rw [← hQQ]
    cases hf
    exact rw_i hx hb hr hlocks hP hS dX10_shut_18
  rw [if_neg c_5] at hf
  refine lv_iload_n hx hb dX10_shut_8 rfl (lv_at hl 2 rfl) ?_
  refine lv_i2l hx hb dX10_shut_9 rfl ?_
  obtain ⟨r_10, e_10, hf⟩ := ob_bind hf
  have hPX_10 : va_P D vwCl ([]) H_2 := P_nil
  refine ro_call1 (va_runS (As := [.long v2.toInt64]) (rest := []) ⟨hx, hb, hml, hown, htl⟩ (c_X10_isStep l D ct G fu v2.toInt64 e_10) (cw_X10_X10_isStep htl ⟨Nat.le_of_ble_eq_true rfl, Nat.le_of_ble_eq_true rfl⟩) ⟨Bx_blind, Bx_pre hPX_10 hK hN (hX.stay hS hGE)⟩ rfl rfl hl.1 rfl (lv_room (Nat.le_of_ble_eq_true rfl)) dX10_shut_10 ⟨Nat.zero_le _, Nat.zero_le _⟩) ?_
  refine lv_if_ne (tgt := 19) hx hb dX10_shut_13 (by decide) (fun c_13 => ?_) (fun c_13 => ?_)
  rotate_left 1
  · rw [if_pos c_13] at hf
    refine lv_bipush (v := (-2)) hx hb dX10_shut_16 (by decide) ?_
    rw [← hQQ]
    cases hf
    exact rw_i hx hb hr hlocks hP hS dX10_shut_18
  rw [if_neg c_13] at hf
  refine lv_iconst (v := (-1)) hx hb dX10_shut_19 (by decide) ?_
  refine lv_istore_n (lv' := [(3, .int (-1)), (0, .ref (a 0)), (1, .int v1), (2, .int v2)]) hx hb dX10_shut_20 rfl hl (by decide) rfl (fun ls hl => ?_)
  refine lv_aload_n hx hb dX10_shut_21 rfl (lv_at hl 1 rfl) ?_
  refine lv_iload_n hx hb dX10_shut_22 rfl (lv_at hl 2 rfl) ?_
  refine lv_iload_n hx hb dX10_shut_23 rfl (lv_at hl 3 rfl) ?_
  obtain ⟨r_24, e_24, hf⟩ := ob_bind hf
  have hPX_24 : va_P D vwCl (cs10 ct a r_2.2) H_2 := hP
  refine wr_call1 (va_runV (As := [.int v1, .int v2]) (rest := []) ⟨hx, hb, hml, hown, htl⟩ (c_X10_seaOf l D ct G a fu r_2.2 v1 v2 e_24 (hDx r_2.2)) (cw_X10_X10_seaOf htl ⟨Nat.le_of_ble_eq_true rfl, Nat.le_of_ble_eq_true rfl⟩) ⟨Bx_blind, va_recv hK hPX_24 (ci := 10) (q0 := 0) rfl rfl, Bx_pre hPX_24 hK hN (hX.stay hS hGE)⟩ rfl rfl hl.1 rfl (lv_room (Nat.le_of_ble_eq_true rfl)) dX10_shut_24 ⟨Nat.zero_le _, Nat.zero_le _⟩) hS (wA_cg rfl) (fun H_24 locs_24 hB_24 _ hk_24 hS => ?_)
  have hP : va_P D vwCl (cs10 ct a r_24.2) H_24 := hB_24
  refine lv_istore (lv' := [(4, .int r_24.1), (3, .int (-1)), (0, .ref (a 0)), (1, .int v1), (2, .int v2)]) hx hb dX10_shut_27 hl (by decide) rfl (fun ls hl => ?_)
  refine lv_aload_n hx hb dX10_shut_29 rfl (lv_at hl 2 rfl) ?_
  refine va_get (D := D) (ci := 10) (v := .int (r_24.2.1 20 0)) (C := RX10) (T := TX10) (N := 42) hx hb htl inlX10 hown hK hP 0 rfl rfl 20 (by decide) (htl _ wq_23_1) (fun _ h9 => h9) rfl dX10_shut_30 ?_
  refine lv_istore (lv' := [(5, .int (r_24.2.1 20 0)), (4, .int r_24.1), (3, .int (-1)), (0, .ref (a 0)), (1, .int v1), (2, .int v2)]) hx hb dX10_shut_33 hl (by decide) rfl (fun ls hl => ?_)
  refine lv_iconst (v := 0) hx hb dX10_shut_35 (by decide) ?_
  refine lv_istore (lv' := [(6, .int 0), (5, .int (r_24.2.1 20 0)), (4, .int r_24.1), (3, .int (-1)), (0, .ref (a 0)), (1, .int v1), (2, .int v2)]) hx hb dX10_shut_36 hl (by decide) rfl (fun ls hl => ?_)
  exact hL38 fu r_24.2 v1 v2 (-1) r_24.1 (r_24.2.1 20 0) 0 _ _ _ hP hS (lv_sub hl [4, 5, 6, 3, 2, 1, 0] rfl) hf 
theorem c_X10_shut (l : Launch) (D : va_G) (ct : Nat → ClassId) (G : GT) (a : Nat → Nat) (fu : Nat) (o : Ob) (v1 : Int32) (v2 : Int32) {r : Int32 × Ob} (hf : p_X10_shut fu o v1 v2 = some r)  (hD0 : va_D (GE G) (cs10 ct a o)) : Met l yX10_shut (.code yX10_shut cX10_shut 8 (some .int) :: wsL_law) rm_X10_shut (va_Pc [.ref (a 0), .int v1, .int v2] (Bx D ct G (cs10 ct a o))) (Qwr (some (.int r.1)) (fun H => va_P D vwCl (cs10 ct a r.2) H) (wA (cs10 ct a o))) 0 0 (wA (cs10 ct a o)) := by
  refine Met.ofW (cc := cX10_shut) (maxL := 8) (ret := (some .int)) (by decide) rfl ?_
  intro p e s m args below meth c s₁ B hml hv
  obtain ⟨rfl, hP, hK, hN, hX⟩ := hv
  have hts := atoms_spec (ws := .code yX10_shut cX10_shut 8 (some .int) :: wsL_law) B.pre
  rw [lg_entry_eq]
  exact b_X10_shut a fu o v1 v2 B.exec B.bytes B.returns hml (findClass_of_methodNamed B.named) (fun w h => hts w (List.mem_cons_of_mem _ h)) B.notSynchronized hK hN hX hP hf hD0  (lv_entry [.ref (a 0), .int v1, .int v2] (n := 8) (Nat.le_of_ble_eq_true rfl))
def p_X10_pour_L38 (fu : Nat)  : Nat → Ob → Int32 → Int32 → Int32 → Int32 → Int32 → Option (Int32 × Ob)
  | 0, _, _, _, _, _, _ => none
  | n + 1, oz, v1, v2, v3, v4, v5 =>
    if (60 : Int32) < v5 then some (((-1) : Int32), oz) else if inb v3 61 = true then (p_X10_layLevels fu (oA oz 15 (upd (oz.1 15) v3.toNatClampNeg (v4 + v5)))).bind fun r_57 => (p_X10_seaOf fu r_57 v1 v2).bind fun r_63 => if (1000000000 : Int32) ≤ r_63.1 then p_X10_pour_L38 fu  n r_63.2 v1 v2 v3 v4 (v5 + 1) else some (v5, r_63.2) else none
def p_X10_pour (fu : Nat) (o : Ob) (v1 : Int32) (v2 : Int32) (v3 : Int32) : Option (Int32 × Ob) :=
  (p_X10_asksReach fu o v1).bind fun r_2 => if r_2.1 = 0 then some (((-2) : Int32), r_2.2) else (p_X10_isStep fu v2.toInt64).bind fun r_10 => if r_10 = 0 then some (((-2) : Int32), r_2.2) else (p_X10_isStep fu v3.toInt64).bind fun r_18 => if r_18 = 0 then some (((-2) : Int32), r_2.2) else if inb v3 61 = true then p_X10_pour_L38 fu fu r_2.2 v1 v2 v3 ((r_2.2.1 15) v3.toNatClampNeg) 0 else none
abbrev rm_X10_pour : Room := { frames := 4, cells := 0, slots := 0, locals := 95 }
set_option maxHeartbeats 4000000 in
set_option maxRecDepth 100000 in
theorem b_X10_pour {p : Program} {l : Launch} {e : Env} {s : State} {m : MethodId} {args : Array Value} {below : List Frame} {meth : Method} {c : Code} {ls : Array Slot} {D : va_G} {ct : Nat → ClassId} {G : GT} (a : Nat → Nat) (fu : Nat) (o : Ob) (v1 : Int32) (v2 : Int32) (v3 : Int32) {r : Int32 × Ob} (hx : p.tables.exec = Jvm.exec) (hb : c.code = cX10_pour) (hr : meth.sig.returnType = (some .int)) (hml : c.maxLocals = 6) (hown : s.vm.findClass RX10 = some m.cls) (htl : ∀ w ∈ wsL_law, w.before args s = true) (hlocks : meth.locks = false) (hK : va_K D vwCl (tyl ct) s) (hN : ∀ w ∈ NW, va_Nw w s) (hX : SX G s s.heap) (hP0 : va_P D vwCl (cs10 ct a o) s.heap) (hf : p_X10_pour fu o v1 v2 v3 = some r) (hD0 : va_D (GE G) (cs10 ct a o))  (hl : lv_has ls 6 [(0, .ref (a 0)), (1, .int v1), (2, .int v2), (3, .int v3)]) : W p l e rm_X10_pour s m args below meth c s.heap [] 0 0 (MQ below (Qwr (some (.int r.1)) (fun H => va_P D vwCl (cs10 ct a r.2) H) (wA (cs10 ct a o))) args s 0 0 (wA (cs10 ct a o))) (F0 m 0 ls []) := by
  generalize hQQ : MQ below (Qwr (some (.int r.1)) (fun H => va_P D vwCl (cs10 ct a r.2) H) (wA (cs10 ct a o))) args s 0 0 (wA (cs10 ct a o)) = QQ
  have hDx : ∀ (oy : Ob), va_D (GE G) (cs10 ct a oy) := fun oy => D_cr hD0 rfl
  have hDW : ∀ (oy : Ob), va_D (wA (cs10 ct a o)) (cs10 ct a oy) := fun oy => D_cr (D_self hD0) rfl
  have hGE : ∀ q, wA (cs10 ct a o) q → GE G q := wA_GE hD0
  have hP := hP0
  have hS : va_S (wA (cs10 ct a o)) s.heap s.heap [] := va_S.rf
  have hL38 : ∀ (n : Nat) (oz : Ob) (v1 : Int32) (v2 : Int32) (v3 : Int32) (v4 : Int32) (v5 : Int32), ∀ (H : Heap) (locs : List Loc) (ls : Array Slot), va_P D vwCl (cs10 ct a oz) H → va_S (wA (cs10 ct a o)) s.heap H locs → lv_has ls 6 [(0, .ref (a 0)), (1, .int v1), (2, .int v2), (3, .int v3), (4, .int v4), (5, .int v5)] → p_X10_pour_L38 fu  n oz v1 v2 v3 v4 v5 = some r → W p l e rm_X10_pour s m args below meth c H locs 0 0 QQ (F0 m 38 ls []) := by
    intro  n
    induction n with
    | zero =>
      intro oz v1 v2 v3 v4 v5 H locs ls hP hS hl hf 
      rw [p_X10_pour_L38] at hf
      cases hf
    | succ n ih =>
      intro oz v1 v2 v3 v4 v5 H locs ls hP hS hl hf 
      rw [p_X10_pour_L38] at hf
      refine lv_iload hx hb dX10_pour_38 (lv_at hl 5 rfl) ?_
      refine lv_bipush (v := 60) hx hb dX10_pour_40 (by decide) ?_
      refine lv_icmp_gt (tgt := 81) hx hb dX10_pour_42 (by decide) (fun c_42 => ?_) (fun c_42 => ?_)
      · rw [if_pos c_42] at hf
        refine lv_iconst (v := (-1)) hx hb dX10_pour_81 (by decide) ?_
        rw [← hQQ]
        cases hf
        exact rw_i hx hb hr hlocks hP hS dX10_pour_82
      rw [if_neg c_42] at hf
      refine lv_aload_n hx hb dX10_pour_45 rfl (lv_at hl 0 rfl) ?_
      refine va_get (D := D) (ci := 10) (v := .ref (a 7)) (C := RX10) (T := TX10) (N := 42) hx hb htl inlX10 hown hK hP 0 rfl rfl 15 (by decide) (htl _ wq_7_9) (fun _ h9 => h9) rfl dX10_pour_46 ?_
      refine lv_iload_n hx hb dX10_pour_49 rfl (lv_at hl 3 rfl) ?_
      refine lv_iload hx hb dX10_pour_50 (lv_at hl 4 rfl) ?_
      refine lv_iload hx hb dX10_pour_52 (lv_at hl 5 rfl) ?_
      refine lv_iadd hx hb dX10_pour_54 ?_
      obtain ⟨hi_55, hf⟩ := ob_in hf
      refine va_iast (D := D) (tys := tyl ct) hx hb hK hP (hDW oz) hS 7 0 rfl rfl hi_55 dX10_pour_55 (fun H_55 locs_55 hP _ hS => ?_)
      have hP : va_P D vwCl (cs10 ct a (oA oz 15 (upd (oz.1 15) v3.toNatClampNeg (v4 + v5)))) H_55 := sa10_15 hP
      refine lv_aload_n hx hb dX10_pour_56 rfl (lv_at hl 0 rfl) ?_
      obtain ⟨r_57, e_57, hf⟩ := ob_bind hf
      have hPX_57 : va_P D vwCl (cs10 ct a (oA oz 15 (upd (oz.1 15) v3.toNatClampNeg (v4 + v5)))) H_55 := hP
      refine wr_call0 (va_runV (As := []) (rest := []) ⟨hx, hb, hml, hown, htl⟩ (c_X10_layLevels l D ct G a fu (oA oz 15 (upd (oz.1 15) v3.toNatClampNeg (v4 + v5))) e_57 (hDx (oA oz 15 (upd (oz.1 15) v3.toNatClampNeg (v4 + v5))))) (cw_X10_X10_layLevels htl ⟨Nat.le_of_ble_eq_true rfl, Nat.le_of_ble_eq_true rfl⟩) ⟨Bx_blind, va_recv hK hPX_57 (ci := 10) (q0 := 0) rfl rfl, Bx_pre hPX_57 hK hN (hX.stay hS hGE)⟩ rfl rfl hl.1 rfl (lv_room (Nat.le_of_ble_eq_true rfl)) dX10_pour_57 ⟨Nat.zero_le _, Nat.zero_le _⟩) hS (wA_cg rfl) (fun H_57 locs_57 hB_57 _ hk_57 hS => ?_)
      have hP : va_P D vwCl (cs10 ct a r_57) H_57 := hB_57
      refine lv_aload_n hx hb dX10_pour_60 rfl (lv_at hl 0 rfl) ?_
      refine lv_iload_n hx hb dX10_pour_61 rfl (lv_at hl 1 rfl) ?_
      refine lv_iload_n hx hb dX10_pour_62 rfl (lv_at hl 2 rfl) ?_
      obtain ⟨r_63, e_63, hf⟩ := ob_bind hf
      have hPX_63 : va_P D vwCl (cs10 ct a r_57) H_57 := hP
      refine wr_call1 (va_runV (As := [.int v1, .int v2]) (rest := []) ⟨hx, hb, hml, hown, htl⟩ (c_X10_seaOf l D ct G a fu r_57 v1 v2 e_63 (hDx r_57)) (cw_X10_X10_seaOf htl ⟨Nat.le_of_ble_eq_true rfl, Nat.le_of_ble_eq_true rfl⟩) ⟨Bx_blind, va_recv hK hPX_63 (ci := 10) (q0 := 0) rfl rfl, Bx_pre hPX_63 hK hN (hX.stay hS hGE)⟩ rfl rfl hl.1 rfl (lv_room (Nat.le_of_ble_eq_true rfl)) dX10_pour_63 ⟨Nat.zero_le _, Nat.zero_le _⟩) hS (wA_cg rfl) (fun H_63 locs_63 hB_63 _ hk_63 hS => ?_)
      have hP : va_P D vwCl (cs10 ct a r_63.2) H_63 := hB_63
      refine lv_ldcw (v := 1000000000) hx hb hown (htl _ wq_41_22) dX10_pour_66 ?_
      refine lv_icmp_ge (tgt := 75) hx hb dX10_pour_69 (by decide) (fun c_69 => ?_) (fun c_69 => ?_)
      · rw [if_pos c_69] at hf
        refine lv_iinc (v := (v5 + 1)) (lv' := [(5, .int (v5 + 1)), (0, .ref (a 0)), (1, .int v1), (2, .int v2), (3, .int v3), (4, .int v4)]) hx hb dX10_pour_75 hl (k := 5) rfl rfl (by decide) rfl (fun ls hl => ?_)
        refine lv_goto (tgt := 38) hx hb dX10_pour_78 (by decide) ?_
        exact ih r_63.2 v1 v2 v3 v4 (v5 + 1) _ _ _ hP hS (lv_sub hl [1, 2, 3, 4, 5, 0] rfl) hf 
      rw [if_neg c_69] at hf
      refine lv_iload hx hb dX10_pour_72 (lv_at hl 5 rfl) ?_
      rw [← hQQ]
      cases hf
      exact rw_i hx hb hr hlocks hP hS dX10_pour_74
  rw [p_X10_pour] at hf
  refine lv_aload_n hx hb dX10_pour_0 rfl (lv_at hl 0 rfl) ?_
  refine lv_iload_n hx hb dX10_pour_1 rfl (lv_at hl 1 rfl) ?_
  obtain ⟨r_2, e_2, hf⟩ := ob_bind hf
  have hPX_2 : va_P D vwCl (cs10 ct a o) s.heap := hP
  refine wr_call1 (va_runV (As := [.int v1]) (rest := []) ⟨hx, hb, hml, hown, htl⟩ (c_X10_asksReach l D ct G a fu o v1 e_2 (hDx o)) (cw_X10_X10_asksReach htl ⟨Nat.le_of_ble_eq_true rfl, Nat.le_of_ble_eq_true rfl⟩) ⟨Bx_blind, va_recv hK hPX_2 (ci := 10) (q0 := 0) rfl rfl, Bx_pre hPX_2 hK hN (hX.stay hS hGE)⟩ rfl rfl hl.1 rfl (lv_room (Nat.le_of_ble_eq_true rfl)) dX10_pour_2 ⟨Nat.zero_le _, Nat.zero_le _⟩) hS (wA_cg rfl) (fun H_2 locs_2 hB_2 _ hk_2 hS => ?_)
  have hP : va_P D vwCl (cs10 ct a r_2.2) H_2 := hB_2
  refine lv_if_eq (tgt := 24) hx hb dX10_pour_5 (by decide) (fun c_5 => ?_) (fun c_5 => ?_)
  · rw [if_pos c_5] at hf
    refine lv_bipush (v := (-2)) hx hb dX10_pour_24 (by decide) ?_
    rw [← hQQ]
    cases hf
    exact rw_i hx hb hr hlocks hP hS dX10_pour_26
  rw [if_neg c_5] at hf
  refine lv_iload_n hx hb dX10_pour_8 rfl (lv_at hl 2 rfl) ?_
  refine lv_i2l hx hb dX10_pour_9 rfl ?_
  obtain ⟨r_10, e_10, hf⟩ := ob_bind hf
  have hPX_10 : va_P D vwCl ([]) H_2 := P_nil
  refine ro_call1 (va_runS (As := [.long v2.toInt64]) (rest := []) ⟨hx, hb, hml, hown, htl⟩ (c_X10_isStep l D ct G fu v2.toInt64 e_10) (cw_X10_X10_isStep htl ⟨Nat.le_of_ble_eq_true rfl, Nat.le_of_ble_eq_true rfl⟩) ⟨Bx_blind, Bx_pre hPX_10 hK hN (hX.stay hS hGE)⟩ rfl rfl hl.1 rfl (lv_room (Nat.le_of_ble_eq_true rfl)) dX10_pour_10 ⟨Nat.zero_le _, Nat.zero_le _⟩) ?_
  refine lv_if_eq (tgt := 24) hx hb dX10_pour_13 (by decide) (fun c_13 => ?_) (fun c_13 => ?_)
  · rw [if_pos c_13] at hf
    refine lv_bipush (v := (-2)) hx hb dX10_pour_24 (by decide) ?_
    rw [← hQQ]
    cases hf
    exact rw_i hx hb hr hlocks hP hS dX10_pour_26
  rw [if_neg c_13] at hf
  refine lv_iload_n hx hb dX10_pour_16 rfl (lv_at hl 3 rfl) ?_
  refine lv_i2l hx hb dX10_pour_17 rfl ?_
  obtain ⟨r_18, e_18, hf⟩ := ob_bind hf
  have hPX_18 : va_P D vwCl ([]) H_2 := P_nil
  refine ro_call1 (va_runS (As := [.long v3.toInt64]) (rest := []) ⟨hx, hb, hml, hown, htl⟩ (c_X10_isStep l D ct G fu v3.toInt64 e_18) (cw_X10_X10_isStep htl ⟨Nat.le_of_ble_eq_true rfl, Nat.le_of_ble_eq_true rfl⟩) ⟨Bx_blind, Bx_pre hPX_18 hK hN (hX.stay hS hGE)⟩ rfl rfl hl.1 rfl (lv_room (Nat.le_of_ble_eq_true rfl)) dX10_pour_18 ⟨Nat.zero_le _, Nat.zero_le _⟩) ?_
  refine lv_if_ne (tgt := 27) hx hb dX10_pour_21 (by decide) (fun c_21 => ?_) (fun c_21 => ?_)
  rotate_left 1
  · rw [if_pos c_21] at hf
    refine lv_bipush (v := (-2)) hx hb dX10_pour_24 (by decide) ?_
    rw [← hQQ]
    cases hf
    exact rw_i hx hb hr hlocks hP hS dX10_pour_26
  rw [if_neg c_21] at hf
  refine lv_aload_n hx hb dX10_pour_27 rfl (lv_at hl 0 rfl) ?_
  refine va_get (D := D) (ci := 10) (v := .ref (a 7)) (C := RX10) (T := TX10) (N := 42) hx hb htl inlX10 hown hK hP 0 rfl rfl 15 (by decide) (htl _ wq_7_9) (fun _ h9 => h9) rfl dX10_pour_28 ?_
  refine lv_iload_n hx hb dX10_pour_31 rfl (lv_at hl 3 rfl) ?_
  obtain ⟨hi_32, hf⟩ := ob_in hf
  refine va_iald (D := D) (tys := tyl ct) hx hb hK hP 7 0 rfl rfl hi_32 dX10_pour_32 ?_
  refine lv_istore (lv' := [(4, .int ((r_2.2.1 15) v3.toNatClampNeg)), (0, .ref (a 0)), (1, .int v1), (2, .int v2), (3, .int v3)]) hx hb dX10_pour_33 hl (by decide) rfl (fun ls hl => ?_)
  refine lv_iconst (v := 0) hx hb dX10_pour_35 (by decide) ?_
  refine lv_istore (lv' := [(5, .int 0), (4, .int ((r_2.2.1 15) v3.toNatClampNeg)), (0, .ref (a 0)), (1, .int v1), (2, .int v2), (3, .int v3)]) hx hb dX10_pour_36 hl (by decide) rfl (fun ls hl => ?_)
  exact hL38 fu r_2.2 v1 v2 v3 ((r_2.2.1 15) v3.toNatClampNeg) 0 _ _ _ hP hS (lv_sub hl [2, 3, 4, 5, 1, 0] rfl) hf 
theorem c_X10_pour (l : Launch) (D : va_G) (ct : Nat → ClassId) (G : GT) (a : Nat → Nat) (fu : Nat) (o : Ob) (v1 : Int32) (v2 : Int32) (v3 : Int32) {r : Int32 × Ob} (hf : p_X10_pour fu o v1 v2 v3 = some r)  (hD0 : va_D (GE G) (cs10 ct a o)) : Met l yX10_pour (.code yX10_pour cX10_pour 6 (some .int) :: wsL_law) rm_X10_pour (va_Pc [.ref (a 0), .int v1, .int v2, .int v3] (Bx D ct G (cs10 ct a o))) (Qwr (some (.int r.1)) (fun H => va_P D vwCl (cs10 ct a r.2) H) (wA (cs10 ct a o))) 0 0 (wA (cs10 ct a o)) := by
  refine Met.ofW (cc := cX10_pour) (maxL := 6) (ret := (some .int)) (by decide) rfl ?_
  intro p e s m args below meth c s₁ B hml hv
  obtain ⟨rfl, hP, hK, hN, hX⟩ := hv
  have hts := atoms_spec (ws := .code yX10_pour cX10_pour 6 (some .int) :: wsL_law) B.pre
  rw [lg_entry_eq]
  exact b_X10_pour a fu o v1 v2 v3 B.exec B.bytes B.returns hml (findClass_of_methodNamed B.named) (fun w h => hts w (List.mem_cons_of_mem _ h)) B.notSynchronized hK hN hX hP hf hD0  (lv_entry [.ref (a 0), .int v1, .int v2, .int v3] (n := 6) (Nat.le_of_ble_eq_true rfl))
def p_X10_numberAt (fu : Nat) (o : Ob) (v1 : Int32) (v2 : Int32) : Option (Int64) :=
  if inb ((60 * v1) + v2) 240 = true then some ((o.2 40) ((60 * v1) + v2).toNatClampNeg) else none
abbrev rm_X10_numberAt : Room := { frames := 0, cells := 0, slots := 0, locals := 0 }
set_option maxHeartbeats 4000000 in
set_option maxRecDepth 100000 in
theorem b_X10_numberAt {p : Program} {l : Launch} {e : Env} {s : State} {m : MethodId} {args : Array Value} {below : List Frame} {meth : Method} {c : Code} {ls : Array Slot} {D : va_G} {ct : Nat → ClassId} {G : GT} (a : Nat → Nat) (fu : Nat) (o : Ob) (v1 : Int32) (v2 : Int32) {r : Int64} (hx : p.tables.exec = Jvm.exec) (hb : c.code = cX10_numberAt) (hr : meth.sig.returnType = (some .long)) (hml : c.maxLocals = 3) (hown : s.vm.findClass RX10 = some m.cls) (htl : ∀ w ∈ wsL_law, w.before args s = true) (hlocks : meth.locks = false) (hK : va_K D vwCl (tyl ct) s) (hN : ∀ w ∈ NW, va_Nw w s) (hX : SX G s s.heap) (hP0 : va_P D vwCl (cs10 ct a o) s.heap) (hf : p_X10_numberAt fu o v1 v2 = some r)  (hl : lv_has ls 3 [(0, .ref (a 0)), (1, .int v1), (2, .int v2)]) : W p l e rm_X10_numberAt s m args below meth c s.heap [] 0 0 (MQ below (Qro (some (.long r))) args s 0 0 (fun _ => False)) (F0 m 0 ls []) := by
  generalize hQQ : MQ below (Qro (some (.long r))) args s 0 0 (fun _ => False) = QQ
  have hP := hP0
  rw [p_X10_numberAt] at hf
  refine lv_aload_n hx hb dX10_numberAt_0 rfl (lv_at hl 0 rfl) ?_
  refine va_get (D := D) (ci := 10) (v := .ref (a 22)) (C := RX10) (T := TX10) (N := 42) hx hb htl inlX10 hown hK hP 0 rfl rfl 40 (by decide) (htl _ wq_8_1) (fun _ h9 => h9) rfl dX10_numberAt_1 ?_
  refine lv_bipush (v := 60) hx hb dX10_numberAt_4 (by decide) ?_
  refine lv_iload_n hx hb dX10_numberAt_6 rfl (lv_at hl 1 rfl) ?_
  refine lv_imul hx hb dX10_numberAt_7 ?_
  refine lv_iload_n hx hb dX10_numberAt_8 rfl (lv_at hl 2 rfl) ?_
  refine lv_iadd hx hb dX10_numberAt_9 ?_
  obtain ⟨hi_10, hf⟩ := ob_in hf
  refine va_lald (D := D) (tys := tyl ct) hx hb hK hP 22 1 rfl rfl hi_10 dX10_numberAt_10 ?_
  rw [← hQQ]
  exact rf_l hx hb hr hlocks hf dX10_numberAt_11
theorem c_X10_numberAt (l : Launch) (D : va_G) (ct : Nat → ClassId) (G : GT) (a : Nat → Nat) (fu : Nat) (o : Ob) (v1 : Int32) (v2 : Int32) {r : Int64} (hf : p_X10_numberAt fu o v1 v2 = some r)  : Met l yX10_numberAt (.code yX10_numberAt cX10_numberAt 3 (some .long) :: wsL_law) rm_X10_numberAt (va_Pc [.ref (a 0), .int v1, .int v2] (Bx D ct G (cs10 ct a o))) (Qro (some (.long r))) 0 0 (fun _ => False) := by
  refine Met.ofW (cc := cX10_numberAt) (maxL := 3) (ret := (some .long)) (by decide) rfl ?_
  intro p e s m args below meth c s₁ B hml hv
  obtain ⟨rfl, hP, hK, hN, hX⟩ := hv
  have hts := atoms_spec (ws := .code yX10_numberAt cX10_numberAt 3 (some .long) :: wsL_law) B.pre
  rw [lg_entry_eq]
  exact b_X10_numberAt a fu o v1 v2 B.exec B.bytes B.returns hml (findClass_of_methodNamed B.named) (fun w h => hts w (List.mem_cons_of_mem _ h)) B.notSynchronized hK hN hX hP hf   (lv_entry [.ref (a 0), .int v1, .int v2] (n := 3) (Nat.le_of_ble_eq_true rfl))
def p_X10_isSlot (fu : Nat) (v0 : Int32) : Option (Int32) :=
  (p_X10_in fu v0.toInt64 (0 : Int64) (3 : Int64)).bind fun r_6 => if r_6 = 0 ∨ r_6 = 1 then some r_6 else none
abbrev rm_X10_isSlot : Room := { frames := 1, cells := 0, slots := 0, locals := 25 }
set_option maxHeartbeats 4000000 in
set_option maxRecDepth 100000 in
theorem b_X10_isSlot {p : Program} {l : Launch} {e : Env} {s : State} {m : MethodId} {args : Array Value} {below : List Frame} {meth : Method} {c : Code} {ls : Array Slot} {D : va_G} {ct : Nat → ClassId} {G : GT}  (fu : Nat) (v0 : Int32) {r : Int32} (hx : p.tables.exec = Jvm.exec) (hb : c.code = cX10_isSlot) (hr : meth.sig.returnType = (some .boolean)) (hml : c.maxLocals = 1) (hown : s.vm.findClass RX10 = some m.cls) (htl : ∀ w ∈ wsL_law, w.before args s = true) (hlocks : meth.locks = false) (hK : va_K D vwCl (tyl ct) s) (hN : ∀ w ∈ NW, va_Nw w s) (hX : SX G s s.heap) (hP0 : va_P D vwCl ([]) s.heap) (hf : p_X10_isSlot fu v0 = some r)  (hl : lv_has ls 1 [(0, .int v0)]) : W p l e rm_X10_isSlot s m args below meth c s.heap [] 0 0 (MQ below (Qro (some (.int r))) args s 0 0 (fun _ => False)) (F0 m 0 ls []) := by
  generalize hQQ : MQ below (Qro (some (.int r))) args s 0 0 (fun _ => False) = QQ
  have hP := hP0
  rw [p_X10_isSlot] at hf
  refine lv_iload_n hx hb dX10_isSlot_0 rfl (lv_at hl 0 rfl) ?_
  refine lv_i2l hx hb dX10_isSlot_1 rfl ?_
  refine lv_lconst (v := 0) hx hb dX10_isSlot_2 (by decide) ?_
  refine lv_ldc2 (v := 3) hx hb hown (htl _ wq_21_6) dX10_isSlot_3 ?_
  obtain ⟨r_6, e_6, hf⟩ := ob_bind hf
  have hPX_6 : va_P D vwCl ([]) s.heap := P_nil
  refine ro_call1 (va_runS (As := [.long v0.toInt64, .long 0, .long 3]) (rest := []) ⟨hx, hb, hml, hown, htl⟩ (c_X10_in l D ct G fu v0.toInt64 (0 : Int64) (3 : Int64) e_6) (cw_X10_X10_in htl ⟨Nat.le_of_ble_eq_true rfl, Nat.le_of_ble_eq_true rfl⟩) ⟨Bx_blind, Bx_pre hPX_6 hK hN hX⟩ rfl rfl hl.1 rfl (lv_room (Nat.le_of_ble_eq_true rfl)) dX10_isSlot_6 ⟨Nat.zero_le _, Nat.zero_le _⟩) ?_
  obtain ⟨hz_9, hf⟩ := ob_z hf
  rw [← hQQ]
  exact rf_z hx hb hr hlocks hz_9.1 hf dX10_isSlot_9
theorem c_X10_isSlot (l : Launch) (D : va_G) (ct : Nat → ClassId) (G : GT)  (fu : Nat) (v0 : Int32) {r : Int32} (hf : p_X10_isSlot fu v0 = some r)  : Met l yX10_isSlot (.code yX10_isSlot cX10_isSlot 1 (some .boolean) :: wsL_law) rm_X10_isSlot (va_Pc [.int v0] (Bx D ct G ([]))) (Qro (some (.int r))) 0 0 (fun _ => False) := by
  refine Met.ofW (cc := cX10_isSlot) (maxL := 1) (ret := (some .boolean)) (by decide) rfl ?_
  intro p e s m args below meth c s₁ B hml hv
  obtain ⟨rfl, hP, hK, hN, hX⟩ := hv
  have hts := atoms_spec (ws := .code yX10_isSlot cX10_isSlot 1 (some .boolean) :: wsL_law) B.pre
  rw [lg_entry_eq]
  exact b_X10_isSlot  fu v0 B.exec B.bytes B.returns hml (findClass_of_methodNamed B.named) (fun w h => hts w (List.mem_cons_of_mem _ h)) B.notSynchronized hK hN hX hP hf   (lv_entry [.int v0] (n := 1) (Nat.le_of_ble_eq_true rfl))
theorem hd_X10_isSlot : yX10_isSlot.cls ≠ "java/lang/invoke/MethodHandle" ∧ yX10_isSlot.cls ≠ "java/lang/invoke/VarHandle" ∧ (parseMethodDescriptor yX10_isSlot.desc).map (fun d => d.parameters.length) = some 1 := by decide +kernel
theorem cw_X10_X10_isSlot {R : Room} {s : State} {args : Array Value} (ht : ∀ w ∈ wsL_law, w.before args s = true) (hR : rm_X10_isSlot.frames + 1 ≤ R.frames ∧ 8 + (1 + 11) + rm_X10_isSlot.locals ≤ R.locals) : CallB R s args RX10 316 yX10_isSlot cX10_isSlot 1 (some .boolean) ((.code yX10_isSlot cX10_isSlot 1 (some .boolean)) :: wsL_law) rm_X10_isSlot 0 0 1 ∧ (Cond.static yX10_isSlot).before args s = true := va_cwS 1 ht (GS wq_48_21 wq_48_22 wq_1_5 wq_48_23) rfl rfl rfl hd_X10_isSlot hR
theorem hd_X10_numberAt : yX10_numberAt.cls ≠ "java/lang/invoke/MethodHandle" ∧ yX10_numberAt.cls ≠ "java/lang/invoke/VarHandle" ∧ (parseMethodDescriptor yX10_numberAt.desc).map (fun d => d.parameters.length) = some 2 := by decide +kernel
theorem cw_X10_X10_numberAt {R : Room} {s : State} {args : Array Value} (ht : ∀ w ∈ wsL_law, w.before args s = true) (hR : rm_X10_numberAt.frames + 1 ≤ R.frames ∧ 8 + (3 + 11) + rm_X10_numberAt.locals ≤ R.locals) : CallW R s args RX10 RX10 319 yX10_numberAt cX10_numberAt 3 (some .long) ((.code yX10_numberAt cX10_numberAt 3 (some .long)) :: wsL_law) rm_X10_numberAt 0 0 2 := cwV 2 ht (GV wq_49_0 wq_49_1 wq_49_2 wq_1_5 wq_49_3) rfl rfl rfl ⟨rfl, hd_X10_numberAt⟩ hR
def p_X10_askSeen_L50 (fu : Nat)  : Nat → Ob → Int32 → Int32 → Option (Int32 × Ob)
  | 0, _, _, _ => none
  | n + 1, oz, v1, v3 =>
    if inb v1 4 = true then if ((oz.1 38) v1.toNatClampNeg) ≤ v3 then (p_X10_asItIs fu oz).bind fun r_97 => some ((0 : Int32), r_97) else (p_X10_numberAt fu oz v1 v3).bind fun r_63 => (p_X10_isStep fu r_63).bind fun r_66 => if r_66 = 0 then some (((-2) : Int32), oz) else (p_X10_numberAt fu oz v1 (v3 + 1)).bind fun r_78 => (p_X10_isReach fu oz r_78).bind fun r_81 => if r_81 = 0 then some (((-2) : Int32), oz) else p_X10_askSeen_L50 fu  n oz v1 (v3 + 2) else none
def p_X10_askSeen (fu : Nat) (o : Ob) (v1 : Int32) (v2 : Int32) : Option (Int32 × Ob) :=
  (p_X10_isSlot fu v1).bind fun r_1 => if r_1 = 0 then some (((-2) : Int32), o) else (p_X10_isRivers fu o).bind fun r_8 => if r_8 = 0 then some (((-2) : Int32), o) else if v2 = 0 then some (((-2) : Int32), o) else if inb v1 4 = true then if ((o.1 38) v1.toNatClampNeg) = ((-1) : Int32) then some (((-6) : Int32), o) else if inb v1 4 = true then if (2 : Int32) = 0 then none else if (((o.1 38) v1.toNatClampNeg) - ((o.1 38) v1.toNatClampNeg) / 2 * 2) = 0 then p_X10_askSeen_L50 fu fu o v1 0 else some (((-2) : Int32), o) else none else none
abbrev rm_X10_askSeen : Room := { frames := 3, cells := 0, slots := 0, locals := 66 }
set_option maxHeartbeats 4000000 in
set_option maxRecDepth 100000 in
theorem b_X10_askSeen {p : Program} {l : Launch} {e : Env} {s : State} {m : MethodId} {args : Array Value} {below : List Frame} {meth : Method} {c : Code} {ls : Array Slot} {D : va_G} {ct : Nat → ClassId} {G : GT} (a : Nat → Nat) (fu : Nat) (o : Ob) (v1 : Int32) (v2 : Int32) {r : Int32 × Ob} (hx : p.tables.exec = Jvm.exec) (hb : c.code = cX10_askSeen) (hr : meth.sig.returnType = (some .int)) (hml : c.maxLocals = 4) (hown : s.vm.findClass RX10 = some m.cls) (htl : ∀ w ∈ wsL_law, w.before args s = true) (hlocks : meth.locks = false) (hK : va_K D vwCl (tyl ct) s) (hN : ∀ w ∈ NW, va_Nw w s) (hX : SX G s s.heap) (hP0 : va_P D vwCl (cs10 ct a o) s.heap) (hf : p_X10_askSeen fu o v1 v2 = some r) (hD0 : va_D (GE G) (cs10 ct a o))  (hl : lv_has ls 4 [(0, .ref (a 0)), (1, .int v1), (2, .int v2)]) : W p l e rm_X10_askSeen s m args below meth c s.heap [] 0 0 (MQ below (Qwr (some (.int r.1)) (fun H => va_P D vwCl (cs10 ct a r.2) H) (wA (cs10 ct a o))) args s 0 0 (wA (cs10 ct a o))) (F0 m 0 ls []) := by
  generalize hQQ : MQ below (Qwr (some (.int r.1)) (fun H => va_P D vwCl (cs10 ct a r.2) H) (wA (cs10 ct a o))) args s 0 0 (wA (cs10 ct a o)) = QQ
  have hDx : ∀ (oy : Ob), va_D (GE G) (cs10 ct a oy) := fun oy => D_cr hD0 rfl
  have hDW : ∀ (oy : Ob), va_D (wA (cs10 ct a o)) (cs10 ct a oy) := fun oy => D_cr (D_self hD0) rfl
  have hGE : ∀ q, wA (cs10 ct a o) q → GE G q := wA_GE hD0
  have hP := hP0
  have hS : va_S (wA (cs10 ct a o)) s.heap s.heap [] := va_S.rf
  have hL50 : ∀ (n : Nat) (oz : Ob) (v1 : Int32) (v3 : Int32), ∀ (H : Heap) (locs : List Loc) (ls : Array Slot), va_P D vwCl (cs10 ct a oz) H → va_S (wA (cs10 ct a o)) s.heap H locs → lv_has ls 4 [(0, .ref (a 0)), (1, .int v1), (3, .int v3)] → p_X10_askSeen_L50 fu  n oz v1 v3 = some r → W p l e rm_X10_askSeen s m args below meth c H locs 0 0 QQ (F0 m 50 ls []) := by
    intro  n
    induction n with
    | zero =>
      intro oz v1 v3 H locs ls hP hS hl hf 
      rw [p_X10_askSeen_L50] at hf
      cases hf
    | succ n ih =>
      intro oz v1 v3 H locs ls hP hS hl hf 
      rw [p_X10_askSeen_L50] at hf
      refine lv_iload_n hx hb dX10_askSeen_50 rfl (lv_at hl 2 rfl) ?_
      refine lv_aload_n hx hb dX10_askSeen_51 rfl (lv_at hl 0 rfl) ?_
      refine va_get (D := D) (ci := 10) (v := .ref (a 20)) (C := RX10) (T := TX10) (N := 42) hx hb htl inlX10 hown hK hP 0 rfl rfl 38 (by decide) (htl _ wq_7_23) (fun _ h9 => h9) rfl dX10_askSeen_52 ?_
      refine lv_iload_n hx hb dX10_askSeen_55 rfl (lv_at hl 1 rfl) ?_
      obtain ⟨hi_56, hf⟩ := ob_in hf
      refine va_iald (D := D) (tys := tyl ct) hx hb hK hP 20 0 rfl rfl hi_56 dX10_askSeen_56 ?_
      refine lv_icmp_ge (tgt := 96) hx hb dX10_askSeen_57 (by decide) (fun c_57 => ?_) (fun c_57 => ?_)
      · rw [if_pos c_57] at hf
        refine lv_aload_n hx hb dX10_askSeen_96 rfl (lv_at hl 0 rfl) ?_
        obtain ⟨r_97, e_97, hf⟩ := ob_bind hf
        have hPX_97 : va_P D vwCl (cs10 ct a oz) H := hP
        refine wr_call0 (va_runV (As := []) (rest := []) ⟨hx, hb, hml, hown, htl⟩ (c_X10_asItIs l D ct G a fu oz e_97 (hDx oz)) (cw_X10_X10_asItIs htl ⟨Nat.le_of_ble_eq_true rfl, Nat.le_of_ble_eq_true rfl⟩) ⟨Bx_blind, va_recv hK hPX_97 (ci := 10) (q0 := 0) rfl rfl, Bx_pre hPX_97 hK hN (hX.stay hS hGE)⟩ rfl rfl hl.1 rfl (lv_room (Nat.le_of_ble_eq_true rfl)) dX10_askSeen_97 ⟨Nat.zero_le _, Nat.zero_le _⟩) hS (wA_cg rfl) (fun H_97 locs_97 hB_97 _ hk_97 hS => ?_)
        have hP : va_P D vwCl (cs10 ct a r_97) H_97 := hB_97
        refine lv_iconst (v := 0) hx hb dX10_askSeen_100 (by decide) ?_
        rw [← hQQ]
        cases hf
        exact rw_i hx hb hr hlocks hP hS dX10_askSeen_101
      rw [if_neg c_57] at hf
      refine lv_aload_n hx hb dX10_askSeen_60 rfl (lv_at hl 0 rfl) ?_
      refine lv_iload_n hx hb dX10_askSeen_61 rfl (lv_at hl 1 rfl) ?_
      refine lv_iload_n hx hb dX10_askSeen_62 rfl (lv_at hl 2 rfl) ?_
      obtain ⟨r_63, e_63, hf⟩ := ob_bind hf
      have hPX_63 : va_P D vwCl (cs10 ct a oz) H := hP
      refine ro_call1 (va_runV (As := [.int v1, .int v3]) (rest := []) ⟨hx, hb, hml, hown, htl⟩ (c_X10_numberAt l D ct G a fu oz v1 v3 e_63) (cw_X10_X10_numberAt htl ⟨Nat.le_of_ble_eq_true rfl, Nat.le_of_ble_eq_true rfl⟩) ⟨Bx_blind, va_recv hK hPX_63 (ci := 10) (q0 := 0) rfl rfl, Bx_pre hPX_63 hK hN (hX.stay hS hGE)⟩ rfl rfl hl.1 rfl (lv_room (Nat.le_of_ble_eq_true rfl)) dX10_askSeen_63 ⟨Nat.zero_le _, Nat.zero_le _⟩) ?_
      obtain ⟨r_66, e_66, hf⟩ := ob_bind hf
      have hPX_66 : va_P D vwCl ([]) H := P_nil
      refine ro_call1 (va_runS (As := [.long r_63]) (rest := []) ⟨hx, hb, hml, hown, htl⟩ (c_X10_isStep l D ct G fu r_63 e_66) (cw_X10_X10_isStep htl ⟨Nat.le_of_ble_eq_true rfl, Nat.le_of_ble_eq_true rfl⟩) ⟨Bx_blind, Bx_pre hPX_66 hK hN (hX.stay hS hGE)⟩ rfl rfl hl.1 rfl (lv_room (Nat.le_of_ble_eq_true rfl)) dX10_askSeen_66 ⟨Nat.zero_le _, Nat.zero_le _⟩) ?_
      refine lv_if_eq (tgt := 87) hx hb dX10_askSeen_69 (by decide) (fun c_69 => ?_) (fun c_69 => ?_)
      · rw [if_pos c_69] at hf
        refine lv_bipush (v := (-2)) hx hb dX10_askSeen_87 (by decide) ?_
        rw [← hQQ]
        cases hf
        exact rw_i hx hb hr hlocks hP hS dX10_askSeen_89
      rw [if_neg c_69] at hf
      refine lv_aload_n hx hb dX10_askSeen_72 rfl (lv_at hl 0 rfl) ?_
      refine lv_aload_n hx hb dX10_askSeen_73 rfl (lv_at hl 0 rfl) ?_
      refine lv_iload_n hx hb dX10_askSeen_74 rfl (lv_at hl 1 rfl) ?_
      refine lv_iload_n hx hb dX10_askSeen_75 rfl (lv_at hl 2 rfl) ?_
      refine lv_iconst (v := 1) hx hb dX10_askSeen_76 (by decide) ?_
      refine lv_iadd hx hb dX10_askSeen_77 ?_
      obtain ⟨r_78, e_78, hf⟩ := ob_bind hf
      have hPX_78 : va_P D vwCl (cs10 ct a oz) H := hP
      refine ro_call1 (va_runV (As := [.int v1, .int (v3 + 1)]) (rest := [.ref (a 0)]) ⟨hx, hb, hml, hown, htl⟩ (c_X10_numberAt l D ct G a fu oz v1 (v3 + 1) e_78) (cw_X10_X10_numberAt htl ⟨Nat.le_of_ble_eq_true rfl, Nat.le_of_ble_eq_true rfl⟩) ⟨Bx_blind, va_recv hK hPX_78 (ci := 10) (q0 := 0) rfl rfl, Bx_pre hPX_78 hK hN (hX.stay hS hGE)⟩ rfl rfl hl.1 rfl (lv_room (Nat.le_of_ble_eq_true rfl)) dX10_askSeen_78 ⟨Nat.zero_le _, Nat.zero_le _⟩) ?_
      obtain ⟨r_81, e_81, hf⟩ := ob_bind hf
      have hPX_81 : va_P D vwCl (cs10 ct a oz) H := hP
      refine ro_call1 (va_runV (As := [.long r_78]) (rest := []) ⟨hx, hb, hml, hown, htl⟩ (c_X10_isReach l D ct G a fu oz r_78 e_81) (cw_X10_X10_isReach htl ⟨Nat.le_of_ble_eq_true rfl, Nat.le_of_ble_eq_true rfl⟩) ⟨Bx_blind, va_recv hK hPX_81 (ci := 10) (q0 := 0) rfl rfl, Bx_pre hPX_81 hK hN (hX.stay hS hGE)⟩ rfl rfl hl.1 rfl (lv_room (Nat.le_of_ble_eq_true rfl)) dX10_askSeen_81 ⟨Nat.zero_le _, Nat.zero_le _⟩) ?_
      refine lv_if_ne (tgt := 90) hx hb dX10_askSeen_84 (by decide) (fun c_84 => ?_) (fun c_84 => ?_)
      · rw [if_neg c_84] at hf
        refine lv_iinc (v := (v3 + 2)) (lv' := [(3, .int (v3 + 2)), (0, .ref (a 0)), (1, .int v1)]) hx hb dX10_askSeen_90 hl (k := 2) rfl rfl (by decide) rfl (fun ls hl => ?_)
        refine lv_goto (tgt := 50) hx hb dX10_askSeen_93 (by decide) ?_
        exact ih oz v1 (v3 + 2) _ _ _ hP hS (lv_sub hl [1, 2, 0] rfl) hf 
      rw [if_pos c_84] at hf
      refine lv_bipush (v := (-2)) hx hb dX10_askSeen_87 (by decide) ?_
      rw [← hQQ]
      cases hf
      exact rw_i hx hb hr hlocks hP hS dX10_askSeen_89
  rw [p_X10_askSeen] at hf
  refine lv_iload_n hx hb dX10_askSeen_0 rfl (lv_at hl 1 rfl) ?_
  obtain ⟨r_1, e_1, hf⟩ := ob_bind hf
  have hPX_1 : va_P D vwCl ([]) s.heap := P_nil
  refine ro_call1 (va_runS (As := [.int v1]) (rest := []) ⟨hx, hb, hml, hown, htl⟩ (c_X10_isSlot l D ct G fu v1 e_1) (cw_X10_X10_isSlot htl ⟨Nat.le_of_ble_eq_true rfl, Nat.le_of_ble_eq_true rfl⟩) ⟨Bx_blind, Bx_pre hPX_1 hK hN (hX.stay hS hGE)⟩ rfl rfl hl.1 rfl (lv_room (Nat.le_of_ble_eq_true rfl)) dX10_askSeen_1 ⟨Nat.zero_le _, Nat.zero_le _⟩) ?_
  refine lv_if_eq (tgt := 18) hx hb dX10_askSeen_4 (by decide) (fun c_4 => ?_) (fun c_4 => ?_)
  · rw [if_pos c_4] at hf
    refine lv_bipush (v := (-2)) hx hb dX10_askSeen_18 (by decide) ?_
    rw [← hQQ]
    cases hf
    exact rw_i hx hb hr hlocks hP hS dX10_askSeen_20
  rw [if_neg c_4] at hf
  refine lv_aload_n hx hb dX10_askSeen_7 rfl (lv_at hl 0 rfl) ?_
  obtain ⟨r_8, e_8, hf⟩ := ob_bind hf
  have hPX_8 : va_P D vwCl (cs10 ct a o) s.heap := hP
  refine ro_call1 (va_runV (As := []) (rest := []) ⟨hx, hb, hml, hown, htl⟩ (c_X10_isRivers l D ct G a fu o e_8) (cw_X10_X10_isRivers htl ⟨Nat.le_of_ble_eq_true rfl, Nat.le_of_ble_eq_true rfl⟩) ⟨Bx_blind, va_recv hK hPX_8 (ci := 10) (q0 := 0) rfl rfl, Bx_pre hPX_8 hK hN (hX.stay hS hGE)⟩ rfl rfl hl.1 rfl (lv_room (Nat.le_of_ble_eq_true rfl)) dX10_askSeen_8 ⟨Nat.zero_le _, Nat.zero_le _⟩) ?_
  refine lv_if_eq (tgt := 18) hx hb dX10_askSeen_11 (by decide) (fun c_11 => ?_) (fun c_11 => ?_)
  · rw [if_pos c_11] at hf
    refine lv_bipush (v := (-2)) hx hb dX10_askSeen_18 (by decide) ?_
    rw [← hQQ]
    cases hf
    exact rw_i hx hb hr hlocks hP hS dX10_askSeen_20
  rw [if_neg c_11] at hf
  refine lv_iload_n hx hb dX10_askSeen_14 rfl (lv_at hl 2 rfl) ?_
  refine lv_if_ne (tgt := 21) hx hb dX10_askSeen_15 (by decide) (fun c_15 => ?_) (fun c_15 => ?_)
  rotate_left 1
  · rw [if_pos c_15] at hf
    refine lv_bipush (v := (-2)) hx hb dX10_askSeen_18 (by decide) ?_
    rw [← hQQ]
    cases hf
    exact rw_i hx hb hr hlocks hP hS dX10_askSeen_20
  rw [if_neg c_15] at hf
  refine lv_aload_n hx hb dX10_askSeen_21 rfl (lv_at hl 0 rfl) ?_
  refine va_get (D := D) (ci := 10) (v := .ref (a 20)) (C := RX10) (T := TX10) (N := 42) hx hb htl inlX10 hown hK hP 0 rfl rfl 38 (by decide) (htl _ wq_7_23) (fun _ h9 => h9) rfl dX10_askSeen_22 ?_
  refine lv_iload_n hx hb dX10_askSeen_25 rfl (lv_at hl 1 rfl) ?_
  obtain ⟨hi_26, hf⟩ := ob_in hf
  refine va_iald (D := D) (tys := tyl ct) hx hb hK hP 20 0 rfl rfl hi_26 dX10_askSeen_26 ?_
  refine lv_iconst (v := (-1)) hx hb dX10_askSeen_27 (by decide) ?_
  refine lv_icmp_ne (tgt := 34) hx hb dX10_askSeen_28 (by decide) (fun c_28 => ?_) (fun c_28 => ?_)
  rotate_left 1
  · rw [if_pos c_28] at hf
    refine lv_bipush (v := (-6)) hx hb dX10_askSeen_31 (by decide) ?_
    rw [← hQQ]
    cases hf
    exact rw_i hx hb hr hlocks hP hS dX10_askSeen_33
  rw [if_neg c_28] at hf
  refine lv_aload_n hx hb dX10_askSeen_34 rfl (lv_at hl 0 rfl) ?_
  refine va_get (D := D) (ci := 10) (v := .ref (a 20)) (C := RX10) (T := TX10) (N := 42) hx hb htl inlX10 hown hK hP 0 rfl rfl 38 (by decide) (htl _ wq_7_23) (fun _ h9 => h9) rfl dX10_askSeen_35 ?_
  refine lv_iload_n hx hb dX10_askSeen_38 rfl (lv_at hl 1 rfl) ?_
  obtain ⟨hi_39, hf⟩ := ob_in hf
  refine va_iald (D := D) (tys := tyl ct) hx hb hK hP 20 0 rfl rfl hi_39 dX10_askSeen_39 ?_
  refine lv_iconst (v := 2) hx hb dX10_askSeen_40 (by decide) ?_
  obtain ⟨hne_41, hf⟩ := ob_ne hf
  refine lv_irem hx hb dX10_askSeen_41 hne_41 ?_
  refine lv_if_eq (tgt := 48) hx hb dX10_askSeen_42 (by decide) (fun c_42 => ?_) (fun c_42 => ?_)
  · rw [if_pos c_42] at hf
    refine lv_iconst (v := 0) hx hb dX10_askSeen_48 (by decide) ?_
    refine lv_istore_n (lv' := [(3, .int 0), (0, .ref (a 0)), (1, .int v1), (2, .int v2)]) hx hb dX10_askSeen_49 rfl hl (by decide) rfl (fun ls hl => ?_)
    exact hL50 fu o v1 0 _ _ _ hP hS (lv_sub hl [1, 2, 0] rfl) hf 
  rw [if_neg c_42] at hf
  refine lv_bipush (v := (-2)) hx hb dX10_askSeen_45 (by decide) ?_
  rw [← hQQ]
  cases hf
  exact rw_i hx hb hr hlocks hP hS dX10_askSeen_47
theorem c_X10_askSeen (l : Launch) (D : va_G) (ct : Nat → ClassId) (G : GT) (a : Nat → Nat) (fu : Nat) (o : Ob) (v1 : Int32) (v2 : Int32) {r : Int32 × Ob} (hf : p_X10_askSeen fu o v1 v2 = some r)  (hD0 : va_D (GE G) (cs10 ct a o)) : Met l yX10_askSeen (.code yX10_askSeen cX10_askSeen 4 (some .int) :: wsL_law) rm_X10_askSeen (va_Pc [.ref (a 0), .int v1, .int v2] (Bx D ct G (cs10 ct a o))) (Qwr (some (.int r.1)) (fun H => va_P D vwCl (cs10 ct a r.2) H) (wA (cs10 ct a o))) 0 0 (wA (cs10 ct a o)) := by
  refine Met.ofW (cc := cX10_askSeen) (maxL := 4) (ret := (some .int)) (by decide) rfl ?_
  intro p e s m args below meth c s₁ B hml hv
  obtain ⟨rfl, hP, hK, hN, hX⟩ := hv
  have hts := atoms_spec (ws := .code yX10_askSeen cX10_askSeen 4 (some .int) :: wsL_law) B.pre
  rw [lg_entry_eq]
  exact b_X10_askSeen a fu o v1 v2 B.exec B.bytes B.returns hml (findClass_of_methodNamed B.named) (fun w h => hts w (List.mem_cons_of_mem _ h)) B.notSynchronized hK hN hX hP hf hD0  (lv_entry [.ref (a 0), .int v1, .int v2] (n := 4) (Nat.le_of_ble_eq_true rfl))
def p_X10_isSeen_L2 (fu : Nat) (o : Ob)  : Nat → Int32 → Int32 → Option (Int32)
  | 0, _, _ => none
  | n + 1, v1, v2 =>
    if inb v1 4 = true then if ((o.1 38) v1.toNatClampNeg) ≤ v2 then some (1 : Int32) else (p_X10_numberAt fu o v1 v2).bind fun r_19 => if inb r_19.toInt32 61 = true then (p_X10_numberAt fu o v1 (v2 + 1)).bind fun r_30 => if (lg_cmp (((o.1 22) r_19.toInt32.toNatClampNeg).toInt64) r_30) = 0 then p_X10_isSeen_L2 fu o  n v1 (v2 + 2) else some (0 : Int32) else none else none
def p_X10_isSeen (fu : Nat) (o : Ob) (v1 : Int32) : Option (Int32) :=
  p_X10_isSeen_L2 fu o fu v1 0
abbrev rm_X10_isSeen : Room := { frames := 1, cells := 0, slots := 0, locals := 22 }
set_option maxHeartbeats 4000000 in
set_option maxRecDepth 100000 in
theorem b_X10_isSeen {p : Program} {l : Launch} {e : Env} {s : State} {m : MethodId} {args : Array Value} {below : List Frame} {meth : Method} {c : Code} {ls : Array Slot} {D : va_G} {ct : Nat → ClassId} {G : GT} (a : Nat → Nat) (fu : Nat) (o : Ob) (v1 : Int32) {r : Int32} (hx : p.tables.exec = Jvm.exec) (hb : c.code = cX10_isSeen) (hr : meth.sig.returnType = (some .boolean)) (hml : c.maxLocals = 3) (hown : s.vm.findClass RX10 = some m.cls) (htl : ∀ w ∈ wsL_law, w.before args s = true) (hlocks : meth.locks = false) (hK : va_K D vwCl (tyl ct) s) (hN : ∀ w ∈ NW, va_Nw w s) (hX : SX G s s.heap) (hP0 : va_P D vwCl (cs10 ct a o) s.heap) (hf : p_X10_isSeen fu o v1 = some r)  (hl : lv_has ls 3 [(0, .ref (a 0)), (1, .int v1)]) : W p l e rm_X10_isSeen s m args below meth c s.heap [] 0 0 (MQ below (Qro (some (.int r))) args s 0 0 (fun _ => False)) (F0 m 0 ls []) := by
  generalize hQQ : MQ below (Qro (some (.int r))) args s 0 0 (fun _ => False) = QQ
  have hP := hP0
  have hL2 : ∀ (n : Nat) (v1 : Int32) (v2 : Int32), ∀ (ls : Array Slot), lv_has ls 3 [(0, .ref (a 0)), (1, .int v1), (2, .int v2)] → p_X10_isSeen_L2 fu o  n v1 v2 = some r → W p l e rm_X10_isSeen s m args below meth c s.heap [] 0 0 QQ (F0 m 2 ls []) := by
    intro  n
    induction n with
    | zero =>
      intro v1 v2 ls hl hf 
      rw [p_X10_isSeen_L2] at hf
      cases hf
    | succ n ih =>
      intro v1 v2 ls hl hf 
      rw [p_X10_isSeen_L2] at hf
      refine lv_iload_n hx hb dX10_isSeen_2 rfl (lv_at hl 2 rfl) ?_
      refine lv_aload_n hx hb dX10_isSeen_3 rfl (lv_at hl 0 rfl) ?_
      refine va_get (D := D) (ci := 10) (v := .ref (a 20)) (C := RX10) (T := TX10) (N := 42) hx hb htl inlX10 hown hK hP 0 rfl rfl 38 (by decide) (htl _ wq_7_23) (fun _ h9 => h9) rfl dX10_isSeen_4 ?_
      refine lv_iload_n hx hb dX10_isSeen_7 rfl (lv_at hl 1 rfl) ?_
      obtain ⟨hi_8, hf⟩ := ob_in hf
      refine va_iald (D := D) (tys := tyl ct) hx hb hK hP 20 0 rfl rfl hi_8 dX10_isSeen_8 ?_
      refine lv_icmp_ge (tgt := 45) hx hb dX10_isSeen_9 (by decide) (fun c_9 => ?_) (fun c_9 => ?_)
      · rw [if_pos c_9] at hf
        refine lv_iconst (v := 1) hx hb dX10_isSeen_45 (by decide) ?_
        rw [← hQQ]
        exact rf_z hx hb hr hlocks rfl hf dX10_isSeen_46
      rw [if_neg c_9] at hf
      refine lv_aload_n hx hb dX10_isSeen_12 rfl (lv_at hl 0 rfl) ?_
      refine va_get (D := D) (ci := 10) (v := .ref (a 12)) (C := RX10) (T := TX10) (N := 42) hx hb htl inlX10 hown hK hP 0 rfl rfl 22 (by decide) (htl _ wq_7_14) (fun _ h9 => h9) rfl dX10_isSeen_13 ?_
      refine lv_aload_n hx hb dX10_isSeen_16 rfl (lv_at hl 0 rfl) ?_
      refine lv_iload_n hx hb dX10_isSeen_17 rfl (lv_at hl 1 rfl) ?_
      refine lv_iload_n hx hb dX10_isSeen_18 rfl (lv_at hl 2 rfl) ?_
      obtain ⟨r_19, e_19, hf⟩ := ob_bind hf
      have hPX_19 : va_P D vwCl (cs10 ct a o) s.heap := hP
      refine ro_call1 (va_runV (As := [.int v1, .int v2]) (rest := [.ref (a 12)]) ⟨hx, hb, hml, hown, htl⟩ (c_X10_numberAt l D ct G a fu o v1 v2 e_19) (cw_X10_X10_numberAt htl ⟨Nat.le_of_ble_eq_true rfl, Nat.le_of_ble_eq_true rfl⟩) ⟨Bx_blind, va_recv hK hPX_19 (ci := 10) (q0 := 0) rfl rfl, Bx_pre hPX_19 hK hN hX⟩ rfl rfl hl.1 rfl (lv_room (Nat.le_of_ble_eq_true rfl)) dX10_isSeen_19 ⟨Nat.zero_le _, Nat.zero_le _⟩) ?_
      refine lv_l2i hx hb dX10_isSeen_22 rfl ?_
      obtain ⟨hi_23, hf⟩ := ob_in hf
      refine va_iald (D := D) (tys := tyl ct) hx hb hK hP 12 0 rfl rfl hi_23 dX10_isSeen_23 ?_
      refine lv_i2l hx hb dX10_isSeen_24 rfl ?_
      refine lv_aload_n hx hb dX10_isSeen_25 rfl (lv_at hl 0 rfl) ?_
      refine lv_iload_n hx hb dX10_isSeen_26 rfl (lv_at hl 1 rfl) ?_
      refine lv_iload_n hx hb dX10_isSeen_27 rfl (lv_at hl 2 rfl) ?_
      refine lv_iconst (v := 1) hx hb dX10_isSeen_28 (by decide) ?_
      refine lv_iadd hx hb dX10_isSeen_29 ?_
      obtain ⟨r_30, e_30, hf⟩ := ob_bind hf
      have hPX_30 : va_P D vwCl (cs10 ct a o) s.heap := hP
      refine ro_call1 (va_runV (As := [.int v1, .int (v2 + 1)]) (rest := [.long (((o.1 22) r_19.toInt32.toNatClampNeg).toInt64)]) ⟨hx, hb, hml, hown, htl⟩ (c_X10_numberAt l D ct G a fu o v1 (v2 + 1) e_30) (cw_X10_X10_numberAt htl ⟨Nat.le_of_ble_eq_true rfl, Nat.le_of_ble_eq_true rfl⟩) ⟨Bx_blind, va_recv hK hPX_30 (ci := 10) (q0 := 0) rfl rfl, Bx_pre hPX_30 hK hN hX⟩ rfl rfl hl.1 rfl (lv_room (Nat.le_of_ble_eq_true rfl)) dX10_isSeen_30 ⟨Nat.zero_le _, Nat.zero_le _⟩) ?_
      refine W.lcmp hx hb dX10_isSeen_33 ?_
      refine lv_if_eq (tgt := 39) hx hb dX10_isSeen_34 (by decide) (fun c_34 => ?_) (fun c_34 => ?_)
      · rw [if_pos c_34] at hf
        refine lv_iinc (v := (v2 + 2)) (lv' := [(2, .int (v2 + 2)), (0, .ref (a 0)), (1, .int v1)]) hx hb dX10_isSeen_39 hl (k := 2) rfl rfl (by decide) rfl (fun ls hl => ?_)
        refine lv_goto (tgt := 2) hx hb dX10_isSeen_42 (by decide) ?_
        exact ih v1 (v2 + 2) _ (lv_sub hl [1, 2, 0] rfl) hf 
      rw [if_neg c_34] at hf
      refine lv_iconst (v := 0) hx hb dX10_isSeen_37 (by decide) ?_
      rw [← hQQ]
      exact rf_z hx hb hr hlocks rfl hf dX10_isSeen_38
  rw [p_X10_isSeen] at hf
  refine lv_iconst (v := 0) hx hb dX10_isSeen_0 (by decide) ?_
  refine lv_istore_n (lv' := [(2, .int 0), (0, .ref (a 0)), (1, .int v1)]) hx hb dX10_isSeen_1 rfl hl (by decide) rfl (fun ls hl => ?_)
  exact hL2 fu v1 0 _ (lv_sub hl [1, 2, 0] rfl) hf 
theorem c_X10_isSeen (l : Launch) (D : va_G) (ct : Nat → ClassId) (G : GT) (a : Nat → Nat) (fu : Nat) (o : Ob) (v1 : Int32) {r : Int32} (hf : p_X10_isSeen fu o v1 = some r)  : Met l yX10_isSeen (.code yX10_isSeen cX10_isSeen 3 (some .boolean) :: wsL_law) rm_X10_isSeen (va_Pc [.ref (a 0), .int v1] (Bx D ct G (cs10 ct a o))) (Qro (some (.int r))) 0 0 (fun _ => False) := by
  refine Met.ofW (cc := cX10_isSeen) (maxL := 3) (ret := (some .boolean)) (by decide) rfl ?_
  intro p e s m args below meth c s₁ B hml hv
  obtain ⟨rfl, hP, hK, hN, hX⟩ := hv
  have hts := atoms_spec (ws := .code yX10_isSeen cX10_isSeen 3 (some .boolean) :: wsL_law) B.pre
  rw [lg_entry_eq]
  exact b_X10_isSeen a fu o v1 B.exec B.bytes B.returns hml (findClass_of_methodNamed B.named) (fun w h => hts w (List.mem_cons_of_mem _ h)) B.notSynchronized hK hN hX hP hf   (lv_entry [.ref (a 0), .int v1] (n := 3) (Nat.le_of_ble_eq_true rfl))
theorem hd_X10_askSeen : yX10_askSeen.cls ≠ "java/lang/invoke/MethodHandle" ∧ yX10_askSeen.cls ≠ "java/lang/invoke/VarHandle" ∧ (parseMethodDescriptor yX10_askSeen.desc).map (fun d => d.parameters.length) = some 2 := by decide +kernel
theorem cw_X10_X10_askSeen {R : Room} {s : State} {args : Array Value} (ht : ∀ w ∈ wsL_law, w.before args s = true) (hR : rm_X10_askSeen.frames + 1 ≤ R.frames ∧ 8 + (4 + 11) + rm_X10_askSeen.locals ≤ R.locals) : CallW R s args RX10 RX10 323 yX10_askSeen cX10_askSeen 4 (some .int) ((.code yX10_askSeen cX10_askSeen 4 (some .int)) :: wsL_law) rm_X10_askSeen 0 0 2 := cwV 2 ht (GV wq_48_17 wq_48_18 wq_48_19 wq_1_5 wq_48_20) rfl rfl rfl ⟨rfl, hd_X10_askSeen⟩ hR
theorem hd_X10_isSeen : yX10_isSeen.cls ≠ "java/lang/invoke/MethodHandle" ∧ yX10_isSeen.cls ≠ "java/lang/invoke/VarHandle" ∧ (parseMethodDescriptor yX10_isSeen.desc).map (fun d => d.parameters.length) = some 1 := by decide +kernel
theorem cw_X10_X10_isSeen {R : Room} {s : State} {args : Array Value} (ht : ∀ w ∈ wsL_law, w.before args s = true) (hR : rm_X10_isSeen.frames + 1 ≤ R.frames ∧ 8 + (3 + 11) + rm_X10_isSeen.locals ≤ R.locals) : CallW R s args RX10 RX10 330 yX10_isSeen cX10_isSeen 3 (some .boolean) ((.code yX10_isSeen cX10_isSeen 3 (some .boolean)) :: wsL_law) rm_X10_isSeen 0 0 1 := cwV 1 ht (GV wq_49_4 wq_49_5 wq_49_6 wq_1_5 wq_49_7) rfl rfl rfl ⟨rfl, hd_X10_isSeen⟩ hR
def p_X10_layPairs_L75 (fu : Nat) (c111 : Ob → Int32 → Int32 → Int32 → Int32 → Option (Int32 × Ob)) : Nat → Ob → Int32 → Int32 → Int32 → Int32 → Int32 → Option (Int32 × Ob)
  | 0, _, _, _, _, _, _ => none
  | n + 1, oz, v1, v2, v3, v4, v5 =>
    if (60 : Int32) < v5 then c111 oz v1 v2 v3 v4 else if inb v5 61 = true then if inb ((61 * (oz.1 32 0)) + v5) 37210 = true then p_X10_layPairs_L75 fu c111 n (oA oz 31 (upd (oz.1 31) (((61 * (oz.1 32 0)) + v5).toNatClampNeg) (vp_nar .byte (((oz.1 22) v5.toNatClampNeg).toInt8.toInt32)))) v1 v2 v3 v4 (v5 + 1) else none else none
def p_X10_layPairs_L31 (fu : Nat) (c127 : Ob → Int32 → Int32 → Int32 → Option (Int32 × Ob)) : Nat → Ob → Int32 → Int32 → Int32 → Int32 → Option (Int32 × Ob)
  | 0, _, _, _, _, _ => none
  | n + 1, oz, v1, v2, v3, v4 =>
    if (60 : Int32) < v4 then c127 oz v1 v2 v3 else (p_X10_goStick fu oz v3 v4).bind fun r_42 => (p_X10_isSeen fu r_42 v1).bind fun r_47 => if r_47 = 0 then p_X10_layPairs_L31 fu c127 n r_42 v1 v2 v3 (v4 + 1) else if inb (r_42.1 32 0) 610 = true then p_X10_layPairs_L75 fu (fun oz v1 v2 v3 v4 => p_X10_layPairs_L31 fu c127 n (oI oz 32 ((oz.1 32 0) + 1)) v1 v2 v3 (v4 + 1)) fu (oA r_42 30 (upd (r_42.1 30) ((r_42.1 32 0).toNatClampNeg) ((100 * v3) + v4))) v1 v2 v3 v4 0 else none
def p_X10_layPairs_L14 (fu : Nat)  : Nat → Ob → Int32 → Int32 → Int32 → Option (Int32 × Ob)
  | 0, _, _, _, _ => none
  | n + 1, oz, v1, v2, v3 =>
    if inb (3 : Int32) 98 = true then if ((oz.1 1) (3 : Int32).toNatClampNeg) ≤ v3 then some (v2, oz) else if v2 = 0 then p_X10_layPairs_L31 fu (fun oz v1 v2 v3 => p_X10_layPairs_L14 fu  n oz v1 v2 (v3 + 1)) fu oz v1 v2 v3 0 else some (v2, oz) else none
def p_X10_layPairs (fu : Nat) (o : Ob) (v1 : Int32) : Option (Int32 × Ob) :=
  (p_X10_askSeen fu o v1 (1 : Int32)).bind fun r_3 => p_X10_layPairs_L14 fu fu (oI r_3.2 32 (0 : Int32)) v1 r_3.1 0
abbrev rm_X10_layPairs : Room := { frames := 4, cells := 0, slots := 0, locals := 89 }
set_option maxHeartbeats 4000000 in
set_option maxRecDepth 100000 in
theorem b_X10_layPairs {p : Program} {l : Launch} {e : Env} {s : State} {m : MethodId} {args : Array Value} {below : List Frame} {meth : Method} {c : Code} {ls : Array Slot} {D : va_G} {ct : Nat → ClassId} {G : GT} (a : Nat → Nat) (fu : Nat) (o : Ob) (v1 : Int32) {r : Int32 × Ob} (hx : p.tables.exec = Jvm.exec) (hb : c.code = cX10_layPairs) (hr : meth.sig.returnType = (some .int)) (hml : c.maxLocals = 6) (hown : s.vm.findClass RX10 = some m.cls) (htl : ∀ w ∈ wsL_law, w.before args s = true) (hlocks : meth.locks = false) (hK : va_K D vwCl (tyl ct) s) (hN : ∀ w ∈ NW, va_Nw w s) (hX : SX G s s.heap) (hP0 : va_P D vwCl (cs10 ct a o) s.heap) (hf : p_X10_layPairs fu o v1 = some r) (hD0 : va_D (GE G) (cs10 ct a o))  (hl : lv_has ls 6 [(0, .ref (a 0)), (1, .int v1)]) : W p l e rm_X10_layPairs s m args below meth c s.heap [] 0 0 (MQ below (Qwr (some (.int r.1)) (fun H => va_P D vwCl (cs10 ct a r.2) H) (wA (cs10 ct a o))) args s 0 0 (wA (cs10 ct a o))) (F0 m 0 ls []) := by
  generalize hQQ : MQ below (Qwr (some (.int r.1)) (fun H => va_P D vwCl (cs10 ct a r.2) H) (wA (cs10 ct a o))) args s 0 0 (wA (cs10 ct a o)) = QQ
  have hDx : ∀ (oy : Ob), va_D (GE G) (cs10 ct a oy) := fun oy => D_cr hD0 rfl
  have hDW : ∀ (oy : Ob), va_D (wA (cs10 ct a o)) (cs10 ct a oy) := fun oy => D_cr (D_self hD0) rfl
  have hGE : ∀ q, wA (cs10 ct a o) q → GE G q := wA_GE hD0
  have hP := hP0
  have hS : va_S (wA (cs10 ct a o)) s.heap s.heap [] := va_S.rf
  have hL75 : ∀ (c111 : Ob → Int32 → Int32 → Int32 → Int32 → Option (Int32 × Ob)) (n : Nat) (oz : Ob) (v1 : Int32) (v2 : Int32) (v3 : Int32) (v4 : Int32) (v5 : Int32), ∀ (H : Heap) (locs : List Loc) (ls : Array Slot), va_P D vwCl (cs10 ct a oz) H → va_S (wA (cs10 ct a o)) s.heap H locs → lv_has ls 6 [(0, .ref (a 0)), (1, .int v1), (2, .int v2), (3, .int v3), (4, .int v4), (5, .int v5)] → p_X10_layPairs_L75 fu c111 n oz v1 v2 v3 v4 v5 = some r → (∀ (oz : Ob) (v1 : Int32) (v2 : Int32) (v3 : Int32) (v4 : Int32), ∀ (H : Heap) (locs : List Loc) (ls : Array Slot), va_P D vwCl (cs10 ct a oz) H → va_S (wA (cs10 ct a o)) s.heap H locs → lv_has ls 6 [(0, .ref (a 0)), (1, .int v1), (2, .int v2), (3, .int v3), (4, .int v4)] → c111 oz v1 v2 v3 v4 = some r → W p l e rm_X10_layPairs s m args below meth c H locs 0 0 QQ (F0 m 111 ls [])) → W p l e rm_X10_layPairs s m args below meth c H locs 0 0 QQ (F0 m 75 ls []) := by
    intro c111 n
    induction n with
    | zero =>
      intro oz v1 v2 v3 v4 v5 H locs ls hP hS hl hf k111
      rw [p_X10_layPairs_L75] at hf
      cases hf
    | succ n ih =>
      intro oz v1 v2 v3 v4 v5 H locs ls hP hS hl hf k111
      rw [p_X10_layPairs_L75] at hf
      refine lv_iload hx hb dX10_layPairs_75 (lv_at hl 5 rfl) ?_
      refine lv_bipush (v := 60) hx hb dX10_layPairs_77 (by decide) ?_
      refine lv_icmp_gt (tgt := 111) hx hb dX10_layPairs_79 (by decide) (fun c_79 => ?_) (fun c_79 => ?_)
      · rw [if_pos c_79] at hf
        exact k111 oz v1 v2 v3 v4 _ _ _ hP hS (lv_sub hl [0, 1, 2, 3, 4] rfl) hf
      rw [if_neg c_79] at hf
      refine lv_aload_n hx hb dX10_layPairs_82 rfl (lv_at hl 0 rfl) ?_
      refine va_get (D := D) (ci := 10) (v := .ref (a 17)) (C := RX10) (T := TX10) (N := 42) hx hb htl inlX10 hown hK hP 0 rfl rfl 31 (by decide) (htl _ wq_7_20) (fun _ h9 => h9) rfl dX10_layPairs_83 ?_
      refine lv_bipush (v := 61) hx hb dX10_layPairs_86 (by decide) ?_
      refine lv_aload_n hx hb dX10_layPairs_88 rfl (lv_at hl 0 rfl) ?_
      refine va_get (D := D) (ci := 10) (v := .int (oz.1 32 0)) (C := RX10) (T := TX10) (N := 42) hx hb htl inlX10 hown hK hP 0 rfl rfl 32 (by decide) (htl _ wq_48_12) (fun _ h9 => h9) rfl dX10_layPairs_89 ?_
      refine lv_imul hx hb dX10_layPairs_92 ?_
      refine lv_iload hx hb dX10_layPairs_93 (lv_at hl 5 rfl) ?_
      refine lv_iadd hx hb dX10_layPairs_95 ?_
      refine lv_aload_n hx hb dX10_layPairs_96 rfl (lv_at hl 0 rfl) ?_
      refine va_get (D := D) (ci := 10) (v := .ref (a 12)) (C := RX10) (T := TX10) (N := 42) hx hb htl inlX10 hown hK hP 0 rfl rfl 22 (by decide) (htl _ wq_7_14) (fun _ h9 => h9) rfl dX10_layPairs_97 ?_
      refine lv_iload hx hb dX10_layPairs_100 (lv_at hl 5 rfl) ?_
      obtain ⟨hi_102, hf⟩ := ob_in hf
      refine va_iald (D := D) (tys := tyl ct) hx hb hK hP 12 0 rfl rfl hi_102 dX10_layPairs_102 ?_
      refine lv_i2b hx hb dX10_layPairs_103 rfl ?_
      obtain ⟨hi_104, hf⟩ := ob_in hf
      refine va_bast (D := D) (tys := tyl ct) hx hb hK hP (hDW oz) hS 17 2 rfl rfl hi_104 dX10_layPairs_104 (fun H_104 locs_104 hP _ hS => ?_)
      have hP : va_P D vwCl (cs10 ct a (oA oz 31 (upd (oz.1 31) (((61 * (oz.1 32 0)) + v5).toNatClampNeg) (vp_nar .byte (((oz.1 22) v5.toNatClampNeg).toInt8.toInt32))))) H_104 := sa10_31 hP
      refine lv_iinc (v := (v5 + 1)) (lv' := [(5, .int (v5 + 1)), (0, .ref (a 0)), (1, .int v1), (2, .int v2), (3, .int v3), (4, .int v4)]) hx hb dX10_layPairs_105 hl (k := 5) rfl rfl (by decide) rfl (fun ls hl => ?_)
      refine lv_goto (tgt := 75) hx hb dX10_layPairs_108 (by decide) ?_
      exact ih (oA oz 31 (upd (oz.1 31) (((61 * (oz.1 32 0)) + v5).toNatClampNeg) (vp_nar .byte (((oz.1 22) v5.toNatClampNeg).toInt8.toInt32)))) v1 v2 v3 v4 (v5 + 1) _ _ _ hP hS (lv_sub hl [1, 2, 3, 4, 5, 0] rfl) hf k111
  have hL31 : ∀ (c127 : Ob → Int32 → Int32 → Int32 → Option (Int32 × Ob)) (n : Nat) (oz : Ob) (v1 : Int32) (v2 : Int32) (v3 : Int32) (v4 : Int32), ∀ (H : Heap) (locs : List Loc) (ls : Array Slot), va_P D vwCl (cs10 ct a oz) H → va_S (wA (cs10 ct a o)) s.heap H locs → lv_has ls 6 [(0, .ref (a 0)), (1, .int v1), (2, .int v2), (3, .int v3), (4, .int v4)] → p_X10_layPairs_L31 fu c127 n oz v1 v2 v3 v4 = some r → (∀ (oz : Ob) (v1 : Int32) (v2 : Int32) (v3 : Int32), ∀ (H : Heap) (locs : List Loc) (ls : Array Slot), va_P D vwCl (cs10 ct a oz) H → va_S (wA (cs10 ct a o)) s.heap H locs → lv_has ls 6 [(0, .ref (a 0)), (1, .int v1), (2, .int v2), (3, .int v3)] → c127 oz v1 v2 v3 = some r → W p l e rm_X10_layPairs s m args below meth c H locs 0 0 QQ (F0 m 127 ls [])) → W p l e rm_X10_layPairs s m args below meth c H locs 0 0 QQ (F0 m 31 ls []) := by
    intro c127 n
    induction n with
    | zero =>
      intro oz v1 v2 v3 v4 H locs ls hP hS hl hf k127
      rw [p_X10_layPairs_L31] at hf
      cases hf
    | succ n ih =>
      intro oz v1 v2 v3 v4 H locs ls hP hS hl hf k127
      rw [p_X10_layPairs_L31] at hf
      refine lv_iload hx hb dX10_layPairs_31 (lv_at hl 4 rfl) ?_
      refine lv_bipush (v := 60) hx hb dX10_layPairs_33 (by decide) ?_
      refine lv_icmp_gt (tgt := 127) hx hb dX10_layPairs_35 (by decide) (fun c_35 => ?_) (fun c_35 => ?_)
      · rw [if_pos c_35] at hf
        exact k127 oz v1 v2 v3 _ _ _ hP hS (lv_sub hl [0, 1, 2, 3] rfl) hf
      rw [if_neg c_35] at hf
      refine lv_aload_n hx hb dX10_layPairs_38 rfl (lv_at hl 0 rfl) ?_
      refine lv_iload_n hx hb dX10_layPairs_39 rfl (lv_at hl 3 rfl) ?_
      refine lv_iload hx hb dX10_layPairs_40 (lv_at hl 4 rfl) ?_
      obtain ⟨r_42, e_42, hf⟩ := ob_bind hf
      have hPX_42 : va_P D vwCl (cs10 ct a oz) H := hP
      refine wr_call0 (va_runV (As := [.int v3, .int v4]) (rest := []) ⟨hx, hb, hml, hown, htl⟩ (c_X10_goStick l D ct G a fu oz v3 v4 e_42 (hDx oz)) (cw_X10_X10_goStick htl ⟨Nat.le_of_ble_eq_true rfl, Nat.le_of_ble_eq_true rfl⟩) ⟨Bx_blind, va_recv hK hPX_42 (ci := 10) (q0 := 0) rfl rfl, Bx_pre hPX_42 hK hN (hX.stay hS hGE)⟩ rfl rfl hl.1 rfl (lv_room (Nat.le_of_ble_eq_true rfl)) dX10_layPairs_42 ⟨Nat.zero_le _, Nat.zero_le _⟩) hS (wA_cg rfl) (fun H_42 locs_42 hB_42 _ hk_42 hS => ?_)
      have hP : va_P D vwCl (cs10 ct a r_42) H_42 := hB_42
      refine lv_aload_n hx hb dX10_layPairs_45 rfl (lv_at hl 0 rfl) ?_
      refine lv_iload_n hx hb dX10_layPairs_46 rfl (lv_at hl 1 rfl) ?_
      obtain ⟨r_47, e_47, hf⟩ := ob_bind hf
      have hPX_47 : va_P D vwCl (cs10 ct a r_42) H_42 := hP
      refine ro_call1 (va_runV (As := [.int v1]) (rest := []) ⟨hx, hb, hml, hown, htl⟩ (c_X10_isSeen l D ct G a fu r_42 v1 e_47) (cw_X10_X10_isSeen htl ⟨Nat.le_of_ble_eq_true rfl, Nat.le_of_ble_eq_true rfl⟩) ⟨Bx_blind, va_recv hK hPX_47 (ci := 10) (q0 := 0) rfl rfl, Bx_pre hPX_47 hK hN (hX.stay hS hGE)⟩ rfl rfl hl.1 rfl (lv_room (Nat.le_of_ble_eq_true rfl)) dX10_layPairs_47 ⟨Nat.zero_le _, Nat.zero_le _⟩) ?_
      refine lv_if_ne (tgt := 56) hx hb dX10_layPairs_50 (by decide) (fun c_50 => ?_) (fun c_50 => ?_)
      rotate_left 1
      · rw [if_pos c_50] at hf
        refine lv_goto (tgt := 121) hx hb dX10_layPairs_53 (by decide) ?_
        refine lv_iinc (v := (v4 + 1)) (lv' := [(4, .int (v4 + 1)), (0, .ref (a 0)), (1, .int v1), (2, .int v2), (3, .int v3)]) hx hb dX10_layPairs_121 hl (k := 4) rfl rfl (by decide) rfl (fun ls hl => ?_)
        refine lv_goto (tgt := 31) hx hb dX10_layPairs_124 (by decide) ?_
        exact ih r_42 v1 v2 v3 (v4 + 1) _ _ _ hP hS (lv_sub hl [1, 2, 3, 4, 0] rfl) hf k127
      rw [if_neg c_50] at hf
      refine lv_aload_n hx hb dX10_layPairs_56 rfl (lv_at hl 0 rfl) ?_
      refine va_get (D := D) (ci := 10) (v := .ref (a 16)) (C := RX10) (T := TX10) (N := 42) hx hb htl inlX10 hown hK hP 0 rfl rfl 30 (by decide) (htl _ wq_7_18) (fun _ h9 => h9) rfl dX10_layPairs_57 ?_
      refine lv_aload_n hx hb dX10_layPairs_60 rfl (lv_at hl 0 rfl) ?_
      refine va_get (D := D) (ci := 10) (v := .int (r_42.1 32 0)) (C := RX10) (T := TX10) (N := 42) hx hb htl inlX10 hown hK hP 0 rfl rfl 32 (by decide) (htl _ wq_48_12) (fun _ h9 => h9) rfl dX10_layPairs_61 ?_
      refine lv_bipush (v := 100) hx hb dX10_layPairs_64 (by decide) ?_
      refine lv_iload_n hx hb dX10_layPairs_66 rfl (lv_at hl 3 rfl) ?_
      refine lv_imul hx hb dX10_layPairs_67 ?_
      refine lv_iload hx hb dX10_layPairs_68 (lv_at hl 4 rfl) ?_
      refine lv_iadd hx hb dX10_layPairs_70 ?_
      obtain ⟨hi_71, hf⟩ := ob_in hf
      refine va_iast (D := D) (tys := tyl ct) hx hb hK hP (hDW r_42) hS 16 0 rfl rfl hi_71 dX10_layPairs_71 (fun H_71 locs_71 hP _ hS => ?_)
      have hP : va_P D vwCl (cs10 ct a (oA r_42 30 (upd (r_42.1 30) ((r_42.1 32 0).toNatClampNeg) ((100 * v3) + v4)))) H_71 := sa10_30 hP
      refine lv_iconst (v := 0) hx hb dX10_layPairs_72 (by decide) ?_
      refine lv_istore (lv' := [(5, .int 0), (0, .ref (a 0)), (1, .int v1), (2, .int v2), (3, .int v3), (4, .int v4)]) hx hb dX10_layPairs_73 hl (by decide) rfl (fun ls hl => ?_)
      refine hL75 _ fu (oA r_42 30 (upd (r_42.1 30) ((r_42.1 32 0).toNatClampNeg) ((100 * v3) + v4))) v1 v2 v3 v4 0 _ _ _ hP hS (lv_sub hl [1, 2, 3, 4, 5, 0] rfl) hf (fun oz v1 v2 v3 v4 H locs ls hP hS hl hf => ?_)
      refine lv_aload_n hx hb dX10_layPairs_111 rfl (lv_at hl 0 rfl) ?_
      refine lv_dup hx hb dX10_layPairs_112 rfl ?_
      refine va_get (D := D) (ci := 10) (v := .int (oz.1 32 0)) (C := RX10) (T := TX10) (N := 42) hx hb htl inlX10 hown hK hP 0 rfl rfl 32 (by decide) (htl _ wq_48_12) (fun _ h9 => h9) rfl dX10_layPairs_113 ?_
      refine lv_iconst (v := 1) hx hb dX10_layPairs_116 (by decide) ?_
      refine lv_iadd hx hb dX10_layPairs_117 ?_
      refine va_put (D := D) (ci := 10) (v := .int ((oz.1 32 0) + 1)) (ty := .int) (C := RX10) (T := TX10) (N := 42) hx hb htl inlX10 tyX10 tyX10_ok nmX10 hown hK hP (hDW oz) hS 0 rfl rfl 32 (by decide) (htl _ wq_48_12) (fun _ h9 => h9) rfl (tyX10_ok 32 (by decide)) rfl rfl (Nat.le_of_ble_eq_true rfl) dX10_layPairs_118 (fun H_118 locs_118 hP _ hS => ?_)
      have hP : va_P D vwCl (cs10 ct a (oI oz 32 ((oz.1 32 0) + 1))) H_118 := st10_32 hP
      refine lv_iinc (v := (v4 + 1)) (lv' := [(4, .int (v4 + 1)), (0, .ref (a 0)), (1, .int v1), (2, .int v2), (3, .int v3)]) hx hb dX10_layPairs_121 hl (k := 4) rfl rfl (by decide) rfl (fun ls hl => ?_)
      refine lv_goto (tgt := 31) hx hb dX10_layPairs_124 (by decide) ?_
      exact ih (oI oz 32 ((oz.1 32 0) + 1)) v1 v2 v3 (v4 + 1) _ _ _ hP hS (lv_sub hl [1, 2, 3, 4, 0] rfl) hf k127
  have hL14 : ∀ (n : Nat) (oz : Ob) (v1 : Int32) (v2 : Int32) (v3 : Int32), ∀ (H : Heap) (locs : List Loc) (ls : Array Slot), va_P D vwCl (cs10 ct a oz) H → va_S (wA (cs10 ct a o)) s.heap H locs → lv_has ls 6 [(0, .ref (a 0)), (1, .int v1), (2, .int v2), (3, .int v3)] → p_X10_layPairs_L14 fu  n oz v1 v2 v3 = some r → W p l e rm_X10_layPairs s m args below meth c H locs 0 0 QQ (F0 m 14 ls []) := by
    intro  n
    induction n with
    | zero =>
      intro oz v1 v2 v3 H locs ls hP hS hl hf 
      rw [p_X10_layPairs_L14] at hf
      cases hf
    | succ n ih =>
      intro oz v1 v2 v3 H locs ls hP hS hl hf 
      rw [p_X10_layPairs_L14] at hf
      refine lv_iload_n hx hb dX10_layPairs_14 rfl (lv_at hl 3 rfl) ?_
      refine lv_aload_n hx hb dX10_layPairs_15 rfl (lv_at hl 0 rfl) ?_
      refine va_get (D := D) (ci := 10) (v := .ref (a 1)) (C := RX10) (T := TX10) (N := 42) hx hb htl inlX10 hown hK hP 0 rfl rfl 1 (by decide) (htl _ wq_7_0) (fun _ h9 => h9) rfl dX10_layPairs_16 ?_
      refine lv_iconst (v := 3) hx hb dX10_layPairs_19 (by decide) ?_
      obtain ⟨hi_20, hf⟩ := ob_in hf
      refine va_iald (D := D) (tys := tyl ct) hx hb hK hP 1 0 rfl rfl hi_20 dX10_layPairs_20 ?_
      refine lv_icmp_ge (tgt := 133) hx hb dX10_layPairs_21 (by decide) (fun c_21 => ?_) (fun c_21 => ?_)
      · rw [if_pos c_21] at hf
        refine lv_iload_n hx hb dX10_layPairs_133 rfl (lv_at hl 2 rfl) ?_
        rw [← hQQ]
        cases hf
        exact rw_i hx hb hr hlocks hP hS dX10_layPairs_134
      rw [if_neg c_21] at hf
      refine lv_iload_n hx hb dX10_layPairs_24 rfl (lv_at hl 2 rfl) ?_
      refine lv_if_ne (tgt := 133) hx hb dX10_layPairs_25 (by decide) (fun c_25 => ?_) (fun c_25 => ?_)
      · rw [if_neg c_25] at hf
        refine lv_iload_n hx hb dX10_layPairs_133 rfl (lv_at hl 2 rfl) ?_
        rw [← hQQ]
        cases hf
        exact rw_i hx hb hr hlocks hP hS dX10_layPairs_134
      rw [if_pos c_25] at hf
      refine lv_iconst (v := 0) hx hb dX10_layPairs_28 (by decide) ?_
      refine lv_istore (lv' := [(4, .int 0), (0, .ref (a 0)), (1, .int v1), (2, .int v2), (3, .int v3)]) hx hb dX10_layPairs_29 hl (by decide) rfl (fun ls hl => ?_)
      refine hL31 _ fu oz v1 v2 v3 0 _ _ _ hP hS (lv_sub hl [1, 2, 3, 4, 0] rfl) hf (fun oz v1 v2 v3 H locs ls hP hS hl hf => ?_)
      refine lv_iinc (v := (v3 + 1)) (lv' := [(3, .int (v3 + 1)), (0, .ref (a 0)), (1, .int v1), (2, .int v2)]) hx hb dX10_layPairs_127 hl (k := 3) rfl rfl (by decide) rfl (fun ls hl => ?_)
      refine lv_goto (tgt := 14) hx hb dX10_layPairs_130 (by decide) ?_
      exact ih oz v1 v2 (v3 + 1) _ _ _ hP hS (lv_sub hl [1, 2, 3, 0] rfl) hf 
  rw [p_X10_layPairs] at hf
  refine lv_aload_n hx hb dX10_layPairs_0 rfl (lv_at hl 0 rfl) ?_
  refine lv_iload_n hx hb dX10_layPairs_1 rfl (lv_at hl 1 rfl) ?_
  refine lv_iconst (v := 1) hx hb dX10_layPairs_2 (by decide) ?_
  obtain ⟨r_3, e_3, hf⟩ := ob_bind hf
  have hPX_3 : va_P D vwCl (cs10 ct a o) s.heap := hP
  refine wr_call1 (va_runV (As := [.int v1, .int 1]) (rest := []) ⟨hx, hb, hml, hown, htl⟩ (c_X10_askSeen l D ct G a fu o v1 (1 : Int32) e_3 (hDx o)) (cw_X10_X10_askSeen htl ⟨Nat.le_of_ble_eq_true rfl, Nat.le_of_ble_eq_true rfl⟩) ⟨Bx_blind, va_recv hK hPX_3 (ci := 10) (q0 := 0) rfl rfl, Bx_pre hPX_3 hK hN (hX.stay hS hGE)⟩ rfl rfl hl.1 rfl (lv_room (Nat.le_of_ble_eq_true rfl)) dX10_layPairs_3 ⟨Nat.zero_le _, Nat.zero_le _⟩) hS (wA_cg rfl) (fun H_3 locs_3 hB_3 _ hk_3 hS => ?_)
  have hP : va_P D vwCl (cs10 ct a r_3.2) H_3 := hB_3
  refine lv_istore_n (lv' := [(2, .int r_3.1), (0, .ref (a 0)), (1, .int v1)]) hx hb dX10_layPairs_6 rfl hl (by decide) rfl (fun ls hl => ?_)
  refine lv_aload_n hx hb dX10_layPairs_7 rfl (lv_at hl 1 rfl) ?_
  refine lv_iconst (v := 0) hx hb dX10_layPairs_8 (by decide) ?_
  refine va_put (D := D) (ci := 10) (v := .int 0) (ty := .int) (C := RX10) (T := TX10) (N := 42) hx hb htl inlX10 tyX10 tyX10_ok nmX10 hown hK hP (hDW r_3.2) hS 0 rfl rfl 32 (by decide) (htl _ wq_48_12) (fun _ h9 => h9) rfl (tyX10_ok 32 (by decide)) rfl rfl (Nat.le_of_ble_eq_true rfl) dX10_layPairs_9 (fun H_9 locs_9 hP _ hS => ?_)
  have hP : va_P D vwCl (cs10 ct a (oI r_3.2 32 (0 : Int32))) H_9 := st10_32 hP
  refine lv_iconst (v := 0) hx hb dX10_layPairs_12 (by decide) ?_
  refine lv_istore_n (lv' := [(3, .int 0), (2, .int r_3.1), (0, .ref (a 0)), (1, .int v1)]) hx hb dX10_layPairs_13 rfl hl (by decide) rfl (fun ls hl => ?_)
  exact hL14 fu (oI r_3.2 32 (0 : Int32)) v1 r_3.1 0 _ _ _ hP hS (lv_sub hl [2, 3, 1, 0] rfl) hf 
theorem c_X10_layPairs (l : Launch) (D : va_G) (ct : Nat → ClassId) (G : GT) (a : Nat → Nat) (fu : Nat) (o : Ob) (v1 : Int32) {r : Int32 × Ob} (hf : p_X10_layPairs fu o v1 = some r)  (hD0 : va_D (GE G) (cs10 ct a o)) : Met l yX10_layPairs (.code yX10_layPairs cX10_layPairs 6 (some .int) :: wsL_law) rm_X10_layPairs (va_Pc [.ref (a 0), .int v1] (Bx D ct G (cs10 ct a o))) (Qwr (some (.int r.1)) (fun H => va_P D vwCl (cs10 ct a r.2) H) (wA (cs10 ct a o))) 0 0 (wA (cs10 ct a o)) := by
  refine Met.ofW (cc := cX10_layPairs) (maxL := 6) (ret := (some .int)) (by decide) rfl ?_
  intro p e s m args below meth c s₁ B hml hv
  obtain ⟨rfl, hP, hK, hN, hX⟩ := hv
  have hts := atoms_spec (ws := .code yX10_layPairs cX10_layPairs 6 (some .int) :: wsL_law) B.pre
  rw [lg_entry_eq]
  exact b_X10_layPairs a fu o v1 B.exec B.bytes B.returns hml (findClass_of_methodNamed B.named) (fun w h => hts w (List.mem_cons_of_mem _ h)) B.notSynchronized hK hN hX hP hf hD0  (lv_entry [.ref (a 0), .int v1] (n := 6) (Nat.le_of_ble_eq_true rfl))
theorem hd_X10_layPairs : yX10_layPairs.cls ≠ "java/lang/invoke/MethodHandle" ∧ yX10_layPairs.cls ≠ "java/lang/invoke/VarHandle" ∧ (parseMethodDescriptor yX10_layPairs.desc).map (fun d => d.parameters.length) = some 1 := by decide +kernel
theorem cw_X10_X10_layPairs {R : Room} {s : State} {args : Array Value} (ht : ∀ w ∈ wsL_law, w.before args s = true) (hR : rm_X10_layPairs.frames + 1 ≤ R.frames ∧ 8 + (6 + 11) + rm_X10_layPairs.locals ≤ R.locals) : CallW R s args RX10 RX10 333 yX10_layPairs cX10_layPairs 6 (some .int) ((.code yX10_layPairs cX10_layPairs 6 (some .int)) :: wsL_law) rm_X10_layPairs 0 0 1 := cwV 1 ht (GV wq_48_13 wq_48_14 wq_48_15 wq_1_5 wq_48_16) rfl rfl rfl ⟨rfl, hd_X10_layPairs⟩ hR
def p_X10_fits (fu : Nat) (o : Ob) (v1 : Int32) : Option (Int32 × Ob) :=
  (p_X10_layPairs fu o v1).bind fun r_2 => if (0 : Int32) ≤ r_2.1 then some ((r_2.2.1 32 0), r_2.2) else some (r_2.1, r_2.2)
abbrev rm_X10_fits : Room := { frames := 5, cells := 0, slots := 0, locals := 114 }
set_option maxHeartbeats 4000000 in
set_option maxRecDepth 100000 in
theorem b_X10_fits {p : Program} {l : Launch} {e : Env} {s : State} {m : MethodId} {args : Array Value} {below : List Frame} {meth : Method} {c : Code} {ls : Array Slot} {D : va_G} {ct : Nat → ClassId} {G : GT} (a : Nat → Nat) (fu : Nat) (o : Ob) (v1 : Int32) {r : Int32 × Ob} (hx : p.tables.exec = Jvm.exec) (hb : c.code = cX10_fits) (hr : meth.sig.returnType = (some .int)) (hml : c.maxLocals = 3) (hown : s.vm.findClass RX10 = some m.cls) (htl : ∀ w ∈ wsL_law, w.before args s = true) (hlocks : meth.locks = false) (hK : va_K D vwCl (tyl ct) s) (hN : ∀ w ∈ NW, va_Nw w s) (hX : SX G s s.heap) (hP0 : va_P D vwCl (cs10 ct a o) s.heap) (hf : p_X10_fits fu o v1 = some r) (hD0 : va_D (GE G) (cs10 ct a o))  (hl : lv_has ls 3 [(0, .ref (a 0)), (1, .int v1)]) : W p l e rm_X10_fits s m args below meth c s.heap [] 0 0 (MQ below (Qwr (some (.int r.1)) (fun H => va_P D vwCl (cs10 ct a r.2) H) (wA (cs10 ct a o))) args s 0 0 (wA (cs10 ct a o))) (F0 m 0 ls []) := by
  generalize hQQ : MQ below (Qwr (some (.int r.1)) (fun H => va_P D vwCl (cs10 ct a r.2) H) (wA (cs10 ct a o))) args s 0 0 (wA (cs10 ct a o)) = QQ
  have hDx : ∀ (oy : Ob), va_D (GE G) (cs10 ct a oy) := fun oy => D_cr hD0 rfl
  have hDW : ∀ (oy : Ob), va_D (wA (cs10 ct a o)) (cs10 ct a oy) := fun oy => D_cr (D_self hD0) rfl
  have hGE : ∀ q, wA (cs10 ct a o) q → GE G q := wA_GE hD0
  have hP := hP0
  have hS : va_S (wA (cs10 ct a o)) s.heap s.heap [] := va_S.rf
  rw [p_X10_fits] at hf
  refine lv_aload_n hx hb dX10_fits_0 rfl (lv_at hl 0 rfl) ?_
  refine lv_iload_n hx hb dX10_fits_1 rfl (lv_at hl 1 rfl) ?_
  obtain ⟨r_2, e_2, hf⟩ := ob_bind hf
  have hPX_2 : va_P D vwCl (cs10 ct a o) s.heap := hP
  refine wr_call1 (va_runV (As := [.int v1]) (rest := []) ⟨hx, hb, hml, hown, htl⟩ (c_X10_layPairs l D ct G a fu o v1 e_2 (hDx o)) (cw_X10_X10_layPairs htl ⟨Nat.le_of_ble_eq_true rfl, Nat.le_of_ble_eq_true rfl⟩) ⟨Bx_blind, va_recv hK hPX_2 (ci := 10) (q0 := 0) rfl rfl, Bx_pre hPX_2 hK hN (hX.stay hS hGE)⟩ rfl rfl hl.1 rfl (lv_room (Nat.le_of_ble_eq_true rfl)) dX10_fits_2 ⟨Nat.zero_le _, Nat.zero_le _⟩) hS (wA_cg rfl) (fun H_2 locs_2 hB_2 _ hk_2 hS => ?_)
  have hP : va_P D vwCl (cs10 ct a r_2.2) H_2 := hB_2
  refine lv_istore_n (lv' := [(2, .int r_2.1), (0, .ref (a 0)), (1, .int v1)]) hx hb dX10_fits_5 rfl hl (by decide) rfl (fun ls hl => ?_)
  refine lv_iload_n hx hb dX10_fits_6 rfl (lv_at hl 0 rfl) ?_
  refine lv_if_ge (tgt := 14) hx hb dX10_fits_7 (by decide) (fun c_7 => ?_) (fun c_7 => ?_)
  · rw [if_pos c_7] at hf
    refine lv_aload_n hx hb dX10_fits_14 rfl (lv_at hl 1 rfl) ?_
    refine va_get (D := D) (ci := 10) (v := .int (r_2.2.1 32 0)) (C := RX10) (T := TX10) (N := 42) hx hb htl inlX10 hown hK hP 0 rfl rfl 32 (by decide) (htl _ wq_48_12) (fun _ h9 => h9) rfl dX10_fits_15 ?_
    rw [← hQQ]
    cases hf
    exact rw_i hx hb hr hlocks hP hS dX10_fits_18
  rw [if_neg c_7] at hf
  refine lv_iload_n hx hb dX10_fits_10 rfl (lv_at hl 0 rfl) ?_
  refine lv_goto (tgt := 18) hx hb dX10_fits_11 (by decide) ?_
  rw [← hQQ]
  cases hf
  exact rw_i hx hb hr hlocks hP hS dX10_fits_18
theorem c_X10_fits (l : Launch) (D : va_G) (ct : Nat → ClassId) (G : GT) (a : Nat → Nat) (fu : Nat) (o : Ob) (v1 : Int32) {r : Int32 × Ob} (hf : p_X10_fits fu o v1 = some r)  (hD0 : va_D (GE G) (cs10 ct a o)) : Met l yX10_fits (.code yX10_fits cX10_fits 3 (some .int) :: wsL_law) rm_X10_fits (va_Pc [.ref (a 0), .int v1] (Bx D ct G (cs10 ct a o))) (Qwr (some (.int r.1)) (fun H => va_P D vwCl (cs10 ct a r.2) H) (wA (cs10 ct a o))) 0 0 (wA (cs10 ct a o)) := by
  refine Met.ofW (cc := cX10_fits) (maxL := 3) (ret := (some .int)) (by decide) rfl ?_
  intro p e s m args below meth c s₁ B hml hv
  obtain ⟨rfl, hP, hK, hN, hX⟩ := hv
  have hts := atoms_spec (ws := .code yX10_fits cX10_fits 3 (some .int) :: wsL_law) B.pre
  rw [lg_entry_eq]
  exact b_X10_fits a fu o v1 B.exec B.bytes B.returns hml (findClass_of_methodNamed B.named) (fun w h => hts w (List.mem_cons_of_mem _ h)) B.notSynchronized hK hN hX hP hf hD0  (lv_entry [.ref (a 0), .int v1] (n := 3) (Nat.le_of_ble_eq_true rfl))
def p_X10_sources_L17 (fu : Nat)  : Nat → Ob → Int32 → Int32 → Option (Int32 × Ob)
  | 0, _, _, _ => none
  | n + 1, oz, v3, v4 =>
    if (oz.1 32 0) ≤ v4 then some (v3, oz) else if inb v4 610 = true then if (100 : Int32) = 0 then none else p_X10_sources_L17 fu  n oz (v3 ||| ((1 : Int32) <<< ((((oz.1 30) v4.toNatClampNeg) / 100) &&& 31))) (v4 + 1) else none
def p_X10_sources (fu : Nat) (o : Ob) (v1 : Int32) : Option (Int32 × Ob) :=
  (p_X10_layPairs fu o v1).bind fun r_2 => if (0 : Int32) ≤ r_2.1 then p_X10_sources_L17 fu fu r_2.2 0 0 else some (r_2.1, r_2.2)
abbrev rm_X10_sources : Room := { frames := 5, cells := 0, slots := 0, locals := 114 }
set_option maxHeartbeats 4000000 in
set_option maxRecDepth 100000 in
theorem b_X10_sources {p : Program} {l : Launch} {e : Env} {s : State} {m : MethodId} {args : Array Value} {below : List Frame} {meth : Method} {c : Code} {ls : Array Slot} {D : va_G} {ct : Nat → ClassId} {G : GT} (a : Nat → Nat) (fu : Nat) (o : Ob) (v1 : Int32) {r : Int32 × Ob} (hx : p.tables.exec = Jvm.exec) (hb : c.code = cX10_sources) (hr : meth.sig.returnType = (some .int)) (hml : c.maxLocals = 5) (hown : s.vm.findClass RX10 = some m.cls) (htl : ∀ w ∈ wsL_law, w.before args s = true) (hlocks : meth.locks = false) (hK : va_K D vwCl (tyl ct) s) (hN : ∀ w ∈ NW, va_Nw w s) (hX : SX G s s.heap) (hP0 : va_P D vwCl (cs10 ct a o) s.heap) (hf : p_X10_sources fu o v1 = some r) (hD0 : va_D (GE G) (cs10 ct a o))  (hl : lv_has ls 5 [(0, .ref (a 0)), (1, .int v1)]) : W p l e rm_X10_sources s m args below meth c s.heap [] 0 0 (MQ below (Qwr (some (.int r.1)) (fun H => va_P D vwCl (cs10 ct a r.2) H) (wA (cs10 ct a o))) args s 0 0 (wA (cs10 ct a o))) (F0 m 0 ls []) := by
  generalize hQQ : MQ below (Qwr (some (.int r.1)) (fun H => va_P D vwCl (cs10 ct a r.2) H) (wA (cs10 ct a o))) args s 0 0 (wA (cs10 ct a o)) = QQ
  have hDx : ∀ (oy : Ob), va_D (GE G) (cs10 ct a oy) := fun oy => D_cr hD0 rfl
  have hDW : ∀ (oy : Ob), va_D (wA (cs10 ct a o)) (cs10 ct a oy) := fun oy => D_cr (D_self hD0) rfl
  have hGE : ∀ q, wA (cs10 ct a o) q → GE G q := wA_GE hD0
  have hP := hP0
  have hS : va_S (wA (cs10 ct a o)) s.heap s.heap [] := va_S.rf
  have hL17 : ∀ (n : Nat) (oz : Ob) (v3 : Int32) (v4 : Int32), ∀ (H : Heap) (locs : List Loc) (ls : Array Slot), va_P D vwCl (cs10 ct a oz) H → va_S (wA (cs10 ct a o)) s.heap H locs → lv_has ls 5 [(0, .ref (a 0)), (3, .int v3), (4, .int v4)] → p_X10_sources_L17 fu  n oz v3 v4 = some r → W p l e rm_X10_sources s m args below meth c H locs 0 0 QQ (F0 m 17 ls []) := by
    intro  n
    induction n with
    | zero =>
      intro oz v3 v4 H locs ls hP hS hl hf 
      rw [p_X10_sources_L17] at hf
      cases hf
    | succ n ih =>
      intro oz v3 v4 H locs ls hP hS hl hf 
      rw [p_X10_sources_L17] at hf
      refine lv_iload hx hb dX10_sources_17 (lv_at hl 2 rfl) ?_
      refine lv_aload_n hx hb dX10_sources_19 rfl (lv_at hl 0 rfl) ?_
      refine va_get (D := D) (ci := 10) (v := .int (oz.1 32 0)) (C := RX10) (T := TX10) (N := 42) hx hb htl inlX10 hown hK hP 0 rfl rfl 32 (by decide) (htl _ wq_48_12) (fun _ h9 => h9) rfl dX10_sources_20 ?_
      refine lv_icmp_ge (tgt := 47) hx hb dX10_sources_23 (by decide) (fun c_23 => ?_) (fun c_23 => ?_)
      · rw [if_pos c_23] at hf
        refine lv_iload_n hx hb dX10_sources_47 rfl (lv_at hl 1 rfl) ?_
        rw [← hQQ]
        cases hf
        exact rw_i hx hb hr hlocks hP hS dX10_sources_48
      rw [if_neg c_23] at hf
      refine lv_iload_n hx hb dX10_sources_26 rfl (lv_at hl 1 rfl) ?_
      refine lv_iconst (v := 1) hx hb dX10_sources_27 (by decide) ?_
      refine lv_aload_n hx hb dX10_sources_28 rfl (lv_at hl 0 rfl) ?_
      refine va_get (D := D) (ci := 10) (v := .ref (a 16)) (C := RX10) (T := TX10) (N := 42) hx hb htl inlX10 hown hK hP 0 rfl rfl 30 (by decide) (htl _ wq_7_18) (fun _ h9 => h9) rfl dX10_sources_29 ?_
      refine lv_iload hx hb dX10_sources_32 (lv_at hl 2 rfl) ?_
      obtain ⟨hi_34, hf⟩ := ob_in hf
      refine va_iald (D := D) (tys := tyl ct) hx hb hK hP 16 0 rfl rfl hi_34 dX10_sources_34 ?_
      refine lv_bipush (v := 100) hx hb dX10_sources_35 (by decide) ?_
      obtain ⟨hne_37, hf⟩ := ob_ne hf
      refine lv_idiv hx hb dX10_sources_37 hne_37 ?_
      refine lv_ishl hx hb dX10_sources_38 ?_
      refine lv_ior hx hb dX10_sources_39 ?_
      refine lv_istore_n (lv' := [(3, .int (v3 ||| ((1 : Int32) <<< ((((oz.1 30) v4.toNatClampNeg) / 100) &&& 31)))), (0, .ref (a 0)), (4, .int v4)]) hx hb dX10_sources_40 rfl hl (by decide) rfl (fun ls hl => ?_)
      refine lv_iinc (v := (v4 + 1)) (lv' := [(4, .int (v4 + 1)), (3, .int (v3 ||| ((1 : Int32) <<< ((((oz.1 30) v4.toNatClampNeg) / 100) &&& 31)))), (0, .ref (a 0))]) hx hb dX10_sources_41 hl (k := 2) rfl rfl (by decide) rfl (fun ls hl => ?_)
      refine lv_goto (tgt := 17) hx hb dX10_sources_44 (by decide) ?_
      exact ih oz (v3 ||| ((1 : Int32) <<< ((((oz.1 30) v4.toNatClampNeg) / 100) &&& 31))) (v4 + 1) _ _ _ hP hS (lv_sub hl [2, 1, 0] rfl) hf 
  rw [p_X10_sources] at hf
  refine lv_aload_n hx hb dX10_sources_0 rfl (lv_at hl 0 rfl) ?_
  refine lv_iload_n hx hb dX10_sources_1 rfl (lv_at hl 1 rfl) ?_
  obtain ⟨r_2, e_2, hf⟩ := ob_bind hf
  have hPX_2 : va_P D vwCl (cs10 ct a o) s.heap := hP
  refine wr_call1 (va_runV (As := [.int v1]) (rest := []) ⟨hx, hb, hml, hown, htl⟩ (c_X10_layPairs l D ct G a fu o v1 e_2 (hDx o)) (cw_X10_X10_layPairs htl ⟨Nat.le_of_ble_eq_true rfl, Nat.le_of_ble_eq_true rfl⟩) ⟨Bx_blind, va_recv hK hPX_2 (ci := 10) (q0 := 0) rfl rfl, Bx_pre hPX_2 hK hN (hX.stay hS hGE)⟩ rfl rfl hl.1 rfl (lv_room (Nat.le_of_ble_eq_true rfl)) dX10_sources_2 ⟨Nat.zero_le _, Nat.zero_le _⟩) hS (wA_cg rfl) (fun H_2 locs_2 hB_2 _ hk_2 hS => ?_)
  have hP : va_P D vwCl (cs10 ct a r_2.2) H_2 := hB_2
  refine lv_istore_n (lv' := [(2, .int r_2.1), (0, .ref (a 0)), (1, .int v1)]) hx hb dX10_sources_5 rfl hl (by decide) rfl (fun ls hl => ?_)
  refine lv_iload_n hx hb dX10_sources_6 rfl (lv_at hl 0 rfl) ?_
  refine lv_if_ge (tgt := 12) hx hb dX10_sources_7 (by decide) (fun c_7 => ?_) (fun c_7 => ?_)
  rotate_left 1
  · rw [if_neg c_7] at hf
    refine lv_iload_n hx hb dX10_sources_10 rfl (lv_at hl 0 rfl) ?_
    rw [← hQQ]
    cases hf
    exact rw_i hx hb hr hlocks hP hS dX10_sources_11
  rw [if_pos c_7] at hf
  refine lv_iconst (v := 0) hx hb dX10_sources_12 (by decide) ?_
  refine lv_istore_n (lv' := [(3, .int 0), (2, .int r_2.1), (0, .ref (a 0)), (1, .int v1)]) hx hb dX10_sources_13 rfl hl (by decide) rfl (fun ls hl => ?_)
  refine lv_iconst (v := 0) hx hb dX10_sources_14 (by decide) ?_
  refine lv_istore (lv' := [(4, .int 0), (3, .int 0), (2, .int r_2.1), (0, .ref (a 0)), (1, .int v1)]) hx hb dX10_sources_15 hl (by decide) rfl (fun ls hl => ?_)
  exact hL17 fu r_2.2 0 0 _ _ _ hP hS (lv_sub hl [3, 1, 0] rfl) hf 
theorem c_X10_sources (l : Launch) (D : va_G) (ct : Nat → ClassId) (G : GT) (a : Nat → Nat) (fu : Nat) (o : Ob) (v1 : Int32) {r : Int32 × Ob} (hf : p_X10_sources fu o v1 = some r)  (hD0 : va_D (GE G) (cs10 ct a o)) : Met l yX10_sources (.code yX10_sources cX10_sources 5 (some .int) :: wsL_law) rm_X10_sources (va_Pc [.ref (a 0), .int v1] (Bx D ct G (cs10 ct a o))) (Qwr (some (.int r.1)) (fun H => va_P D vwCl (cs10 ct a r.2) H) (wA (cs10 ct a o))) 0 0 (wA (cs10 ct a o)) := by
  refine Met.ofW (cc := cX10_sources) (maxL := 5) (ret := (some .int)) (by decide) rfl ?_
  intro p e s m args below meth c s₁ B hml hv
  obtain ⟨rfl, hP, hK, hN, hX⟩ := hv
  have hts := atoms_spec (ws := .code yX10_sources cX10_sources 5 (some .int) :: wsL_law) B.pre
  rw [lg_entry_eq]
  exact b_X10_sources a fu o v1 B.exec B.bytes B.returns hml (findClass_of_methodNamed B.named) (fun w h => hts w (List.mem_cons_of_mem _ h)) B.notSynchronized hK hN hX hP hf hD0  (lv_entry [.ref (a 0), .int v1] (n := 5) (Nat.le_of_ble_eq_true rfl))
def p_X10_source (fu : Nat) (o : Ob) (v1 : Int32) : Option (Int32 × Ob) :=
  (p_X10_layPairs fu o v1).bind fun r_2 => if (0 : Int32) ≤ r_2.1 then if (r_2.2.1 32 0) = 0 then some (((-1) : Int32), r_2.2) else if inb (0 : Int32) 610 = true then some (((r_2.2.1 30) (0 : Int32).toNatClampNeg), r_2.2) else none else some (r_2.1, r_2.2)
abbrev rm_X10_source : Room := { frames := 5, cells := 0, slots := 0, locals := 114 }
set_option maxHeartbeats 4000000 in
set_option maxRecDepth 100000 in
theorem b_X10_source {p : Program} {l : Launch} {e : Env} {s : State} {m : MethodId} {args : Array Value} {below : List Frame} {meth : Method} {c : Code} {ls : Array Slot} {D : va_G} {ct : Nat → ClassId} {G : GT} (a : Nat → Nat) (fu : Nat) (o : Ob) (v1 : Int32) {r : Int32 × Ob} (hx : p.tables.exec = Jvm.exec) (hb : c.code = cX10_source) (hr : meth.sig.returnType = (some .int)) (hml : c.maxLocals = 3) (hown : s.vm.findClass RX10 = some m.cls) (htl : ∀ w ∈ wsL_law, w.before args s = true) (hlocks : meth.locks = false) (hK : va_K D vwCl (tyl ct) s) (hN : ∀ w ∈ NW, va_Nw w s) (hX : SX G s s.heap) (hP0 : va_P D vwCl (cs10 ct a o) s.heap) (hf : p_X10_source fu o v1 = some r) (hD0 : va_D (GE G) (cs10 ct a o))  (hl : lv_has ls 3 [(0, .ref (a 0)), (1, .int v1)]) : W p l e rm_X10_source s m args below meth c s.heap [] 0 0 (MQ below (Qwr (some (.int r.1)) (fun H => va_P D vwCl (cs10 ct a r.2) H) (wA (cs10 ct a o))) args s 0 0 (wA (cs10 ct a o))) (F0 m 0 ls []) := by
  generalize hQQ : MQ below (Qwr (some (.int r.1)) (fun H => va_P D vwCl (cs10 ct a r.2) H) (wA (cs10 ct a o))) args s 0 0 (wA (cs10 ct a o)) = QQ
  have hDx : ∀ (oy : Ob), va_D (GE G) (cs10 ct a oy) := fun oy => D_cr hD0 rfl
  have hDW : ∀ (oy : Ob), va_D (wA (cs10 ct a o)) (cs10 ct a oy) := fun oy => D_cr (D_self hD0) rfl
  have hGE : ∀ q, wA (cs10 ct a o) q → GE G q := wA_GE hD0
  have hP := hP0
  have hS : va_S (wA (cs10 ct a o)) s.heap s.heap [] := va_S.rf
  rw [p_X10_source] at hf
  refine lv_aload_n hx hb dX10_source_0 rfl (lv_at hl 0 rfl) ?_
  refine lv_iload_n hx hb dX10_source_1 rfl (lv_at hl 1 rfl) ?_
  obtain ⟨r_2, e_2, hf⟩ := ob_bind hf
  have hPX_2 : va_P D vwCl (cs10 ct a o) s.heap := hP
  refine wr_call1 (va_runV (As := [.int v1]) (rest := []) ⟨hx, hb, hml, hown, htl⟩ (c_X10_layPairs l D ct G a fu o v1 e_2 (hDx o)) (cw_X10_X10_layPairs htl ⟨Nat.le_of_ble_eq_true rfl, Nat.le_of_ble_eq_true rfl⟩) ⟨Bx_blind, va_recv hK hPX_2 (ci := 10) (q0 := 0) rfl rfl, Bx_pre hPX_2 hK hN (hX.stay hS hGE)⟩ rfl rfl hl.1 rfl (lv_room (Nat.le_of_ble_eq_true rfl)) dX10_source_2 ⟨Nat.zero_le _, Nat.zero_le _⟩) hS (wA_cg rfl) (fun H_2 locs_2 hB_2 _ hk_2 hS => ?_)
  have hP : va_P D vwCl (cs10 ct a r_2.2) H_2 := hB_2
  refine lv_istore_n (lv' := [(2, .int r_2.1), (0, .ref (a 0)), (1, .int v1)]) hx hb dX10_source_5 rfl hl (by decide) rfl (fun ls hl => ?_)
  refine lv_iload_n hx hb dX10_source_6 rfl (lv_at hl 0 rfl) ?_
  refine lv_if_ge (tgt := 12) hx hb dX10_source_7 (by decide) (fun c_7 => ?_) (fun c_7 => ?_)
  rotate_left 1
  · rw [if_neg c_7] at hf
    refine lv_iload_n hx hb dX10_source_10 rfl (lv_at hl 0 rfl) ?_
    rw [← hQQ]
    cases hf
    exact rw_i hx hb hr hlocks hP hS dX10_source_11
  rw [if_pos c_7] at hf
  refine lv_aload_n hx hb dX10_source_12 rfl (lv_at hl 1 rfl) ?_
  refine va_get (D := D) (ci := 10) (v := .int (r_2.2.1 32 0)) (C := RX10) (T := TX10) (N := 42) hx hb htl inlX10 hown hK hP 0 rfl rfl 32 (by decide) (htl _ wq_48_12) (fun _ h9 => h9) rfl dX10_source_13 ?_
  refine lv_if_ne (tgt := 23) hx hb dX10_source_16 (by decide) (fun c_16 => ?_) (fun c_16 => ?_)
  rotate_left 1
  · rw [if_pos c_16] at hf
    refine lv_iconst (v := (-1)) hx hb dX10_source_19 (by decide) ?_
    refine lv_goto (tgt := 29) hx hb dX10_source_20 (by decide) ?_
    rw [← hQQ]
    cases hf
    exact rw_i hx hb hr hlocks hP hS dX10_source_29
  rw [if_neg c_16] at hf
  refine lv_aload_n hx hb dX10_source_23 rfl (lv_at hl 1 rfl) ?_
  refine va_get (D := D) (ci := 10) (v := .ref (a 16)) (C := RX10) (T := TX10) (N := 42) hx hb htl inlX10 hown hK hP 0 rfl rfl 30 (by decide) (htl _ wq_7_18) (fun _ h9 => h9) rfl dX10_source_24 ?_
  refine lv_iconst (v := 0) hx hb dX10_source_27 (by decide) ?_
  obtain ⟨hi_28, hf⟩ := ob_in hf
  refine va_iald (D := D) (tys := tyl ct) hx hb hK hP 16 0 rfl rfl hi_28 dX10_source_28 ?_
  rw [← hQQ]
  cases hf
  exact rw_i hx hb hr hlocks hP hS dX10_source_29
theorem c_X10_source (l : Launch) (D : va_G) (ct : Nat → ClassId) (G : GT) (a : Nat → Nat) (fu : Nat) (o : Ob) (v1 : Int32) {r : Int32 × Ob} (hf : p_X10_source fu o v1 = some r)  (hD0 : va_D (GE G) (cs10 ct a o)) : Met l yX10_source (.code yX10_source cX10_source 3 (some .int) :: wsL_law) rm_X10_source (va_Pc [.ref (a 0), .int v1] (Bx D ct G (cs10 ct a o))) (Qwr (some (.int r.1)) (fun H => va_P D vwCl (cs10 ct a r.2) H) (wA (cs10 ct a o))) 0 0 (wA (cs10 ct a o)) := by
  refine Met.ofW (cc := cX10_source) (maxL := 3) (ret := (some .int)) (by decide) rfl ?_
  intro p e s m args below meth c s₁ B hml hv
  obtain ⟨rfl, hP, hK, hN, hX⟩ := hv
  have hts := atoms_spec (ws := .code yX10_source cX10_source 3 (some .int) :: wsL_law) B.pre
  rw [lg_entry_eq]
  exact b_X10_source a fu o v1 B.exec B.bytes B.returns hml (findClass_of_methodNamed B.named) (fun w h => hts w (List.mem_cons_of_mem _ h)) B.notSynchronized hK hN hX hP hf hD0  (lv_entry [.ref (a 0), .int v1] (n := 3) (Nat.le_of_ble_eq_true rfl))
def p_X10_askOf_L37 (fu : Nat) (c79 : Ob → Int32 → Int32 → Int32 → Int32 → Int32 → Option (Int32 × Ob)) : Nat → Ob → Int32 → Int32 → Int32 → Int32 → Int32 → Int32 → Option (Int32 × Ob)
  | 0, _, _, _, _, _, _, _ => none
  | n + 1, oz, v1, v2, v3, v4, v5, v6 =>
    if (oz.1 32 0) ≤ v6 then c79 oz v1 v2 v3 v4 v5 else if inb ((61 * v6) + v2) 37210 = true then if ((oz.1 31) ((61 * v6) + v2).toNatClampNeg) = v4 then p_X10_askOf_L37 fu c79 n oz v1 v2 v3 v4 (v5 + 1) (v6 + 1) else p_X10_askOf_L37 fu c79 n oz v1 v2 v3 v4 (v5 + 0) (v6 + 1) else none
def p_X10_askOf_L24 (fu : Nat) (c92 : Ob → Int32 → Int32 → Int32 → Option (Int32 × Ob)) : Nat → Ob → Int32 → Int32 → Int32 → Int32 → Option (Int32 × Ob)
  | 0, _, _, _, _, _ => none
  | n + 1, oz, v1, v2, v3, v4 =>
    if (10 : Int32) ≤ v4 then c92 oz v1 v2 v3 else p_X10_askOf_L37 fu (fun oz v1 v2 v3 v4 v5 => p_X10_askOf_L24 fu c92 n oz v1 v2 (if v3 < v5 then v5 else v3) (v4 + 1)) fu oz v1 v2 v3 v4 0 0
def p_X10_askOf_L12 (fu : Nat)  : Nat → Ob → Int32 → Int32 → Option (Int32 × Ob)
  | 0, _, _, _ => none
  | n + 1, oz, v1, v2 =>
    if (60 : Int32) < v2 then some (v1, oz) else p_X10_askOf_L24 fu (fun oz v1 v2 v3 => if v3 < (oz.1 33 0) then p_X10_askOf_L12 fu  n (oI oz 33 v3) v2 (v2 + 1) else p_X10_askOf_L12 fu  n oz v1 (v2 + 1)) fu oz v1 v2 0 (-4)
def p_X10_askOf (fu : Nat) (o : Ob) : Option (Int32 × Ob) :=
  p_X10_askOf_L12 fu fu (oI o 33 (o.1 32 0)) (-1) 0
abbrev rm_X10_askOf : Room := { frames := 1, cells := 0, slots := 0, locals := 13 }
set_option maxHeartbeats 4000000 in
set_option maxRecDepth 100000 in
theorem b_X10_askOf {p : Program} {l : Launch} {e : Env} {s : State} {m : MethodId} {args : Array Value} {below : List Frame} {meth : Method} {c : Code} {ls : Array Slot} {D : va_G} {ct : Nat → ClassId} {G : GT} (a : Nat → Nat) (fu : Nat) (o : Ob) {r : Int32 × Ob} (hx : p.tables.exec = Jvm.exec) (hb : c.code = cX10_askOf) (hr : meth.sig.returnType = (some .int)) (hml : c.maxLocals = 7) (hown : s.vm.findClass RX10 = some m.cls) (htl : ∀ w ∈ wsL_law, w.before args s = true) (hlocks : meth.locks = false) (hK : va_K D vwCl (tyl ct) s) (hN : ∀ w ∈ NW, va_Nw w s) (hX : SX G s s.heap) (hP0 : va_P D vwCl (cs10 ct a o) s.heap) (hf : p_X10_askOf fu o = some r) (hD0 : va_D (GE G) (cs10 ct a o))  (hl : lv_has ls 7 [(0, .ref (a 0))]) : W p l e rm_X10_askOf s m args below meth c s.heap [] 0 0 (MQ below (Qwr (some (.int r.1)) (fun H => va_P D vwCl (cs10 ct a r.2) H) (wA (cs10 ct a o))) args s 0 0 (wA (cs10 ct a o))) (F0 m 0 ls []) := by
  generalize hQQ : MQ below (Qwr (some (.int r.1)) (fun H => va_P D vwCl (cs10 ct a r.2) H) (wA (cs10 ct a o))) args s 0 0 (wA (cs10 ct a o)) = QQ
  have hDx : ∀ (oy : Ob), va_D (GE G) (cs10 ct a oy) := fun oy => D_cr hD0 rfl
  have hDW : ∀ (oy : Ob), va_D (wA (cs10 ct a o)) (cs10 ct a oy) := fun oy => D_cr (D_self hD0) rfl
  have hGE : ∀ q, wA (cs10 ct a o) q → GE G q := wA_GE hD0
  have hP := hP0
  have hS : va_S (wA (cs10 ct a o)) s.heap s.heap [] := va_S.rf
  have hL37 : ∀ (c79 : Ob → Int32 → Int32 → Int32 → Int32 → Int32 → Option (Int32 × Ob)) (n : Nat) (oz : Ob) (v1 : Int32) (v2 : Int32) (v3 : Int32) (v4 : Int32) (v5 : Int32) (v6 : Int32), ∀ (H : Heap) (locs : List Loc) (ls : Array Slot), va_P D vwCl (cs10 ct a oz) H → va_S (wA (cs10 ct a o)) s.heap H locs → lv_has ls 7 [(0, .ref (a 0)), (1, .int v1), (2, .int v2), (3, .int v3), (4, .int v4), (5, .int v5), (6, .int v6)] → p_X10_askOf_L37 fu c79 n oz v1 v2 v3 v4 v5 v6 = some r → (∀ (oz : Ob) (v1 : Int32) (v2 : Int32) (v3 : Int32) (v4 : Int32) (v5 : Int32), ∀ (H : Heap) (locs : List Loc) (ls : Array Slot), va_P D vwCl (cs10 ct a oz) H → va_S (wA (cs10 ct a o)) s.heap H locs → lv_has ls 7 [(0, .ref (a 0)), (1, .int v1), (2, .int v2), (3, .int v3), (4, .int v4), (5, .int v5)] → c79 oz v1 v2 v3 v4 v5 = some r → W p l e rm_X10_askOf s m args below meth c H locs 0 0 QQ (F0 m 79 ls [])) → W p l e rm_X10_askOf s m args below meth c H locs 0 0 QQ (F0 m 37 ls []) := by
    intro c79 n
    induction n with
    | zero =>
      intro oz v1 v2 v3 v4 v5 v6 H locs ls hP hS hl hf k79
      rw [p_X10_askOf_L37] at hf
      cases hf
    | succ n ih =>
      intro oz v1 v2 v3 v4 v5 v6 H locs ls hP hS hl hf k79
      rw [p_X10_askOf_L37] at hf
      refine lv_iload hx hb dX10_askOf_37 (lv_at hl 6 rfl) ?_
      refine lv_aload_n hx hb dX10_askOf_39 rfl (lv_at hl 0 rfl) ?_
      refine va_get (D := D) (ci := 10) (v := .int (oz.1 32 0)) (C := RX10) (T := TX10) (N := 42) hx hb htl inlX10 hown hK hP 0 rfl rfl 32 (by decide) (htl _ wq_48_12) (fun _ h9 => h9) rfl dX10_askOf_40 ?_
      refine lv_icmp_ge (tgt := 79) hx hb dX10_askOf_43 (by decide) (fun c_43 => ?_) (fun c_43 => ?_)
      · rw [if_pos c_43] at hf
        exact k79 oz v1 v2 v3 v4 v5 _ _ _ hP hS (lv_sub hl [0, 1, 2, 3, 4, 5] rfl) hf
      rw [if_neg c_43] at hf
      refine lv_iload hx hb dX10_askOf_46 (lv_at hl 5 rfl) ?_
      refine lv_aload_n hx hb dX10_askOf_48 rfl (lv_at hl 0 rfl) ?_
      refine va_get (D := D) (ci := 10) (v := .ref (a 17)) (C := RX10) (T := TX10) (N := 42) hx hb htl inlX10 hown hK hP 0 rfl rfl 31 (by decide) (htl _ wq_7_20) (fun _ h9 => h9) rfl dX10_askOf_49 ?_
      refine lv_bipush (v := 61) hx hb dX10_askOf_52 (by decide) ?_
      refine lv_iload hx hb dX10_askOf_54 (lv_at hl 6 rfl) ?_
      refine lv_imul hx hb dX10_askOf_56 ?_
      refine lv_iload_n hx hb dX10_askOf_57 rfl (lv_at hl 2 rfl) ?_
      refine lv_iadd hx hb dX10_askOf_58 ?_
      obtain ⟨hi_59, hf⟩ := ob_in hf
      refine va_bald (D := D) (tys := tyl ct) hx hb hK hP 17 2 rfl rfl hi_59 dX10_askOf_59 ?_
      refine lv_iload hx hb dX10_askOf_60 (lv_at hl 4 rfl) ?_
      refine lv_icmp_ne (tgt := 69) hx hb dX10_askOf_62 (by decide) (fun c_62 => ?_) (fun c_62 => ?_)
      · rw [if_neg c_62] at hf
        refine lv_iconst (v := 0) hx hb dX10_askOf_69 (by decide) ?_
        refine lv_iadd hx hb dX10_askOf_70 ?_
        refine lv_istore (lv' := [(5, .int (v5 + 0)), (0, .ref (a 0)), (1, .int v1), (2, .int v2), (3, .int v3), (4, .int v4), (6, .int v6)]) hx hb dX10_askOf_71 hl (by decide) rfl (fun ls hl => ?_)
        refine lv_iinc (v := (v6 + 1)) (lv' := [(6, .int (v6 + 1)), (5, .int (v5 + 0)), (0, .ref (a 0)), (1, .int v1), (2, .int v2), (3, .int v3), (4, .int v4)]) hx hb dX10_askOf_73 hl (k := 6) rfl rfl (by decide) rfl (fun ls hl => ?_)
        refine lv_goto (tgt := 37) hx hb dX10_askOf_76 (by decide) ?_
        exact ih oz v1 v2 v3 v4 (v5 + 0) (v6 + 1) _ _ _ hP hS (lv_sub hl [2, 3, 4, 5, 6, 1, 0] rfl) hf k79
      rw [if_pos c_62] at hf
      refine lv_iconst (v := 1) hx hb dX10_askOf_65 (by decide) ?_
      refine lv_goto (tgt := 70) hx hb dX10_askOf_66 (by decide) ?_
      refine lv_iadd hx hb dX10_askOf_70 ?_
      refine lv_istore (lv' := [(5, .int (v5 + 1)), (0, .ref (a 0)), (1, .int v1), (2, .int v2), (3, .int v3), (4, .int v4), (6, .int v6)]) hx hb dX10_askOf_71 hl (by decide) rfl (fun ls hl => ?_)
      refine lv_iinc (v := (v6 + 1)) (lv' := [(6, .int (v6 + 1)), (5, .int (v5 + 1)), (0, .ref (a 0)), (1, .int v1), (2, .int v2), (3, .int v3), (4, .int v4)]) hx hb dX10_askOf_73 hl (k := 6) rfl rfl (by decide) rfl (fun ls hl => ?_)
      refine lv_goto (tgt := 37) hx hb dX10_askOf_76 (by decide) ?_
      exact ih oz v1 v2 v3 v4 (v5 + 1) (v6 + 1) _ _ _ hP hS (lv_sub hl [2, 3, 4, 5, 6, 1, 0] rfl) hf k79
  have hL24 : ∀ (c92 : Ob → Int32 → Int32 → Int32 → Option (Int32 × Ob)) (n : Nat) (oz : Ob) (v1 : Int32) (v2 : Int32) (v3 : Int32) (v4 : Int32), ∀ (H : Heap) (locs : List Loc) (ls : Array Slot), va_P D vwCl (cs10 ct a oz) H → va_S (wA (cs10 ct a o)) s.heap H locs → lv_has ls 7 [(0, .ref (a 0)), (1, .int v1), (2, .int v2), (3, .int v3), (4, .int v4)] → p_X10_askOf_L24 fu c92 n oz v1 v2 v3 v4 = some r → (∀ (oz : Ob) (v1 : Int32) (v2 : Int32) (v3 : Int32), ∀ (H : Heap) (locs : List Loc) (ls : Array Slot), va_P D vwCl (cs10 ct a oz) H → va_S (wA (cs10 ct a o)) s.heap H locs → lv_has ls 7 [(0, .ref (a 0)), (1, .int v1), (2, .int v2), (3, .int v3)] → c92 oz v1 v2 v3 = some r → W p l e rm_X10_askOf s m args below meth c H locs 0 0 QQ (F0 m 92 ls [])) → W p l e rm_X10_askOf s m args below meth c H locs 0 0 QQ (F0 m 24 ls []) := by
    intro c92 n
    induction n with
    | zero =>
      intro oz v1 v2 v3 v4 H locs ls hP hS hl hf k92
      rw [p_X10_askOf_L24] at hf
      cases hf
    | succ n ih =>
      intro oz v1 v2 v3 v4 H locs ls hP hS hl hf k92
      rw [p_X10_askOf_L24] at hf
      refine lv_iload hx hb dX10_askOf_24 (lv_at hl 4 rfl) ?_
      refine lv_bipush (v := 10) hx hb dX10_askOf_26 (by decide) ?_
      refine lv_icmp_ge (tgt := 92) hx hb dX10_askOf_28 (by decide) (fun c_28 => ?_) (fun c_28 => ?_)
      · rw [if_pos c_28] at hf
        exact k92 oz v1 v2 v3 _ _ _ hP hS (lv_sub hl [0, 1, 2, 3] rfl) hf
      rw [if_neg c_28] at hf
      refine lv_iconst (v := 0) hx hb dX10_askOf_31 (by decide) ?_
      refine lv_istore (lv' := [(5, .int 0), (0, .ref (a 0)), (1, .int v1), (2, .int v2), (3, .int v3), (4, .int v4)]) hx hb dX10_askOf_32 hl (by decide) rfl (fun ls hl => ?_)
      refine lv_iconst (v := 0) hx hb dX10_askOf_34 (by decide) ?_
      refine lv_istore (lv' := [(6, .int 0), (5, .int 0), (0, .ref (a 0)), (1, .int v1), (2, .int v2), (3, .int v3), (4, .int v4)]) hx hb dX10_askOf_35 hl (by decide) rfl (fun ls hl => ?_)
      refine hL37 _ fu oz v1 v2 v3 v4 0 0 _ _ _ hP hS (lv_sub hl [2, 3, 4, 5, 6, 1, 0] rfl) hf (fun oz v1 v2 v3 v4 v5 H locs ls hP hS hl hf => ?_)
      refine lv_iload_n hx hb dX10_askOf_79 rfl (lv_at hl 3 rfl) ?_
      refine lv_iload hx hb dX10_askOf_80 (lv_at hl 5 rfl) ?_
      refine va_mmax hx hb (hml.trans hl.1.symm) hown (htl _ wq_23_7) (htl _ wq_15_21) (htl _ wq_12_23) (htl _ wq_15_22) (Nat.le_of_ble_eq_true rfl) (Nat.le_of_ble_eq_true rfl) (Nat.zero_le _) (Nat.zero_le _) dX10_askOf_82 ?_
      refine lv_istore_n (lv' := [(3, .int (if v3 < v5 then v5 else v3)), (0, .ref (a 0)), (1, .int v1), (2, .int v2), (4, .int v4), (5, .int v5)]) hx hb dX10_askOf_85 rfl hl (by decide) rfl (fun ls hl => ?_)
      refine lv_iinc (v := (v4 + 1)) (lv' := [(4, .int (v4 + 1)), (3, .int (if v3 < v5 then v5 else v3)), (0, .ref (a 0)), (1, .int v1), (2, .int v2), (5, .int v5)]) hx hb dX10_askOf_86 hl (k := 4) rfl rfl (by decide) rfl (fun ls hl => ?_)
      refine lv_goto (tgt := 24) hx hb dX10_askOf_89 (by decide) ?_
      exact ih oz v1 v2 (if v3 < v5 then v5 else v3) (v4 + 1) _ _ _ hP hS (lv_sub hl [2, 3, 4, 1, 0] rfl) hf k92
  have hL12 : ∀ (n : Nat) (oz : Ob) (v1 : Int32) (v2 : Int32), ∀ (H : Heap) (locs : List Loc) (ls : Array Slot), va_P D vwCl (cs10 ct a oz) H → va_S (wA (cs10 ct a o)) s.heap H locs → lv_has ls 7 [(0, .ref (a 0)), (1, .int v1), (2, .int v2)] → p_X10_askOf_L12 fu  n oz v1 v2 = some r → W p l e rm_X10_askOf s m args below meth c H locs 0 0 QQ (F0 m 12 ls []) := by
    intro  n
    induction n with
    | zero =>
      intro oz v1 v2 H locs ls hP hS hl hf 
      rw [p_X10_askOf_L12] at hf
      cases hf
    | succ n ih =>
      intro oz v1 v2 H locs ls hP hS hl hf 
      rw [p_X10_askOf_L12] at hf
      refine lv_iload_n hx hb dX10_askOf_12 rfl (lv_at hl 2 rfl) ?_
      refine lv_bipush (v := 60) hx hb dX10_askOf_13 (by decide) ?_
      refine lv_icmp_gt (tgt := 116) hx hb dX10_askOf_15 (by decide) (fun c_15 => ?_) (fun c_15 => ?_)
      · rw [if_pos c_15] at hf
        refine lv_iload_n hx hb dX10_askOf_116 rfl (lv_at hl 1 rfl) ?_
        rw [← hQQ]
        cases hf
        exact rw_i hx hb hr hlocks hP hS dX10_askOf_117
      rw [if_neg c_15] at hf
      refine lv_iconst (v := 0) hx hb dX10_askOf_18 (by decide) ?_
      refine lv_istore_n (lv' := [(3, .int 0), (0, .ref (a 0)), (1, .int v1), (2, .int v2)]) hx hb dX10_askOf_19 rfl hl (by decide) rfl (fun ls hl => ?_)
      refine lv_bipush (v := (-4)) hx hb dX10_askOf_20 (by decide) ?_
      refine lv_istore (lv' := [(4, .int (-4)), (3, .int 0), (0, .ref (a 0)), (1, .int v1), (2, .int v2)]) hx hb dX10_askOf_22 hl (by decide) rfl (fun ls hl => ?_)
      refine hL24 _ fu oz v1 v2 0 (-4) _ _ _ hP hS (lv_sub hl [2, 3, 4, 1, 0] rfl) hf (fun oz v1 v2 v3 H locs ls hP hS hl hf => ?_)
      refine lv_iload_n hx hb dX10_askOf_92 rfl (lv_at hl 3 rfl) ?_
      refine lv_aload_n hx hb dX10_askOf_93 rfl (lv_at hl 0 rfl) ?_
      refine va_get (D := D) (ci := 10) (v := .int (oz.1 33 0)) (C := RX10) (T := TX10) (N := 42) hx hb htl inlX10 hown hK hP 0 rfl rfl 33 (by decide) (htl _ wq_50_20) (fun _ h9 => h9) rfl dX10_askOf_94 ?_
      refine lv_icmp_lt (tgt := 103) hx hb dX10_askOf_97 (by decide) (fun c_97 => ?_) (fun c_97 => ?_)
      rotate_left 1
      · rw [if_neg c_97] at hf
        refine lv_goto (tgt := 110) hx hb dX10_askOf_100 (by decide) ?_
        refine lv_iinc (v := (v2 + 1)) (lv' := [(2, .int (v2 + 1)), (0, .ref (a 0)), (1, .int v1), (3, .int v3)]) hx hb dX10_askOf_110 hl (k := 2) rfl rfl (by decide) rfl (fun ls hl => ?_)
        refine lv_goto (tgt := 12) hx hb dX10_askOf_113 (by decide) ?_
        exact ih oz v1 (v2 + 1) _ _ _ hP hS (lv_sub hl [1, 2, 0] rfl) hf 
      rw [if_pos c_97] at hf
      refine lv_aload_n hx hb dX10_askOf_103 rfl (lv_at hl 0 rfl) ?_
      refine lv_iload_n hx hb dX10_askOf_104 rfl (lv_at hl 3 rfl) ?_
      refine va_put (D := D) (ci := 10) (v := .int v3) (ty := .int) (C := RX10) (T := TX10) (N := 42) hx hb htl inlX10 tyX10 tyX10_ok nmX10 hown hK hP (hDW oz) hS 0 rfl rfl 33 (by decide) (htl _ wq_50_20) (fun _ h9 => h9) rfl (tyX10_ok 33 (by decide)) rfl rfl (Nat.le_of_ble_eq_true rfl) dX10_askOf_105 (fun H_105 locs_105 hP _ hS => ?_)
      have hP : va_P D vwCl (cs10 ct a (oI oz 33 v3)) H_105 := st10_33 hP
      refine lv_iload_n hx hb dX10_askOf_108 rfl (lv_at hl 2 rfl) ?_
      refine lv_istore_n (lv' := [(1, .int v2), (0, .ref (a 0)), (2, .int v2), (3, .int v3)]) hx hb dX10_askOf_109 rfl hl (by decide) rfl (fun ls hl => ?_)
      refine lv_iinc (v := (v2 + 1)) (lv' := [(2, .int (v2 + 1)), (1, .int v2), (0, .ref (a 0)), (3, .int v3)]) hx hb dX10_askOf_110 hl (k := 2) rfl rfl (by decide) rfl (fun ls hl => ?_)
      refine lv_goto (tgt := 12) hx hb dX10_askOf_113 (by decide) ?_
      exact ih (oI oz 33 v3) v2 (v2 + 1) _ _ _ hP hS (lv_sub hl [2, 1, 0] rfl) hf 
  rw [p_X10_askOf] at hf
  refine lv_aload_n hx hb dX10_askOf_0 rfl (lv_at hl 0 rfl) ?_
  refine lv_aload_n hx hb dX10_askOf_1 rfl (lv_at hl 0 rfl) ?_
  refine va_get (D := D) (ci := 10) (v := .int (o.1 32 0)) (C := RX10) (T := TX10) (N := 42) hx hb htl inlX10 hown hK hP 0 rfl rfl 32 (by decide) (htl _ wq_48_12) (fun _ h9 => h9) rfl dX10_askOf_2 ?_
  refine va_put (D := D) (ci := 10) (v := .int (o.1 32 0)) (ty := .int) (C := RX10) (T := TX10) (N := 42) hx hb htl inlX10 tyX10 tyX10_ok nmX10 hown hK hP (hDW o) hS 0 rfl rfl 33 (by decide) (htl _ wq_50_20) (fun _ h9 => h9) rfl (tyX10_ok 33 (by decide)) rfl rfl (Nat.le_of_ble_eq_true rfl) dX10_askOf_5 (fun H_5 locs_5 hP _ hS => ?_)
  have hP : va_P D vwCl (cs10 ct a (oI o 33 (o.1 32 0))) H_5 := st10_33 hP
  refine lv_iconst (v := (-1)) hx hb dX10_askOf_8 (by decide) ?_
  refine lv_istore_n (lv' := [(1, .int (-1)), (0, .ref (a 0))]) hx hb dX10_askOf_9 rfl hl (by decide) rfl (fun ls hl => ?_)
  refine lv_iconst (v := 0) hx hb dX10_askOf_10 (by decide) ?_
  refine lv_istore_n (lv' := [(2, .int 0), (1, .int (-1)), (0, .ref (a 0))]) hx hb dX10_askOf_11 rfl hl (by decide) rfl (fun ls hl => ?_)
  exact hL12 fu (oI o 33 (o.1 32 0)) (-1) 0 _ _ _ hP hS (lv_sub hl [2, 1, 0] rfl) hf 
theorem c_X10_askOf (l : Launch) (D : va_G) (ct : Nat → ClassId) (G : GT) (a : Nat → Nat) (fu : Nat) (o : Ob) {r : Int32 × Ob} (hf : p_X10_askOf fu o = some r)  (hD0 : va_D (GE G) (cs10 ct a o)) : Met l yX10_askOf (.code yX10_askOf cX10_askOf 7 (some .int) :: wsL_law) rm_X10_askOf (va_Pc [.ref (a 0)] (Bx D ct G (cs10 ct a o))) (Qwr (some (.int r.1)) (fun H => va_P D vwCl (cs10 ct a r.2) H) (wA (cs10 ct a o))) 0 0 (wA (cs10 ct a o)) := by
  refine Met.ofW (cc := cX10_askOf) (maxL := 7) (ret := (some .int)) (by decide) rfl ?_
  intro p e s m args below meth c s₁ B hml hv
  obtain ⟨rfl, hP, hK, hN, hX⟩ := hv
  have hts := atoms_spec (ws := .code yX10_askOf cX10_askOf 7 (some .int) :: wsL_law) B.pre
  rw [lg_entry_eq]
  exact b_X10_askOf a fu o B.exec B.bytes B.returns hml (findClass_of_methodNamed B.named) (fun w h => hts w (List.mem_cons_of_mem _ h)) B.notSynchronized hK hN hX hP hf hD0  (lv_entry [.ref (a 0)] (n := 7) (Nat.le_of_ble_eq_true rfl))
theorem hd_X10_askOf : yX10_askOf.cls ≠ "java/lang/invoke/MethodHandle" ∧ yX10_askOf.cls ≠ "java/lang/invoke/VarHandle" ∧ (parseMethodDescriptor yX10_askOf.desc).map (fun d => d.parameters.length) = some 0 := by decide +kernel
theorem cw_X10_X10_askOf {R : Room} {s : State} {args : Array Value} (ht : ∀ w ∈ wsL_law, w.before args s = true) (hR : rm_X10_askOf.frames + 1 ≤ R.frames ∧ 8 + (7 + 11) + rm_X10_askOf.locals ≤ R.locals) : CallW R s args RX10 RX10 339 yX10_askOf cX10_askOf 7 (some .int) ((.code yX10_askOf cX10_askOf 7 (some .int)) :: wsL_law) rm_X10_askOf 0 0 0 := cwV 0 ht (GV wq_50_16 wq_50_17 wq_50_18 wq_1_5 wq_50_19) rfl rfl rfl ⟨rfl, hd_X10_askOf⟩ hR
def p_X10_ask (fu : Nat) (o : Ob) (v1 : Int32) : Option (Int32 × Ob) :=
  (p_X10_layPairs fu o v1).bind fun r_2 => if (0 : Int32) ≤ r_2.1 then (p_X10_askOf fu r_2.2).bind fun r_15 => some (r_15.1, r_15.2) else some (r_2.1, r_2.2)
abbrev rm_X10_ask : Room := { frames := 5, cells := 0, slots := 0, locals := 114 }
set_option maxHeartbeats 4000000 in
set_option maxRecDepth 100000 in
theorem b_X10_ask {p : Program} {l : Launch} {e : Env} {s : State} {m : MethodId} {args : Array Value} {below : List Frame} {meth : Method} {c : Code} {ls : Array Slot} {D : va_G} {ct : Nat → ClassId} {G : GT} (a : Nat → Nat) (fu : Nat) (o : Ob) (v1 : Int32) {r : Int32 × Ob} (hx : p.tables.exec = Jvm.exec) (hb : c.code = cX10_ask) (hr : meth.sig.returnType = (some .int)) (hml : c.maxLocals = 3) (hown : s.vm.findClass RX10 = some m.cls) (htl : ∀ w ∈ wsL_law, w.before args s = true) (hlocks : meth.locks = false) (hK : va_K D vwCl (tyl ct) s) (hN : ∀ w ∈ NW, va_Nw w s) (hX : SX G s s.heap) (hP0 : va_P D vwCl (cs10 ct a o) s.heap) (hf : p_X10_ask fu o v1 = some r) (hD0 : va_D (GE G) (cs10 ct a o))  (hl : lv_has ls 3 [(0, .ref (a 0)), (1, .int v1)]) : W p l e rm_X10_ask s m args below meth c s.heap [] 0 0 (MQ below (Qwr (some (.int r.1)) (fun H => va_P D vwCl (cs10 ct a r.2) H) (wA (cs10 ct a o))) args s 0 0 (wA (cs10 ct a o))) (F0 m 0 ls []) := by
  generalize hQQ : MQ below (Qwr (some (.int r.1)) (fun H => va_P D vwCl (cs10 ct a r.2) H) (wA (cs10 ct a o))) args s 0 0 (wA (cs10 ct a o)) = QQ
  have hDx : ∀ (oy : Ob), va_D (GE G) (cs10 ct a oy) := fun oy => D_cr hD0 rfl
  have hDW : ∀ (oy : Ob), va_D (wA (cs10 ct a o)) (cs10 ct a oy) := fun oy => D_cr (D_self hD0) rfl
  have hGE : ∀ q, wA (cs10 ct a o) q → GE G q := wA_GE hD0
  have hP := hP0
  have hS : va_S (wA (cs10 ct a o)) s.heap s.heap [] := va_S.rf
  rw [p_X10_ask] at hf
  refine lv_aload_n hx hb dX10_ask_0 rfl (lv_at hl 0 rfl) ?_
  refine lv_iload_n hx hb dX10_ask_1 rfl (lv_at hl 1 rfl) ?_
  obtain ⟨r_2, e_2, hf⟩ := ob_bind hf
  have hPX_2 : va_P D vwCl (cs10 ct a o) s.heap := hP
  refine wr_call1 (va_runV (As := [.int v1]) (rest := []) ⟨hx, hb, hml, hown, htl⟩ (c_X10_layPairs l D ct G a fu o v1 e_2 (hDx o)) (cw_X10_X10_layPairs htl ⟨Nat.le_of_ble_eq_true rfl, Nat.le_of_ble_eq_true rfl⟩) ⟨Bx_blind, va_recv hK hPX_2 (ci := 10) (q0 := 0) rfl rfl, Bx_pre hPX_2 hK hN (hX.stay hS hGE)⟩ rfl rfl hl.1 rfl (lv_room (Nat.le_of_ble_eq_true rfl)) dX10_ask_2 ⟨Nat.zero_le _, Nat.zero_le _⟩) hS (wA_cg rfl) (fun H_2 locs_2 hB_2 _ hk_2 hS => ?_)
  have hP : va_P D vwCl (cs10 ct a r_2.2) H_2 := hB_2
  refine lv_istore_n (lv' := [(2, .int r_2.1), (0, .ref (a 0)), (1, .int v1)]) hx hb dX10_ask_5 rfl hl (by decide) rfl (fun ls hl => ?_)
  refine lv_iload_n hx hb dX10_ask_6 rfl (lv_at hl 0 rfl) ?_
  refine lv_if_ge (tgt := 14) hx hb dX10_ask_7 (by decide) (fun c_7 => ?_) (fun c_7 => ?_)
  rotate_left 1
  · rw [if_neg c_7] at hf
    refine lv_iload_n hx hb dX10_ask_10 rfl (lv_at hl 0 rfl) ?_
    refine lv_goto (tgt := 18) hx hb dX10_ask_11 (by decide) ?_
    rw [← hQQ]
    cases hf
    exact rw_i hx hb hr hlocks hP hS dX10_ask_18
  rw [if_pos c_7] at hf
  refine lv_aload_n hx hb dX10_ask_14 rfl (lv_at hl 1 rfl) ?_
  obtain ⟨r_15, e_15, hf⟩ := ob_bind hf
  have hPX_15 : va_P D vwCl (cs10 ct a r_2.2) H_2 := hP
  refine wr_call1 (va_runV (As := []) (rest := []) ⟨hx, hb, hml, hown, htl⟩ (c_X10_askOf l D ct G a fu r_2.2 e_15 (hDx r_2.2)) (cw_X10_X10_askOf htl ⟨Nat.le_of_ble_eq_true rfl, Nat.le_of_ble_eq_true rfl⟩) ⟨Bx_blind, va_recv hK hPX_15 (ci := 10) (q0 := 0) rfl rfl, Bx_pre hPX_15 hK hN (hX.stay hS hGE)⟩ rfl rfl hl.1 rfl (lv_room (Nat.le_of_ble_eq_true rfl)) dX10_ask_15 ⟨Nat.zero_le _, Nat.zero_le _⟩) hS (wA_cg rfl) (fun H_15 locs_15 hB_15 _ hk_15 hS => ?_)
  have hP : va_P D vwCl (cs10 ct a r_15.2) H_15 := hB_15
  rw [← hQQ]
  cases hf
  exact rw_i hx hb hr hlocks hP hS dX10_ask_18
theorem c_X10_ask (l : Launch) (D : va_G) (ct : Nat → ClassId) (G : GT) (a : Nat → Nat) (fu : Nat) (o : Ob) (v1 : Int32) {r : Int32 × Ob} (hf : p_X10_ask fu o v1 = some r)  (hD0 : va_D (GE G) (cs10 ct a o)) : Met l yX10_ask (.code yX10_ask cX10_ask 3 (some .int) :: wsL_law) rm_X10_ask (va_Pc [.ref (a 0), .int v1] (Bx D ct G (cs10 ct a o))) (Qwr (some (.int r.1)) (fun H => va_P D vwCl (cs10 ct a r.2) H) (wA (cs10 ct a o))) 0 0 (wA (cs10 ct a o)) := by
  refine Met.ofW (cc := cX10_ask) (maxL := 3) (ret := (some .int)) (by decide) rfl ?_
  intro p e s m args below meth c s₁ B hml hv
  obtain ⟨rfl, hP, hK, hN, hX⟩ := hv
  have hts := atoms_spec (ws := .code yX10_ask cX10_ask 3 (some .int) :: wsL_law) B.pre
  rw [lg_entry_eq]
  exact b_X10_ask a fu o v1 B.exec B.bytes B.returns hml (findClass_of_methodNamed B.named) (fun w h => hts w (List.mem_cons_of_mem _ h)) B.notSynchronized hK hN hX hP hf hD0  (lv_entry [.ref (a 0), .int v1] (n := 3) (Nat.le_of_ble_eq_true rfl))
def p_X10_doubts (fu : Nat) (o : Ob) (v1 : Int32) : Option (Int32 × Ob) :=
  (p_X10_layPairs fu o v1).bind fun r_2 => if (0 : Int32) ≤ r_2.1 then (p_X10_askOf fu r_2.2).bind fun r_13 => some ((r_13.2.1 33 0), r_13.2) else some (r_2.1, r_2.2)
abbrev rm_X10_doubts : Room := { frames := 5, cells := 0, slots := 0, locals := 114 }
set_option maxHeartbeats 4000000 in
set_option maxRecDepth 100000 in
theorem b_X10_doubts {p : Program} {l : Launch} {e : Env} {s : State} {m : MethodId} {args : Array Value} {below : List Frame} {meth : Method} {c : Code} {ls : Array Slot} {D : va_G} {ct : Nat → ClassId} {G : GT} (a : Nat → Nat) (fu : Nat) (o : Ob) (v1 : Int32) {r : Int32 × Ob} (hx : p.tables.exec = Jvm.exec) (hb : c.code = cX10_doubts) (hr : meth.sig.returnType = (some .int)) (hml : c.maxLocals = 3) (hown : s.vm.findClass RX10 = some m.cls) (htl : ∀ w ∈ wsL_law, w.before args s = true) (hlocks : meth.locks = false) (hK : va_K D vwCl (tyl ct) s) (hN : ∀ w ∈ NW, va_Nw w s) (hX : SX G s s.heap) (hP0 : va_P D vwCl (cs10 ct a o) s.heap) (hf : p_X10_doubts fu o v1 = some r) (hD0 : va_D (GE G) (cs10 ct a o))  (hl : lv_has ls 3 [(0, .ref (a 0)), (1, .int v1)]) : W p l e rm_X10_doubts s m args below meth c s.heap [] 0 0 (MQ below (Qwr (some (.int r.1)) (fun H => va_P D vwCl (cs10 ct a r.2) H) (wA (cs10 ct a o))) args s 0 0 (wA (cs10 ct a o))) (F0 m 0 ls []) := by
  generalize hQQ : MQ below (Qwr (some (.int r.1)) (fun H => va_P D vwCl (cs10 ct a r.2) H) (wA (cs10 ct a o))) args s 0 0 (wA (cs10 ct a o)) = QQ
  have hDx : ∀ (oy : Ob), va_D (GE G) (cs10 ct a oy) := fun oy => D_cr hD0 rfl
  have hDW : ∀ (oy : Ob), va_D (wA (cs10 ct a o)) (cs10 ct a oy) := fun oy => D_cr (D_self hD0) rfl
  have hGE : ∀ q, wA (cs10 ct a o) q → GE G q := wA_GE hD0
  have hP := hP0
  have hS : va_S (wA (cs10 ct a o)) s.heap s.heap [] := va_S.rf
  rw [p_X10_doubts] at hf
  refine lv_aload_n hx hb dX10_doubts_0 rfl (lv_at hl 0 rfl) ?_
  refine lv_iload_n hx hb dX10_doubts_1 rfl (lv_at hl 1 rfl) ?_
  obtain ⟨r_2, e_2, hf⟩ := ob_bind hf
  have hPX_2 : va_P D vwCl (cs10 ct a o) s.heap := hP
  refine wr_call1 (va_runV (As := [.int v1]) (rest := []) ⟨hx, hb, hml, hown, htl⟩ (c_X10_layPairs l D ct G a fu o v1 e_2 (hDx o)) (cw_X10_X10_layPairs htl ⟨Nat.le_of_ble_eq_true rfl, Nat.le_of_ble_eq_true rfl⟩) ⟨Bx_blind, va_recv hK hPX_2 (ci := 10) (q0 := 0) rfl rfl, Bx_pre hPX_2 hK hN (hX.stay hS hGE)⟩ rfl rfl hl.1 rfl (lv_room (Nat.le_of_ble_eq_true rfl)) dX10_doubts_2 ⟨Nat.zero_le _, Nat.zero_le _⟩) hS (wA_cg rfl) (fun H_2 locs_2 hB_2 _ hk_2 hS => ?_)
  have hP : va_P D vwCl (cs10 ct a r_2.2) H_2 := hB_2
  refine lv_istore_n (lv' := [(2, .int r_2.1), (0, .ref (a 0)), (1, .int v1)]) hx hb dX10_doubts_5 rfl hl (by decide) rfl (fun ls hl => ?_)
  refine lv_iload_n hx hb dX10_doubts_6 rfl (lv_at hl 0 rfl) ?_
  refine lv_if_ge (tgt := 12) hx hb dX10_doubts_7 (by decide) (fun c_7 => ?_) (fun c_7 => ?_)
  rotate_left 1
  · rw [if_neg c_7] at hf
    refine lv_iload_n hx hb dX10_doubts_10 rfl (lv_at hl 0 rfl) ?_
    rw [← hQQ]
    cases hf
    exact rw_i hx hb hr hlocks hP hS dX10_doubts_11
  rw [if_pos c_7] at hf
  refine lv_aload_n hx hb dX10_doubts_12 rfl (lv_at hl 1 rfl) ?_
  obtain ⟨r_13, e_13, hf⟩ := ob_bind hf
  have hPX_13 : va_P D vwCl (cs10 ct a r_2.2) H_2 := hP
  refine wr_call1 (va_runV (As := []) (rest := []) ⟨hx, hb, hml, hown, htl⟩ (c_X10_askOf l D ct G a fu r_2.2 e_13 (hDx r_2.2)) (cw_X10_X10_askOf htl ⟨Nat.le_of_ble_eq_true rfl, Nat.le_of_ble_eq_true rfl⟩) ⟨Bx_blind, va_recv hK hPX_13 (ci := 10) (q0 := 0) rfl rfl, Bx_pre hPX_13 hK hN (hX.stay hS hGE)⟩ rfl rfl hl.1 rfl (lv_room (Nat.le_of_ble_eq_true rfl)) dX10_doubts_13 ⟨Nat.zero_le _, Nat.zero_le _⟩) hS (wA_cg rfl) (fun H_13 locs_13 hB_13 _ hk_13 hS => ?_)
  have hP : va_P D vwCl (cs10 ct a r_13.2) H_13 := hB_13
  refine lv_pop hx hb dX10_doubts_16 rfl ?_
  refine lv_aload_n hx hb dX10_doubts_17 rfl (lv_at hl 1 rfl) ?_
  refine va_get (D := D) (ci := 10) (v := .int (r_13.2.1 33 0)) (C := RX10) (T := TX10) (N := 42) hx hb htl inlX10 hown hK hP 0 rfl rfl 33 (by decide) (htl _ wq_50_20) (fun _ h9 => h9) rfl dX10_doubts_18 ?_
  rw [← hQQ]
  cases hf
  exact rw_i hx hb hr hlocks hP hS dX10_doubts_21
theorem c_X10_doubts (l : Launch) (D : va_G) (ct : Nat → ClassId) (G : GT) (a : Nat → Nat) (fu : Nat) (o : Ob) (v1 : Int32) {r : Int32 × Ob} (hf : p_X10_doubts fu o v1 = some r)  (hD0 : va_D (GE G) (cs10 ct a o)) : Met l yX10_doubts (.code yX10_doubts cX10_doubts 3 (some .int) :: wsL_law) rm_X10_doubts (va_Pc [.ref (a 0), .int v1] (Bx D ct G (cs10 ct a o))) (Qwr (some (.int r.1)) (fun H => va_P D vwCl (cs10 ct a r.2) H) (wA (cs10 ct a o))) 0 0 (wA (cs10 ct a o)) := by
  refine Met.ofW (cc := cX10_doubts) (maxL := 3) (ret := (some .int)) (by decide) rfl ?_
  intro p e s m args below meth c s₁ B hml hv
  obtain ⟨rfl, hP, hK, hN, hX⟩ := hv
  have hts := atoms_spec (ws := .code yX10_doubts cX10_doubts 3 (some .int) :: wsL_law) B.pre
  rw [lg_entry_eq]
  exact b_X10_doubts a fu o v1 B.exec B.bytes B.returns hml (findClass_of_methodNamed B.named) (fun w h => hts w (List.mem_cons_of_mem _ h)) B.notSynchronized hK hN hX hP hf hD0  (lv_entry [.ref (a 0), .int v1] (n := 3) (Nat.le_of_ble_eq_true rfl))
def p_X10_layTurns_J119 (fu : Nat) (c58 : Ob → Int32 → Int32 → Int32 → Int32 → Int32 → Int32 → Option (Int32 × Ob)) (oz : Ob) (v1 : Int32) (v2 : Int32) (v3 : Int32) (v5 : Int32) (v6 : Int32) (v7 : Int32) (s1 : Int32) : Option (Int32 × Ob) :=
    c58 (oI oz 34 s1) v1 v2 v3 (v5 + 1) v6 (v7 + 1)
def p_X10_layTurns_L58 (fu : Nat) (c131 : Ob → Int32 → Int32 → Int32 → Int32 → Int32 → Option (Int32 × Ob)) : Nat → Ob → Int32 → Int32 → Int32 → Int32 → Int32 → Int32 → Option (Int32 × Ob)
  | 0, _, _, _, _, _, _, _ => none
  | n + 1, oz, v1, v2, v3, v5, v6, v7 =>
    if v6 ≤ v7 then c131 oz v1 v2 v3 v5 v6 else if inb v2 5 = true then if inb v2 5 = true then (p_X10_goStick fu (oA (oA oz 18 (upd (oz.1 18) v2.toNatClampNeg v6)) 19 (upd ((oA oz 18 (upd (oz.1 18) v2.toNatClampNeg v6)).1 19) v2.toNatClampNeg v7)) v3 (0 : Int32)).bind fun r_84 => (p_X10_isSeen fu r_84 v1).bind fun r_89 => if r_89 = 0 then p_X10_layTurns_L58 fu c131 n r_84 v1 v2 v3 v5 v6 (v7 + 1) else if v5 = 0 then p_X10_layTurns_J119 fu (fun oz v1 v2 v3 v5 v6 v7 => p_X10_layTurns_L58 fu c131 n oz v1 v2 v3 v5 v6 v7) r_84 v1 v2 v3 v5 v6 v7 ((10 * v6) + v7) else p_X10_layTurns_J119 fu (fun oz v1 v2 v3 v5 v6 v7 => p_X10_layTurns_L58 fu c131 n oz v1 v2 v3 v5 v6 v7) r_84 v1 v2 v3 v5 v6 v7 (r_84.1 34 0) else none else none
def p_X10_layTurns_L48 (fu : Nat)  : Nat → Ob → Int32 → Int32 → Int32 → Int32 → Int32 → Option (Int32 × Ob)
  | 0, _, _, _, _, _, _ => none
  | n + 1, oz, v1, v2, v3, v5, v6 =>
    if (9 : Int32) < v6 then some (v5, oz) else p_X10_layTurns_L58 fu (fun oz v1 v2 v3 v5 v6 => p_X10_layTurns_L48 fu  n oz v1 v2 v3 v5 (v6 + 1)) fu oz v1 v2 v3 v5 v6 0
def p_X10_layTurns_J24 (fu : Nat)  (oz : Ob) (v1 : Int32) (v2 : Int32) (v3 : Int32) (s1 : Int32) (s2 : Int32) : Option (Int32 × Ob) :=
    (p_X10_askSeen fu oz s1 s2).bind fun r_24 => if (0 : Int32) ≤ r_24.1 then p_X10_layTurns_L48 fu fu (oI r_24.2 34 ((-1) : Int32)) v1 v2 v3 0 1 else some (r_24.1, r_24.2)
def p_X10_layTurns_J23 (fu : Nat)  (oz : Ob) (v1 : Int32) (v2 : Int32) (v3 : Int32) (s1 : Int32) : Option (Int32 × Ob) :=
    p_X10_layTurns_J24 fu oz v1 v2 v3 s1 0
def p_X10_layTurns (fu : Nat) (o : Ob) (v1 : Int32) (v2 : Int32) (v3 : Int32) : Option (Int32 × Ob) :=
  (p_X10_isJoin fu o v2).bind fun r_4 => if r_4 = 0 then p_X10_layTurns_J23 fu o v1 v2 v3 v1 else (p_X10_isReach fu o v3.toInt64).bind fun r_13 => if r_13 = 0 then p_X10_layTurns_J23 fu o v1 v2 v3 v1 else p_X10_layTurns_J24 fu o v1 v2 v3 v1 1
abbrev rm_X10_layTurns : Room := { frames := 4, cells := 0, slots := 0, locals := 89 }
set_option maxHeartbeats 4000000 in
set_option maxRecDepth 100000 in
theorem b_X10_layTurns {p : Program} {l : Launch} {e : Env} {s : State} {m : MethodId} {args : Array Value} {below : List Frame} {meth : Method} {c : Code} {ls : Array Slot} {D : va_G} {ct : Nat → ClassId} {G : GT} (a : Nat → Nat) (fu : Nat) (o : Ob) (v1 : Int32) (v2 : Int32) (v3 : Int32) {r : Int32 × Ob} (hx : p.tables.exec = Jvm.exec) (hb : c.code = cX10_layTurns) (hr : meth.sig.returnType = (some .int)) (hml : c.maxLocals = 8) (hown : s.vm.findClass RX10 = some m.cls) (htl : ∀ w ∈ wsL_law, w.before args s = true) (hlocks : meth.locks = false) (hK : va_K D vwCl (tyl ct) s) (hN : ∀ w ∈ NW, va_Nw w s) (hX : SX G s s.heap) (hP0 : va_P D vwCl (cs10 ct a o) s.heap) (hf : p_X10_layTurns fu o v1 v2 v3 = some r) (hD0 : va_D (GE G) (cs10 ct a o))  (hl : lv_has ls 8 [(0, .ref (a 0)), (1, .int v1), (2, .int v2), (3, .int v3)]) : W p l e rm_X10_layTurns s m args below meth c s.heap [] 0 0 (MQ below (Qwr (some (.int r.1)) (fun H => va_P D vwCl (cs10 ct a r.2) H) (wA (cs10 ct a o))) args s 0 0 (wA (cs10 ct a o))) (F0 m 0 ls []) := by
  generalize hQQ : MQ below (Qwr (some (.int r.1)) (fun H => va_P D vwCl (cs10 ct a r.2) H) (wA (cs10 ct a o))) args s 0 0 (wA (cs10 ct a o)) = QQ
  have hDx : ∀ (oy : Ob), va_D (GE G) (cs10 ct a oy) := fun oy => D_cr hD0 rfl
  have hDW : ∀ (oy : Ob), va_D (wA (cs10 ct a o)) (cs10 ct a oy) := fun oy => D_cr (D_self hD0) rfl
  have hGE : ∀ q, wA (cs10 ct a o) q → GE G q := wA_GE hD0
  have hP := hP0
  have hS : va_S (wA (cs10 ct a o)) s.heap s.heap [] := va_S.rf
  have hJ119 : ∀ (c58 : Ob → Int32 → Int32 → Int32 → Int32 → Int32 → Int32 → Option (Int32 × Ob)) (oz : Ob) (v1 : Int32) (v2 : Int32) (v3 : Int32) (v5 : Int32) (v6 : Int32) (v7 : Int32) (s1 : Int32), ∀ (H : Heap) (locs : List Loc) (ls : Array Slot), va_P D vwCl (cs10 ct a oz) H → va_S (wA (cs10 ct a o)) s.heap H locs → lv_has ls 8 [(0, .ref (a 0)), (1, .int v1), (2, .int v2), (3, .int v3), (5, .int v5), (6, .int v6), (7, .int v7)] → p_X10_layTurns_J119 fu c58 oz v1 v2 v3 v5 v6 v7 s1 = some r → (∀ (oz : Ob) (v1 : Int32) (v2 : Int32) (v3 : Int32) (v5 : Int32) (v6 : Int32) (v7 : Int32), ∀ (H : Heap) (locs : List Loc) (ls : Array Slot), va_P D vwCl (cs10 ct a oz) H → va_S (wA (cs10 ct a o)) s.heap H locs → lv_has ls 8 [(0, .ref (a 0)), (1, .int v1), (2, .int v2), (3, .int v3), (5, .int v5), (6, .int v6), (7, .int v7)] → c58 oz v1 v2 v3 v5 v6 v7 = some r → W p l e rm_X10_layTurns s m args below meth c H locs 0 0 QQ (F0 m 58 ls [])) → W p l e rm_X10_layTurns s m args below meth c H locs 0 0 QQ (F0 m 119 ls [.int s1, .ref (a 0)]) := by
    intro c58 oz v1 v2 v3 v5 v6 v7 s1 H locs ls hP hS hl hf k58
    rw [p_X10_layTurns_J119] at hf
    refine va_put (D := D) (ci := 10) (v := .int s1) (ty := .int) (C := RX10) (T := TX10) (N := 42) hx hb htl inlX10 tyX10 tyX10_ok nmX10 hown hK hP (hDW oz) hS 0 rfl rfl 34 (by decide) (htl _ wq_52_5) (fun _ h9 => h9) rfl (tyX10_ok 34 (by decide)) rfl rfl (Nat.le_of_ble_eq_true rfl) dX10_layTurns_119 (fun H_119 locs_119 hP _ hS => ?_)
    have hP : va_P D vwCl (cs10 ct a (oI oz 34 s1)) H_119 := st10_34 hP
    refine lv_iinc (v := (v5 + 1)) (lv' := [(5, .int (v5 + 1)), (0, .ref (a 0)), (1, .int v1), (2, .int v2), (3, .int v3), (6, .int v6), (7, .int v7)]) hx hb dX10_layTurns_122 hl (k := 4) rfl rfl (by decide) rfl (fun ls hl => ?_)
    refine lv_iinc (v := (v7 + 1)) (lv' := [(7, .int (v7 + 1)), (5, .int (v5 + 1)), (0, .ref (a 0)), (1, .int v1), (2, .int v2), (3, .int v3), (6, .int v6)]) hx hb dX10_layTurns_125 hl (k := 6) rfl rfl (by decide) rfl (fun ls hl => ?_)
    refine lv_goto (tgt := 58) hx hb dX10_layTurns_128 (by decide) ?_
    exact k58 (oI oz 34 s1) v1 v2 v3 (v5 + 1) v6 (v7 + 1) _ _ _ hP hS (lv_sub hl [2, 3, 4, 5, 1, 6, 0] rfl) hf
  have hL58 : ∀ (c131 : Ob → Int32 → Int32 → Int32 → Int32 → Int32 → Option (Int32 × Ob)) (n : Nat) (oz : Ob) (v1 : Int32) (v2 : Int32) (v3 : Int32) (v5 : Int32) (v6 : Int32) (v7 : Int32), ∀ (H : Heap) (locs : List Loc) (ls : Array Slot), va_P D vwCl (cs10 ct a oz) H → va_S (wA (cs10 ct a o)) s.heap H locs → lv_has ls 8 [(0, .ref (a 0)), (1, .int v1), (2, .int v2), (3, .int v3), (5, .int v5), (6, .int v6), (7, .int v7)] → p_X10_layTurns_L58 fu c131 n oz v1 v2 v3 v5 v6 v7 = some r → (∀ (oz : Ob) (v1 : Int32) (v2 : Int32) (v3 : Int32) (v5 : Int32) (v6 : Int32), ∀ (H : Heap) (locs : List Loc) (ls : Array Slot), va_P D vwCl (cs10 ct a oz) H → va_S (wA (cs10 ct a o)) s.heap H locs → lv_has ls 8 [(0, .ref (a 0)), (1, .int v1), (2, .int v2), (3, .int v3), (5, .int v5), (6, .int v6)] → c131 oz v1 v2 v3 v5 v6 = some r → W p l e rm_X10_layTurns s m args below meth c H locs 0 0 QQ (F0 m 131 ls [])) → W p l e rm_X10_layTurns s m args below meth c H locs 0 0 QQ (F0 m 58 ls []) := by
    intro c131 n
    induction n with
    | zero =>
      intro oz v1 v2 v3 v5 v6 v7 H locs ls hP hS hl hf k131
      rw [p_X10_layTurns_L58] at hf
      cases hf
    | succ n ih =>
      intro oz v1 v2 v3 v5 v6 v7 H locs ls hP hS hl hf k131
      rw [p_X10_layTurns_L58] at hf
      refine lv_iload hx hb dX10_layTurns_58 (lv_at hl 6 rfl) ?_
      refine lv_iload hx hb dX10_layTurns_60 (lv_at hl 5 rfl) ?_
      refine lv_icmp_ge (tgt := 131) hx hb dX10_layTurns_62 (by decide) (fun c_62 => ?_) (fun c_62 => ?_)
      · rw [if_pos c_62] at hf
        exact k131 oz v1 v2 v3 v5 v6 _ _ _ hP hS (lv_sub hl [0, 1, 2, 3, 4, 5] rfl) hf
      rw [if_neg c_62] at hf
      refine lv_aload_n hx hb dX10_layTurns_65 rfl (lv_at hl 0 rfl) ?_
      refine va_get (D := D) (ci := 10) (v := .ref (a 10)) (C := RX10) (T := TX10) (N := 42) hx hb htl inlX10 hown hK hP 0 rfl rfl 18 (by decide) (htl _ wq_7_12) (fun _ h9 => h9) rfl dX10_layTurns_66 ?_
      refine lv_iload_n hx hb dX10_layTurns_69 rfl (lv_at hl 2 rfl) ?_
      refine lv_iload hx hb dX10_layTurns_70 (lv_at hl 5 rfl) ?_
      obtain ⟨hi_72, hf⟩ := ob_in hf
      refine va_iast (D := D) (tys := tyl ct) hx hb hK hP (hDW oz) hS 10 0 rfl rfl hi_72 dX10_layTurns_72 (fun H_72 locs_72 hP _ hS => ?_)
      have hP : va_P D vwCl (cs10 ct a (oA oz 18 (upd (oz.1 18) v2.toNatClampNeg v6))) H_72 := sa10_18 hP
      refine lv_aload_n hx hb dX10_layTurns_73 rfl (lv_at hl 0 rfl) ?_
      refine va_get (D := D) (ci := 10) (v := .ref (a 11)) (C := RX10) (T := TX10) (N := 42) hx hb htl inlX10 hown hK hP 0 rfl rfl 19 (by decide) (htl _ wq_7_13) (fun _ h9 => h9) rfl dX10_layTurns_74 ?_
      refine lv_iload_n hx hb dX10_layTurns_77 rfl (lv_at hl 2 rfl) ?_
      refine lv_iload hx hb dX10_layTurns_78 (lv_at hl 6 rfl) ?_
      obtain ⟨hi_80, hf⟩ := ob_in hf
      refine va_iast (D := D) (tys := tyl ct) hx hb hK hP (hDW (oA oz 18 (upd (oz.1 18) v2.toNatClampNeg v6))) hS 11 0 rfl rfl hi_80 dX10_layTurns_80 (fun H_80 locs_80 hP _ hS => ?_)
      have hP : va_P D vwCl (cs10 ct a (oA (oA oz 18 (upd (oz.1 18) v2.toNatClampNeg v6)) 19 (upd ((oA oz 18 (upd (oz.1 18) v2.toNatClampNeg v6)).1 19) v2.toNatClampNeg v7))) H_80 := sa10_19 hP
      refine lv_aload_n hx hb dX10_layTurns_81 rfl (lv_at hl 0 rfl) ?_
      refine lv_iload_n hx hb dX10_layTurns_82 rfl (lv_at hl 3 rfl) ?_
      refine lv_iconst (v := 0) hx hb dX10_layTurns_83 (by decide) ?_
      obtain ⟨r_84, e_84, hf⟩ := ob_bind hf
      have hPX_84 : va_P D vwCl (cs10 ct a (oA (oA oz 18 (upd (oz.1 18) v2.toNatClampNeg v6)) 19 (upd ((oA oz 18 (upd (oz.1 18) v2.toNatClampNeg v6)).1 19) v2.toNatClampNeg v7))) H_80 := hP
      refine wr_call0 (va_runV (As := [.int v3, .int 0]) (rest := []) ⟨hx, hb, hml, hown, htl⟩ (c_X10_goStick l D ct G a fu (oA (oA oz 18 (upd (oz.1 18) v2.toNatClampNeg v6)) 19 (upd ((oA oz 18 (upd (oz.1 18) v2.toNatClampNeg v6)).1 19) v2.toNatClampNeg v7)) v3 (0 : Int32) e_84 (hDx (oA (oA oz 18 (upd (oz.1 18) v2.toNatClampNeg v6)) 19 (upd ((oA oz 18 (upd (oz.1 18) v2.toNatClampNeg v6)).1 19) v2.toNatClampNeg v7)))) (cw_X10_X10_goStick htl ⟨Nat.le_of_ble_eq_true rfl, Nat.le_of_ble_eq_true rfl⟩) ⟨Bx_blind, va_recv hK hPX_84 (ci := 10) (q0 := 0) rfl rfl, Bx_pre hPX_84 hK hN (hX.stay hS hGE)⟩ rfl rfl hl.1 rfl (lv_room (Nat.le_of_ble_eq_true rfl)) dX10_layTurns_84 ⟨Nat.zero_le _, Nat.zero_le _⟩) hS (wA_cg rfl) (fun H_84 locs_84 hB_84 _ hk_84 hS => ?_)
      have hP : va_P D vwCl (cs10 ct a r_84) H_84 := hB_84
      refine lv_aload_n hx hb dX10_layTurns_87 rfl (lv_at hl 0 rfl) ?_
      refine lv_iload_n hx hb dX10_layTurns_88 rfl (lv_at hl 1 rfl) ?_
      obtain ⟨r_89, e_89, hf⟩ := ob_bind hf
      have hPX_89 : va_P D vwCl (cs10 ct a r_84) H_84 := hP
      refine ro_call1 (va_runV (As := [.int v1]) (rest := []) ⟨hx, hb, hml, hown, htl⟩ (c_X10_isSeen l D ct G a fu r_84 v1 e_89) (cw_X10_X10_isSeen htl ⟨Nat.le_of_ble_eq_true rfl, Nat.le_of_ble_eq_true rfl⟩) ⟨Bx_blind, va_recv hK hPX_89 (ci := 10) (q0 := 0) rfl rfl, Bx_pre hPX_89 hK hN (hX.stay hS hGE)⟩ rfl rfl hl.1 rfl (lv_room (Nat.le_of_ble_eq_true rfl)) dX10_layTurns_89 ⟨Nat.zero_le _, Nat.zero_le _⟩) ?_
      refine lv_if_ne (tgt := 98) hx hb dX10_layTurns_92 (by decide) (fun c_92 => ?_) (fun c_92 => ?_)
      rotate_left 1
      · rw [if_pos c_92] at hf
        refine lv_goto (tgt := 125) hx hb dX10_layTurns_95 (by decide) ?_
        refine lv_iinc (v := (v7 + 1)) (lv' := [(7, .int (v7 + 1)), (0, .ref (a 0)), (1, .int v1), (2, .int v2), (3, .int v3), (5, .int v5), (6, .int v6)]) hx hb dX10_layTurns_125 hl (k := 6) rfl rfl (by decide) rfl (fun ls hl => ?_)
        refine lv_goto (tgt := 58) hx hb dX10_layTurns_128 (by decide) ?_
        exact ih r_84 v1 v2 v3 v5 v6 (v7 + 1) _ _ _ hP hS (lv_sub hl [1, 2, 3, 4, 5, 6, 0] rfl) hf k131
      rw [if_neg c_92] at hf
      refine lv_aload_n hx hb dX10_layTurns_98 rfl (lv_at hl 0 rfl) ?_
      refine lv_iload hx hb dX10_layTurns_99 (lv_at hl 4 rfl) ?_
      refine lv_if_ne (tgt := 115) hx hb dX10_layTurns_101 (by decide) (fun c_101 => ?_) (fun c_101 => ?_)
      · rw [if_neg c_101] at hf
        refine lv_aload_n hx hb dX10_layTurns_115 rfl (lv_at hl 0 rfl) ?_
        refine va_get (D := D) (ci := 10) (v := .int (r_84.1 34 0)) (C := RX10) (T := TX10) (N := 42) hx hb htl inlX10 hown hK hP 0 rfl rfl 34 (by decide) (htl _ wq_52_5) (fun _ h9 => h9) rfl dX10_layTurns_116 ?_
        exact hJ119 _ r_84 v1 v2 v3 v5 v6 v7 (r_84.1 34 0) _ _ _ hP hS (lv_sub hl [0, 1, 2, 3, 4, 5, 6] rfl) hf (fun oz v1 v2 v3 v5 v6 v7 H locs ls hP hS hl hf => ih oz v1 v2 v3 v5 v6 v7 H locs ls hP hS hl hf k131)
      rw [if_pos c_101] at hf
      refine lv_bipush (v := 10) hx hb dX10_layTurns_104 (by decide) ?_
      refine lv_iload hx hb dX10_layTurns_106 (lv_at hl 5 rfl) ?_
      refine lv_imul hx hb dX10_layTurns_108 ?_
      refine lv_iload hx hb dX10_layTurns_109 (lv_at hl 6 rfl) ?_
      refine lv_iadd hx hb dX10_layTurns_111 ?_
      refine lv_goto (tgt := 119) hx hb dX10_layTurns_112 (by decide) ?_
      exact hJ119 _ r_84 v1 v2 v3 v5 v6 v7 ((10 * v6) + v7) _ _ _ hP hS (lv_sub hl [0, 1, 2, 3, 4, 5, 6] rfl) hf (fun oz v1 v2 v3 v5 v6 v7 H locs ls hP hS hl hf => ih oz v1 v2 v3 v5 v6 v7 H locs ls hP hS hl hf k131)
  have hL48 : ∀ (n : Nat) (oz : Ob) (v1 : Int32) (v2 : Int32) (v3 : Int32) (v5 : Int32) (v6 : Int32), ∀ (H : Heap) (locs : List Loc) (ls : Array Slot), va_P D vwCl (cs10 ct a oz) H → va_S (wA (cs10 ct a o)) s.heap H locs → lv_has ls 8 [(0, .ref (a 0)), (1, .int v1), (2, .int v2), (3, .int v3), (5, .int v5), (6, .int v6)] → p_X10_layTurns_L48 fu  n oz v1 v2 v3 v5 v6 = some r → W p l e rm_X10_layTurns s m args below meth c H locs 0 0 QQ (F0 m 48 ls []) := by
    intro  n
    induction n with
    | zero =>
      intro oz v1 v2 v3 v5 v6 H locs ls hP hS hl hf 
      rw [p_X10_layTurns_L48] at hf
      cases hf
    | succ n ih =>
      intro oz v1 v2 v3 v5 v6 H locs ls hP hS hl hf 
      rw [p_X10_layTurns_L48] at hf
      refine lv_iload hx hb dX10_layTurns_48 (lv_at hl 5 rfl) ?_
      refine lv_bipush (v := 9) hx hb dX10_layTurns_50 (by decide) ?_
      refine lv_icmp_gt (tgt := 137) hx hb dX10_layTurns_52 (by decide) (fun c_52 => ?_) (fun c_52 => ?_)
      · rw [if_pos c_52] at hf
        refine lv_iload hx hb dX10_layTurns_137 (lv_at hl 4 rfl) ?_
        rw [← hQQ]
        cases hf
        exact rw_i hx hb hr hlocks hP hS dX10_layTurns_139
      rw [if_neg c_52] at hf
      refine lv_iconst (v := 0) hx hb dX10_layTurns_55 (by decide) ?_
      refine lv_istore (lv' := [(7, .int 0), (0, .ref (a 0)), (1, .int v1), (2, .int v2), (3, .int v3), (5, .int v5), (6, .int v6)]) hx hb dX10_layTurns_56 hl (by decide) rfl (fun ls hl => ?_)
      refine hL58 _ fu oz v1 v2 v3 v5 v6 0 _ _ _ hP hS (lv_sub hl [1, 2, 3, 4, 5, 6, 0] rfl) hf (fun oz v1 v2 v3 v5 v6 H locs ls hP hS hl hf => ?_)
      refine lv_iinc (v := (v6 + 1)) (lv' := [(6, .int (v6 + 1)), (0, .ref (a 0)), (1, .int v1), (2, .int v2), (3, .int v3), (5, .int v5)]) hx hb dX10_layTurns_131 hl (k := 5) rfl rfl (by decide) rfl (fun ls hl => ?_)
      refine lv_goto (tgt := 48) hx hb dX10_layTurns_134 (by decide) ?_
      exact ih oz v1 v2 v3 v5 (v6 + 1) _ _ _ hP hS (lv_sub hl [1, 2, 3, 4, 5, 0] rfl) hf 
  have hJ24 : ∀ (oz : Ob) (v1 : Int32) (v2 : Int32) (v3 : Int32) (s1 : Int32) (s2 : Int32), ∀ (H : Heap) (locs : List Loc) (ls : Array Slot), va_P D vwCl (cs10 ct a oz) H → va_S (wA (cs10 ct a o)) s.heap H locs → lv_has ls 8 [(0, .ref (a 0)), (1, .int v1), (2, .int v2), (3, .int v3)] → p_X10_layTurns_J24 fu  oz v1 v2 v3 s1 s2 = some r → W p l e rm_X10_layTurns s m args below meth c H locs 0 0 QQ (F0 m 24 ls [.int s2, .int s1, .ref (a 0)]) := by
    intro  oz v1 v2 v3 s1 s2 H locs ls hP hS hl hf 
    rw [p_X10_layTurns_J24] at hf
    obtain ⟨r_24, e_24, hf⟩ := ob_bind hf
    have hPX_24 : va_P D vwCl (cs10 ct a oz) H := hP
    refine wr_call1 (va_runV (As := [.int s1, .int s2]) (rest := []) ⟨hx, hb, hml, hown, htl⟩ (c_X10_askSeen l D ct G a fu oz s1 s2 e_24 (hDx oz)) (cw_X10_X10_askSeen htl ⟨Nat.le_of_ble_eq_true rfl, Nat.le_of_ble_eq_true rfl⟩) ⟨Bx_blind, va_recv hK hPX_24 (ci := 10) (q0 := 0) rfl rfl, Bx_pre hPX_24 hK hN (hX.stay hS hGE)⟩ rfl rfl hl.1 rfl (lv_room (Nat.le_of_ble_eq_true rfl)) dX10_layTurns_24 ⟨Nat.zero_le _, Nat.zero_le _⟩) hS (wA_cg rfl) (fun H_24 locs_24 hB_24 _ hk_24 hS => ?_)
    have hP : va_P D vwCl (cs10 ct a r_24.2) H_24 := hB_24
    refine lv_istore (lv' := [(4, .int r_24.1), (0, .ref (a 0)), (1, .int v1), (2, .int v2), (3, .int v3)]) hx hb dX10_layTurns_27 hl (by decide) rfl (fun ls hl => ?_)
    refine lv_iload hx hb dX10_layTurns_29 (lv_at hl 0 rfl) ?_
    refine lv_if_ge (tgt := 37) hx hb dX10_layTurns_31 (by decide) (fun c_31 => ?_) (fun c_31 => ?_)
    rotate_left 1
    · rw [if_neg c_31] at hf
      refine lv_iload hx hb dX10_layTurns_34 (lv_at hl 0 rfl) ?_
      rw [← hQQ]
      cases hf
      exact rw_i hx hb hr hlocks hP hS dX10_layTurns_36
    rw [if_pos c_31] at hf
    refine lv_aload_n hx hb dX10_layTurns_37 rfl (lv_at hl 1 rfl) ?_
    refine lv_iconst (v := (-1)) hx hb dX10_layTurns_38 (by decide) ?_
    refine va_put (D := D) (ci := 10) (v := .int (-1)) (ty := .int) (C := RX10) (T := TX10) (N := 42) hx hb htl inlX10 tyX10 tyX10_ok nmX10 hown hK hP (hDW r_24.2) hS 0 rfl rfl 34 (by decide) (htl _ wq_52_5) (fun _ h9 => h9) rfl (tyX10_ok 34 (by decide)) rfl rfl (Nat.le_of_ble_eq_true rfl) dX10_layTurns_39 (fun H_39 locs_39 hP _ hS => ?_)
    have hP : va_P D vwCl (cs10 ct a (oI r_24.2 34 ((-1) : Int32))) H_39 := st10_34 hP
    refine lv_iconst (v := 0) hx hb dX10_layTurns_42 (by decide) ?_
    refine lv_istore (lv' := [(5, .int 0), (4, .int r_24.1), (0, .ref (a 0)), (1, .int v1), (2, .int v2), (3, .int v3)]) hx hb dX10_layTurns_43 hl (by decide) rfl (fun ls hl => ?_)
    refine lv_iconst (v := 1) hx hb dX10_layTurns_45 (by decide) ?_
    refine lv_istore (lv' := [(6, .int 1), (5, .int 0), (4, .int r_24.1), (0, .ref (a 0)), (1, .int v1), (2, .int v2), (3, .int v3)]) hx hb dX10_layTurns_46 hl (by decide) rfl (fun ls hl => ?_)
    exact hL48 fu (oI r_24.2 34 ((-1) : Int32)) v1 v2 v3 0 1 _ _ _ hP hS (lv_sub hl [3, 4, 5, 6, 1, 0] rfl) hf 
  have hJ23 : ∀ (oz : Ob) (v1 : Int32) (v2 : Int32) (v3 : Int32) (s1 : Int32), ∀ (H : Heap) (locs : List Loc) (ls : Array Slot), va_P D vwCl (cs10 ct a oz) H → va_S (wA (cs10 ct a o)) s.heap H locs → lv_has ls 8 [(0, .ref (a 0)), (1, .int v1), (2, .int v2), (3, .int v3)] → p_X10_layTurns_J23 fu  oz v1 v2 v3 s1 = some r → W p l e rm_X10_layTurns s m args below meth c H locs 0 0 QQ (F0 m 23 ls [.int s1, .ref (a 0)]) := by
    intro  oz v1 v2 v3 s1 H locs ls hP hS hl hf 
    rw [p_X10_layTurns_J23] at hf
    refine lv_iconst (v := 0) hx hb dX10_layTurns_23 (by decide) ?_
    exact hJ24 oz v1 v2 v3 s1 0 _ _ _ hP hS (lv_sub hl [0, 1, 2, 3] rfl) hf 
  rw [p_X10_layTurns] at hf
  refine lv_aload_n hx hb dX10_layTurns_0 rfl (lv_at hl 0 rfl) ?_
  refine lv_iload_n hx hb dX10_layTurns_1 rfl (lv_at hl 1 rfl) ?_
  refine lv_aload_n hx hb dX10_layTurns_2 rfl (lv_at hl 0 rfl) ?_
  refine lv_iload_n hx hb dX10_layTurns_3 rfl (lv_at hl 2 rfl) ?_
  obtain ⟨r_4, e_4, hf⟩ := ob_bind hf
  have hPX_4 : va_P D vwCl (cs10 ct a o) s.heap := hP
  refine ro_call1 (va_runV (As := [.int v2]) (rest := [.int v1, .ref (a 0)]) ⟨hx, hb, hml, hown, htl⟩ (c_X10_isJoin l D ct G a fu o v2 e_4) (cw_X10_X10_isJoin htl ⟨Nat.le_of_ble_eq_true rfl, Nat.le_of_ble_eq_true rfl⟩) ⟨Bx_blind, va_recv hK hPX_4 (ci := 10) (q0 := 0) rfl rfl, Bx_pre hPX_4 hK hN (hX.stay hS hGE)⟩ rfl rfl hl.1 rfl (lv_room (Nat.le_of_ble_eq_true rfl)) dX10_layTurns_4 ⟨Nat.zero_le _, Nat.zero_le _⟩) ?_
  refine lv_if_eq (tgt := 23) hx hb dX10_layTurns_7 (by decide) (fun c_7 => ?_) (fun c_7 => ?_)
  · rw [if_pos c_7] at hf
    exact hJ23 o v1 v2 v3 v1 _ _ _ hP hS (lv_sub hl [0, 1, 2, 3] rfl) hf 
  rw [if_neg c_7] at hf
  refine lv_aload_n hx hb dX10_layTurns_10 rfl (lv_at hl 0 rfl) ?_
  refine lv_iload_n hx hb dX10_layTurns_11 rfl (lv_at hl 3 rfl) ?_
  refine lv_i2l hx hb dX10_layTurns_12 rfl ?_
  obtain ⟨r_13, e_13, hf⟩ := ob_bind hf
  have hPX_13 : va_P D vwCl (cs10 ct a o) s.heap := hP
  refine ro_call1 (va_runV (As := [.long v3.toInt64]) (rest := [.int v1, .ref (a 0)]) ⟨hx, hb, hml, hown, htl⟩ (c_X10_isReach l D ct G a fu o v3.toInt64 e_13) (cw_X10_X10_isReach htl ⟨Nat.le_of_ble_eq_true rfl, Nat.le_of_ble_eq_true rfl⟩) ⟨Bx_blind, va_recv hK hPX_13 (ci := 10) (q0 := 0) rfl rfl, Bx_pre hPX_13 hK hN (hX.stay hS hGE)⟩ rfl rfl hl.1 rfl (lv_room (Nat.le_of_ble_eq_true rfl)) dX10_layTurns_13 ⟨Nat.zero_le _, Nat.zero_le _⟩) ?_
  refine lv_if_eq (tgt := 23) hx hb dX10_layTurns_16 (by decide) (fun c_16 => ?_) (fun c_16 => ?_)
  · rw [if_pos c_16] at hf
    exact hJ23 o v1 v2 v3 v1 _ _ _ hP hS (lv_sub hl [0, 1, 2, 3] rfl) hf 
  rw [if_neg c_16] at hf
  refine lv_iconst (v := 1) hx hb dX10_layTurns_19 (by decide) ?_
  refine lv_goto (tgt := 24) hx hb dX10_layTurns_20 (by decide) ?_
  exact hJ24 o v1 v2 v3 v1 1 _ _ _ hP hS (lv_sub hl [0, 1, 2, 3] rfl) hf 
theorem c_X10_layTurns (l : Launch) (D : va_G) (ct : Nat → ClassId) (G : GT) (a : Nat → Nat) (fu : Nat) (o : Ob) (v1 : Int32) (v2 : Int32) (v3 : Int32) {r : Int32 × Ob} (hf : p_X10_layTurns fu o v1 v2 v3 = some r)  (hD0 : va_D (GE G) (cs10 ct a o)) : Met l yX10_layTurns (.code yX10_layTurns cX10_layTurns 8 (some .int) :: wsL_law) rm_X10_layTurns (va_Pc [.ref (a 0), .int v1, .int v2, .int v3] (Bx D ct G (cs10 ct a o))) (Qwr (some (.int r.1)) (fun H => va_P D vwCl (cs10 ct a r.2) H) (wA (cs10 ct a o))) 0 0 (wA (cs10 ct a o)) := by
  refine Met.ofW (cc := cX10_layTurns) (maxL := 8) (ret := (some .int)) (by decide) rfl ?_
  intro p e s m args below meth c s₁ B hml hv
  obtain ⟨rfl, hP, hK, hN, hX⟩ := hv
  have hts := atoms_spec (ws := .code yX10_layTurns cX10_layTurns 8 (some .int) :: wsL_law) B.pre
  rw [lg_entry_eq]
  exact b_X10_layTurns a fu o v1 v2 v3 B.exec B.bytes B.returns hml (findClass_of_methodNamed B.named) (fun w h => hts w (List.mem_cons_of_mem _ h)) B.notSynchronized hK hN hX hP hf hD0  (lv_entry [.ref (a 0), .int v1, .int v2, .int v3] (n := 8) (Nat.le_of_ble_eq_true rfl))
theorem hd_X10_layTurns : yX10_layTurns.cls ≠ "java/lang/invoke/MethodHandle" ∧ yX10_layTurns.cls ≠ "java/lang/invoke/VarHandle" ∧ (parseMethodDescriptor yX10_layTurns.desc).map (fun d => d.parameters.length) = some 3 := by decide +kernel
theorem cw_X10_X10_layTurns {R : Room} {s : State} {args : Array Value} (ht : ∀ w ∈ wsL_law, w.before args s = true) (hR : rm_X10_layTurns.frames + 1 ≤ R.frames ∧ 8 + (8 + 11) + rm_X10_layTurns.locals ≤ R.locals) : CallW R s args RX10 RX10 345 yX10_layTurns cX10_layTurns 8 (some .int) ((.code yX10_layTurns cX10_layTurns 8 (some .int)) :: wsL_law) rm_X10_layTurns 0 0 3 := cwV 3 ht (GV wq_52_1 wq_52_2 wq_52_3 wq_1_5 wq_52_4) rfl rfl rfl ⟨rfl, hd_X10_layTurns⟩ hR
def p_X10_turn (fu : Nat) (o : Ob) (v1 : Int32) (v2 : Int32) (v3 : Int32) : Option (Int32 × Ob) :=
  (p_X10_layTurns fu o v1 v2 v3).bind fun r_4 => some (r_4.1, r_4.2)
abbrev rm_X10_turn : Room := { frames := 5, cells := 0, slots := 0, locals := 116 }
set_option maxHeartbeats 4000000 in
set_option maxRecDepth 100000 in
theorem b_X10_turn {p : Program} {l : Launch} {e : Env} {s : State} {m : MethodId} {args : Array Value} {below : List Frame} {meth : Method} {c : Code} {ls : Array Slot} {D : va_G} {ct : Nat → ClassId} {G : GT} (a : Nat → Nat) (fu : Nat) (o : Ob) (v1 : Int32) (v2 : Int32) (v3 : Int32) {r : Int32 × Ob} (hx : p.tables.exec = Jvm.exec) (hb : c.code = cX10_turn) (hr : meth.sig.returnType = (some .int)) (hml : c.maxLocals = 4) (hown : s.vm.findClass RX10 = some m.cls) (htl : ∀ w ∈ wsL_law, w.before args s = true) (hlocks : meth.locks = false) (hK : va_K D vwCl (tyl ct) s) (hN : ∀ w ∈ NW, va_Nw w s) (hX : SX G s s.heap) (hP0 : va_P D vwCl (cs10 ct a o) s.heap) (hf : p_X10_turn fu o v1 v2 v3 = some r) (hD0 : va_D (GE G) (cs10 ct a o))  (hl : lv_has ls 4 [(0, .ref (a 0)), (1, .int v1), (2, .int v2), (3, .int v3)]) : W p l e rm_X10_turn s m args below meth c s.heap [] 0 0 (MQ below (Qwr (some (.int r.1)) (fun H => va_P D vwCl (cs10 ct a r.2) H) (wA (cs10 ct a o))) args s 0 0 (wA (cs10 ct a o))) (F0 m 0 ls []) := by
  generalize hQQ : MQ below (Qwr (some (.int r.1)) (fun H => va_P D vwCl (cs10 ct a r.2) H) (wA (cs10 ct a o))) args s 0 0 (wA (cs10 ct a o)) = QQ
  have hDx : ∀ (oy : Ob), va_D (GE G) (cs10 ct a oy) := fun oy => D_cr hD0 rfl
  have hDW : ∀ (oy : Ob), va_D (wA (cs10 ct a o)) (cs10 ct a oy) := fun oy => D_cr (D_self hD0) rfl
  have hGE : ∀ q, wA (cs10 ct a o) q → GE G q := wA_GE hD0
  have hP := hP0
  have hS : va_S (wA (cs10 ct a o)) s.heap s.heap [] := va_S.rf
  rw [p_X10_turn] at hf
  refine lv_aload_n hx hb dX10_turn_0 rfl (lv_at hl 0 rfl) ?_
  refine lv_iload_n hx hb dX10_turn_1 rfl (lv_at hl 1 rfl) ?_
  refine lv_iload_n hx hb dX10_turn_2 rfl (lv_at hl 2 rfl) ?_
  refine lv_iload_n hx hb dX10_turn_3 rfl (lv_at hl 3 rfl) ?_
  obtain ⟨r_4, e_4, hf⟩ := ob_bind hf
  have hPX_4 : va_P D vwCl (cs10 ct a o) s.heap := hP
  refine wr_call1 (va_runV (As := [.int v1, .int v2, .int v3]) (rest := []) ⟨hx, hb, hml, hown, htl⟩ (c_X10_layTurns l D ct G a fu o v1 v2 v3 e_4 (hDx o)) (cw_X10_X10_layTurns htl ⟨Nat.le_of_ble_eq_true rfl, Nat.le_of_ble_eq_true rfl⟩) ⟨Bx_blind, va_recv hK hPX_4 (ci := 10) (q0 := 0) rfl rfl, Bx_pre hPX_4 hK hN (hX.stay hS hGE)⟩ rfl rfl hl.1 rfl (lv_room (Nat.le_of_ble_eq_true rfl)) dX10_turn_4 ⟨Nat.zero_le _, Nat.zero_le _⟩) hS (wA_cg rfl) (fun H_4 locs_4 hB_4 _ hk_4 hS => ?_)
  have hP : va_P D vwCl (cs10 ct a r_4.2) H_4 := hB_4
  rw [← hQQ]
  cases hf
  exact rw_i hx hb hr hlocks hP hS dX10_turn_7
theorem c_X10_turn (l : Launch) (D : va_G) (ct : Nat → ClassId) (G : GT) (a : Nat → Nat) (fu : Nat) (o : Ob) (v1 : Int32) (v2 : Int32) (v3 : Int32) {r : Int32 × Ob} (hf : p_X10_turn fu o v1 v2 v3 = some r)  (hD0 : va_D (GE G) (cs10 ct a o)) : Met l yX10_turn (.code yX10_turn cX10_turn 4 (some .int) :: wsL_law) rm_X10_turn (va_Pc [.ref (a 0), .int v1, .int v2, .int v3] (Bx D ct G (cs10 ct a o))) (Qwr (some (.int r.1)) (fun H => va_P D vwCl (cs10 ct a r.2) H) (wA (cs10 ct a o))) 0 0 (wA (cs10 ct a o)) := by
  refine Met.ofW (cc := cX10_turn) (maxL := 4) (ret := (some .int)) (by decide) rfl ?_
  intro p e s m args below meth c s₁ B hml hv
  obtain ⟨rfl, hP, hK, hN, hX⟩ := hv
  have hts := atoms_spec (ws := .code yX10_turn cX10_turn 4 (some .int) :: wsL_law) B.pre
  rw [lg_entry_eq]
  exact b_X10_turn a fu o v1 v2 v3 B.exec B.bytes B.returns hml (findClass_of_methodNamed B.named) (fun w h => hts w (List.mem_cons_of_mem _ h)) B.notSynchronized hK hN hX hP hf hD0  (lv_entry [.ref (a 0), .int v1, .int v2, .int v3] (n := 4) (Nat.le_of_ble_eq_true rfl))
def p_X10_turned (fu : Nat) (o : Ob) (v1 : Int32) (v2 : Int32) (v3 : Int32) : Option (Int32 × Ob) :=
  (p_X10_layTurns fu o v1 v2 v3).bind fun r_4 => if (0 : Int32) ≤ r_4.1 then some ((r_4.2.1 34 0), r_4.2) else some (r_4.1, r_4.2)
abbrev rm_X10_turned : Room := { frames := 5, cells := 0, slots := 0, locals := 116 }
set_option maxHeartbeats 4000000 in
set_option maxRecDepth 100000 in
theorem b_X10_turned {p : Program} {l : Launch} {e : Env} {s : State} {m : MethodId} {args : Array Value} {below : List Frame} {meth : Method} {c : Code} {ls : Array Slot} {D : va_G} {ct : Nat → ClassId} {G : GT} (a : Nat → Nat) (fu : Nat) (o : Ob) (v1 : Int32) (v2 : Int32) (v3 : Int32) {r : Int32 × Ob} (hx : p.tables.exec = Jvm.exec) (hb : c.code = cX10_turned) (hr : meth.sig.returnType = (some .int)) (hml : c.maxLocals = 5) (hown : s.vm.findClass RX10 = some m.cls) (htl : ∀ w ∈ wsL_law, w.before args s = true) (hlocks : meth.locks = false) (hK : va_K D vwCl (tyl ct) s) (hN : ∀ w ∈ NW, va_Nw w s) (hX : SX G s s.heap) (hP0 : va_P D vwCl (cs10 ct a o) s.heap) (hf : p_X10_turned fu o v1 v2 v3 = some r) (hD0 : va_D (GE G) (cs10 ct a o))  (hl : lv_has ls 5 [(0, .ref (a 0)), (1, .int v1), (2, .int v2), (3, .int v3)]) : W p l e rm_X10_turned s m args below meth c s.heap [] 0 0 (MQ below (Qwr (some (.int r.1)) (fun H => va_P D vwCl (cs10 ct a r.2) H) (wA (cs10 ct a o))) args s 0 0 (wA (cs10 ct a o))) (F0 m 0 ls []) := by
  generalize hQQ : MQ below (Qwr (some (.int r.1)) (fun H => va_P D vwCl (cs10 ct a r.2) H) (wA (cs10 ct a o))) args s 0 0 (wA (cs10 ct a o)) = QQ
  have hDx : ∀ (oy : Ob), va_D (GE G) (cs10 ct a oy) := fun oy => D_cr hD0 rfl
  have hDW : ∀ (oy : Ob), va_D (wA (cs10 ct a o)) (cs10 ct a oy) := fun oy => D_cr (D_self hD0) rfl
  have hGE : ∀ q, wA (cs10 ct a o) q → GE G q := wA_GE hD0
  have hP := hP0
  have hS : va_S (wA (cs10 ct a o)) s.heap s.heap [] := va_S.rf
  rw [p_X10_turned] at hf
  refine lv_aload_n hx hb dX10_turned_0 rfl (lv_at hl 0 rfl) ?_
  refine lv_iload_n hx hb dX10_turned_1 rfl (lv_at hl 1 rfl) ?_
  refine lv_iload_n hx hb dX10_turned_2 rfl (lv_at hl 2 rfl) ?_
  refine lv_iload_n hx hb dX10_turned_3 rfl (lv_at hl 3 rfl) ?_
  obtain ⟨r_4, e_4, hf⟩ := ob_bind hf
  have hPX_4 : va_P D vwCl (cs10 ct a o) s.heap := hP
  refine wr_call1 (va_runV (As := [.int v1, .int v2, .int v3]) (rest := []) ⟨hx, hb, hml, hown, htl⟩ (c_X10_layTurns l D ct G a fu o v1 v2 v3 e_4 (hDx o)) (cw_X10_X10_layTurns htl ⟨Nat.le_of_ble_eq_true rfl, Nat.le_of_ble_eq_true rfl⟩) ⟨Bx_blind, va_recv hK hPX_4 (ci := 10) (q0 := 0) rfl rfl, Bx_pre hPX_4 hK hN (hX.stay hS hGE)⟩ rfl rfl hl.1 rfl (lv_room (Nat.le_of_ble_eq_true rfl)) dX10_turned_4 ⟨Nat.zero_le _, Nat.zero_le _⟩) hS (wA_cg rfl) (fun H_4 locs_4 hB_4 _ hk_4 hS => ?_)
  have hP : va_P D vwCl (cs10 ct a r_4.2) H_4 := hB_4
  refine lv_istore (lv' := [(4, .int r_4.1), (0, .ref (a 0)), (1, .int v1), (2, .int v2), (3, .int v3)]) hx hb dX10_turned_7 hl (by decide) rfl (fun ls hl => ?_)
  refine lv_iload hx hb dX10_turned_9 (lv_at hl 0 rfl) ?_
  refine lv_if_ge (tgt := 19) hx hb dX10_turned_11 (by decide) (fun c_11 => ?_) (fun c_11 => ?_)
  · rw [if_pos c_11] at hf
    refine lv_aload_n hx hb dX10_turned_19 rfl (lv_at hl 1 rfl) ?_
    refine va_get (D := D) (ci := 10) (v := .int (r_4.2.1 34 0)) (C := RX10) (T := TX10) (N := 42) hx hb htl inlX10 hown hK hP 0 rfl rfl 34 (by decide) (htl _ wq_52_5) (fun _ h9 => h9) rfl dX10_turned_20 ?_
    rw [← hQQ]
    cases hf
    exact rw_i hx hb hr hlocks hP hS dX10_turned_23
  rw [if_neg c_11] at hf
  refine lv_iload hx hb dX10_turned_14 (lv_at hl 0 rfl) ?_
  refine lv_goto (tgt := 23) hx hb dX10_turned_16 (by decide) ?_
  rw [← hQQ]
  cases hf
  exact rw_i hx hb hr hlocks hP hS dX10_turned_23
theorem c_X10_turned (l : Launch) (D : va_G) (ct : Nat → ClassId) (G : GT) (a : Nat → Nat) (fu : Nat) (o : Ob) (v1 : Int32) (v2 : Int32) (v3 : Int32) {r : Int32 × Ob} (hf : p_X10_turned fu o v1 v2 v3 = some r)  (hD0 : va_D (GE G) (cs10 ct a o)) : Met l yX10_turned (.code yX10_turned cX10_turned 5 (some .int) :: wsL_law) rm_X10_turned (va_Pc [.ref (a 0), .int v1, .int v2, .int v3] (Bx D ct G (cs10 ct a o))) (Qwr (some (.int r.1)) (fun H => va_P D vwCl (cs10 ct a r.2) H) (wA (cs10 ct a o))) 0 0 (wA (cs10 ct a o)) := by
  refine Met.ofW (cc := cX10_turned) (maxL := 5) (ret := (some .int)) (by decide) rfl ?_
  intro p e s m args below meth c s₁ B hml hv
  obtain ⟨rfl, hP, hK, hN, hX⟩ := hv
  have hts := atoms_spec (ws := .code yX10_turned cX10_turned 5 (some .int) :: wsL_law) B.pre
  rw [lg_entry_eq]
  exact b_X10_turned a fu o v1 v2 v3 B.exec B.bytes B.returns hml (findClass_of_methodNamed B.named) (fun w h => hts w (List.mem_cons_of_mem _ h)) B.notSynchronized hK hN hX hP hf hD0  (lv_entry [.ref (a 0), .int v1, .int v2, .int v3] (n := 5) (Nat.le_of_ble_eq_true rfl))
