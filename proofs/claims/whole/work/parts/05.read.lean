abbrev rm_J3_checkIndex_8e157 : Room := { frames := 0, cells := 0, slots := 0, locals := 0 }
set_option maxHeartbeats 4000000 in
set_option maxRecDepth 100000 in
theorem c_J3_checkIndex_8e157 (l : Launch) (D : va_G) (ct : Nat → ClassId) (G : GT) (i n : Int32) (q : Option Nat) (h0 : ¬ i < 0) (h1 : i < n) : Met l yJ3_checkIndex_8e157 (.code yJ3_checkIndex_8e157 cJ3_checkIndex_8e157 3 (some .int) :: wsL_law) rm_J3_checkIndex_8e157 (va_Pc [.int i, .int n, va_rf q] (Bx D ct G [])) (Qro (some (.int i))) 0 0 (fun _ => False) := by
  have key : ∀ v : Value, (v = .null ∨ ∃ a, v = .ref a) → Met l yJ3_checkIndex_8e157 (.code yJ3_checkIndex_8e157 cJ3_checkIndex_8e157 3 (some .int) :: wsL_law) rm_J3_checkIndex_8e157 (va_Pc [.int i, .int n, v] (Bx D ct G [])) (Qro (some (.int i))) 0 0 (fun _ => False) := by
    intro v hv1
    refine Met.ofW (cc := cJ3_checkIndex_8e157) (maxL := 3) (ret := (some .int)) (by decide) rfl ?_
    intro p e s m args below meth c s₁ B hml hv
    obtain ⟨rfl, hP, hK, hN, hX⟩ := hv
    have hts := atoms_spec (ws := .code yJ3_checkIndex_8e157 cJ3_checkIndex_8e157 3 (some .int) :: wsL_law) B.pre
    rw [lg_entry_eq]
    have hl := lv_entry [.int i, .int n, v] (n := 3) (by rcases hv1 with rfl | ⟨a, rfl⟩ <;> exact Nat.le_of_ble_eq_true rfl)
    generalize (lg_sl ([.int i, .int n, v]) ++ List.replicate (3 - (lg_sl ([.int i, .int n, v])).length) Slot.unset).toArray = ls at hl ⊢
    have hl : lv_has ls 3 [(0, .int i), (1, .int n)] := lv_sub hl [0, 1] rfl
    have hx := B.exec
    have hb := B.bytes
    have hr := B.returns
    have hown : s.vm.findClass RJ3 = some m.cls := findClass_of_methodNamed B.named
    have htl : ∀ w ∈ wsL_law, w.before _ s = true := fun w h => hts w (List.mem_cons_of_mem _ h)
    have hlocks := B.notSynchronized
    have hS : va_S (GE G) s.heap s.heap [] := va_S.rf
    refine lv_iload_n hx hb dJ3_checkIndex_8e157_0 rfl (lv_at hl 0 rfl) ?_
    refine lv_if_lt (tgt := 9) hx hb dJ3_checkIndex_8e157_1 (by decide) (fun c_1 => absurd c_1 h0) (fun c_1 => ?_)
    refine lv_iload_n hx hb dJ3_checkIndex_8e157_4 rfl (lv_at hl 0 rfl) ?_
    refine lv_iload_n hx hb dJ3_checkIndex_8e157_5 rfl (lv_at hl 1 rfl) ?_
    refine lv_icmp_lt (tgt := 16) hx hb dJ3_checkIndex_8e157_6 (by decide) (fun c_6 => ?_) (fun c_6 => absurd h1 c_6)
    refine lv_iload_n hx hb dJ3_checkIndex_8e157_16 rfl (lv_at hl 0 rfl) ?_
    exact rf_i hx hb hr hlocks rfl dJ3_checkIndex_8e157_17
  cases q with
  | none => exact key .null (Or.inl rfl)
  | some a => exact key (.ref a) (Or.inr ⟨a, rfl⟩)
theorem hd_J3_checkIndex_8e157 : yJ3_checkIndex_8e157.cls ≠ "java/lang/invoke/MethodHandle" ∧ yJ3_checkIndex_8e157.cls ≠ "java/lang/invoke/VarHandle" ∧ (parseMethodDescriptor yJ3_checkIndex_8e157.desc).map (fun d => d.parameters.length) = some 3 := by decide +kernel
theorem cw_J0_J3_checkIndex_8e157 {R : Room} {s : State} {args : Array Value} (ht : ∀ w ∈ wsL_law, w.before args s = true) (hR : rm_J3_checkIndex_8e157.frames + 1 ≤ R.frames ∧ 8 + (3 + 11) + rm_J3_checkIndex_8e157.locals ≤ R.locals) : CallB R s args RJ0 1059 yJ3_checkIndex_8e157 cJ3_checkIndex_8e157 3 (some .int) ((.code yJ3_checkIndex_8e157 cJ3_checkIndex_8e157 3 (some .int)) :: wsL_law) rm_J3_checkIndex_8e157 0 0 3 ∧ (Cond.static yJ3_checkIndex_8e157).before args s = true := va_cwS 3 ht (GS wq_11_14 wq_11_15 wq_11_16 wq_11_17) rfl rfl rfl hd_J3_checkIndex_8e157 hR
abbrev rm_J0_checkIndex_df160 : Room := { frames := 1, cells := 0, slots := 0, locals := 22 }
set_option maxHeartbeats 4000000 in
set_option maxRecDepth 100000 in
theorem c_J0_checkIndex_df160 (l : Launch) (D : va_G) (ct : Nat → ClassId) (G : GT) (i n : Int32) (h0 : ¬ i < 0) (h1 : i < n) : Met l yJ0_checkIndex_df160 (.code yJ0_checkIndex_df160 cJ0_checkIndex_df160 2 none :: wsL_law) rm_J0_checkIndex_df160 (va_Pc [.int i, .int n] (Bx D ct G [])) (Qro none) 0 0 (fun _ => False) := by
  refine Met.ofW (cc := cJ0_checkIndex_df160) (maxL := 2) (ret := none) (by decide) rfl ?_
  intro p e s m args below meth c s₁ B hml hv
  obtain ⟨rfl, hP, hK, hN, hX⟩ := hv
  have hts := atoms_spec (ws := .code yJ0_checkIndex_df160 cJ0_checkIndex_df160 2 none :: wsL_law) B.pre
  rw [lg_entry_eq]
  have hl := lv_entry [.int i, .int n] (n := 2) (Nat.le_of_ble_eq_true rfl)
  generalize (lg_sl ([.int i, .int n]) ++ List.replicate (2 - (lg_sl ([.int i, .int n])).length) Slot.unset).toArray = ls at hl ⊢
  have hl : lv_has ls 2 [(0, .int i), (1, .int n)] := hl
  have hx := B.exec
  have hb := B.bytes
  have hr := B.returns
  have hown : s.vm.findClass RJ0 = some m.cls := findClass_of_methodNamed B.named
  have htl : ∀ w ∈ wsL_law, w.before _ s = true := fun w h => hts w (List.mem_cons_of_mem _ h)
  have hlocks := B.notSynchronized
  have hS : va_S (GE G) s.heap s.heap [] := va_S.rf
  refine lv_iload_n hx hb dJ0_checkIndex_df160_0 rfl (lv_at hl 0 rfl) ?_
  refine lv_iload_n hx hb dJ0_checkIndex_df160_1 rfl (lv_at hl 1 rfl) ?_
  have hq : ∃ q : Option Nat, va_Z "jdk/internal/util/Preconditions" "SIOOBE_FORMATTER" "Ljava/util/function/BiFunction;" (va_rf q) (GE G) s s.heap := by
    rcases hX.2.2.2 with h | ⟨t, h⟩
    · exact ⟨none, h⟩
    · exact ⟨some t, h⟩
  obtain ⟨q, hq⟩ := hq
  refine va_gets hx hb hq hS hown (htl _ wq_11_13) (fun _ h9 => h9) dJ0_checkIndex_df160_2 ?_
  refine ro_call1 (va_runS (As := [.int i, .int n, va_rf q]) (rest := []) ⟨hx, hb, hml, hown, htl⟩ (c_J3_checkIndex_8e157 l D ct G i n q h0 h1) (cw_J0_J3_checkIndex_8e157 htl ⟨Nat.le_of_ble_eq_true rfl, Nat.le_of_ble_eq_true rfl⟩) ⟨Bx_blind, Bx_pre P_nil hK hN hX⟩ rfl rfl hl.1 rfl (lv_room (Nat.le_of_ble_eq_true rfl)) dJ0_checkIndex_df160_5 ⟨Nat.zero_le _, Nat.zero_le _⟩) ?_
  refine lv_pop hx hb dJ0_checkIndex_df160_8 rfl ?_
  exact W.vret hx hb hr (fun t ht hW => ⟨rfl, ht⟩) (fun q h => by cases h) dJ0_checkIndex_df160_9
theorem hd_J0_checkIndex_df160 : yJ0_checkIndex_df160.cls ≠ "java/lang/invoke/MethodHandle" ∧ yJ0_checkIndex_df160.cls ≠ "java/lang/invoke/VarHandle" ∧ (parseMethodDescriptor yJ0_checkIndex_df160.desc).map (fun d => d.parameters.length) = some 2 := by decide +kernel
theorem cw_J1_J0_checkIndex_df160 {R : Room} {s : State} {args : Array Value} (ht : ∀ w ∈ wsL_law, w.before args s = true) (hR : rm_J0_checkIndex_df160.frames + 1 ≤ R.frames ∧ 8 + (2 + 11) + rm_J0_checkIndex_df160.locals ≤ R.locals) : CallB R s args RJ1 9 yJ0_checkIndex_df160 cJ0_checkIndex_df160 2 none ((.code yJ0_checkIndex_df160 cJ0_checkIndex_df160 2 none) :: wsL_law) rm_J0_checkIndex_df160 0 0 2 ∧ (Cond.static yJ0_checkIndex_df160).before args s = true := va_cwS 2 ht (GS wq_11_10 wq_11_11 wq_10_12 wq_11_12) rfl rfl rfl hd_J0_checkIndex_df160 hR
def sc_c (w : Nat) (k : Nat) : Int32 := ((((bytS.getD w []).getD k 0) &&& 255).toUInt32 % 65536).toInt32
theorem sc_len : ∀ w, w < 13 → lenS.getD w 0 < 100 := by decide +kernel
theorem inb_lt {i : Int32} {n : Nat} (hn : n < 2 ^ 31) (h : vp_in i n) : ¬ i < 0 ∧ i < Int32.ofNat n := by
  obtain ⟨j, hj, rfl⟩ := vp_in_of h hn
  exact ⟨nI_pos (by omega), (nI_ltI (by omega) hn).mpr hj⟩
abbrev rm_J1_charAt_3b067 : Room := { frames := 2, cells := 0, slots := 0, locals := 43 }
set_option maxHeartbeats 4000000 in
set_option maxRecDepth 100000 in
theorem c_J1_charAt_3b067 (l : Launch) (D : va_G) (ct : Nat → ClassId) (G : GT) (w : Nat) (i : Int32) (hw : w < 13) (hi : vp_in i (lenS.getD w 0)) : Met l yJ1_charAt_3b067 (.code yJ1_charAt_3b067 cJ1_charAt_3b067 2 (some .char) :: wsL_law) rm_J1_charAt_3b067 (va_Pc [.ref (G.2.2 w), .int i] (Bx D ct G [])) (Qro (some (.int (sc_c w i.toNatClampNeg)))) 0 0 (fun _ => False) := by
  refine Met.ofW (cc := cJ1_charAt_3b067) (maxL := 2) (ret := (some .char)) (by decide) rfl ?_
  intro p e s m args below meth c s₁ B hml hv
  obtain ⟨rfl, hP, hK, hN, hX⟩ := hv
  have hts := atoms_spec (ws := .code yJ1_charAt_3b067 cJ1_charAt_3b067 2 (some .char) :: wsL_law) B.pre
  rw [lg_entry_eq]
  have hl := lv_entry [.ref (G.2.2 w), .int i] (n := 2) (Nat.le_of_ble_eq_true rfl)
  generalize (lg_sl ([.ref (G.2.2 w), .int i]) ++ List.replicate (2 - (lg_sl ([.ref (G.2.2 w), .int i])).length) Slot.unset).toArray = ls at hl ⊢
  have hl : lv_has ls 2 [(0, .ref (G.2.2 w)), (1, .int i)] := hl
  have hx := B.exec
  have hb := B.bytes
  have hr := B.returns
  have hown : s.vm.findClass RJ1 = some m.cls := findClass_of_methodNamed B.named
  have htl : ∀ w ∈ wsL_law, w.before _ s = true := fun w h => hts w (List.mem_cons_of_mem _ h)
  have hlocks := B.notSynchronized
  have hS : va_S (GE G) s.heap s.heap [] := va_S.rf
  obtain ⟨h0, h1⟩ := inb_lt (Nat.lt_of_lt_of_le (sc_len w hw) (by decide)) hi
  have hT := (hX.1.1 w hw).2.2.2
  refine lv_iload_n hx hb dJ1_charAt_3b067_0 rfl (lv_at hl 1 rfl) ?_
  refine lv_aload_n hx hb dJ1_charAt_3b067_1 rfl (lv_at hl 0 rfl) ?_
  refine va_tlen hx hb hT hS rfl dJ1_charAt_3b067_2 ?_
  refine ro_call0 (va_runS (As := [.int i, .int (Int32.ofNat (lenS.getD w 0))]) (rest := []) ⟨hx, hb, hml, hown, htl⟩ (c_J0_checkIndex_df160 l D ct G i _ h0 h1) (cw_J1_J0_checkIndex_df160 htl ⟨Nat.le_of_ble_eq_true rfl, Nat.le_of_ble_eq_true rfl⟩) ⟨Bx_blind, Bx_pre P_nil hK hN hX⟩ rfl rfl hl.1 rfl (lv_room (Nat.le_of_ble_eq_true rfl)) dJ1_charAt_3b067_3 ⟨Nat.zero_le _, Nat.zero_le _⟩) ?_
  refine lv_aload_n hx hb dJ1_charAt_3b067_6 rfl (lv_at hl 0 rfl) ?_
  refine lv_iload_n hx hb dJ1_charAt_3b067_7 rfl (lv_at hl 1 rfl) ?_
  refine va_tb hx hb hT hS hi rfl dJ1_charAt_3b067_8 ?_
  refine lv_sipush (v := 255) hx hb dJ1_charAt_3b067_9 (by decide) ?_
  refine lv_iand hx hb dJ1_charAt_3b067_12 ?_
  refine lv_i2c hx hb dJ1_charAt_3b067_13 rfl ?_
  refine rf_z hx hb hr hlocks ?_ rfl dJ1_charAt_3b067_14
  show narrow .char (.int (sc_c w i.toNatClampNeg)) = .int (sc_c w i.toNatClampNeg)
  unfold sc_c
  rw [sc_c2]
  exact sc_nar _
abbrev rm_J0_isLatin1_aae02 : Room := { frames := 0, cells := 0, slots := 0, locals := 0 }
set_option maxHeartbeats 4000000 in
set_option maxRecDepth 100000 in
theorem c_J0_isLatin1_aae02 (l : Launch) (D : va_G) (ct : Nat → ClassId) (G : GT) (w : Nat) (hw : w < 13) : Met l yJ0_isLatin1_aae02 (.code yJ0_isLatin1_aae02 cJ0_isLatin1_aae02 1 (some .boolean) :: wsL_law) rm_J0_isLatin1_aae02 (va_Pc [.ref (G.2.1 w)] (Bx D ct G [])) (Qro (some (.int 1))) 0 0 (fun _ => False) := by
  refine Met.ofW (cc := cJ0_isLatin1_aae02) (maxL := 1) (ret := (some .boolean)) (by decide) rfl ?_
  intro p e s m args below meth c s₁ B hml hv
  obtain ⟨rfl, hP, hK, hN, hX⟩ := hv
  have hts := atoms_spec (ws := .code yJ0_isLatin1_aae02 cJ0_isLatin1_aae02 1 (some .boolean) :: wsL_law) B.pre
  rw [lg_entry_eq]
  have hl := lv_entry [.ref (G.2.1 w)] (n := 1) (Nat.le_of_ble_eq_true rfl)
  generalize (lg_sl ([.ref (G.2.1 w)]) ++ List.replicate (1 - (lg_sl ([.ref (G.2.1 w)])).length) Slot.unset).toArray = ls at hl ⊢
  have hl : lv_has ls 1 [(0, .ref (G.2.1 w))] := hl
  have hx := B.exec
  have hb := B.bytes
  have hr := B.returns
  have hown : s.vm.findClass RJ0 = some m.cls := findClass_of_methodNamed B.named
  have htl : ∀ w ∈ wsL_law, w.before _ s = true := fun w h => hts w (List.mem_cons_of_mem _ h)
  have hlocks := B.notSynchronized
  have hS : va_S (GE G) s.heap s.heap [] := va_S.rf
  refine va_gets hx hb hX.2.2.1 hS hown (htl _ wq_10_19) (fun _ h9 => h9) dJ0_isLatin1_aae02_0 ?_
  refine lv_if_eq (tgt := 17) hx hb dJ0_isLatin1_aae02_3 (by decide) (fun c_1 => absurd c_1 (by decide)) (fun c_1 => ?_)
  refine lv_aload_n hx hb dJ0_isLatin1_aae02_6 rfl (lv_at hl 0 rfl) ?_
  refine vk_getf hx hb (hX.1.1 w hw).2.1 hS hown (htl _ wq_10_20) (fun _ h9 => h9) dJ0_isLatin1_aae02_7 ?_
  refine lv_if_ne (tgt := 17) hx hb dJ0_isLatin1_aae02_10 (by decide) (fun c_1 => absurd rfl c_1) (fun c_1 => ?_)
  refine lv_iconst (v := 1) hx hb dJ0_isLatin1_aae02_13 (by decide) ?_
  refine lv_goto (tgt := 18) hx hb dJ0_isLatin1_aae02_14 (by decide) ?_
  exact rf_z hx hb hr hlocks rfl rfl dJ0_isLatin1_aae02_18
abbrev rm_J0_coder_7d493 : Room := { frames := 0, cells := 0, slots := 0, locals := 0 }
set_option maxHeartbeats 4000000 in
set_option maxRecDepth 100000 in
theorem c_J0_coder_7d493 (l : Launch) (D : va_G) (ct : Nat → ClassId) (G : GT) (w : Nat) (hw : w < 13) : Met l yJ0_coder_7d493 (.code yJ0_coder_7d493 cJ0_coder_7d493 1 (some .byte) :: wsL_law) rm_J0_coder_7d493 (va_Pc [.ref (G.2.1 w)] (Bx D ct G [])) (Qro (some (.int 0))) 0 0 (fun _ => False) := by
  refine Met.ofW (cc := cJ0_coder_7d493) (maxL := 1) (ret := (some .byte)) (by decide) rfl ?_
  intro p e s m args below meth c s₁ B hml hv
  obtain ⟨rfl, hP, hK, hN, hX⟩ := hv
  have hts := atoms_spec (ws := .code yJ0_coder_7d493 cJ0_coder_7d493 1 (some .byte) :: wsL_law) B.pre
  rw [lg_entry_eq]
  have hl := lv_entry [.ref (G.2.1 w)] (n := 1) (Nat.le_of_ble_eq_true rfl)
  generalize (lg_sl ([.ref (G.2.1 w)]) ++ List.replicate (1 - (lg_sl ([.ref (G.2.1 w)])).length) Slot.unset).toArray = ls at hl ⊢
  have hl : lv_has ls 1 [(0, .ref (G.2.1 w))] := hl
  have hx := B.exec
  have hb := B.bytes
  have hr := B.returns
  have hown : s.vm.findClass RJ0 = some m.cls := findClass_of_methodNamed B.named
  have htl : ∀ w ∈ wsL_law, w.before _ s = true := fun w h => hts w (List.mem_cons_of_mem _ h)
  have hlocks := B.notSynchronized
  have hS : va_S (GE G) s.heap s.heap [] := va_S.rf
  refine va_gets hx hb hX.2.2.1 hS hown (htl _ wq_10_19) (fun _ h9 => h9) dJ0_coder_7d493_0 ?_
  refine lv_if_eq (tgt := 13) hx hb dJ0_coder_7d493_3 (by decide) (fun c_1 => absurd c_1 (by decide)) (fun c_1 => ?_)
  refine lv_aload_n hx hb dJ0_coder_7d493_6 rfl (lv_at hl 0 rfl) ?_
  refine vk_getf hx hb (hX.1.1 w hw).2.1 hS hown (htl _ wq_10_20) (fun _ h9 => h9) dJ0_coder_7d493_7 ?_
  refine lv_goto (tgt := 14) hx hb dJ0_coder_7d493_10 (by decide) ?_
  exact rf_z hx hb hr hlocks rfl rfl dJ0_coder_7d493_14
theorem hd_J0_isLatin1_aae02 : yJ0_isLatin1_aae02.cls ≠ "java/lang/invoke/MethodHandle" ∧ yJ0_isLatin1_aae02.cls ≠ "java/lang/invoke/VarHandle" ∧ (parseMethodDescriptor yJ0_isLatin1_aae02.desc).map (fun d => d.parameters.length) = some 0 := by decide +kernel
theorem cw_J0_J0_isLatin1_aae02 {R : Room} {s : State} {args : Array Value} (ht : ∀ w ∈ wsL_law, w.before args s = true) (hR : rm_J0_isLatin1_aae02.frames + 1 ≤ R.frames ∧ 8 + (1 + 11) + rm_J0_isLatin1_aae02.locals ≤ R.locals) : CallW R s args RJ0 RJ0 492 yJ0_isLatin1_aae02 cJ0_isLatin1_aae02 1 (some .boolean) ((.code yJ0_isLatin1_aae02 cJ0_isLatin1_aae02 1 (some .boolean)) :: wsL_law) rm_J0_isLatin1_aae02 0 0 0 := cwV 0 ht (GV wq_11_2 wq_11_3 wq_11_4 wq_10_12 wq_11_5) rfl rfl rfl ⟨rfl, hd_J0_isLatin1_aae02⟩ hR
theorem hd_J0_coder_7d493 : yJ0_coder_7d493.cls ≠ "java/lang/invoke/MethodHandle" ∧ yJ0_coder_7d493.cls ≠ "java/lang/invoke/VarHandle" ∧ (parseMethodDescriptor yJ0_coder_7d493.desc).map (fun d => d.parameters.length) = some 0 := by decide +kernel
theorem cw_J0_J0_coder_7d493 {R : Room} {s : State} {args : Array Value} (ht : ∀ w ∈ wsL_law, w.before args s = true) (hR : rm_J0_coder_7d493.frames + 1 ≤ R.frames ∧ 8 + (1 + 11) + rm_J0_coder_7d493.locals ≤ R.locals) : CallW R s args RJ0 RJ0 335 yJ0_coder_7d493 cJ0_coder_7d493 1 (some .byte) ((.code yJ0_coder_7d493 cJ0_coder_7d493 1 (some .byte)) :: wsL_law) rm_J0_coder_7d493 0 0 0 := cwV 0 ht (GV wq_10_15 wq_10_16 wq_10_17 wq_10_12 wq_10_18) rfl rfl rfl ⟨rfl, hd_J0_coder_7d493⟩ hR
theorem hd_J1_charAt_3b067 : yJ1_charAt_3b067.cls ≠ "java/lang/invoke/MethodHandle" ∧ yJ1_charAt_3b067.cls ≠ "java/lang/invoke/VarHandle" ∧ (parseMethodDescriptor yJ1_charAt_3b067.desc).map (fun d => d.parameters.length) = some 2 := by decide +kernel
theorem cw_J0_J1_charAt_3b067 {R : Room} {s : State} {args : Array Value} (ht : ∀ w ∈ wsL_law, w.before args s = true) (hR : rm_J1_charAt_3b067.frames + 1 ≤ R.frames ∧ 8 + (2 + 11) + rm_J1_charAt_3b067.locals ≤ R.locals) : CallB R s args RJ0 495 yJ1_charAt_3b067 cJ1_charAt_3b067 2 (some .char) ((.code yJ1_charAt_3b067 cJ1_charAt_3b067 2 (some .char)) :: wsL_law) rm_J1_charAt_3b067 0 0 2 ∧ (Cond.static yJ1_charAt_3b067).before args s = true := va_cwS 2 ht (GS wq_11_6 wq_11_7 wq_11_8 wq_11_9) rfl rfl rfl hd_J1_charAt_3b067 hR
def p_J0_charAt (w : Nat) (v : Int32) : Option Int32 := if inb v (lenS.getD w 0) = true then some (sc_c w v.toNatClampNeg) else none
def p_J0_length (w : Nat) : Option Int32 := some (nI (lenS.getD w 0))
abbrev rm_J0_charAt_5068e : Room := { frames := 3, cells := 0, slots := 0, locals := 64 }
set_option maxHeartbeats 4000000 in
set_option maxRecDepth 100000 in
theorem c_J0_charAt_5068e (l : Launch) (D : va_G) (ct : Nat → ClassId) (G : GT) (w : Nat) (i : Int32) {r : Int32} (hf : p_J0_charAt w i = some r) (hw : w < 13) : Met l yJ0_charAt_5068e (.code yJ0_charAt_5068e cJ0_charAt_5068e 2 (some .char) :: wsL_law) rm_J0_charAt_5068e (va_Pc [.ref (G.2.1 w), .int i] (Bx D ct G [])) (Qro (some (.int r))) 0 0 (fun _ => False) := by
  refine Met.ofW (cc := cJ0_charAt_5068e) (maxL := 2) (ret := (some .char)) (by decide) rfl ?_
  intro p e s m args below meth c s₁ B hml hv
  obtain ⟨rfl, hP, hK, hN, hX⟩ := hv
  have hts := atoms_spec (ws := .code yJ0_charAt_5068e cJ0_charAt_5068e 2 (some .char) :: wsL_law) B.pre
  rw [lg_entry_eq]
  have hl := lv_entry [.ref (G.2.1 w), .int i] (n := 2) (Nat.le_of_ble_eq_true rfl)
  generalize (lg_sl ([.ref (G.2.1 w), .int i]) ++ List.replicate (2 - (lg_sl ([.ref (G.2.1 w), .int i])).length) Slot.unset).toArray = ls at hl ⊢
  have hl : lv_has ls 2 [(0, .ref (G.2.1 w)), (1, .int i)] := hl
  have hx := B.exec
  have hb := B.bytes
  have hr := B.returns
  have hown : s.vm.findClass RJ0 = some m.cls := findClass_of_methodNamed B.named
  have htl : ∀ w ∈ wsL_law, w.before _ s = true := fun w h => hts w (List.mem_cons_of_mem _ h)
  have hlocks := B.notSynchronized
  have hS : va_S (GE G) s.heap s.heap [] := va_S.rf
  obtain ⟨hi, hf⟩ := ob_in hf
  cases hf
  refine lv_aload_n hx hb dJ0_charAt_5068e_0 rfl (lv_at hl 0 rfl) ?_
  refine ro_call1 (va_runV (As := []) (rest := []) ⟨hx, hb, hml, hown, htl⟩ (c_J0_isLatin1_aae02 l D ct G w hw) (cw_J0_J0_isLatin1_aae02 htl ⟨Nat.le_of_ble_eq_true rfl, Nat.le_of_ble_eq_true rfl⟩) ⟨Bx_blind, vk_recv hX.1 hw hS, Bx_pre P_nil hK hN hX⟩ rfl rfl hl.1 rfl (lv_room (Nat.le_of_ble_eq_true rfl)) dJ0_charAt_5068e_1 ⟨Nat.zero_le _, Nat.zero_le _⟩) ?_
  refine lv_if_eq (tgt := 16) hx hb dJ0_charAt_5068e_4 (by decide) (fun c_1 => absurd c_1 (by decide)) (fun c_1 => ?_)
  refine lv_aload_n hx hb dJ0_charAt_5068e_7 rfl (lv_at hl 0 rfl) ?_
  refine vk_getf hx hb (hX.1.1 w hw).2.2.1 hS hown (htl _ wq_10_14) (fun _ h9 => h9) dJ0_charAt_5068e_8 ?_
  refine lv_iload_n hx hb dJ0_charAt_5068e_11 rfl (lv_at hl 1 rfl) ?_
  refine ro_call1 (va_runS (As := [.ref (G.2.2 w), .int i]) (rest := []) ⟨hx, hb, hml, hown, htl⟩ (c_J1_charAt_3b067 l D ct G w i hw hi) (cw_J0_J1_charAt_3b067 htl ⟨Nat.le_of_ble_eq_true rfl, Nat.le_of_ble_eq_true rfl⟩) ⟨Bx_blind, Bx_pre P_nil hK hN hX⟩ rfl rfl hl.1 rfl (lv_room (Nat.le_of_ble_eq_true rfl)) dJ0_charAt_5068e_12 ⟨Nat.zero_le _, Nat.zero_le _⟩) ?_
  refine rf_z hx hb hr hlocks ?_ rfl dJ0_charAt_5068e_15
  unfold sc_c
  rw [sc_c2]
  exact sc_nar _
abbrev rm_J0_length_8abf5 : Room := { frames := 1, cells := 0, slots := 0, locals := 20 }
set_option maxHeartbeats 4000000 in
set_option maxRecDepth 100000 in
theorem c_J0_length_8abf5 (l : Launch) (D : va_G) (ct : Nat → ClassId) (G : GT) (w : Nat) {r : Int32} (hf : p_J0_length w = some r) (hw : w < 13) : Met l yJ0_length_8abf5 (.code yJ0_length_8abf5 cJ0_length_8abf5 1 (some .int) :: wsL_law) rm_J0_length_8abf5 (va_Pc [.ref (G.2.1 w)] (Bx D ct G [])) (Qro (some (.int r))) 0 0 (fun _ => False) := by
  refine Met.ofW (cc := cJ0_length_8abf5) (maxL := 1) (ret := (some .int)) (by decide) rfl ?_
  intro p e s m args below meth c s₁ B hml hv
  obtain ⟨rfl, hP, hK, hN, hX⟩ := hv
  have hts := atoms_spec (ws := .code yJ0_length_8abf5 cJ0_length_8abf5 1 (some .int) :: wsL_law) B.pre
  rw [lg_entry_eq]
  have hl := lv_entry [.ref (G.2.1 w)] (n := 1) (Nat.le_of_ble_eq_true rfl)
  generalize (lg_sl ([.ref (G.2.1 w)]) ++ List.replicate (1 - (lg_sl ([.ref (G.2.1 w)])).length) Slot.unset).toArray = ls at hl ⊢
  have hl : lv_has ls 1 [(0, .ref (G.2.1 w))] := hl
  have hx := B.exec
  have hb := B.bytes
  have hr := B.returns
  have hown : s.vm.findClass RJ0 = some m.cls := findClass_of_methodNamed B.named
  have htl : ∀ w ∈ wsL_law, w.before _ s = true := fun w h => hts w (List.mem_cons_of_mem _ h)
  have hlocks := B.notSynchronized
  have hS : va_S (GE G) s.heap s.heap [] := va_S.rf
  cases hf
  refine lv_aload_n hx hb dJ0_length_8abf5_0 rfl (lv_at hl 0 rfl) ?_
  refine vk_getf hx hb (hX.1.1 w hw).2.2.1 hS hown (htl _ wq_10_14) (fun _ h9 => h9) dJ0_length_8abf5_1 ?_
  refine va_tlen hx hb (hX.1.1 w hw).2.2.2 hS rfl dJ0_length_8abf5_4 ?_
  refine lv_aload_n hx hb dJ0_length_8abf5_5 rfl (lv_at hl 0 rfl) ?_
  refine ro_call1 (va_runV (As := []) (rest := [.int (Int32.ofNat (lenS.getD w 0))]) ⟨hx, hb, hml, hown, htl⟩ (c_J0_coder_7d493 l D ct G w hw) (cw_J0_J0_coder_7d493 htl ⟨Nat.le_of_ble_eq_true rfl, Nat.le_of_ble_eq_true rfl⟩) ⟨Bx_blind, vk_recv hX.1 hw hS, Bx_pre P_nil hK hN hX⟩ rfl rfl hl.1 rfl (lv_room (Nat.le_of_ble_eq_true rfl)) dJ0_length_8abf5_6 ⟨Nat.zero_le _, Nat.zero_le _⟩) ?_
  refine lv_ishr hx hb dJ0_length_8abf5_9 ?_
  refine rf_i hx hb hr hlocks ?_ dJ0_length_8abf5_10
  have h31 : lenS.getD w 0 < 2 ^ 31 := Nat.lt_of_lt_of_le (sc_len w hw) (by decide)
  exact congrArg some (sc_shr0 h31)
theorem sw_out_2_6 {x : Int32} (h2 : ¬ x.toInt = 2) (h3 : ¬ x.toInt = 3) (h4 : ¬ x.toInt = 4) (h5 : ¬ x.toInt = 5) (h6 : ¬ x.toInt = 6) : x.toInt < 2 ∨ 6 < x.toInt := by omega
def p_X1_blame (fu : Nat) (o : Ob) (ok : Ob) (ov : Ob) (v1 : Int32) : Option (Ob × Ob × Ob) :=
  if (o.1 2 0) = 0 then some ((oI o 2 v1), ok, ov) else some (o, ok, ov)
abbrev rm_X1_blame : Room := { frames := 0, cells := 0, slots := 0, locals := 0 }
set_option maxHeartbeats 4000000 in
set_option maxRecDepth 100000 in
theorem b_X1_blame {p : Program} {l : Launch} {e : Env} {s : State} {m : MethodId} {args : Array Value} {below : List Frame} {meth : Method} {c : Code} {ls : Array Slot} {D : va_G} {ct : Nat → ClassId} {G : GT} (a : Nat → Nat) (fu : Nat) (o : Ob) (ok : Ob) (ov : Ob) (v1 : Int32) {r : Ob × Ob × Ob} (hx : p.tables.exec = Jvm.exec) (hb : c.code = cX1_blame) (hr : meth.sig.returnType = none) (hml : c.maxLocals = 2) (hown : s.vm.findClass RX1 = some m.cls) (htl : ∀ w ∈ wsL_law, w.before args s = true) (hlocks : meth.locks = false) (hK : va_K D vwCl (tyl ct) s) (hN : ∀ w ∈ NW, va_Nw w s) (hX : SX G s s.heap) (hP0 : va_P D vwCl (cs1 ct a o ok ov) s.heap) (hf : p_X1_blame fu o ok ov v1 = some r) (hD0 : va_D (GE G) (cs1 ct a o ok ov))  (hl : lv_has ls 2 [(0, .ref (a 0)), (1, .int v1)]) : W p l e rm_X1_blame s m args below meth c s.heap [] 0 0 (MQ below (Qwr none (fun H => va_P D vwCl (cs1 ct a r.1 r.2.1 r.2.2) H) (wA (cs1 ct a o ok ov))) args s 0 0 (wA (cs1 ct a o ok ov))) (F0 m 0 ls []) := by
  generalize hQQ : MQ below (Qwr none (fun H => va_P D vwCl (cs1 ct a r.1 r.2.1 r.2.2) H) (wA (cs1 ct a o ok ov))) args s 0 0 (wA (cs1 ct a o ok ov)) = QQ
  have hDx : ∀ (oy : Ob) (oky : Ob) (ovy : Ob), va_D (GE G) (cs1 ct a oy oky ovy) := fun oy oky ovy => D_cr hD0 rfl
  have hDW : ∀ (oy : Ob) (oky : Ob) (ovy : Ob), va_D (wA (cs1 ct a o ok ov)) (cs1 ct a oy oky ovy) := fun oy oky ovy => D_cr (D_self hD0) rfl
  have hGE : ∀ q, wA (cs1 ct a o ok ov) q → GE G q := wA_GE hD0
  have hP := hP0
  have hS : va_S (wA (cs1 ct a o ok ov)) s.heap s.heap [] := va_S.rf
  rw [p_X1_blame] at hf
  refine lv_aload_n hx hb dX1_blame_0 rfl (lv_at hl 0 rfl) ?_
  refine va_get (D := D) (ci := 1) (v := .int (o.1 2 0)) (C := RX1) (T := TX1) (N := 6) hx hb htl inlX1 hown hK hP 0 rfl rfl 2 (by decide) (htl _ wq_3_18) (fun _ h9 => h9) rfl dX1_blame_1 ?_
  refine lv_if_ne (tgt := 12) hx hb dX1_blame_4 (by decide) (fun c_4 => ?_) (fun c_4 => ?_)
  · rw [if_neg c_4] at hf
    rw [← hQQ]
    cases hf
    exact rw_v hx hb hr hlocks hP hS dX1_blame_12
  rw [if_pos c_4] at hf
  refine lv_aload_n hx hb dX1_blame_7 rfl (lv_at hl 0 rfl) ?_
  refine lv_iload_n hx hb dX1_blame_8 rfl (lv_at hl 1 rfl) ?_
  refine va_put (D := D) (ci := 1) (v := .int v1) (ty := .int) (C := RX1) (T := TX1) (N := 6) hx hb htl inlX1 tyX1 tyX1_ok nmX1 hown hK hP (hDW o ok ov) hS 0 rfl rfl 2 (by decide) (htl _ wq_3_18) (fun _ h9 => h9) rfl (tyX1_ok 2 (by decide)) rfl rfl (Nat.le_of_ble_eq_true rfl) dX1_blame_9 (fun H_9 locs_9 hP _ hS => ?_)
  have hP : va_P D vwCl (cs1 ct a (oI o 2 v1) ok ov) H_9 := st1_2 hP
  rw [← hQQ]
  cases hf
  exact rw_v hx hb hr hlocks hP hS dX1_blame_12
theorem c_X1_blame (l : Launch) (D : va_G) (ct : Nat → ClassId) (G : GT) (a : Nat → Nat) (fu : Nat) (o : Ob) (ok : Ob) (ov : Ob) (v1 : Int32) {r : Ob × Ob × Ob} (hf : p_X1_blame fu o ok ov v1 = some r)  (hD0 : va_D (GE G) (cs1 ct a o ok ov)) : Met l yX1_blame (.code yX1_blame cX1_blame 2 none :: wsL_law) rm_X1_blame (va_Pc [.ref (a 0), .int v1] (Bx D ct G (cs1 ct a o ok ov))) (Qwr none (fun H => va_P D vwCl (cs1 ct a r.1 r.2.1 r.2.2) H) (wA (cs1 ct a o ok ov))) 0 0 (wA (cs1 ct a o ok ov)) := by
  refine Met.ofW (cc := cX1_blame) (maxL := 2) (ret := none) (by decide) rfl ?_
  intro p e s m args below meth c s₁ B hml hv
  obtain ⟨rfl, hP, hK, hN, hX⟩ := hv
  have hts := atoms_spec (ws := .code yX1_blame cX1_blame 2 none :: wsL_law) B.pre
  rw [lg_entry_eq]
  exact b_X1_blame a fu o ok ov v1 B.exec B.bytes B.returns hml (findClass_of_methodNamed B.named) (fun w h => hts w (List.mem_cons_of_mem _ h)) B.notSynchronized hK hN hX hP hf hD0  (lv_entry [.ref (a 0), .int v1] (n := 2) (Nat.le_of_ble_eq_true rfl))
theorem hd_X1_blame : yX1_blame.cls ≠ "java/lang/invoke/MethodHandle" ∧ yX1_blame.cls ≠ "java/lang/invoke/VarHandle" ∧ (parseMethodDescriptor yX1_blame.desc).map (fun d => d.parameters.length) = some 1 := by decide +kernel
theorem cw_X1_X1_blame {R : Room} {s : State} {args : Array Value} (ht : ∀ w ∈ wsL_law, w.before args s = true) (hR : rm_X1_blame.frames + 1 ≤ R.frames ∧ 8 + (2 + 11) + rm_X1_blame.locals ≤ R.locals) : CallW R s args RX1 RX1 65 yX1_blame cX1_blame 2 none ((.code yX1_blame cX1_blame 2 none) :: wsL_law) rm_X1_blame 0 0 1 := cwV 1 ht (GV wq_13_14 wq_13_15 wq_13_16 wq_1_19 wq_13_17) rfl rfl rfl ⟨rfl, hd_X1_blame⟩ hR
def p_X1_claim_J10 (fu : Nat)  (oz : Ob) (okz : Ob) (ovz : Ob) (v1 : Int32) (v2 : Int32) : Option (Int32 × Ob × Ob × Ob) :=
    some ((if (v2 - 1) < v1 then (v2 - 1) else v1), oz, okz, ovz)
def p_X1_claim (fu : Nat) (o : Ob) (ok : Ob) (ov : Ob) (v1 : Int32) (v2 : Int32) : Option (Int32 × Ob × Ob × Ob) :=
  if v1 < v2 then p_X1_claim_J10 fu o ok ov v1 v2 else (p_X1_blame fu o ok ov (3 : Int32)).bind fun r_7 => p_X1_claim_J10 fu r_7.1 r_7.2.1 r_7.2.2 v1 v2
abbrev rm_X1_claim : Room := { frames := 1, cells := 0, slots := 0, locals := 21 }
set_option maxHeartbeats 4000000 in
set_option maxRecDepth 100000 in
theorem b_X1_claim {p : Program} {l : Launch} {e : Env} {s : State} {m : MethodId} {args : Array Value} {below : List Frame} {meth : Method} {c : Code} {ls : Array Slot} {D : va_G} {ct : Nat → ClassId} {G : GT} (a : Nat → Nat) (fu : Nat) (o : Ob) (ok : Ob) (ov : Ob) (v1 : Int32) (v2 : Int32) {r : Int32 × Ob × Ob × Ob} (hx : p.tables.exec = Jvm.exec) (hb : c.code = cX1_claim) (hr : meth.sig.returnType = (some .int)) (hml : c.maxLocals = 3) (hown : s.vm.findClass RX1 = some m.cls) (htl : ∀ w ∈ wsL_law, w.before args s = true) (hlocks : meth.locks = false) (hK : va_K D vwCl (tyl ct) s) (hN : ∀ w ∈ NW, va_Nw w s) (hX : SX G s s.heap) (hP0 : va_P D vwCl (cs1 ct a o ok ov) s.heap) (hf : p_X1_claim fu o ok ov v1 v2 = some r) (hD0 : va_D (GE G) (cs1 ct a o ok ov))  (hl : lv_has ls 3 [(0, .ref (a 0)), (1, .int v1), (2, .int v2)]) : W p l e rm_X1_claim s m args below meth c s.heap [] 0 0 (MQ below (Qwr (some (.int r.1)) (fun H => va_P D vwCl (cs1 ct a r.2.1 r.2.2.1 r.2.2.2) H) (wA (cs1 ct a o ok ov))) args s 0 0 (wA (cs1 ct a o ok ov))) (F0 m 0 ls []) := by
  generalize hQQ : MQ below (Qwr (some (.int r.1)) (fun H => va_P D vwCl (cs1 ct a r.2.1 r.2.2.1 r.2.2.2) H) (wA (cs1 ct a o ok ov))) args s 0 0 (wA (cs1 ct a o ok ov)) = QQ
  have hDx : ∀ (oy : Ob) (oky : Ob) (ovy : Ob), va_D (GE G) (cs1 ct a oy oky ovy) := fun oy oky ovy => D_cr hD0 rfl
  have hDW : ∀ (oy : Ob) (oky : Ob) (ovy : Ob), va_D (wA (cs1 ct a o ok ov)) (cs1 ct a oy oky ovy) := fun oy oky ovy => D_cr (D_self hD0) rfl
  have hGE : ∀ q, wA (cs1 ct a o ok ov) q → GE G q := wA_GE hD0
  have hP := hP0
  have hS : va_S (wA (cs1 ct a o ok ov)) s.heap s.heap [] := va_S.rf
  have hJ10 : ∀ (oz : Ob) (okz : Ob) (ovz : Ob) (v1 : Int32) (v2 : Int32), ∀ (H : Heap) (locs : List Loc) (ls : Array Slot), va_P D vwCl (cs1 ct a oz okz ovz) H → va_S (wA (cs1 ct a o ok ov)) s.heap H locs → lv_has ls 3 [(1, .int v1), (2, .int v2)] → p_X1_claim_J10 fu  oz okz ovz v1 v2 = some r → W p l e rm_X1_claim s m args below meth c H locs 0 0 QQ (F0 m 10 ls []) := by
    intro  oz okz ovz v1 v2 H locs ls hP hS hl hf 
    rw [p_X1_claim_J10] at hf
    refine lv_iload_n hx hb dX1_claim_10 rfl (lv_at hl 0 rfl) ?_
    refine lv_iload_n hx hb dX1_claim_11 rfl (lv_at hl 1 rfl) ?_
    refine lv_iconst (v := 1) hx hb dX1_claim_12 (by decide) ?_
    refine lv_isub hx hb dX1_claim_13 ?_
    refine va_mmin hx hb (hml.trans hl.1.symm) hown (htl _ wq_14_10) (htl _ wq_12_22) (htl _ wq_12_23) (htl _ wq_13_0) (Nat.le_of_ble_eq_true rfl) (Nat.le_of_ble_eq_true rfl) (Nat.zero_le _) (Nat.zero_le _) dX1_claim_14 ?_
    rw [← hQQ]
    cases hf
    exact rw_i hx hb hr hlocks hP hS dX1_claim_17
  rw [p_X1_claim] at hf
  refine lv_iload_n hx hb dX1_claim_0 rfl (lv_at hl 1 rfl) ?_
  refine lv_iload_n hx hb dX1_claim_1 rfl (lv_at hl 2 rfl) ?_
  refine lv_icmp_lt (tgt := 10) hx hb dX1_claim_2 (by decide) (fun c_2 => ?_) (fun c_2 => ?_)
  · rw [if_pos c_2] at hf
    exact hJ10 o ok ov v1 v2 _ _ _ hP hS (lv_sub hl [1, 2] rfl) hf 
  rw [if_neg c_2] at hf
  refine lv_aload_n hx hb dX1_claim_5 rfl (lv_at hl 0 rfl) ?_
  refine lv_iconst (v := 3) hx hb dX1_claim_6 (by decide) ?_
  obtain ⟨r_7, e_7, hf⟩ := ob_bind hf
  have hPX_7 : va_P D vwCl (cs1 ct a o ok ov) s.heap := hP
  refine wr_call0 (va_runV (As := [.int 3]) (rest := []) ⟨hx, hb, hml, hown, htl⟩ (c_X1_blame l D ct G a fu o ok ov (3 : Int32) e_7 (hDx o ok ov)) (cw_X1_X1_blame htl ⟨Nat.le_of_ble_eq_true rfl, Nat.le_of_ble_eq_true rfl⟩) ⟨Bx_blind, va_recv hK hPX_7 (ci := 1) (q0 := 0) rfl rfl, Bx_pre hPX_7 hK hN (hX.stay hS hGE)⟩ rfl rfl hl.1 rfl (lv_room (Nat.le_of_ble_eq_true rfl)) dX1_claim_7 ⟨Nat.zero_le _, Nat.zero_le _⟩) hS (wA_cg rfl) (fun H_7 locs_7 hB_7 _ hk_7 hS => ?_)
  have hP : va_P D vwCl (cs1 ct a r_7.1 r_7.2.1 r_7.2.2) H_7 := hB_7
  exact hJ10 r_7.1 r_7.2.1 r_7.2.2 v1 v2 _ _ _ hP hS (lv_sub hl [1, 2] rfl) hf 
theorem c_X1_claim (l : Launch) (D : va_G) (ct : Nat → ClassId) (G : GT) (a : Nat → Nat) (fu : Nat) (o : Ob) (ok : Ob) (ov : Ob) (v1 : Int32) (v2 : Int32) {r : Int32 × Ob × Ob × Ob} (hf : p_X1_claim fu o ok ov v1 v2 = some r)  (hD0 : va_D (GE G) (cs1 ct a o ok ov)) : Met l yX1_claim (.code yX1_claim cX1_claim 3 (some .int) :: wsL_law) rm_X1_claim (va_Pc [.ref (a 0), .int v1, .int v2] (Bx D ct G (cs1 ct a o ok ov))) (Qwr (some (.int r.1)) (fun H => va_P D vwCl (cs1 ct a r.2.1 r.2.2.1 r.2.2.2) H) (wA (cs1 ct a o ok ov))) 0 0 (wA (cs1 ct a o ok ov)) := by
  refine Met.ofW (cc := cX1_claim) (maxL := 3) (ret := (some .int)) (by decide) rfl ?_
  intro p e s m args below meth c s₁ B hml hv
  obtain ⟨rfl, hP, hK, hN, hX⟩ := hv
  have hts := atoms_spec (ws := .code yX1_claim cX1_claim 3 (some .int) :: wsL_law) B.pre
  rw [lg_entry_eq]
  exact b_X1_claim a fu o ok ov v1 v2 B.exec B.bytes B.returns hml (findClass_of_methodNamed B.named) (fun w h => hts w (List.mem_cons_of_mem _ h)) B.notSynchronized hK hN hX hP hf hD0  (lv_entry [.ref (a 0), .int v1, .int v2] (n := 3) (Nat.le_of_ble_eq_true rfl))
theorem cw_X1_X9_pick {R : Room} {s : State} {args : Array Value} (ht : ∀ w ∈ wsL_law, w.before args s = true) (hN : ∀ w ∈ NW, va_Nw w s) (hR : rm_X9_pick.frames + 1 ≤ R.frames ∧ 8 + (2 + 11) + rm_X9_pick.locals ≤ R.locals) : va_CN R s args RX1 49 yX9_pick "QuotedRiver" cX9_pick 2 (some .int) ((.code yX9_pick cX9_pick 2 (some .int)) :: wsL_law) rm_X9_pick 0 0 2 ∧ (Cond.static yX9_pick).before args s = true ∧ True := ⟨va_cnB 2 ht (GL wq_13_5) rfl rfl rfl (hN _ nm_117) (ht _ wq_1_2) hd_X9_pick hR, ht _ wq_13_4, trivial⟩
def p_X1_take_J13 (fu : Nat)  (oz : Ob) (okz : Ob) (ovz : Ob) : Option (Ob × Ob × Ob) :=
    if (oz.1 2 0) = 0 then (p_X9_pick fu 701 (okz.1 0) ((oI oz 5 ((oz.1 5 0) + 1)).1 5 0)).bind fun r_42 => some ((oI (oI oz 5 ((oz.1 5 0) + 1)) 4 r_42), okz, ovz) else some (oz, okz, ovz)
def p_X1_take (fu : Nat) (o : Ob) (ok : Ob) (ov : Ob) (v1 : Int32) : Option (Ob × Ob × Ob) :=
  if (o.1 4 0) = v1 then p_X1_take_J13 fu o ok ov else (p_X1_blame fu o ok ov (1 : Int32)).bind fun r_10 => p_X1_take_J13 fu r_10.1 r_10.2.1 r_10.2.2
abbrev rm_X1_take : Room := { frames := 1, cells := 0, slots := 0, locals := 21 }
set_option maxHeartbeats 4000000 in
set_option maxRecDepth 100000 in
theorem b_X1_take {p : Program} {l : Launch} {e : Env} {s : State} {m : MethodId} {args : Array Value} {below : List Frame} {meth : Method} {c : Code} {ls : Array Slot} {D : va_G} {ct : Nat → ClassId} {G : GT} (a : Nat → Nat) (fu : Nat) (o : Ob) (ok : Ob) (ov : Ob) (v1 : Int32) {r : Ob × Ob × Ob} (hx : p.tables.exec = Jvm.exec) (hb : c.code = cX1_take) (hr : meth.sig.returnType = none) (hml : c.maxLocals = 2) (hown : s.vm.findClass RX1 = some m.cls) (htl : ∀ w ∈ wsL_law, w.before args s = true) (hlocks : meth.locks = false) (hK : va_K D vwCl (tyl ct) s) (hN : ∀ w ∈ NW, va_Nw w s) (hX : SX G s s.heap) (hP0 : va_P D vwCl (cs1 ct a o ok ov) s.heap) (hf : p_X1_take fu o ok ov v1 = some r) (hD0 : va_D (GE G) (cs1 ct a o ok ov))  (hl : lv_has ls 2 [(0, .ref (a 0)), (1, .int v1)]) : W p l e rm_X1_take s m args below meth c s.heap [] 0 0 (MQ below (Qwr none (fun H => va_P D vwCl (cs1 ct a r.1 r.2.1 r.2.2) H) (wA (cs1 ct a o ok ov))) args s 0 0 (wA (cs1 ct a o ok ov))) (F0 m 0 ls []) := by
  generalize hQQ : MQ below (Qwr none (fun H => va_P D vwCl (cs1 ct a r.1 r.2.1 r.2.2) H) (wA (cs1 ct a o ok ov))) args s 0 0 (wA (cs1 ct a o ok ov)) = QQ
  have hDx : ∀ (oy : Ob) (oky : Ob) (ovy : Ob), va_D (GE G) (cs1 ct a oy oky ovy) := fun oy oky ovy => D_cr hD0 rfl
  have hDW : ∀ (oy : Ob) (oky : Ob) (ovy : Ob), va_D (wA (cs1 ct a o ok ov)) (cs1 ct a oy oky ovy) := fun oy oky ovy => D_cr (D_self hD0) rfl
  have hGE : ∀ q, wA (cs1 ct a o ok ov) q → GE G q := wA_GE hD0
  have hP := hP0
  have hS : va_S (wA (cs1 ct a o ok ov)) s.heap s.heap [] := va_S.rf
  have hJ13 : ∀ (oz : Ob) (okz : Ob) (ovz : Ob), ∀ (H : Heap) (locs : List Loc) (ls : Array Slot), va_P D vwCl (cs1 ct a oz okz ovz) H → va_S (wA (cs1 ct a o ok ov)) s.heap H locs → lv_has ls 2 [(0, .ref (a 0))] → p_X1_take_J13 fu  oz okz ovz = some r → W p l e rm_X1_take s m args below meth c H locs 0 0 QQ (F0 m 13 ls []) := by
    intro  oz okz ovz H locs ls hP hS hl hf 
    rw [p_X1_take_J13] at hf
    refine lv_aload_n hx hb dX1_take_13 rfl (lv_at hl 0 rfl) ?_
    refine va_get (D := D) (ci := 1) (v := .int (oz.1 2 0)) (C := RX1) (T := TX1) (N := 6) hx hb htl inlX1 hown hK hP 0 rfl rfl 2 (by decide) (htl _ wq_3_18) (fun _ h9 => h9) rfl dX1_take_14 ?_
    refine lv_if_ne (tgt := 48) hx hb dX1_take_17 (by decide) (fun c_17 => ?_) (fun c_17 => ?_)
    · rw [if_neg c_17] at hf
      rw [← hQQ]
      cases hf
      exact rw_v hx hb hr hlocks hP hS dX1_take_48
    rw [if_pos c_17] at hf
    refine lv_aload_n hx hb dX1_take_20 rfl (lv_at hl 0 rfl) ?_
    refine lv_dup hx hb dX1_take_21 rfl ?_
    refine va_get (D := D) (ci := 1) (v := .int (oz.1 5 0)) (C := RX1) (T := TX1) (N := 6) hx hb htl inlX1 hown hK hP 0 rfl rfl 5 (by decide) (htl _ wq_3_21) (fun _ h9 => h9) rfl dX1_take_22 ?_
    refine lv_iconst (v := 1) hx hb dX1_take_25 (by decide) ?_
    refine lv_iadd hx hb dX1_take_26 ?_
    refine va_put (D := D) (ci := 1) (v := .int ((oz.1 5 0) + 1)) (ty := .int) (C := RX1) (T := TX1) (N := 6) hx hb htl inlX1 tyX1 tyX1_ok nmX1 hown hK hP (hDW oz okz ovz) hS 0 rfl rfl 5 (by decide) (htl _ wq_3_21) (fun _ h9 => h9) rfl (tyX1_ok 5 (by decide)) rfl rfl (Nat.le_of_ble_eq_true rfl) dX1_take_27 (fun H_27 locs_27 hP _ hS => ?_)
    have hP : va_P D vwCl (cs1 ct a (oI oz 5 ((oz.1 5 0) + 1)) okz ovz) H_27 := st1_5 hP
    refine lv_aload_n hx hb dX1_take_30 rfl (lv_at hl 0 rfl) ?_
    refine lv_aload_n hx hb dX1_take_31 rfl (lv_at hl 0 rfl) ?_
    refine va_get (D := D) (ci := 1) (v := .ref (a 1)) (C := RX1) (T := TX1) (N := 6) hx hb htl inlX1 hown hK hP 0 rfl rfl 0 (by decide) (htl _ wq_3_15) (fun _ h9 => h9) rfl dX1_take_32 ?_
    refine va_getN (D := D) (ci := 7) (v := .ref (a 2)) (C := RX7) (T := TX7) (N := 4) hx hb htl inlX7 hown hK hP 1 rfl rfl 0 (by decide) (va_Nw.use rfl (hN _ nm_37)) (fun _ h9 => h9) rfl dX1_take_35 ?_
    refine lv_aload_n hx hb dX1_take_38 rfl (lv_at hl 0 rfl) ?_
    refine va_get (D := D) (ci := 1) (v := .int ((oI oz 5 ((oz.1 5 0) + 1)).1 5 0)) (C := RX1) (T := TX1) (N := 6) hx hb htl inlX1 hown hK hP 0 rfl rfl 5 (by decide) (htl _ wq_3_21) (fun _ h9 => h9) rfl dX1_take_39 ?_
    obtain ⟨r_42, e_42, hf⟩ := ob_bind hf
    have hPX_42 : va_P D vwCl ([((a 2), .inl (ct 0, 701, .inl (okz.1 0)))]) H_27 := (P_one hP 2 rfl)
    refine ro_call1 (va_runSN (As := [.ref (a 2), .int ((oI oz 5 ((oz.1 5 0) + 1)).1 5 0)]) (rest := [.ref (a 0)]) ⟨hx, hb, hml, hown, htl⟩ (c_X9_pick l D ct G (a 2) fu 701 (okz.1 0) ((oI oz 5 ((oz.1 5 0) + 1)).1 5 0) e_42) (cw_X1_X9_pick htl hN ⟨Nat.le_of_ble_eq_true rfl, Nat.le_of_ble_eq_true rfl⟩) ⟨Bx_blind, Bx_pre hPX_42 hK hN (hX.stay hS hGE)⟩ rfl rfl hl.1 rfl (lv_room (Nat.le_of_ble_eq_true rfl)) dX1_take_42 ⟨Nat.zero_le _, Nat.zero_le _⟩) ?_
    refine va_put (D := D) (ci := 1) (v := .int r_42) (ty := .int) (C := RX1) (T := TX1) (N := 6) hx hb htl inlX1 tyX1 tyX1_ok nmX1 hown hK hP (hDW (oI oz 5 ((oz.1 5 0) + 1)) okz ovz) hS 0 rfl rfl 4 (by decide) (htl _ wq_3_20) (fun _ h9 => h9) rfl (tyX1_ok 4 (by decide)) rfl rfl (Nat.le_of_ble_eq_true rfl) dX1_take_45 (fun H_45 locs_45 hP _ hS => ?_)
    have hP : va_P D vwCl (cs1 ct a (oI (oI oz 5 ((oz.1 5 0) + 1)) 4 r_42) okz ovz) H_45 := st1_4 hP
    rw [← hQQ]
    cases hf
    exact rw_v hx hb hr hlocks hP hS dX1_take_48
  rw [p_X1_take] at hf
  refine lv_aload_n hx hb dX1_take_0 rfl (lv_at hl 0 rfl) ?_
  refine va_get (D := D) (ci := 1) (v := .int (o.1 4 0)) (C := RX1) (T := TX1) (N := 6) hx hb htl inlX1 hown hK hP 0 rfl rfl 4 (by decide) (htl _ wq_3_20) (fun _ h9 => h9) rfl dX1_take_1 ?_
  refine lv_iload_n hx hb dX1_take_4 rfl (lv_at hl 1 rfl) ?_
  refine lv_icmp_eq (tgt := 13) hx hb dX1_take_5 (by decide) (fun c_5 => ?_) (fun c_5 => ?_)
  · rw [if_pos c_5] at hf
    exact hJ13 o ok ov _ _ _ hP hS (lv_sub hl [0] rfl) hf 
  rw [if_neg c_5] at hf
  refine lv_aload_n hx hb dX1_take_8 rfl (lv_at hl 0 rfl) ?_
  refine lv_iconst (v := 1) hx hb dX1_take_9 (by decide) ?_
  obtain ⟨r_10, e_10, hf⟩ := ob_bind hf
  have hPX_10 : va_P D vwCl (cs1 ct a o ok ov) s.heap := hP
  refine wr_call0 (va_runV (As := [.int 1]) (rest := []) ⟨hx, hb, hml, hown, htl⟩ (c_X1_blame l D ct G a fu o ok ov (1 : Int32) e_10 (hDx o ok ov)) (cw_X1_X1_blame htl ⟨Nat.le_of_ble_eq_true rfl, Nat.le_of_ble_eq_true rfl⟩) ⟨Bx_blind, va_recv hK hPX_10 (ci := 1) (q0 := 0) rfl rfl, Bx_pre hPX_10 hK hN (hX.stay hS hGE)⟩ rfl rfl hl.1 rfl (lv_room (Nat.le_of_ble_eq_true rfl)) dX1_take_10 ⟨Nat.zero_le _, Nat.zero_le _⟩) hS (wA_cg rfl) (fun H_10 locs_10 hB_10 _ hk_10 hS => ?_)
  have hP : va_P D vwCl (cs1 ct a r_10.1 r_10.2.1 r_10.2.2) H_10 := hB_10
  exact hJ13 r_10.1 r_10.2.1 r_10.2.2 _ _ _ hP hS (lv_sub hl [0] rfl) hf 
theorem c_X1_take (l : Launch) (D : va_G) (ct : Nat → ClassId) (G : GT) (a : Nat → Nat) (fu : Nat) (o : Ob) (ok : Ob) (ov : Ob) (v1 : Int32) {r : Ob × Ob × Ob} (hf : p_X1_take fu o ok ov v1 = some r)  (hD0 : va_D (GE G) (cs1 ct a o ok ov)) : Met l yX1_take (.code yX1_take cX1_take 2 none :: wsL_law) rm_X1_take (va_Pc [.ref (a 0), .int v1] (Bx D ct G (cs1 ct a o ok ov))) (Qwr none (fun H => va_P D vwCl (cs1 ct a r.1 r.2.1 r.2.2) H) (wA (cs1 ct a o ok ov))) 0 0 (wA (cs1 ct a o ok ov)) := by
  refine Met.ofW (cc := cX1_take) (maxL := 2) (ret := none) (by decide) rfl ?_
  intro p e s m args below meth c s₁ B hml hv
  obtain ⟨rfl, hP, hK, hN, hX⟩ := hv
  have hts := atoms_spec (ws := .code yX1_take cX1_take 2 none :: wsL_law) B.pre
  rw [lg_entry_eq]
  exact b_X1_take a fu o ok ov v1 B.exec B.bytes B.returns hml (findClass_of_methodNamed B.named) (fun w h => hts w (List.mem_cons_of_mem _ h)) B.notSynchronized hK hN hX hP hf hD0  (lv_entry [.ref (a 0), .int v1] (n := 2) (Nat.le_of_ble_eq_true rfl))
theorem hd_X1_take : yX1_take.cls ≠ "java/lang/invoke/MethodHandle" ∧ yX1_take.cls ≠ "java/lang/invoke/VarHandle" ∧ (parseMethodDescriptor yX1_take.desc).map (fun d => d.parameters.length) = some 1 := by decide +kernel
theorem cw_X1_X1_take {R : Room} {s : State} {args : Array Value} (ht : ∀ w ∈ wsL_law, w.before args s = true) (hR : rm_X1_take.frames + 1 ≤ R.frames ∧ 8 + (2 + 11) + rm_X1_take.locals ≤ R.locals) : CallW R s args RX1 RX1 69 yX1_take cX1_take 2 none ((.code yX1_take cX1_take 2 none) :: wsL_law) rm_X1_take 0 0 1 := cwV 1 ht (GV wq_13_10 wq_13_11 wq_13_12 wq_1_19 wq_13_13) rfl rfl rfl ⟨rfl, hd_X1_take⟩ hR
def p_X1_takeValue_J38 (fu : Nat)  (oz : Ob) (okz : Ob) (ovz : Ob) (v3 : Int32) : Option (Int32 × Ob × Ob × Ob) :=
    (p_X1_take fu oz okz ovz (2 : Int32)).bind fun r_40 => some (v3, r_40.1, r_40.2.1, r_40.2.2)
def p_X1_takeValue_J33 (fu : Nat)  (oz : Ob) (okz : Ob) (ovz : Ob) (v3 : Int32) : Option (Int32 × Ob × Ob × Ob) :=
    (p_X1_blame fu oz okz ovz (2 : Int32)).bind fun r_35 => p_X1_takeValue_J38 fu r_35.1 r_35.2.1 r_35.2.2 v3
def p_X1_takeValue (fu : Nat) (o : Ob) (ok : Ob) (ov : Ob) (v1 : Int32) (v2 : Int32) : Option (Int32 × Ob × Ob × Ob) :=
  (p_X9_pick fu 701 (ok.1 2) (o.1 5 0)).bind fun r_11 => if (o.1 4 0) = (2 : Int32) then if r_11 < v1 then p_X1_takeValue_J33 fu o ok ov r_11 else if r_11 ≤ v2 then p_X1_takeValue_J38 fu o ok ov r_11 else p_X1_takeValue_J33 fu o ok ov r_11 else p_X1_takeValue_J38 fu o ok ov r_11
abbrev rm_X1_takeValue : Room := { frames := 2, cells := 0, slots := 0, locals := 42 }
set_option maxHeartbeats 4000000 in
set_option maxRecDepth 100000 in
theorem b_X1_takeValue {p : Program} {l : Launch} {e : Env} {s : State} {m : MethodId} {args : Array Value} {below : List Frame} {meth : Method} {c : Code} {ls : Array Slot} {D : va_G} {ct : Nat → ClassId} {G : GT} (a : Nat → Nat) (fu : Nat) (o : Ob) (ok : Ob) (ov : Ob) (v1 : Int32) (v2 : Int32) {r : Int32 × Ob × Ob × Ob} (hx : p.tables.exec = Jvm.exec) (hb : c.code = cX1_takeValue) (hr : meth.sig.returnType = (some .int)) (hml : c.maxLocals = 4) (hown : s.vm.findClass RX1 = some m.cls) (htl : ∀ w ∈ wsL_law, w.before args s = true) (hlocks : meth.locks = false) (hK : va_K D vwCl (tyl ct) s) (hN : ∀ w ∈ NW, va_Nw w s) (hX : SX G s s.heap) (hP0 : va_P D vwCl (cs1 ct a o ok ov) s.heap) (hf : p_X1_takeValue fu o ok ov v1 v2 = some r) (hD0 : va_D (GE G) (cs1 ct a o ok ov))  (hl : lv_has ls 4 [(0, .ref (a 0)), (1, .int v1), (2, .int v2)]) : W p l e rm_X1_takeValue s m args below meth c s.heap [] 0 0 (MQ below (Qwr (some (.int r.1)) (fun H => va_P D vwCl (cs1 ct a r.2.1 r.2.2.1 r.2.2.2) H) (wA (cs1 ct a o ok ov))) args s 0 0 (wA (cs1 ct a o ok ov))) (F0 m 0 ls []) := by
  generalize hQQ : MQ below (Qwr (some (.int r.1)) (fun H => va_P D vwCl (cs1 ct a r.2.1 r.2.2.1 r.2.2.2) H) (wA (cs1 ct a o ok ov))) args s 0 0 (wA (cs1 ct a o ok ov)) = QQ
  have hDx : ∀ (oy : Ob) (oky : Ob) (ovy : Ob), va_D (GE G) (cs1 ct a oy oky ovy) := fun oy oky ovy => D_cr hD0 rfl
  have hDW : ∀ (oy : Ob) (oky : Ob) (ovy : Ob), va_D (wA (cs1 ct a o ok ov)) (cs1 ct a oy oky ovy) := fun oy oky ovy => D_cr (D_self hD0) rfl
  have hGE : ∀ q, wA (cs1 ct a o ok ov) q → GE G q := wA_GE hD0
  have hP := hP0
  have hS : va_S (wA (cs1 ct a o ok ov)) s.heap s.heap [] := va_S.rf
  have hJ38 : ∀ (oz : Ob) (okz : Ob) (ovz : Ob) (v3 : Int32), ∀ (H : Heap) (locs : List Loc) (ls : Array Slot), va_P D vwCl (cs1 ct a oz okz ovz) H → va_S (wA (cs1 ct a o ok ov)) s.heap H locs → lv_has ls 4 [(0, .ref (a 0)), (3, .int v3)] → p_X1_takeValue_J38 fu  oz okz ovz v3 = some r → W p l e rm_X1_takeValue s m args below meth c H locs 0 0 QQ (F0 m 38 ls []) := by
    intro  oz okz ovz v3 H locs ls hP hS hl hf 
    rw [p_X1_takeValue_J38] at hf
    refine lv_aload_n hx hb dX1_takeValue_38 rfl (lv_at hl 0 rfl) ?_
    refine lv_iconst (v := 2) hx hb dX1_takeValue_39 (by decide) ?_
    obtain ⟨r_40, e_40, hf⟩ := ob_bind hf
    have hPX_40 : va_P D vwCl (cs1 ct a oz okz ovz) H := hP
    refine wr_call0 (va_runV (As := [.int 2]) (rest := []) ⟨hx, hb, hml, hown, htl⟩ (c_X1_take l D ct G a fu oz okz ovz (2 : Int32) e_40 (hDx oz okz ovz)) (cw_X1_X1_take htl ⟨Nat.le_of_ble_eq_true rfl, Nat.le_of_ble_eq_true rfl⟩) ⟨Bx_blind, va_recv hK hPX_40 (ci := 1) (q0 := 0) rfl rfl, Bx_pre hPX_40 hK hN (hX.stay hS hGE)⟩ rfl rfl hl.1 rfl (lv_room (Nat.le_of_ble_eq_true rfl)) dX1_takeValue_40 ⟨Nat.zero_le _, Nat.zero_le _⟩) hS (wA_cg rfl) (fun H_40 locs_40 hB_40 _ hk_40 hS => ?_)
    have hP : va_P D vwCl (cs1 ct a r_40.1 r_40.2.1 r_40.2.2) H_40 := hB_40
    refine lv_iload_n hx hb dX1_takeValue_43 rfl (lv_at hl 1 rfl) ?_
    rw [← hQQ]
    cases hf
    exact rw_i hx hb hr hlocks hP hS dX1_takeValue_44
  have hJ33 : ∀ (oz : Ob) (okz : Ob) (ovz : Ob) (v3 : Int32), ∀ (H : Heap) (locs : List Loc) (ls : Array Slot), va_P D vwCl (cs1 ct a oz okz ovz) H → va_S (wA (cs1 ct a o ok ov)) s.heap H locs → lv_has ls 4 [(0, .ref (a 0)), (3, .int v3)] → p_X1_takeValue_J33 fu  oz okz ovz v3 = some r → W p l e rm_X1_takeValue s m args below meth c H locs 0 0 QQ (F0 m 33 ls []) := by
    intro  oz okz ovz v3 H locs ls hP hS hl hf 
    rw [p_X1_takeValue_J33] at hf
    refine lv_aload_n hx hb dX1_takeValue_33 rfl (lv_at hl 0 rfl) ?_
    refine lv_iconst (v := 2) hx hb dX1_takeValue_34 (by decide) ?_
    obtain ⟨r_35, e_35, hf⟩ := ob_bind hf
    have hPX_35 : va_P D vwCl (cs1 ct a oz okz ovz) H := hP
    refine wr_call0 (va_runV (As := [.int 2]) (rest := []) ⟨hx, hb, hml, hown, htl⟩ (c_X1_blame l D ct G a fu oz okz ovz (2 : Int32) e_35 (hDx oz okz ovz)) (cw_X1_X1_blame htl ⟨Nat.le_of_ble_eq_true rfl, Nat.le_of_ble_eq_true rfl⟩) ⟨Bx_blind, va_recv hK hPX_35 (ci := 1) (q0 := 0) rfl rfl, Bx_pre hPX_35 hK hN (hX.stay hS hGE)⟩ rfl rfl hl.1 rfl (lv_room (Nat.le_of_ble_eq_true rfl)) dX1_takeValue_35 ⟨Nat.zero_le _, Nat.zero_le _⟩) hS (wA_cg rfl) (fun H_35 locs_35 hB_35 _ hk_35 hS => ?_)
    have hP : va_P D vwCl (cs1 ct a r_35.1 r_35.2.1 r_35.2.2) H_35 := hB_35
    exact hJ38 r_35.1 r_35.2.1 r_35.2.2 v3 _ _ _ hP hS (lv_sub hl [0, 1] rfl) hf 
  rw [p_X1_takeValue] at hf
  refine lv_aload_n hx hb dX1_takeValue_0 rfl (lv_at hl 0 rfl) ?_
  refine va_get (D := D) (ci := 1) (v := .ref (a 1)) (C := RX1) (T := TX1) (N := 6) hx hb htl inlX1 hown hK hP 0 rfl rfl 0 (by decide) (htl _ wq_3_15) (fun _ h9 => h9) rfl dX1_takeValue_1 ?_
  refine va_getN (D := D) (ci := 7) (v := .ref (a 4)) (C := RX7) (T := TX7) (N := 4) hx hb htl inlX7 hown hK hP 1 rfl rfl 2 (by decide) (va_Nw.use rfl (hN _ nm_55)) (fun _ h9 => h9) rfl dX1_takeValue_4 ?_
  refine lv_aload_n hx hb dX1_takeValue_7 rfl (lv_at hl 0 rfl) ?_
  refine va_get (D := D) (ci := 1) (v := .int (o.1 5 0)) (C := RX1) (T := TX1) (N := 6) hx hb htl inlX1 hown hK hP 0 rfl rfl 5 (by decide) (htl _ wq_3_21) (fun _ h9 => h9) rfl dX1_takeValue_8 ?_
  obtain ⟨r_11, e_11, hf⟩ := ob_bind hf
  have hPX_11 : va_P D vwCl ([((a 4), .inl (ct 0, 701, .inl (ok.1 2)))]) s.heap := (P_one hP 4 rfl)
  refine ro_call1 (va_runSN (As := [.ref (a 4), .int (o.1 5 0)]) (rest := []) ⟨hx, hb, hml, hown, htl⟩ (c_X9_pick l D ct G (a 4) fu 701 (ok.1 2) (o.1 5 0) e_11) (cw_X1_X9_pick htl hN ⟨Nat.le_of_ble_eq_true rfl, Nat.le_of_ble_eq_true rfl⟩) ⟨Bx_blind, Bx_pre hPX_11 hK hN (hX.stay hS hGE)⟩ rfl rfl hl.1 rfl (lv_room (Nat.le_of_ble_eq_true rfl)) dX1_takeValue_11 ⟨Nat.zero_le _, Nat.zero_le _⟩) ?_
  refine lv_istore_n (lv' := [(3, .int r_11), (0, .ref (a 0)), (1, .int v1), (2, .int v2)]) hx hb dX1_takeValue_14 rfl hl (by decide) rfl (fun ls hl => ?_)
  refine lv_aload_n hx hb dX1_takeValue_15 rfl (lv_at hl 1 rfl) ?_
  refine va_get (D := D) (ci := 1) (v := .int (o.1 4 0)) (C := RX1) (T := TX1) (N := 6) hx hb htl inlX1 hown hK hP 0 rfl rfl 4 (by decide) (htl _ wq_3_20) (fun _ h9 => h9) rfl dX1_takeValue_16 ?_
  refine lv_iconst (v := 2) hx hb dX1_takeValue_19 (by decide) ?_
  refine lv_icmp_ne (tgt := 38) hx hb dX1_takeValue_20 (by decide) (fun c_20 => ?_) (fun c_20 => ?_)
  · rw [if_neg c_20] at hf
    exact hJ38 o ok ov r_11 _ _ _ hP hS (lv_sub hl [1, 0] rfl) hf 
  rw [if_pos c_20] at hf
  refine lv_iload_n hx hb dX1_takeValue_23 rfl (lv_at hl 0 rfl) ?_
  refine lv_iload_n hx hb dX1_takeValue_24 rfl (lv_at hl 2 rfl) ?_
  refine lv_icmp_lt (tgt := 33) hx hb dX1_takeValue_25 (by decide) (fun c_25 => ?_) (fun c_25 => ?_)
  · rw [if_pos c_25] at hf
    exact hJ33 o ok ov r_11 _ _ _ hP hS (lv_sub hl [1, 0] rfl) hf 
  rw [if_neg c_25] at hf
  refine lv_iload_n hx hb dX1_takeValue_28 rfl (lv_at hl 0 rfl) ?_
  refine lv_iload_n hx hb dX1_takeValue_29 rfl (lv_at hl 3 rfl) ?_
  refine lv_icmp_le (tgt := 38) hx hb dX1_takeValue_30 (by decide) (fun c_30 => ?_) (fun c_30 => ?_)
  · rw [if_pos c_30] at hf
    exact hJ38 o ok ov r_11 _ _ _ hP hS (lv_sub hl [1, 0] rfl) hf 
  rw [if_neg c_30] at hf
  exact hJ33 o ok ov r_11 _ _ _ hP hS (lv_sub hl [1, 0] rfl) hf 
theorem c_X1_takeValue (l : Launch) (D : va_G) (ct : Nat → ClassId) (G : GT) (a : Nat → Nat) (fu : Nat) (o : Ob) (ok : Ob) (ov : Ob) (v1 : Int32) (v2 : Int32) {r : Int32 × Ob × Ob × Ob} (hf : p_X1_takeValue fu o ok ov v1 v2 = some r)  (hD0 : va_D (GE G) (cs1 ct a o ok ov)) : Met l yX1_takeValue (.code yX1_takeValue cX1_takeValue 4 (some .int) :: wsL_law) rm_X1_takeValue (va_Pc [.ref (a 0), .int v1, .int v2] (Bx D ct G (cs1 ct a o ok ov))) (Qwr (some (.int r.1)) (fun H => va_P D vwCl (cs1 ct a r.2.1 r.2.2.1 r.2.2.2) H) (wA (cs1 ct a o ok ov))) 0 0 (wA (cs1 ct a o ok ov)) := by
  refine Met.ofW (cc := cX1_takeValue) (maxL := 4) (ret := (some .int)) (by decide) rfl ?_
  intro p e s m args below meth c s₁ B hml hv
  obtain ⟨rfl, hP, hK, hN, hX⟩ := hv
  have hts := atoms_spec (ws := .code yX1_takeValue cX1_takeValue 4 (some .int) :: wsL_law) B.pre
  rw [lg_entry_eq]
  exact b_X1_takeValue a fu o ok ov v1 v2 B.exec B.bytes B.returns hml (findClass_of_methodNamed B.named) (fun w h => hts w (List.mem_cons_of_mem _ h)) B.notSynchronized hK hN hX hP hf hD0  (lv_entry [.ref (a 0), .int v1, .int v2] (n := 4) (Nat.le_of_ble_eq_true rfl))
theorem hd_X1_takeValue : yX1_takeValue.cls ≠ "java/lang/invoke/MethodHandle" ∧ yX1_takeValue.cls ≠ "java/lang/invoke/VarHandle" ∧ (parseMethodDescriptor yX1_takeValue.desc).map (fun d => d.parameters.length) = some 2 := by decide +kernel
theorem cw_X1_X1_takeValue {R : Room} {s : State} {args : Array Value} (ht : ∀ w ∈ wsL_law, w.before args s = true) (hR : rm_X1_takeValue.frames + 1 ≤ R.frames ∧ 8 + (4 + 11) + rm_X1_takeValue.locals ≤ R.locals) : CallW R s args RX1 RX1 109 yX1_takeValue cX1_takeValue 4 (some .int) ((.code yX1_takeValue cX1_takeValue 4 (some .int)) :: wsL_law) rm_X1_takeValue 0 0 2 := cwV 2 ht (GV wq_13_22 wq_13_23 wq_14_0 wq_1_19 wq_14_1) rfl rfl rfl ⟨rfl, hd_X1_takeValue⟩ hR
def p_X1_takeNumber (fu : Nat) (o : Ob) (ok : Ob) (ov : Ob) (v1 : Int32) (v2 : Int32) (v3 : Int32) : Option (Int32 × Ob × Ob × Ob) :=
  (p_X1_take fu o ok ov v1).bind fun r_2 => (p_X1_takeValue fu r_2.1 r_2.2.1 r_2.2.2 v2 v3).bind fun r_8 => some (r_8.1, r_8.2.1, r_8.2.2.1, r_8.2.2.2)
abbrev rm_X1_takeNumber : Room := { frames := 3, cells := 0, slots := 0, locals := 65 }
set_option maxHeartbeats 4000000 in
set_option maxRecDepth 100000 in
theorem b_X1_takeNumber {p : Program} {l : Launch} {e : Env} {s : State} {m : MethodId} {args : Array Value} {below : List Frame} {meth : Method} {c : Code} {ls : Array Slot} {D : va_G} {ct : Nat → ClassId} {G : GT} (a : Nat → Nat) (fu : Nat) (o : Ob) (ok : Ob) (ov : Ob) (v1 : Int32) (v2 : Int32) (v3 : Int32) {r : Int32 × Ob × Ob × Ob} (hx : p.tables.exec = Jvm.exec) (hb : c.code = cX1_takeNumber) (hr : meth.sig.returnType = (some .int)) (hml : c.maxLocals = 4) (hown : s.vm.findClass RX1 = some m.cls) (htl : ∀ w ∈ wsL_law, w.before args s = true) (hlocks : meth.locks = false) (hK : va_K D vwCl (tyl ct) s) (hN : ∀ w ∈ NW, va_Nw w s) (hX : SX G s s.heap) (hP0 : va_P D vwCl (cs1 ct a o ok ov) s.heap) (hf : p_X1_takeNumber fu o ok ov v1 v2 v3 = some r) (hD0 : va_D (GE G) (cs1 ct a o ok ov))  (hl : lv_has ls 4 [(0, .ref (a 0)), (1, .int v1), (2, .int v2), (3, .int v3)]) : W p l e rm_X1_takeNumber s m args below meth c s.heap [] 0 0 (MQ below (Qwr (some (.int r.1)) (fun H => va_P D vwCl (cs1 ct a r.2.1 r.2.2.1 r.2.2.2) H) (wA (cs1 ct a o ok ov))) args s 0 0 (wA (cs1 ct a o ok ov))) (F0 m 0 ls []) := by
  generalize hQQ : MQ below (Qwr (some (.int r.1)) (fun H => va_P D vwCl (cs1 ct a r.2.1 r.2.2.1 r.2.2.2) H) (wA (cs1 ct a o ok ov))) args s 0 0 (wA (cs1 ct a o ok ov)) = QQ
  have hDx : ∀ (oy : Ob) (oky : Ob) (ovy : Ob), va_D (GE G) (cs1 ct a oy oky ovy) := fun oy oky ovy => D_cr hD0 rfl
  have hDW : ∀ (oy : Ob) (oky : Ob) (ovy : Ob), va_D (wA (cs1 ct a o ok ov)) (cs1 ct a oy oky ovy) := fun oy oky ovy => D_cr (D_self hD0) rfl
  have hGE : ∀ q, wA (cs1 ct a o ok ov) q → GE G q := wA_GE hD0
  have hP := hP0
  have hS : va_S (wA (cs1 ct a o ok ov)) s.heap s.heap [] := va_S.rf
  rw [p_X1_takeNumber] at hf
  refine lv_aload_n hx hb dX1_takeNumber_0 rfl (lv_at hl 0 rfl) ?_
  refine lv_iload_n hx hb dX1_takeNumber_1 rfl (lv_at hl 1 rfl) ?_
  obtain ⟨r_2, e_2, hf⟩ := ob_bind hf
  have hPX_2 : va_P D vwCl (cs1 ct a o ok ov) s.heap := hP
  refine wr_call0 (va_runV (As := [.int v1]) (rest := []) ⟨hx, hb, hml, hown, htl⟩ (c_X1_take l D ct G a fu o ok ov v1 e_2 (hDx o ok ov)) (cw_X1_X1_take htl ⟨Nat.le_of_ble_eq_true rfl, Nat.le_of_ble_eq_true rfl⟩) ⟨Bx_blind, va_recv hK hPX_2 (ci := 1) (q0 := 0) rfl rfl, Bx_pre hPX_2 hK hN (hX.stay hS hGE)⟩ rfl rfl hl.1 rfl (lv_room (Nat.le_of_ble_eq_true rfl)) dX1_takeNumber_2 ⟨Nat.zero_le _, Nat.zero_le _⟩) hS (wA_cg rfl) (fun H_2 locs_2 hB_2 _ hk_2 hS => ?_)
  have hP : va_P D vwCl (cs1 ct a r_2.1 r_2.2.1 r_2.2.2) H_2 := hB_2
  refine lv_aload_n hx hb dX1_takeNumber_5 rfl (lv_at hl 0 rfl) ?_
  refine lv_iload_n hx hb dX1_takeNumber_6 rfl (lv_at hl 2 rfl) ?_
  refine lv_iload_n hx hb dX1_takeNumber_7 rfl (lv_at hl 3 rfl) ?_
  obtain ⟨r_8, e_8, hf⟩ := ob_bind hf
  have hPX_8 : va_P D vwCl (cs1 ct a r_2.1 r_2.2.1 r_2.2.2) H_2 := hP
  refine wr_call1 (va_runV (As := [.int v2, .int v3]) (rest := []) ⟨hx, hb, hml, hown, htl⟩ (c_X1_takeValue l D ct G a fu r_2.1 r_2.2.1 r_2.2.2 v2 v3 e_8 (hDx r_2.1 r_2.2.1 r_2.2.2)) (cw_X1_X1_takeValue htl ⟨Nat.le_of_ble_eq_true rfl, Nat.le_of_ble_eq_true rfl⟩) ⟨Bx_blind, va_recv hK hPX_8 (ci := 1) (q0 := 0) rfl rfl, Bx_pre hPX_8 hK hN (hX.stay hS hGE)⟩ rfl rfl hl.1 rfl (lv_room (Nat.le_of_ble_eq_true rfl)) dX1_takeNumber_8 ⟨Nat.zero_le _, Nat.zero_le _⟩) hS (wA_cg rfl) (fun H_8 locs_8 hB_8 _ hk_8 hS => ?_)
  have hP : va_P D vwCl (cs1 ct a r_8.2.1 r_8.2.2.1 r_8.2.2.2) H_8 := hB_8
  rw [← hQQ]
  cases hf
  exact rw_i hx hb hr hlocks hP hS dX1_takeNumber_11
theorem c_X1_takeNumber (l : Launch) (D : va_G) (ct : Nat → ClassId) (G : GT) (a : Nat → Nat) (fu : Nat) (o : Ob) (ok : Ob) (ov : Ob) (v1 : Int32) (v2 : Int32) (v3 : Int32) {r : Int32 × Ob × Ob × Ob} (hf : p_X1_takeNumber fu o ok ov v1 v2 v3 = some r)  (hD0 : va_D (GE G) (cs1 ct a o ok ov)) : Met l yX1_takeNumber (.code yX1_takeNumber cX1_takeNumber 4 (some .int) :: wsL_law) rm_X1_takeNumber (va_Pc [.ref (a 0), .int v1, .int v2, .int v3] (Bx D ct G (cs1 ct a o ok ov))) (Qwr (some (.int r.1)) (fun H => va_P D vwCl (cs1 ct a r.2.1 r.2.2.1 r.2.2.2) H) (wA (cs1 ct a o ok ov))) 0 0 (wA (cs1 ct a o ok ov)) := by
  refine Met.ofW (cc := cX1_takeNumber) (maxL := 4) (ret := (some .int)) (by decide) rfl ?_
  intro p e s m args below meth c s₁ B hml hv
  obtain ⟨rfl, hP, hK, hN, hX⟩ := hv
  have hts := atoms_spec (ws := .code yX1_takeNumber cX1_takeNumber 4 (some .int) :: wsL_law) B.pre
  rw [lg_entry_eq]
  exact b_X1_takeNumber a fu o ok ov v1 v2 v3 B.exec B.bytes B.returns hml (findClass_of_methodNamed B.named) (fun w h => hts w (List.mem_cons_of_mem _ h)) B.notSynchronized hK hN hX hP hf hD0  (lv_entry [.ref (a 0), .int v1, .int v2, .int v3] (n := 4) (Nat.le_of_ble_eq_true rfl))
theorem hd_X1_claim : yX1_claim.cls ≠ "java/lang/invoke/MethodHandle" ∧ yX1_claim.cls ≠ "java/lang/invoke/VarHandle" ∧ (parseMethodDescriptor yX1_claim.desc).map (fun d => d.parameters.length) = some 2 := by decide +kernel
theorem cw_X1_X1_claim {R : Room} {s : State} {args : Array Value} (ht : ∀ w ∈ wsL_law, w.before args s = true) (hR : rm_X1_claim.frames + 1 ≤ R.frames ∧ 8 + (3 + 11) + rm_X1_claim.locals ≤ R.locals) : CallW R s args RX1 RX1 98 yX1_claim cX1_claim 3 (some .int) ((.code yX1_claim cX1_claim 3 (some .int)) :: wsL_law) rm_X1_claim 0 0 2 := cwV 2 ht (GV wq_14_6 wq_14_7 wq_14_8 wq_1_19 wq_14_9) rfl rfl rfl ⟨rfl, hd_X1_claim⟩ hR
theorem hd_X1_takeNumber : yX1_takeNumber.cls ≠ "java/lang/invoke/MethodHandle" ∧ yX1_takeNumber.cls ≠ "java/lang/invoke/VarHandle" ∧ (parseMethodDescriptor yX1_takeNumber.desc).map (fun d => d.parameters.length) = some 3 := by decide +kernel
theorem cw_X1_X1_takeNumber {R : Room} {s : State} {args : Array Value} (ht : ∀ w ∈ wsL_law, w.before args s = true) (hR : rm_X1_takeNumber.frames + 1 ≤ R.frames ∧ 8 + (4 + 11) + rm_X1_takeNumber.locals ≤ R.locals) : CallW R s args RX1 RX1 82 yX1_takeNumber cX1_takeNumber 4 (some .int) ((.code yX1_takeNumber cX1_takeNumber 4 (some .int)) :: wsL_law) rm_X1_takeNumber 0 0 3 := cwV 3 ht (GV wq_13_18 wq_13_19 wq_13_20 wq_1_19 wq_13_21) rfl rfl rfl ⟨rfl, hd_X1_takeNumber⟩ hR
theorem cw_X1_X9_put {R : Room} {s : State} {args : Array Value} (ht : ∀ w ∈ wsL_law, w.before args s = true) (hN : ∀ w ∈ NW, va_Nw w s) (hR : rm_X9_put.frames + 1 ≤ R.frames ∧ 8 + (3 + 11) + rm_X9_put.locals ≤ R.locals) : va_CN R s args RX1 105 yX9_put "QuotedRiver" cX9_put 3 none ((.code yX9_put cX9_put 3 none) :: wsL_law) rm_X9_put 0 0 3 ∧ (Cond.static yX9_put).before args s = true ∧ True := ⟨va_cnB 3 ht (GL wq_8_11) rfl rfl rfl (hN _ nm_119) (ht _ wq_1_2) hd_X9_put hR, ht _ wq_8_10, trivial⟩
def p_X1_readJoin (fu : Nat) (o : Ob) (ok : Ob) (ov : Ob) : Option (Ob × Ob × Ob) :=
  (p_X1_claim fu o ok ov (ov.1 8 0) (5 : Int32)).bind fun r_9 => (p_X1_takeNumber fu r_9.2.1 r_9.2.2.1 r_9.2.2.2 (13 : Int32) (0 : Int32) ((r_9.2.2.2.1 4 0) - 1)).bind fun r_34 => (p_X9_put fu 5 (r_34.2.2.2.1 9) r_9.1 r_34.1).bind fun r_37 => (p_X1_takeNumber fu r_34.2.1 r_34.2.2.1 (oA r_34.2.2.2 9 r_37) (9 : Int32) (0 : Int32) (((oA r_34.2.2.2 9 r_37).1 4 0) - 1)).bind fun r_61 => (p_X9_put fu 5 (r_61.2.2.2.1 10) r_9.1 r_61.1).bind fun r_64 => (p_X1_takeNumber fu r_61.2.1 r_61.2.2.1 (oA r_61.2.2.2 10 r_64) (14 : Int32) (1 : Int32) (9 : Int32)).bind fun r_73 => (p_X9_put fu 5 (r_73.2.2.2.1 11) r_9.1 r_73.1).bind fun r_86 => (p_X1_takeNumber fu r_73.2.1 r_73.2.2.1 (oA r_73.2.2.2 11 r_86) (15 : Int32) (0 : Int32) (r_73.1 - 1)).bind fun r_104 => (p_X9_put fu 5 (r_104.2.2.2.1 12) r_9.1 r_104.1).bind fun r_107 => some (r_104.2.1, r_104.2.2.1, (oI (oA r_104.2.2.2 12 r_107) 8 (r_9.1 + 1)))
abbrev rm_X1_readJoin : Room := { frames := 4, cells := 0, slots := 0, locals := 88 }
set_option maxHeartbeats 4000000 in
set_option maxRecDepth 100000 in
theorem b_X1_readJoin {p : Program} {l : Launch} {e : Env} {s : State} {m : MethodId} {args : Array Value} {below : List Frame} {meth : Method} {c : Code} {ls : Array Slot} {D : va_G} {ct : Nat → ClassId} {G : GT} (a : Nat → Nat) (fu : Nat) (o : Ob) (ok : Ob) (ov : Ob) {r : Ob × Ob × Ob} (hx : p.tables.exec = Jvm.exec) (hb : c.code = cX1_readJoin) (hr : meth.sig.returnType = none) (hml : c.maxLocals = 3) (hown : s.vm.findClass RX1 = some m.cls) (htl : ∀ w ∈ wsL_law, w.before args s = true) (hlocks : meth.locks = false) (hK : va_K D vwCl (tyl ct) s) (hN : ∀ w ∈ NW, va_Nw w s) (hX : SX G s s.heap) (hP0 : va_P D vwCl (cs1 ct a o ok ov) s.heap) (hf : p_X1_readJoin fu o ok ov = some r) (hD0 : va_D (GE G) (cs1 ct a o ok ov))  (hl : lv_has ls 3 [(0, .ref (a 0))]) : W p l e rm_X1_readJoin s m args below meth c s.heap [] 0 0 (MQ below (Qwr none (fun H => va_P D vwCl (cs1 ct a r.1 r.2.1 r.2.2) H) (wA (cs1 ct a o ok ov))) args s 0 0 (wA (cs1 ct a o ok ov))) (F0 m 0 ls []) := by
  generalize hQQ : MQ below (Qwr none (fun H => va_P D vwCl (cs1 ct a r.1 r.2.1 r.2.2) H) (wA (cs1 ct a o ok ov))) args s 0 0 (wA (cs1 ct a o ok ov)) = QQ
  have hDx : ∀ (oy : Ob) (oky : Ob) (ovy : Ob), va_D (GE G) (cs1 ct a oy oky ovy) := fun oy oky ovy => D_cr hD0 rfl
  have hDW : ∀ (oy : Ob) (oky : Ob) (ovy : Ob), va_D (wA (cs1 ct a o ok ov)) (cs1 ct a oy oky ovy) := fun oy oky ovy => D_cr (D_self hD0) rfl
  have hGE : ∀ q, wA (cs1 ct a o ok ov) q → GE G q := wA_GE hD0
  have hP := hP0
  have hS : va_S (wA (cs1 ct a o ok ov)) s.heap s.heap [] := va_S.rf
  rw [p_X1_readJoin] at hf
  refine lv_aload_n hx hb dX1_readJoin_0 rfl (lv_at hl 0 rfl) ?_
  refine lv_aload_n hx hb dX1_readJoin_1 rfl (lv_at hl 0 rfl) ?_
  refine va_get (D := D) (ci := 1) (v := .ref (a 5)) (C := RX1) (T := TX1) (N := 6) hx hb htl inlX1 hown hK hP 0 rfl rfl 1 (by decide) (htl _ wq_3_17) (fun _ h9 => h9) rfl dX1_readJoin_2 ?_
  refine va_getN (D := D) (ci := 2) (v := .int (ov.1 8 0)) (C := RX2) (T := TX2) (N := 20) hx hb htl inlX2 hown hK hP 5 rfl rfl 8 (by decide) (va_Nw.use rfl (hN _ nm_47)) (fun _ h9 => h9) rfl dX1_readJoin_5 ?_
  refine lv_iconst (v := 5) hx hb dX1_readJoin_8 (by decide) ?_
  obtain ⟨r_9, e_9, hf⟩ := ob_bind hf
  have hPX_9 : va_P D vwCl (cs1 ct a o ok ov) s.heap := hP
  refine wr_call1 (va_runV (As := [.int (ov.1 8 0), .int 5]) (rest := []) ⟨hx, hb, hml, hown, htl⟩ (c_X1_claim l D ct G a fu o ok ov (ov.1 8 0) (5 : Int32) e_9 (hDx o ok ov)) (cw_X1_X1_claim htl ⟨Nat.le_of_ble_eq_true rfl, Nat.le_of_ble_eq_true rfl⟩) ⟨Bx_blind, va_recv hK hPX_9 (ci := 1) (q0 := 0) rfl rfl, Bx_pre hPX_9 hK hN (hX.stay hS hGE)⟩ rfl rfl hl.1 rfl (lv_room (Nat.le_of_ble_eq_true rfl)) dX1_readJoin_9 ⟨Nat.zero_le _, Nat.zero_le _⟩) hS (wA_cg rfl) (fun H_9 locs_9 hB_9 _ hk_9 hS => ?_)
  have hP : va_P D vwCl (cs1 ct a r_9.2.1 r_9.2.2.1 r_9.2.2.2) H_9 := hB_9
  refine lv_istore_n (lv' := [(1, .int r_9.1), (0, .ref (a 0))]) hx hb dX1_readJoin_12 rfl hl (by decide) rfl (fun ls hl => ?_)
  refine lv_aload_n hx hb dX1_readJoin_13 rfl (lv_at hl 1 rfl) ?_
  refine va_get (D := D) (ci := 1) (v := .ref (a 5)) (C := RX1) (T := TX1) (N := 6) hx hb htl inlX1 hown hK hP 0 rfl rfl 1 (by decide) (htl _ wq_3_17) (fun _ h9 => h9) rfl dX1_readJoin_14 ?_
  refine va_getN (D := D) (ci := 2) (v := .ref (a 9)) (C := RX2) (T := TX2) (N := 20) hx hb htl inlX2 hown hK hP 5 rfl rfl 9 (by decide) (va_Nw.use rfl (hN _ nm_48)) (fun _ h9 => h9) rfl dX1_readJoin_17 ?_
  refine lv_iload_n hx hb dX1_readJoin_20 rfl (lv_at hl 0 rfl) ?_
  refine lv_aload_n hx hb dX1_readJoin_21 rfl (lv_at hl 1 rfl) ?_
  refine lv_bipush (v := 13) hx hb dX1_readJoin_22 (by decide) ?_
  refine lv_iconst (v := 0) hx hb dX1_readJoin_24 (by decide) ?_
  refine lv_aload_n hx hb dX1_readJoin_25 rfl (lv_at hl 1 rfl) ?_
  refine va_get (D := D) (ci := 1) (v := .ref (a 5)) (C := RX1) (T := TX1) (N := 6) hx hb htl inlX1 hown hK hP 0 rfl rfl 1 (by decide) (htl _ wq_3_17) (fun _ h9 => h9) rfl dX1_readJoin_26 ?_
  refine va_getN (D := D) (ci := 2) (v := .int (r_9.2.2.2.1 4 0)) (C := RX2) (T := TX2) (N := 20) hx hb htl inlX2 hown hK hP 5 rfl rfl 4 (by decide) (va_Nw.use rfl (hN _ nm_43)) (fun _ h9 => h9) rfl dX1_readJoin_29 ?_
  refine lv_iconst (v := 1) hx hb dX1_readJoin_32 (by decide) ?_
  refine lv_isub hx hb dX1_readJoin_33 ?_
  obtain ⟨r_34, e_34, hf⟩ := ob_bind hf
  have hPX_34 : va_P D vwCl (cs1 ct a r_9.2.1 r_9.2.2.1 r_9.2.2.2) H_9 := hP
  refine wr_call1 (va_runV (As := [.int 13, .int 0, .int ((r_9.2.2.2.1 4 0) - 1)]) (rest := [.int r_9.1, .ref (a 9)]) ⟨hx, hb, hml, hown, htl⟩ (c_X1_takeNumber l D ct G a fu r_9.2.1 r_9.2.2.1 r_9.2.2.2 (13 : Int32) (0 : Int32) ((r_9.2.2.2.1 4 0) - 1) e_34 (hDx r_9.2.1 r_9.2.2.1 r_9.2.2.2)) (cw_X1_X1_takeNumber htl ⟨Nat.le_of_ble_eq_true rfl, Nat.le_of_ble_eq_true rfl⟩) ⟨Bx_blind, va_recv hK hPX_34 (ci := 1) (q0 := 0) rfl rfl, Bx_pre hPX_34 hK hN (hX.stay hS hGE)⟩ rfl rfl hl.1 rfl (lv_room (Nat.le_of_ble_eq_true rfl)) dX1_readJoin_34 ⟨Nat.zero_le _, Nat.zero_le _⟩) hS (wA_cg rfl) (fun H_34 locs_34 hB_34 _ hk_34 hS => ?_)
  have hP : va_P D vwCl (cs1 ct a r_34.2.1 r_34.2.2.1 r_34.2.2.2) H_34 := hB_34
  obtain ⟨r_37, e_37, hf⟩ := ob_bind hf
  have hPX_37 : va_P D vwCl ([((a 9), .inl (ct 0, 5, .inl (r_34.2.2.2.1 9)))]) H_34 := (P_one hP 9 rfl)
  refine wr_call0 (va_runSN (As := [.ref (a 9), .int r_9.1, .int r_34.1]) (rest := []) ⟨hx, hb, hml, hown, htl⟩ (c_X9_put l D ct G (a 9) fu 5 (r_34.2.2.2.1 9) r_9.1 r_34.1 e_37 ((hDx r_34.2.1 r_34.2.2.1 r_34.2.2.2).sub (ws' := [((a 9), .inl (ct 0, 5, .inl (r_34.2.2.2.1 9)))]) [9] (by decide) rfl)) (cw_X1_X9_put htl hN ⟨Nat.le_of_ble_eq_true rfl, Nat.le_of_ble_eq_true rfl⟩) ⟨Bx_blind, Bx_pre hPX_37 hK hN (hX.stay hS hGE)⟩ rfl rfl hl.1 rfl (lv_room (Nat.le_of_ble_eq_true rfl)) dX1_readJoin_37 ⟨Nat.zero_le _, Nat.zero_le _⟩) hS (fun q h => wA_cg (w1 := cs1 ct a r_34.2.1 r_34.2.2.1 r_34.2.2.2) (w2 := cs1 ct a o ok ov) rfl q (wA_sub (w2 := cs1 ct a r_34.2.1 r_34.2.2.1 r_34.2.2.2) [9] rfl q h)) (fun H_37 locs_37 hB_37 _ hk_37 hS => ?_)
  have hP : va_P D vwCl (cs1 ct a r_34.2.1 r_34.2.2.1 (oA r_34.2.2.2 9 r_37)) H_37 := P_join hP (hDW r_34.2.1 r_34.2.2.1 r_34.2.2.2) [9] rfl rfl hk_37 hB_37
  refine lv_aload_n hx hb dX1_readJoin_40 rfl (lv_at hl 1 rfl) ?_
  refine va_get (D := D) (ci := 1) (v := .ref (a 5)) (C := RX1) (T := TX1) (N := 6) hx hb htl inlX1 hown hK hP 0 rfl rfl 1 (by decide) (htl _ wq_3_17) (fun _ h9 => h9) rfl dX1_readJoin_41 ?_
  refine va_getN (D := D) (ci := 2) (v := .ref (a 10)) (C := RX2) (T := TX2) (N := 20) hx hb htl inlX2 hown hK hP 5 rfl rfl 10 (by decide) (va_Nw.use rfl (hN _ nm_49)) (fun _ h9 => h9) rfl dX1_readJoin_44 ?_
  refine lv_iload_n hx hb dX1_readJoin_47 rfl (lv_at hl 0 rfl) ?_
  refine lv_aload_n hx hb dX1_readJoin_48 rfl (lv_at hl 1 rfl) ?_
  refine lv_bipush (v := 9) hx hb dX1_readJoin_49 (by decide) ?_
  refine lv_iconst (v := 0) hx hb dX1_readJoin_51 (by decide) ?_
  refine lv_aload_n hx hb dX1_readJoin_52 rfl (lv_at hl 1 rfl) ?_
  refine va_get (D := D) (ci := 1) (v := .ref (a 5)) (C := RX1) (T := TX1) (N := 6) hx hb htl inlX1 hown hK hP 0 rfl rfl 1 (by decide) (htl _ wq_3_17) (fun _ h9 => h9) rfl dX1_readJoin_53 ?_
  refine va_getN (D := D) (ci := 2) (v := .int ((oA r_34.2.2.2 9 r_37).1 4 0)) (C := RX2) (T := TX2) (N := 20) hx hb htl inlX2 hown hK hP 5 rfl rfl 4 (by decide) (va_Nw.use rfl (hN _ nm_43)) (fun _ h9 => h9) rfl dX1_readJoin_56 ?_
  refine lv_iconst (v := 1) hx hb dX1_readJoin_59 (by decide) ?_
  refine lv_isub hx hb dX1_readJoin_60 ?_
  obtain ⟨r_61, e_61, hf⟩ := ob_bind hf
  have hPX_61 : va_P D vwCl (cs1 ct a r_34.2.1 r_34.2.2.1 (oA r_34.2.2.2 9 r_37)) H_37 := hP
  refine wr_call1 (va_runV (As := [.int 9, .int 0, .int (((oA r_34.2.2.2 9 r_37).1 4 0) - 1)]) (rest := [.int r_9.1, .ref (a 10)]) ⟨hx, hb, hml, hown, htl⟩ (c_X1_takeNumber l D ct G a fu r_34.2.1 r_34.2.2.1 (oA r_34.2.2.2 9 r_37) (9 : Int32) (0 : Int32) (((oA r_34.2.2.2 9 r_37).1 4 0) - 1) e_61 (hDx r_34.2.1 r_34.2.2.1 (oA r_34.2.2.2 9 r_37))) (cw_X1_X1_takeNumber htl ⟨Nat.le_of_ble_eq_true rfl, Nat.le_of_ble_eq_true rfl⟩) ⟨Bx_blind, va_recv hK hPX_61 (ci := 1) (q0 := 0) rfl rfl, Bx_pre hPX_61 hK hN (hX.stay hS hGE)⟩ rfl rfl hl.1 rfl (lv_room (Nat.le_of_ble_eq_true rfl)) dX1_readJoin_61 ⟨Nat.zero_le _, Nat.zero_le _⟩) hS (wA_cg rfl) (fun H_61 locs_61 hB_61 _ hk_61 hS => ?_)
  have hP : va_P D vwCl (cs1 ct a r_61.2.1 r_61.2.2.1 r_61.2.2.2) H_61 := hB_61
  obtain ⟨r_64, e_64, hf⟩ := ob_bind hf
  have hPX_64 : va_P D vwCl ([((a 10), .inl (ct 0, 5, .inl (r_61.2.2.2.1 10)))]) H_61 := (P_one hP 10 rfl)
  refine wr_call0 (va_runSN (As := [.ref (a 10), .int r_9.1, .int r_61.1]) (rest := []) ⟨hx, hb, hml, hown, htl⟩ (c_X9_put l D ct G (a 10) fu 5 (r_61.2.2.2.1 10) r_9.1 r_61.1 e_64 ((hDx r_61.2.1 r_61.2.2.1 r_61.2.2.2).sub (ws' := [((a 10), .inl (ct 0, 5, .inl (r_61.2.2.2.1 10)))]) [10] (by decide) rfl)) (cw_X1_X9_put htl hN ⟨Nat.le_of_ble_eq_true rfl, Nat.le_of_ble_eq_true rfl⟩) ⟨Bx_blind, Bx_pre hPX_64 hK hN (hX.stay hS hGE)⟩ rfl rfl hl.1 rfl (lv_room (Nat.le_of_ble_eq_true rfl)) dX1_readJoin_64 ⟨Nat.zero_le _, Nat.zero_le _⟩) hS (fun q h => wA_cg (w1 := cs1 ct a r_61.2.1 r_61.2.2.1 r_61.2.2.2) (w2 := cs1 ct a o ok ov) rfl q (wA_sub (w2 := cs1 ct a r_61.2.1 r_61.2.2.1 r_61.2.2.2) [10] rfl q h)) (fun H_64 locs_64 hB_64 _ hk_64 hS => ?_)
  have hP : va_P D vwCl (cs1 ct a r_61.2.1 r_61.2.2.1 (oA r_61.2.2.2 10 r_64)) H_64 := P_join hP (hDW r_61.2.1 r_61.2.2.1 r_61.2.2.2) [10] rfl rfl hk_64 hB_64
  refine lv_aload_n hx hb dX1_readJoin_67 rfl (lv_at hl 1 rfl) ?_
  refine lv_bipush (v := 14) hx hb dX1_readJoin_68 (by decide) ?_
  refine lv_iconst (v := 1) hx hb dX1_readJoin_70 (by decide) ?_
  refine lv_bipush (v := 9) hx hb dX1_readJoin_71 (by decide) ?_
  obtain ⟨r_73, e_73, hf⟩ := ob_bind hf
  have hPX_73 : va_P D vwCl (cs1 ct a r_61.2.1 r_61.2.2.1 (oA r_61.2.2.2 10 r_64)) H_64 := hP
  refine wr_call1 (va_runV (As := [.int 14, .int 1, .int 9]) (rest := []) ⟨hx, hb, hml, hown, htl⟩ (c_X1_takeNumber l D ct G a fu r_61.2.1 r_61.2.2.1 (oA r_61.2.2.2 10 r_64) (14 : Int32) (1 : Int32) (9 : Int32) e_73 (hDx r_61.2.1 r_61.2.2.1 (oA r_61.2.2.2 10 r_64))) (cw_X1_X1_takeNumber htl ⟨Nat.le_of_ble_eq_true rfl, Nat.le_of_ble_eq_true rfl⟩) ⟨Bx_blind, va_recv hK hPX_73 (ci := 1) (q0 := 0) rfl rfl, Bx_pre hPX_73 hK hN (hX.stay hS hGE)⟩ rfl rfl hl.1 rfl (lv_room (Nat.le_of_ble_eq_true rfl)) dX1_readJoin_73 ⟨Nat.zero_le _, Nat.zero_le _⟩) hS (wA_cg rfl) (fun H_73 locs_73 hB_73 _ hk_73 hS => ?_)
  have hP : va_P D vwCl (cs1 ct a r_73.2.1 r_73.2.2.1 r_73.2.2.2) H_73 := hB_73
  refine lv_istore_n (lv' := [(2, .int r_73.1), (1, .int r_9.1), (0, .ref (a 0))]) hx hb dX1_readJoin_76 rfl hl (by decide) rfl (fun ls hl => ?_)
  refine lv_aload_n hx hb dX1_readJoin_77 rfl (lv_at hl 2 rfl) ?_
  refine va_get (D := D) (ci := 1) (v := .ref (a 5)) (C := RX1) (T := TX1) (N := 6) hx hb htl inlX1 hown hK hP 0 rfl rfl 1 (by decide) (htl _ wq_3_17) (fun _ h9 => h9) rfl dX1_readJoin_78 ?_
  refine va_getN (D := D) (ci := 2) (v := .ref (a 11)) (C := RX2) (T := TX2) (N := 20) hx hb htl inlX2 hown hK hP 5 rfl rfl 11 (by decide) (va_Nw.use rfl (hN _ nm_50)) (fun _ h9 => h9) rfl dX1_readJoin_81 ?_
  refine lv_iload_n hx hb dX1_readJoin_84 rfl (lv_at hl 1 rfl) ?_
  refine lv_iload_n hx hb dX1_readJoin_85 rfl (lv_at hl 0 rfl) ?_
  obtain ⟨r_86, e_86, hf⟩ := ob_bind hf
  have hPX_86 : va_P D vwCl ([((a 11), .inl (ct 0, 5, .inl (r_73.2.2.2.1 11)))]) H_73 := (P_one hP 11 rfl)
  refine wr_call0 (va_runSN (As := [.ref (a 11), .int r_9.1, .int r_73.1]) (rest := []) ⟨hx, hb, hml, hown, htl⟩ (c_X9_put l D ct G (a 11) fu 5 (r_73.2.2.2.1 11) r_9.1 r_73.1 e_86 ((hDx r_73.2.1 r_73.2.2.1 r_73.2.2.2).sub (ws' := [((a 11), .inl (ct 0, 5, .inl (r_73.2.2.2.1 11)))]) [11] (by decide) rfl)) (cw_X1_X9_put htl hN ⟨Nat.le_of_ble_eq_true rfl, Nat.le_of_ble_eq_true rfl⟩) ⟨Bx_blind, Bx_pre hPX_86 hK hN (hX.stay hS hGE)⟩ rfl rfl hl.1 rfl (lv_room (Nat.le_of_ble_eq_true rfl)) dX1_readJoin_86 ⟨Nat.zero_le _, Nat.zero_le _⟩) hS (fun q h => wA_cg (w1 := cs1 ct a r_73.2.1 r_73.2.2.1 r_73.2.2.2) (w2 := cs1 ct a o ok ov) rfl q (wA_sub (w2 := cs1 ct a r_73.2.1 r_73.2.2.1 r_73.2.2.2) [11] rfl q h)) (fun H_86 locs_86 hB_86 _ hk_86 hS => ?_)
  have hP : va_P D vwCl (cs1 ct a r_73.2.1 r_73.2.2.1 (oA r_73.2.2.2 11 r_86)) H_86 := P_join hP (hDW r_73.2.1 r_73.2.2.1 r_73.2.2.2) [11] rfl rfl hk_86 hB_86
  refine lv_aload_n hx hb dX1_readJoin_89 rfl (lv_at hl 2 rfl) ?_
  refine va_get (D := D) (ci := 1) (v := .ref (a 5)) (C := RX1) (T := TX1) (N := 6) hx hb htl inlX1 hown hK hP 0 rfl rfl 1 (by decide) (htl _ wq_3_17) (fun _ h9 => h9) rfl dX1_readJoin_90 ?_
  refine va_getN (D := D) (ci := 2) (v := .ref (a 12)) (C := RX2) (T := TX2) (N := 20) hx hb htl inlX2 hown hK hP 5 rfl rfl 12 (by decide) (va_Nw.use rfl (hN _ nm_51)) (fun _ h9 => h9) rfl dX1_readJoin_93 ?_
  refine lv_iload_n hx hb dX1_readJoin_96 rfl (lv_at hl 1 rfl) ?_
  refine lv_aload_n hx hb dX1_readJoin_97 rfl (lv_at hl 2 rfl) ?_
  refine lv_bipush (v := 15) hx hb dX1_readJoin_98 (by decide) ?_
  refine lv_iconst (v := 0) hx hb dX1_readJoin_100 (by decide) ?_
  refine lv_iload_n hx hb dX1_readJoin_101 rfl (lv_at hl 0 rfl) ?_
  refine lv_iconst (v := 1) hx hb dX1_readJoin_102 (by decide) ?_
  refine lv_isub hx hb dX1_readJoin_103 ?_
  obtain ⟨r_104, e_104, hf⟩ := ob_bind hf
  have hPX_104 : va_P D vwCl (cs1 ct a r_73.2.1 r_73.2.2.1 (oA r_73.2.2.2 11 r_86)) H_86 := hP
  refine wr_call1 (va_runV (As := [.int 15, .int 0, .int (r_73.1 - 1)]) (rest := [.int r_9.1, .ref (a 12)]) ⟨hx, hb, hml, hown, htl⟩ (c_X1_takeNumber l D ct G a fu r_73.2.1 r_73.2.2.1 (oA r_73.2.2.2 11 r_86) (15 : Int32) (0 : Int32) (r_73.1 - 1) e_104 (hDx r_73.2.1 r_73.2.2.1 (oA r_73.2.2.2 11 r_86))) (cw_X1_X1_takeNumber htl ⟨Nat.le_of_ble_eq_true rfl, Nat.le_of_ble_eq_true rfl⟩) ⟨Bx_blind, va_recv hK hPX_104 (ci := 1) (q0 := 0) rfl rfl, Bx_pre hPX_104 hK hN (hX.stay hS hGE)⟩ rfl rfl hl.1 rfl (lv_room (Nat.le_of_ble_eq_true rfl)) dX1_readJoin_104 ⟨Nat.zero_le _, Nat.zero_le _⟩) hS (wA_cg rfl) (fun H_104 locs_104 hB_104 _ hk_104 hS => ?_)
  have hP : va_P D vwCl (cs1 ct a r_104.2.1 r_104.2.2.1 r_104.2.2.2) H_104 := hB_104
  obtain ⟨r_107, e_107, hf⟩ := ob_bind hf
  have hPX_107 : va_P D vwCl ([((a 12), .inl (ct 0, 5, .inl (r_104.2.2.2.1 12)))]) H_104 := (P_one hP 12 rfl)
  refine wr_call0 (va_runSN (As := [.ref (a 12), .int r_9.1, .int r_104.1]) (rest := []) ⟨hx, hb, hml, hown, htl⟩ (c_X9_put l D ct G (a 12) fu 5 (r_104.2.2.2.1 12) r_9.1 r_104.1 e_107 ((hDx r_104.2.1 r_104.2.2.1 r_104.2.2.2).sub (ws' := [((a 12), .inl (ct 0, 5, .inl (r_104.2.2.2.1 12)))]) [12] (by decide) rfl)) (cw_X1_X9_put htl hN ⟨Nat.le_of_ble_eq_true rfl, Nat.le_of_ble_eq_true rfl⟩) ⟨Bx_blind, Bx_pre hPX_107 hK hN (hX.stay hS hGE)⟩ rfl rfl hl.1 rfl (lv_room (Nat.le_of_ble_eq_true rfl)) dX1_readJoin_107 ⟨Nat.zero_le _, Nat.zero_le _⟩) hS (fun q h => wA_cg (w1 := cs1 ct a r_104.2.1 r_104.2.2.1 r_104.2.2.2) (w2 := cs1 ct a o ok ov) rfl q (wA_sub (w2 := cs1 ct a r_104.2.1 r_104.2.2.1 r_104.2.2.2) [12] rfl q h)) (fun H_107 locs_107 hB_107 _ hk_107 hS => ?_)
  have hP : va_P D vwCl (cs1 ct a r_104.2.1 r_104.2.2.1 (oA r_104.2.2.2 12 r_107)) H_107 := P_join hP (hDW r_104.2.1 r_104.2.2.1 r_104.2.2.2) [12] rfl rfl hk_107 hB_107
  refine lv_aload_n hx hb dX1_readJoin_110 rfl (lv_at hl 2 rfl) ?_
  refine va_get (D := D) (ci := 1) (v := .ref (a 5)) (C := RX1) (T := TX1) (N := 6) hx hb htl inlX1 hown hK hP 0 rfl rfl 1 (by decide) (htl _ wq_3_17) (fun _ h9 => h9) rfl dX1_readJoin_111 ?_
  refine lv_iload_n hx hb dX1_readJoin_114 rfl (lv_at hl 1 rfl) ?_
  refine lv_iconst (v := 1) hx hb dX1_readJoin_115 (by decide) ?_
  refine lv_iadd hx hb dX1_readJoin_116 ?_
  refine va_putN (D := D) (ci := 2) (v := .int (r_9.1 + 1)) (ty := .int) (C := RX2) (T := TX2) (N := 20) hx hb htl inlX2 tyX2 tyX2_ok nmX2 hown hK hP (hDW r_104.2.1 r_104.2.2.1 (oA r_104.2.2.2 12 r_107)) hS 5 rfl rfl 8 (by decide) (va_Nw.use rfl (hN _ nm_47)) (fun _ h9 => h9) rfl (tyX2_ok 8 (by decide)) rfl rfl (Nat.le_of_ble_eq_true rfl) dX1_readJoin_117 (fun H_117 locs_117 hP _ hS => ?_)
  have hP : va_P D vwCl (cs1 ct a r_104.2.1 r_104.2.2.1 (oI (oA r_104.2.2.2 12 r_107) 8 (r_9.1 + 1))) H_117 := st1rv_8 hP
  rw [← hQQ]
  cases hf
  exact rw_v hx hb hr hlocks hP hS dX1_readJoin_120
theorem c_X1_readJoin (l : Launch) (D : va_G) (ct : Nat → ClassId) (G : GT) (a : Nat → Nat) (fu : Nat) (o : Ob) (ok : Ob) (ov : Ob) {r : Ob × Ob × Ob} (hf : p_X1_readJoin fu o ok ov = some r)  (hD0 : va_D (GE G) (cs1 ct a o ok ov)) : Met l yX1_readJoin (.code yX1_readJoin cX1_readJoin 3 none :: wsL_law) rm_X1_readJoin (va_Pc [.ref (a 0)] (Bx D ct G (cs1 ct a o ok ov))) (Qwr none (fun H => va_P D vwCl (cs1 ct a r.1 r.2.1 r.2.2) H) (wA (cs1 ct a o ok ov))) 0 0 (wA (cs1 ct a o ok ov)) := by
  refine Met.ofW (cc := cX1_readJoin) (maxL := 3) (ret := none) (by decide) rfl ?_
  intro p e s m args below meth c s₁ B hml hv
  obtain ⟨rfl, hP, hK, hN, hX⟩ := hv
  have hts := atoms_spec (ws := .code yX1_readJoin cX1_readJoin 3 none :: wsL_law) B.pre
  rw [lg_entry_eq]
  exact b_X1_readJoin a fu o ok ov B.exec B.bytes B.returns hml (findClass_of_methodNamed B.named) (fun w h => hts w (List.mem_cons_of_mem _ h)) B.notSynchronized hK hN hX hP hf hD0  (lv_entry [.ref (a 0)] (n := 3) (Nat.le_of_ble_eq_true rfl))
def p_X1_readRain (fu : Nat) (o : Ob) (ok : Ob) (ov : Ob) : Option (Ob × Ob × Ob) :=
  (p_X1_claim fu o ok ov (ov.1 13 0) (5 : Int32)).bind fun r_9 => (p_X1_takeNumber fu r_9.2.1 r_9.2.2.1 r_9.2.2.2 (16 : Int32) (1 : Int32) (30 : Int32)).bind fun r_27 => (p_X9_put fu 5 (r_27.2.2.2.1 14) r_9.1 r_27.1).bind fun r_30 => (p_X1_takeNumber fu r_27.2.1 r_27.2.2.1 (oA r_27.2.2.2 14 r_30) (15 : Int32) (0 : Int32) (60 : Int32)).bind fun r_47 => (p_X9_put fu 5 (r_47.2.2.2.1 15) r_9.1 r_47.1).bind fun r_50 => some (r_47.2.1, r_47.2.2.1, (oI (oA r_47.2.2.2 15 r_50) 13 (r_9.1 + 1)))
abbrev rm_X1_readRain : Room := { frames := 4, cells := 0, slots := 0, locals := 88 }
set_option maxHeartbeats 4000000 in
set_option maxRecDepth 100000 in
theorem b_X1_readRain {p : Program} {l : Launch} {e : Env} {s : State} {m : MethodId} {args : Array Value} {below : List Frame} {meth : Method} {c : Code} {ls : Array Slot} {D : va_G} {ct : Nat → ClassId} {G : GT} (a : Nat → Nat) (fu : Nat) (o : Ob) (ok : Ob) (ov : Ob) {r : Ob × Ob × Ob} (hx : p.tables.exec = Jvm.exec) (hb : c.code = cX1_readRain) (hr : meth.sig.returnType = none) (hml : c.maxLocals = 2) (hown : s.vm.findClass RX1 = some m.cls) (htl : ∀ w ∈ wsL_law, w.before args s = true) (hlocks : meth.locks = false) (hK : va_K D vwCl (tyl ct) s) (hN : ∀ w ∈ NW, va_Nw w s) (hX : SX G s s.heap) (hP0 : va_P D vwCl (cs1 ct a o ok ov) s.heap) (hf : p_X1_readRain fu o ok ov = some r) (hD0 : va_D (GE G) (cs1 ct a o ok ov))  (hl : lv_has ls 2 [(0, .ref (a 0))]) : W p l e rm_X1_readRain s m args below meth c s.heap [] 0 0 (MQ below (Qwr none (fun H => va_P D vwCl (cs1 ct a r.1 r.2.1 r.2.2) H) (wA (cs1 ct a o ok ov))) args s 0 0 (wA (cs1 ct a o ok ov))) (F0 m 0 ls []) := by
  generalize hQQ : MQ below (Qwr none (fun H => va_P D vwCl (cs1 ct a r.1 r.2.1 r.2.2) H) (wA (cs1 ct a o ok ov))) args s 0 0 (wA (cs1 ct a o ok ov)) = QQ
  have hDx : ∀ (oy : Ob) (oky : Ob) (ovy : Ob), va_D (GE G) (cs1 ct a oy oky ovy) := fun oy oky ovy => D_cr hD0 rfl
  have hDW : ∀ (oy : Ob) (oky : Ob) (ovy : Ob), va_D (wA (cs1 ct a o ok ov)) (cs1 ct a oy oky ovy) := fun oy oky ovy => D_cr (D_self hD0) rfl
  have hGE : ∀ q, wA (cs1 ct a o ok ov) q → GE G q := wA_GE hD0
  have hP := hP0
  have hS : va_S (wA (cs1 ct a o ok ov)) s.heap s.heap [] := va_S.rf
  rw [p_X1_readRain] at hf
  refine lv_aload_n hx hb dX1_readRain_0 rfl (lv_at hl 0 rfl) ?_
  refine lv_aload_n hx hb dX1_readRain_1 rfl (lv_at hl 0 rfl) ?_
  refine va_get (D := D) (ci := 1) (v := .ref (a 5)) (C := RX1) (T := TX1) (N := 6) hx hb htl inlX1 hown hK hP 0 rfl rfl 1 (by decide) (htl _ wq_3_17) (fun _ h9 => h9) rfl dX1_readRain_2 ?_
  refine va_getN (D := D) (ci := 2) (v := .int (ov.1 13 0)) (C := RX2) (T := TX2) (N := 20) hx hb htl inlX2 hown hK hP 5 rfl rfl 13 (by decide) (va_Nw.use rfl (hN _ nm_52)) (fun _ h9 => h9) rfl dX1_readRain_5 ?_
  refine lv_iconst (v := 5) hx hb dX1_readRain_8 (by decide) ?_
  obtain ⟨r_9, e_9, hf⟩ := ob_bind hf
  have hPX_9 : va_P D vwCl (cs1 ct a o ok ov) s.heap := hP
  refine wr_call1 (va_runV (As := [.int (ov.1 13 0), .int 5]) (rest := []) ⟨hx, hb, hml, hown, htl⟩ (c_X1_claim l D ct G a fu o ok ov (ov.1 13 0) (5 : Int32) e_9 (hDx o ok ov)) (cw_X1_X1_claim htl ⟨Nat.le_of_ble_eq_true rfl, Nat.le_of_ble_eq_true rfl⟩) ⟨Bx_blind, va_recv hK hPX_9 (ci := 1) (q0 := 0) rfl rfl, Bx_pre hPX_9 hK hN (hX.stay hS hGE)⟩ rfl rfl hl.1 rfl (lv_room (Nat.le_of_ble_eq_true rfl)) dX1_readRain_9 ⟨Nat.zero_le _, Nat.zero_le _⟩) hS (wA_cg rfl) (fun H_9 locs_9 hB_9 _ hk_9 hS => ?_)
  have hP : va_P D vwCl (cs1 ct a r_9.2.1 r_9.2.2.1 r_9.2.2.2) H_9 := hB_9
  refine lv_istore_n (lv' := [(1, .int r_9.1), (0, .ref (a 0))]) hx hb dX1_readRain_12 rfl hl (by decide) rfl (fun ls hl => ?_)
  refine lv_aload_n hx hb dX1_readRain_13 rfl (lv_at hl 1 rfl) ?_
  refine va_get (D := D) (ci := 1) (v := .ref (a 5)) (C := RX1) (T := TX1) (N := 6) hx hb htl inlX1 hown hK hP 0 rfl rfl 1 (by decide) (htl _ wq_3_17) (fun _ h9 => h9) rfl dX1_readRain_14 ?_
  refine va_getN (D := D) (ci := 2) (v := .ref (a 13)) (C := RX2) (T := TX2) (N := 20) hx hb htl inlX2 hown hK hP 5 rfl rfl 14 (by decide) (va_Nw.use rfl (hN _ nm_53)) (fun _ h9 => h9) rfl dX1_readRain_17 ?_
  refine lv_iload_n hx hb dX1_readRain_20 rfl (lv_at hl 0 rfl) ?_
  refine lv_aload_n hx hb dX1_readRain_21 rfl (lv_at hl 1 rfl) ?_
  refine lv_bipush (v := 16) hx hb dX1_readRain_22 (by decide) ?_
  refine lv_iconst (v := 1) hx hb dX1_readRain_24 (by decide) ?_
  refine lv_bipush (v := 30) hx hb dX1_readRain_25 (by decide) ?_
  obtain ⟨r_27, e_27, hf⟩ := ob_bind hf
  have hPX_27 : va_P D vwCl (cs1 ct a r_9.2.1 r_9.2.2.1 r_9.2.2.2) H_9 := hP
  refine wr_call1 (va_runV (As := [.int 16, .int 1, .int 30]) (rest := [.int r_9.1, .ref (a 13)]) ⟨hx, hb, hml, hown, htl⟩ (c_X1_takeNumber l D ct G a fu r_9.2.1 r_9.2.2.1 r_9.2.2.2 (16 : Int32) (1 : Int32) (30 : Int32) e_27 (hDx r_9.2.1 r_9.2.2.1 r_9.2.2.2)) (cw_X1_X1_takeNumber htl ⟨Nat.le_of_ble_eq_true rfl, Nat.le_of_ble_eq_true rfl⟩) ⟨Bx_blind, va_recv hK hPX_27 (ci := 1) (q0 := 0) rfl rfl, Bx_pre hPX_27 hK hN (hX.stay hS hGE)⟩ rfl rfl hl.1 rfl (lv_room (Nat.le_of_ble_eq_true rfl)) dX1_readRain_27 ⟨Nat.zero_le _, Nat.zero_le _⟩) hS (wA_cg rfl) (fun H_27 locs_27 hB_27 _ hk_27 hS => ?_)
  have hP : va_P D vwCl (cs1 ct a r_27.2.1 r_27.2.2.1 r_27.2.2.2) H_27 := hB_27
  obtain ⟨r_30, e_30, hf⟩ := ob_bind hf
  have hPX_30 : va_P D vwCl ([((a 13), .inl (ct 0, 5, .inl (r_27.2.2.2.1 14)))]) H_27 := (P_one hP 13 rfl)
  refine wr_call0 (va_runSN (As := [.ref (a 13), .int r_9.1, .int r_27.1]) (rest := []) ⟨hx, hb, hml, hown, htl⟩ (c_X9_put l D ct G (a 13) fu 5 (r_27.2.2.2.1 14) r_9.1 r_27.1 e_30 ((hDx r_27.2.1 r_27.2.2.1 r_27.2.2.2).sub (ws' := [((a 13), .inl (ct 0, 5, .inl (r_27.2.2.2.1 14)))]) [13] (by decide) rfl)) (cw_X1_X9_put htl hN ⟨Nat.le_of_ble_eq_true rfl, Nat.le_of_ble_eq_true rfl⟩) ⟨Bx_blind, Bx_pre hPX_30 hK hN (hX.stay hS hGE)⟩ rfl rfl hl.1 rfl (lv_room (Nat.le_of_ble_eq_true rfl)) dX1_readRain_30 ⟨Nat.zero_le _, Nat.zero_le _⟩) hS (fun q h => wA_cg (w1 := cs1 ct a r_27.2.1 r_27.2.2.1 r_27.2.2.2) (w2 := cs1 ct a o ok ov) rfl q (wA_sub (w2 := cs1 ct a r_27.2.1 r_27.2.2.1 r_27.2.2.2) [13] rfl q h)) (fun H_30 locs_30 hB_30 _ hk_30 hS => ?_)
  have hP : va_P D vwCl (cs1 ct a r_27.2.1 r_27.2.2.1 (oA r_27.2.2.2 14 r_30)) H_30 := P_join hP (hDW r_27.2.1 r_27.2.2.1 r_27.2.2.2) [13] rfl rfl hk_30 hB_30
  refine lv_aload_n hx hb dX1_readRain_33 rfl (lv_at hl 1 rfl) ?_
  refine va_get (D := D) (ci := 1) (v := .ref (a 5)) (C := RX1) (T := TX1) (N := 6) hx hb htl inlX1 hown hK hP 0 rfl rfl 1 (by decide) (htl _ wq_3_17) (fun _ h9 => h9) rfl dX1_readRain_34 ?_
  refine va_getN (D := D) (ci := 2) (v := .ref (a 14)) (C := RX2) (T := TX2) (N := 20) hx hb htl inlX2 hown hK hP 5 rfl rfl 15 (by decide) (va_Nw.use rfl (hN _ nm_54)) (fun _ h9 => h9) rfl dX1_readRain_37 ?_
  refine lv_iload_n hx hb dX1_readRain_40 rfl (lv_at hl 0 rfl) ?_
  refine lv_aload_n hx hb dX1_readRain_41 rfl (lv_at hl 1 rfl) ?_
  refine lv_bipush (v := 15) hx hb dX1_readRain_42 (by decide) ?_
  refine lv_iconst (v := 0) hx hb dX1_readRain_44 (by decide) ?_
  refine lv_bipush (v := 60) hx hb dX1_readRain_45 (by decide) ?_
  obtain ⟨r_47, e_47, hf⟩ := ob_bind hf
  have hPX_47 : va_P D vwCl (cs1 ct a r_27.2.1 r_27.2.2.1 (oA r_27.2.2.2 14 r_30)) H_30 := hP
  refine wr_call1 (va_runV (As := [.int 15, .int 0, .int 60]) (rest := [.int r_9.1, .ref (a 14)]) ⟨hx, hb, hml, hown, htl⟩ (c_X1_takeNumber l D ct G a fu r_27.2.1 r_27.2.2.1 (oA r_27.2.2.2 14 r_30) (15 : Int32) (0 : Int32) (60 : Int32) e_47 (hDx r_27.2.1 r_27.2.2.1 (oA r_27.2.2.2 14 r_30))) (cw_X1_X1_takeNumber htl ⟨Nat.le_of_ble_eq_true rfl, Nat.le_of_ble_eq_true rfl⟩) ⟨Bx_blind, va_recv hK hPX_47 (ci := 1) (q0 := 0) rfl rfl, Bx_pre hPX_47 hK hN (hX.stay hS hGE)⟩ rfl rfl hl.1 rfl (lv_room (Nat.le_of_ble_eq_true rfl)) dX1_readRain_47 ⟨Nat.zero_le _, Nat.zero_le _⟩) hS (wA_cg rfl) (fun H_47 locs_47 hB_47 _ hk_47 hS => ?_)
  have hP : va_P D vwCl (cs1 ct a r_47.2.1 r_47.2.2.1 r_47.2.2.2) H_47 := hB_47
  obtain ⟨r_50, e_50, hf⟩ := ob_bind hf
  have hPX_50 : va_P D vwCl ([((a 14), .inl (ct 0, 5, .inl (r_47.2.2.2.1 15)))]) H_47 := (P_one hP 14 rfl)
  refine wr_call0 (va_runSN (As := [.ref (a 14), .int r_9.1, .int r_47.1]) (rest := []) ⟨hx, hb, hml, hown, htl⟩ (c_X9_put l D ct G (a 14) fu 5 (r_47.2.2.2.1 15) r_9.1 r_47.1 e_50 ((hDx r_47.2.1 r_47.2.2.1 r_47.2.2.2).sub (ws' := [((a 14), .inl (ct 0, 5, .inl (r_47.2.2.2.1 15)))]) [14] (by decide) rfl)) (cw_X1_X9_put htl hN ⟨Nat.le_of_ble_eq_true rfl, Nat.le_of_ble_eq_true rfl⟩) ⟨Bx_blind, Bx_pre hPX_50 hK hN (hX.stay hS hGE)⟩ rfl rfl hl.1 rfl (lv_room (Nat.le_of_ble_eq_true rfl)) dX1_readRain_50 ⟨Nat.zero_le _, Nat.zero_le _⟩) hS (fun q h => wA_cg (w1 := cs1 ct a r_47.2.1 r_47.2.2.1 r_47.2.2.2) (w2 := cs1 ct a o ok ov) rfl q (wA_sub (w2 := cs1 ct a r_47.2.1 r_47.2.2.1 r_47.2.2.2) [14] rfl q h)) (fun H_50 locs_50 hB_50 _ hk_50 hS => ?_)
  have hP : va_P D vwCl (cs1 ct a r_47.2.1 r_47.2.2.1 (oA r_47.2.2.2 15 r_50)) H_50 := P_join hP (hDW r_47.2.1 r_47.2.2.1 r_47.2.2.2) [14] rfl rfl hk_50 hB_50
  refine lv_aload_n hx hb dX1_readRain_53 rfl (lv_at hl 1 rfl) ?_
  refine va_get (D := D) (ci := 1) (v := .ref (a 5)) (C := RX1) (T := TX1) (N := 6) hx hb htl inlX1 hown hK hP 0 rfl rfl 1 (by decide) (htl _ wq_3_17) (fun _ h9 => h9) rfl dX1_readRain_54 ?_
  refine lv_iload_n hx hb dX1_readRain_57 rfl (lv_at hl 0 rfl) ?_
  refine lv_iconst (v := 1) hx hb dX1_readRain_58 (by decide) ?_
  refine lv_iadd hx hb dX1_readRain_59 ?_
  refine va_putN (D := D) (ci := 2) (v := .int (r_9.1 + 1)) (ty := .int) (C := RX2) (T := TX2) (N := 20) hx hb htl inlX2 tyX2 tyX2_ok nmX2 hown hK hP (hDW r_47.2.1 r_47.2.2.1 (oA r_47.2.2.2 15 r_50)) hS 5 rfl rfl 13 (by decide) (va_Nw.use rfl (hN _ nm_52)) (fun _ h9 => h9) rfl (tyX2_ok 13 (by decide)) rfl rfl (Nat.le_of_ble_eq_true rfl) dX1_readRain_60 (fun H_60 locs_60 hP _ hS => ?_)
  have hP : va_P D vwCl (cs1 ct a r_47.2.1 r_47.2.2.1 (oI (oA r_47.2.2.2 15 r_50) 13 (r_9.1 + 1))) H_60 := st1rv_13 hP
  rw [← hQQ]
  cases hf
  exact rw_v hx hb hr hlocks hP hS dX1_readRain_63
theorem c_X1_readRain (l : Launch) (D : va_G) (ct : Nat → ClassId) (G : GT) (a : Nat → Nat) (fu : Nat) (o : Ob) (ok : Ob) (ov : Ob) {r : Ob × Ob × Ob} (hf : p_X1_readRain fu o ok ov = some r)  (hD0 : va_D (GE G) (cs1 ct a o ok ov)) : Met l yX1_readRain (.code yX1_readRain cX1_readRain 2 none :: wsL_law) rm_X1_readRain (va_Pc [.ref (a 0)] (Bx D ct G (cs1 ct a o ok ov))) (Qwr none (fun H => va_P D vwCl (cs1 ct a r.1 r.2.1 r.2.2) H) (wA (cs1 ct a o ok ov))) 0 0 (wA (cs1 ct a o ok ov)) := by
  refine Met.ofW (cc := cX1_readRain) (maxL := 2) (ret := none) (by decide) rfl ?_
  intro p e s m args below meth c s₁ B hml hv
  obtain ⟨rfl, hP, hK, hN, hX⟩ := hv
  have hts := atoms_spec (ws := .code yX1_readRain cX1_readRain 2 none :: wsL_law) B.pre
  rw [lg_entry_eq]
  exact b_X1_readRain a fu o ok ov B.exec B.bytes B.returns hml (findClass_of_methodNamed B.named) (fun w h => hts w (List.mem_cons_of_mem _ h)) B.notSynchronized hK hN hX hP hf hD0  (lv_entry [.ref (a 0)] (n := 2) (Nat.le_of_ble_eq_true rfl))
def p_X1_readReach_J74 (fu : Nat)  (oz : Ob) (okz : Ob) (ovz : Ob) (v1 : Int32) : Option (Ob × Ob × Ob) :=
    (p_X1_takeNumber fu oz okz ovz (11 : Int32) (1 : Int32) (5 : Int32)).bind fun r_87 => (p_X9_put fu 10 (r_87.2.2.2.1 6) v1 r_87.1).bind fun r_90 => (p_X1_takeNumber fu r_87.2.1 r_87.2.2.1 (oA r_87.2.2.2 6 r_90) (12 : Int32) (0 : Int32) (20 : Int32)).bind fun r_107 => (p_X9_put fu 10 (r_107.2.2.2.1 7) v1 r_107.1).bind fun r_110 => some (r_107.2.1, r_107.2.2.1, (oI (oA r_107.2.2.2 7 r_110) 4 (v1 + 1)))
def p_X1_readReach (fu : Nat) (o : Ob) (ok : Ob) (ov : Ob) : Option (Ob × Ob × Ob) :=
  (p_X1_claim fu o ok ov (ov.1 4 0) (10 : Int32)).bind fun r_10 => (p_X1_take fu r_10.2.1 r_10.2.2.1 r_10.2.2.2 (8 : Int32)).bind fun r_17 => (p_X1_take fu r_17.1 r_17.2.1 r_17.2.2 (9 : Int32)).bind fun r_23 => if (r_23.1.1 4 0) = (10 : Int32) then (p_X1_take fu r_23.1 r_23.2.1 r_23.2.2 (10 : Int32)).bind fun r_38 => (p_X9_put fu 10 (r_38.2.2.1 5) r_10.1 ((-1) : Int32)).bind fun r_50 => p_X1_readReach_J74 fu r_38.1 r_38.2.1 (oA r_38.2.2 5 r_50) r_10.1 else (p_X1_takeValue fu r_23.1 r_23.2.1 r_23.2.2 (0 : Int32) (9 : Int32)).bind fun r_68 => (p_X9_put fu 10 (r_68.2.2.2.1 5) r_10.1 r_68.1).bind fun r_71 => p_X1_readReach_J74 fu r_68.2.1 r_68.2.2.1 (oA r_68.2.2.2 5 r_71) r_10.1
abbrev rm_X1_readReach : Room := { frames := 4, cells := 0, slots := 0, locals := 88 }
set_option maxHeartbeats 4000000 in
set_option maxRecDepth 100000 in
theorem b_X1_readReach {p : Program} {l : Launch} {e : Env} {s : State} {m : MethodId} {args : Array Value} {below : List Frame} {meth : Method} {c : Code} {ls : Array Slot} {D : va_G} {ct : Nat → ClassId} {G : GT} (a : Nat → Nat) (fu : Nat) (o : Ob) (ok : Ob) (ov : Ob) {r : Ob × Ob × Ob} (hx : p.tables.exec = Jvm.exec) (hb : c.code = cX1_readReach) (hr : meth.sig.returnType = none) (hml : c.maxLocals = 2) (hown : s.vm.findClass RX1 = some m.cls) (htl : ∀ w ∈ wsL_law, w.before args s = true) (hlocks : meth.locks = false) (hK : va_K D vwCl (tyl ct) s) (hN : ∀ w ∈ NW, va_Nw w s) (hX : SX G s s.heap) (hP0 : va_P D vwCl (cs1 ct a o ok ov) s.heap) (hf : p_X1_readReach fu o ok ov = some r) (hD0 : va_D (GE G) (cs1 ct a o ok ov))  (hl : lv_has ls 2 [(0, .ref (a 0))]) : W p l e rm_X1_readReach s m args below meth c s.heap [] 0 0 (MQ below (Qwr none (fun H => va_P D vwCl (cs1 ct a r.1 r.2.1 r.2.2) H) (wA (cs1 ct a o ok ov))) args s 0 0 (wA (cs1 ct a o ok ov))) (F0 m 0 ls []) := by
  generalize hQQ : MQ below (Qwr none (fun H => va_P D vwCl (cs1 ct a r.1 r.2.1 r.2.2) H) (wA (cs1 ct a o ok ov))) args s 0 0 (wA (cs1 ct a o ok ov)) = QQ
  have hDx : ∀ (oy : Ob) (oky : Ob) (ovy : Ob), va_D (GE G) (cs1 ct a oy oky ovy) := fun oy oky ovy => D_cr hD0 rfl
  have hDW : ∀ (oy : Ob) (oky : Ob) (ovy : Ob), va_D (wA (cs1 ct a o ok ov)) (cs1 ct a oy oky ovy) := fun oy oky ovy => D_cr (D_self hD0) rfl
  have hGE : ∀ q, wA (cs1 ct a o ok ov) q → GE G q := wA_GE hD0
  have hP := hP0
  have hS : va_S (wA (cs1 ct a o ok ov)) s.heap s.heap [] := va_S.rf
  have hJ74 : ∀ (oz : Ob) (okz : Ob) (ovz : Ob) (v1 : Int32), ∀ (H : Heap) (locs : List Loc) (ls : Array Slot), va_P D vwCl (cs1 ct a oz okz ovz) H → va_S (wA (cs1 ct a o ok ov)) s.heap H locs → lv_has ls 2 [(0, .ref (a 0)), (1, .int v1)] → p_X1_readReach_J74 fu  oz okz ovz v1 = some r → W p l e rm_X1_readReach s m args below meth c H locs 0 0 QQ (F0 m 74 ls []) := by
    intro  oz okz ovz v1 H locs ls hP hS hl hf 
    rw [p_X1_readReach_J74] at hf
    refine lv_aload_n hx hb dX1_readReach_74 rfl (lv_at hl 0 rfl) ?_
    refine va_get (D := D) (ci := 1) (v := .ref (a 5)) (C := RX1) (T := TX1) (N := 6) hx hb htl inlX1 hown hK hP 0 rfl rfl 1 (by decide) (htl _ wq_3_17) (fun _ h9 => h9) rfl dX1_readReach_75 ?_
    refine va_getN (D := D) (ci := 2) (v := .ref (a 7)) (C := RX2) (T := TX2) (N := 20) hx hb htl inlX2 hown hK hP 5 rfl rfl 6 (by decide) (va_Nw.use rfl (hN _ nm_45)) (fun _ h9 => h9) rfl dX1_readReach_78 ?_
    refine lv_iload_n hx hb dX1_readReach_81 rfl (lv_at hl 1 rfl) ?_
    refine lv_aload_n hx hb dX1_readReach_82 rfl (lv_at hl 0 rfl) ?_
    refine lv_bipush (v := 11) hx hb dX1_readReach_83 (by decide) ?_
    refine lv_iconst (v := 1) hx hb dX1_readReach_85 (by decide) ?_
    refine lv_iconst (v := 5) hx hb dX1_readReach_86 (by decide) ?_
    obtain ⟨r_87, e_87, hf⟩ := ob_bind hf
    have hPX_87 : va_P D vwCl (cs1 ct a oz okz ovz) H := hP
    refine wr_call1 (va_runV (As := [.int 11, .int 1, .int 5]) (rest := [.int v1, .ref (a 7)]) ⟨hx, hb, hml, hown, htl⟩ (c_X1_takeNumber l D ct G a fu oz okz ovz (11 : Int32) (1 : Int32) (5 : Int32) e_87 (hDx oz okz ovz)) (cw_X1_X1_takeNumber htl ⟨Nat.le_of_ble_eq_true rfl, Nat.le_of_ble_eq_true rfl⟩) ⟨Bx_blind, va_recv hK hPX_87 (ci := 1) (q0 := 0) rfl rfl, Bx_pre hPX_87 hK hN (hX.stay hS hGE)⟩ rfl rfl hl.1 rfl (lv_room (Nat.le_of_ble_eq_true rfl)) dX1_readReach_87 ⟨Nat.zero_le _, Nat.zero_le _⟩) hS (wA_cg rfl) (fun H_87 locs_87 hB_87 _ hk_87 hS => ?_)
    have hP : va_P D vwCl (cs1 ct a r_87.2.1 r_87.2.2.1 r_87.2.2.2) H_87 := hB_87
    obtain ⟨r_90, e_90, hf⟩ := ob_bind hf
    have hPX_90 : va_P D vwCl ([((a 7), .inl (ct 0, 10, .inl (r_87.2.2.2.1 6)))]) H_87 := (P_one hP 7 rfl)
    refine wr_call0 (va_runSN (As := [.ref (a 7), .int v1, .int r_87.1]) (rest := []) ⟨hx, hb, hml, hown, htl⟩ (c_X9_put l D ct G (a 7) fu 10 (r_87.2.2.2.1 6) v1 r_87.1 e_90 ((hDx r_87.2.1 r_87.2.2.1 r_87.2.2.2).sub (ws' := [((a 7), .inl (ct 0, 10, .inl (r_87.2.2.2.1 6)))]) [7] (by decide) rfl)) (cw_X1_X9_put htl hN ⟨Nat.le_of_ble_eq_true rfl, Nat.le_of_ble_eq_true rfl⟩) ⟨Bx_blind, Bx_pre hPX_90 hK hN (hX.stay hS hGE)⟩ rfl rfl hl.1 rfl (lv_room (Nat.le_of_ble_eq_true rfl)) dX1_readReach_90 ⟨Nat.zero_le _, Nat.zero_le _⟩) hS (fun q h => wA_cg (w1 := cs1 ct a r_87.2.1 r_87.2.2.1 r_87.2.2.2) (w2 := cs1 ct a o ok ov) rfl q (wA_sub (w2 := cs1 ct a r_87.2.1 r_87.2.2.1 r_87.2.2.2) [7] rfl q h)) (fun H_90 locs_90 hB_90 _ hk_90 hS => ?_)
    have hP : va_P D vwCl (cs1 ct a r_87.2.1 r_87.2.2.1 (oA r_87.2.2.2 6 r_90)) H_90 := P_join hP (hDW r_87.2.1 r_87.2.2.1 r_87.2.2.2) [7] rfl rfl hk_90 hB_90
    refine lv_aload_n hx hb dX1_readReach_93 rfl (lv_at hl 0 rfl) ?_
    refine va_get (D := D) (ci := 1) (v := .ref (a 5)) (C := RX1) (T := TX1) (N := 6) hx hb htl inlX1 hown hK hP 0 rfl rfl 1 (by decide) (htl _ wq_3_17) (fun _ h9 => h9) rfl dX1_readReach_94 ?_
    refine va_getN (D := D) (ci := 2) (v := .ref (a 8)) (C := RX2) (T := TX2) (N := 20) hx hb htl inlX2 hown hK hP 5 rfl rfl 7 (by decide) (va_Nw.use rfl (hN _ nm_46)) (fun _ h9 => h9) rfl dX1_readReach_97 ?_
    refine lv_iload_n hx hb dX1_readReach_100 rfl (lv_at hl 1 rfl) ?_
    refine lv_aload_n hx hb dX1_readReach_101 rfl (lv_at hl 0 rfl) ?_
    refine lv_bipush (v := 12) hx hb dX1_readReach_102 (by decide) ?_
    refine lv_iconst (v := 0) hx hb dX1_readReach_104 (by decide) ?_
    refine lv_bipush (v := 20) hx hb dX1_readReach_105 (by decide) ?_
    obtain ⟨r_107, e_107, hf⟩ := ob_bind hf
    have hPX_107 : va_P D vwCl (cs1 ct a r_87.2.1 r_87.2.2.1 (oA r_87.2.2.2 6 r_90)) H_90 := hP
    refine wr_call1 (va_runV (As := [.int 12, .int 0, .int 20]) (rest := [.int v1, .ref (a 8)]) ⟨hx, hb, hml, hown, htl⟩ (c_X1_takeNumber l D ct G a fu r_87.2.1 r_87.2.2.1 (oA r_87.2.2.2 6 r_90) (12 : Int32) (0 : Int32) (20 : Int32) e_107 (hDx r_87.2.1 r_87.2.2.1 (oA r_87.2.2.2 6 r_90))) (cw_X1_X1_takeNumber htl ⟨Nat.le_of_ble_eq_true rfl, Nat.le_of_ble_eq_true rfl⟩) ⟨Bx_blind, va_recv hK hPX_107 (ci := 1) (q0 := 0) rfl rfl, Bx_pre hPX_107 hK hN (hX.stay hS hGE)⟩ rfl rfl hl.1 rfl (lv_room (Nat.le_of_ble_eq_true rfl)) dX1_readReach_107 ⟨Nat.zero_le _, Nat.zero_le _⟩) hS (wA_cg rfl) (fun H_107 locs_107 hB_107 _ hk_107 hS => ?_)
    have hP : va_P D vwCl (cs1 ct a r_107.2.1 r_107.2.2.1 r_107.2.2.2) H_107 := hB_107
    obtain ⟨r_110, e_110, hf⟩ := ob_bind hf
    have hPX_110 : va_P D vwCl ([((a 8), .inl (ct 0, 10, .inl (r_107.2.2.2.1 7)))]) H_107 := (P_one hP 8 rfl)
    refine wr_call0 (va_runSN (As := [.ref (a 8), .int v1, .int r_107.1]) (rest := []) ⟨hx, hb, hml, hown, htl⟩ (c_X9_put l D ct G (a 8) fu 10 (r_107.2.2.2.1 7) v1 r_107.1 e_110 ((hDx r_107.2.1 r_107.2.2.1 r_107.2.2.2).sub (ws' := [((a 8), .inl (ct 0, 10, .inl (r_107.2.2.2.1 7)))]) [8] (by decide) rfl)) (cw_X1_X9_put htl hN ⟨Nat.le_of_ble_eq_true rfl, Nat.le_of_ble_eq_true rfl⟩) ⟨Bx_blind, Bx_pre hPX_110 hK hN (hX.stay hS hGE)⟩ rfl rfl hl.1 rfl (lv_room (Nat.le_of_ble_eq_true rfl)) dX1_readReach_110 ⟨Nat.zero_le _, Nat.zero_le _⟩) hS (fun q h => wA_cg (w1 := cs1 ct a r_107.2.1 r_107.2.2.1 r_107.2.2.2) (w2 := cs1 ct a o ok ov) rfl q (wA_sub (w2 := cs1 ct a r_107.2.1 r_107.2.2.1 r_107.2.2.2) [8] rfl q h)) (fun H_110 locs_110 hB_110 _ hk_110 hS => ?_)
    have hP : va_P D vwCl (cs1 ct a r_107.2.1 r_107.2.2.1 (oA r_107.2.2.2 7 r_110)) H_110 := P_join hP (hDW r_107.2.1 r_107.2.2.1 r_107.2.2.2) [8] rfl rfl hk_110 hB_110
    refine lv_aload_n hx hb dX1_readReach_113 rfl (lv_at hl 0 rfl) ?_
    refine va_get (D := D) (ci := 1) (v := .ref (a 5)) (C := RX1) (T := TX1) (N := 6) hx hb htl inlX1 hown hK hP 0 rfl rfl 1 (by decide) (htl _ wq_3_17) (fun _ h9 => h9) rfl dX1_readReach_114 ?_
    refine lv_iload_n hx hb dX1_readReach_117 rfl (lv_at hl 1 rfl) ?_
    refine lv_iconst (v := 1) hx hb dX1_readReach_118 (by decide) ?_
    refine lv_iadd hx hb dX1_readReach_119 ?_
    refine va_putN (D := D) (ci := 2) (v := .int (v1 + 1)) (ty := .int) (C := RX2) (T := TX2) (N := 20) hx hb htl inlX2 tyX2 tyX2_ok nmX2 hown hK hP (hDW r_107.2.1 r_107.2.2.1 (oA r_107.2.2.2 7 r_110)) hS 5 rfl rfl 4 (by decide) (va_Nw.use rfl (hN _ nm_43)) (fun _ h9 => h9) rfl (tyX2_ok 4 (by decide)) rfl rfl (Nat.le_of_ble_eq_true rfl) dX1_readReach_120 (fun H_120 locs_120 hP _ hS => ?_)
    have hP : va_P D vwCl (cs1 ct a r_107.2.1 r_107.2.2.1 (oI (oA r_107.2.2.2 7 r_110) 4 (v1 + 1))) H_120 := st1rv_4 hP
    rw [← hQQ]
    cases hf
    exact rw_v hx hb hr hlocks hP hS dX1_readReach_123
  rw [p_X1_readReach] at hf
  refine lv_aload_n hx hb dX1_readReach_0 rfl (lv_at hl 0 rfl) ?_
  refine lv_aload_n hx hb dX1_readReach_1 rfl (lv_at hl 0 rfl) ?_
  refine va_get (D := D) (ci := 1) (v := .ref (a 5)) (C := RX1) (T := TX1) (N := 6) hx hb htl inlX1 hown hK hP 0 rfl rfl 1 (by decide) (htl _ wq_3_17) (fun _ h9 => h9) rfl dX1_readReach_2 ?_
  refine va_getN (D := D) (ci := 2) (v := .int (ov.1 4 0)) (C := RX2) (T := TX2) (N := 20) hx hb htl inlX2 hown hK hP 5 rfl rfl 4 (by decide) (va_Nw.use rfl (hN _ nm_43)) (fun _ h9 => h9) rfl dX1_readReach_5 ?_
  refine lv_bipush (v := 10) hx hb dX1_readReach_8 (by decide) ?_
  obtain ⟨r_10, e_10, hf⟩ := ob_bind hf
  have hPX_10 : va_P D vwCl (cs1 ct a o ok ov) s.heap := hP
  refine wr_call1 (va_runV (As := [.int (ov.1 4 0), .int 10]) (rest := []) ⟨hx, hb, hml, hown, htl⟩ (c_X1_claim l D ct G a fu o ok ov (ov.1 4 0) (10 : Int32) e_10 (hDx o ok ov)) (cw_X1_X1_claim htl ⟨Nat.le_of_ble_eq_true rfl, Nat.le_of_ble_eq_true rfl⟩) ⟨Bx_blind, va_recv hK hPX_10 (ci := 1) (q0 := 0) rfl rfl, Bx_pre hPX_10 hK hN (hX.stay hS hGE)⟩ rfl rfl hl.1 rfl (lv_room (Nat.le_of_ble_eq_true rfl)) dX1_readReach_10 ⟨Nat.zero_le _, Nat.zero_le _⟩) hS (wA_cg rfl) (fun H_10 locs_10 hB_10 _ hk_10 hS => ?_)
  have hP : va_P D vwCl (cs1 ct a r_10.2.1 r_10.2.2.1 r_10.2.2.2) H_10 := hB_10
  refine lv_istore_n (lv' := [(1, .int r_10.1), (0, .ref (a 0))]) hx hb dX1_readReach_13 rfl hl (by decide) rfl (fun ls hl => ?_)
  refine lv_aload_n hx hb dX1_readReach_14 rfl (lv_at hl 1 rfl) ?_
  refine lv_bipush (v := 8) hx hb dX1_readReach_15 (by decide) ?_
  obtain ⟨r_17, e_17, hf⟩ := ob_bind hf
  have hPX_17 : va_P D vwCl (cs1 ct a r_10.2.1 r_10.2.2.1 r_10.2.2.2) H_10 := hP
  refine wr_call0 (va_runV (As := [.int 8]) (rest := []) ⟨hx, hb, hml, hown, htl⟩ (c_X1_take l D ct G a fu r_10.2.1 r_10.2.2.1 r_10.2.2.2 (8 : Int32) e_17 (hDx r_10.2.1 r_10.2.2.1 r_10.2.2.2)) (cw_X1_X1_take htl ⟨Nat.le_of_ble_eq_true rfl, Nat.le_of_ble_eq_true rfl⟩) ⟨Bx_blind, va_recv hK hPX_17 (ci := 1) (q0 := 0) rfl rfl, Bx_pre hPX_17 hK hN (hX.stay hS hGE)⟩ rfl rfl hl.1 rfl (lv_room (Nat.le_of_ble_eq_true rfl)) dX1_readReach_17 ⟨Nat.zero_le _, Nat.zero_le _⟩) hS (wA_cg rfl) (fun H_17 locs_17 hB_17 _ hk_17 hS => ?_)
  have hP : va_P D vwCl (cs1 ct a r_17.1 r_17.2.1 r_17.2.2) H_17 := hB_17
  refine lv_aload_n hx hb dX1_readReach_20 rfl (lv_at hl 1 rfl) ?_
  refine lv_bipush (v := 9) hx hb dX1_readReach_21 (by decide) ?_
  obtain ⟨r_23, e_23, hf⟩ := ob_bind hf
  have hPX_23 : va_P D vwCl (cs1 ct a r_17.1 r_17.2.1 r_17.2.2) H_17 := hP
  refine wr_call0 (va_runV (As := [.int 9]) (rest := []) ⟨hx, hb, hml, hown, htl⟩ (c_X1_take l D ct G a fu r_17.1 r_17.2.1 r_17.2.2 (9 : Int32) e_23 (hDx r_17.1 r_17.2.1 r_17.2.2)) (cw_X1_X1_take htl ⟨Nat.le_of_ble_eq_true rfl, Nat.le_of_ble_eq_true rfl⟩) ⟨Bx_blind, va_recv hK hPX_23 (ci := 1) (q0 := 0) rfl rfl, Bx_pre hPX_23 hK hN (hX.stay hS hGE)⟩ rfl rfl hl.1 rfl (lv_room (Nat.le_of_ble_eq_true rfl)) dX1_readReach_23 ⟨Nat.zero_le _, Nat.zero_le _⟩) hS (wA_cg rfl) (fun H_23 locs_23 hB_23 _ hk_23 hS => ?_)
  have hP : va_P D vwCl (cs1 ct a r_23.1 r_23.2.1 r_23.2.2) H_23 := hB_23
  refine lv_aload_n hx hb dX1_readReach_26 rfl (lv_at hl 1 rfl) ?_
  refine va_get (D := D) (ci := 1) (v := .int (r_23.1.1 4 0)) (C := RX1) (T := TX1) (N := 6) hx hb htl inlX1 hown hK hP 0 rfl rfl 4 (by decide) (htl _ wq_3_20) (fun _ h9 => h9) rfl dX1_readReach_27 ?_
  refine lv_bipush (v := 10) hx hb dX1_readReach_30 (by decide) ?_
  refine lv_icmp_ne (tgt := 56) hx hb dX1_readReach_32 (by decide) (fun c_32 => ?_) (fun c_32 => ?_)
  · rw [if_neg c_32] at hf
    refine lv_aload_n hx hb dX1_readReach_56 rfl (lv_at hl 1 rfl) ?_
    refine va_get (D := D) (ci := 1) (v := .ref (a 5)) (C := RX1) (T := TX1) (N := 6) hx hb htl inlX1 hown hK hP 0 rfl rfl 1 (by decide) (htl _ wq_3_17) (fun _ h9 => h9) rfl dX1_readReach_57 ?_
    refine va_getN (D := D) (ci := 2) (v := .ref (a 6)) (C := RX2) (T := TX2) (N := 20) hx hb htl inlX2 hown hK hP 5 rfl rfl 5 (by decide) (va_Nw.use rfl (hN _ nm_44)) (fun _ h9 => h9) rfl dX1_readReach_60 ?_
    refine lv_iload_n hx hb dX1_readReach_63 rfl (lv_at hl 0 rfl) ?_
    refine lv_aload_n hx hb dX1_readReach_64 rfl (lv_at hl 1 rfl) ?_
    refine lv_iconst (v := 0) hx hb dX1_readReach_65 (by decide) ?_
    refine lv_bipush (v := 9) hx hb dX1_readReach_66 (by decide) ?_
    obtain ⟨r_68, e_68, hf⟩ := ob_bind hf
    have hPX_68 : va_P D vwCl (cs1 ct a r_23.1 r_23.2.1 r_23.2.2) H_23 := hP
    refine wr_call1 (va_runV (As := [.int 0, .int 9]) (rest := [.int r_10.1, .ref (a 6)]) ⟨hx, hb, hml, hown, htl⟩ (c_X1_takeValue l D ct G a fu r_23.1 r_23.2.1 r_23.2.2 (0 : Int32) (9 : Int32) e_68 (hDx r_23.1 r_23.2.1 r_23.2.2)) (cw_X1_X1_takeValue htl ⟨Nat.le_of_ble_eq_true rfl, Nat.le_of_ble_eq_true rfl⟩) ⟨Bx_blind, va_recv hK hPX_68 (ci := 1) (q0 := 0) rfl rfl, Bx_pre hPX_68 hK hN (hX.stay hS hGE)⟩ rfl rfl hl.1 rfl (lv_room (Nat.le_of_ble_eq_true rfl)) dX1_readReach_68 ⟨Nat.zero_le _, Nat.zero_le _⟩) hS (wA_cg rfl) (fun H_68 locs_68 hB_68 _ hk_68 hS => ?_)
    have hP : va_P D vwCl (cs1 ct a r_68.2.1 r_68.2.2.1 r_68.2.2.2) H_68 := hB_68
    obtain ⟨r_71, e_71, hf⟩ := ob_bind hf
    have hPX_71 : va_P D vwCl ([((a 6), .inl (ct 0, 10, .inl (r_68.2.2.2.1 5)))]) H_68 := (P_one hP 6 rfl)
    refine wr_call0 (va_runSN (As := [.ref (a 6), .int r_10.1, .int r_68.1]) (rest := []) ⟨hx, hb, hml, hown, htl⟩ (c_X9_put l D ct G (a 6) fu 10 (r_68.2.2.2.1 5) r_10.1 r_68.1 e_71 ((hDx r_68.2.1 r_68.2.2.1 r_68.2.2.2).sub (ws' := [((a 6), .inl (ct 0, 10, .inl (r_68.2.2.2.1 5)))]) [6] (by decide) rfl)) (cw_X1_X9_put htl hN ⟨Nat.le_of_ble_eq_true rfl, Nat.le_of_ble_eq_true rfl⟩) ⟨Bx_blind, Bx_pre hPX_71 hK hN (hX.stay hS hGE)⟩ rfl rfl hl.1 rfl (lv_room (Nat.le_of_ble_eq_true rfl)) dX1_readReach_71 ⟨Nat.zero_le _, Nat.zero_le _⟩) hS (fun q h => wA_cg (w1 := cs1 ct a r_68.2.1 r_68.2.2.1 r_68.2.2.2) (w2 := cs1 ct a o ok ov) rfl q (wA_sub (w2 := cs1 ct a r_68.2.1 r_68.2.2.1 r_68.2.2.2) [6] rfl q h)) (fun H_71 locs_71 hB_71 _ hk_71 hS => ?_)
    have hP : va_P D vwCl (cs1 ct a r_68.2.1 r_68.2.2.1 (oA r_68.2.2.2 5 r_71)) H_71 := P_join hP (hDW r_68.2.1 r_68.2.2.1 r_68.2.2.2) [6] rfl rfl hk_71 hB_71
    exact hJ74 r_68.2.1 r_68.2.2.1 (oA r_68.2.2.2 5 r_71) r_10.1 _ _ _ hP hS (lv_sub hl [1, 0] rfl) hf 
  rw [if_pos c_32] at hf
  refine lv_aload_n hx hb dX1_readReach_35 rfl (lv_at hl 1 rfl) ?_
  refine lv_bipush (v := 10) hx hb dX1_readReach_36 (by decide) ?_
  obtain ⟨r_38, e_38, hf⟩ := ob_bind hf
  have hPX_38 : va_P D vwCl (cs1 ct a r_23.1 r_23.2.1 r_23.2.2) H_23 := hP
  refine wr_call0 (va_runV (As := [.int 10]) (rest := []) ⟨hx, hb, hml, hown, htl⟩ (c_X1_take l D ct G a fu r_23.1 r_23.2.1 r_23.2.2 (10 : Int32) e_38 (hDx r_23.1 r_23.2.1 r_23.2.2)) (cw_X1_X1_take htl ⟨Nat.le_of_ble_eq_true rfl, Nat.le_of_ble_eq_true rfl⟩) ⟨Bx_blind, va_recv hK hPX_38 (ci := 1) (q0 := 0) rfl rfl, Bx_pre hPX_38 hK hN (hX.stay hS hGE)⟩ rfl rfl hl.1 rfl (lv_room (Nat.le_of_ble_eq_true rfl)) dX1_readReach_38 ⟨Nat.zero_le _, Nat.zero_le _⟩) hS (wA_cg rfl) (fun H_38 locs_38 hB_38 _ hk_38 hS => ?_)
  have hP : va_P D vwCl (cs1 ct a r_38.1 r_38.2.1 r_38.2.2) H_38 := hB_38
  refine lv_aload_n hx hb dX1_readReach_41 rfl (lv_at hl 1 rfl) ?_
  refine va_get (D := D) (ci := 1) (v := .ref (a 5)) (C := RX1) (T := TX1) (N := 6) hx hb htl inlX1 hown hK hP 0 rfl rfl 1 (by decide) (htl _ wq_3_17) (fun _ h9 => h9) rfl dX1_readReach_42 ?_
  refine va_getN (D := D) (ci := 2) (v := .ref (a 6)) (C := RX2) (T := TX2) (N := 20) hx hb htl inlX2 hown hK hP 5 rfl rfl 5 (by decide) (va_Nw.use rfl (hN _ nm_44)) (fun _ h9 => h9) rfl dX1_readReach_45 ?_
  refine lv_iload_n hx hb dX1_readReach_48 rfl (lv_at hl 0 rfl) ?_
  refine lv_iconst (v := (-1)) hx hb dX1_readReach_49 (by decide) ?_
  obtain ⟨r_50, e_50, hf⟩ := ob_bind hf
  have hPX_50 : va_P D vwCl ([((a 6), .inl (ct 0, 10, .inl (r_38.2.2.1 5)))]) H_38 := (P_one hP 6 rfl)
  refine wr_call0 (va_runSN (As := [.ref (a 6), .int r_10.1, .int (-1)]) (rest := []) ⟨hx, hb, hml, hown, htl⟩ (c_X9_put l D ct G (a 6) fu 10 (r_38.2.2.1 5) r_10.1 ((-1) : Int32) e_50 ((hDx r_38.1 r_38.2.1 r_38.2.2).sub (ws' := [((a 6), .inl (ct 0, 10, .inl (r_38.2.2.1 5)))]) [6] (by decide) rfl)) (cw_X1_X9_put htl hN ⟨Nat.le_of_ble_eq_true rfl, Nat.le_of_ble_eq_true rfl⟩) ⟨Bx_blind, Bx_pre hPX_50 hK hN (hX.stay hS hGE)⟩ rfl rfl hl.1 rfl (lv_room (Nat.le_of_ble_eq_true rfl)) dX1_readReach_50 ⟨Nat.zero_le _, Nat.zero_le _⟩) hS (fun q h => wA_cg (w1 := cs1 ct a r_38.1 r_38.2.1 r_38.2.2) (w2 := cs1 ct a o ok ov) rfl q (wA_sub (w2 := cs1 ct a r_38.1 r_38.2.1 r_38.2.2) [6] rfl q h)) (fun H_50 locs_50 hB_50 _ hk_50 hS => ?_)
  have hP : va_P D vwCl (cs1 ct a r_38.1 r_38.2.1 (oA r_38.2.2 5 r_50)) H_50 := P_join hP (hDW r_38.1 r_38.2.1 r_38.2.2) [6] rfl rfl hk_50 hB_50
  refine lv_goto (tgt := 74) hx hb dX1_readReach_53 (by decide) ?_
  exact hJ74 r_38.1 r_38.2.1 (oA r_38.2.2 5 r_50) r_10.1 _ _ _ hP hS (lv_sub hl [1, 0] rfl) hf 
theorem c_X1_readReach (l : Launch) (D : va_G) (ct : Nat → ClassId) (G : GT) (a : Nat → Nat) (fu : Nat) (o : Ob) (ok : Ob) (ov : Ob) {r : Ob × Ob × Ob} (hf : p_X1_readReach fu o ok ov = some r)  (hD0 : va_D (GE G) (cs1 ct a o ok ov)) : Met l yX1_readReach (.code yX1_readReach cX1_readReach 2 none :: wsL_law) rm_X1_readReach (va_Pc [.ref (a 0)] (Bx D ct G (cs1 ct a o ok ov))) (Qwr none (fun H => va_P D vwCl (cs1 ct a r.1 r.2.1 r.2.2) H) (wA (cs1 ct a o ok ov))) 0 0 (wA (cs1 ct a o ok ov)) := by
  refine Met.ofW (cc := cX1_readReach) (maxL := 2) (ret := none) (by decide) rfl ?_
  intro p e s m args below meth c s₁ B hml hv
  obtain ⟨rfl, hP, hK, hN, hX⟩ := hv
  have hts := atoms_spec (ws := .code yX1_readReach cX1_readReach 2 none :: wsL_law) B.pre
  rw [lg_entry_eq]
  exact b_X1_readReach a fu o ok ov B.exec B.bytes B.returns hml (findClass_of_methodNamed B.named) (fun w h => hts w (List.mem_cons_of_mem _ h)) B.notSynchronized hK hN hX hP hf hD0  (lv_entry [.ref (a 0)] (n := 2) (Nat.le_of_ble_eq_true rfl))
def p_X1_readRivers (fu : Nat) (o : Ob) (ok : Ob) (ov : Ob) : Option (Ob × Ob × Ob) :=
  (p_X1_take fu o ok (oI ov 0 (1 : Int32)) (4 : Int32)).bind fun r_10 => (p_X1_takeNumber fu r_10.1 r_10.2.1 r_10.2.2 (5 : Int32) (0 : Int32) (60 : Int32)).bind fun r_22 => (p_X1_takeNumber fu r_22.2.1 r_22.2.2.1 (oI r_22.2.2.2 1 r_22.1) (6 : Int32) (0 : Int32) (10 : Int32)).bind fun r_38 => (p_X1_takeNumber fu r_38.2.1 r_38.2.2.1 (oI r_38.2.2.2 2 r_38.1) (7 : Int32) (1 : Int32) (9 : Int32)).bind fun r_54 => some (r_54.2.1, r_54.2.2.1, (oI r_54.2.2.2 3 r_54.1))
abbrev rm_X1_readRivers : Room := { frames := 4, cells := 0, slots := 0, locals := 88 }
set_option maxHeartbeats 4000000 in
set_option maxRecDepth 100000 in
theorem b_X1_readRivers {p : Program} {l : Launch} {e : Env} {s : State} {m : MethodId} {args : Array Value} {below : List Frame} {meth : Method} {c : Code} {ls : Array Slot} {D : va_G} {ct : Nat → ClassId} {G : GT} (a : Nat → Nat) (fu : Nat) (o : Ob) (ok : Ob) (ov : Ob) {r : Ob × Ob × Ob} (hx : p.tables.exec = Jvm.exec) (hb : c.code = cX1_readRivers) (hr : meth.sig.returnType = none) (hml : c.maxLocals = 1) (hown : s.vm.findClass RX1 = some m.cls) (htl : ∀ w ∈ wsL_law, w.before args s = true) (hlocks : meth.locks = false) (hK : va_K D vwCl (tyl ct) s) (hN : ∀ w ∈ NW, va_Nw w s) (hX : SX G s s.heap) (hP0 : va_P D vwCl (cs1 ct a o ok ov) s.heap) (hf : p_X1_readRivers fu o ok ov = some r) (hD0 : va_D (GE G) (cs1 ct a o ok ov))  (hl : lv_has ls 1 [(0, .ref (a 0))]) : W p l e rm_X1_readRivers s m args below meth c s.heap [] 0 0 (MQ below (Qwr none (fun H => va_P D vwCl (cs1 ct a r.1 r.2.1 r.2.2) H) (wA (cs1 ct a o ok ov))) args s 0 0 (wA (cs1 ct a o ok ov))) (F0 m 0 ls []) := by
  generalize hQQ : MQ below (Qwr none (fun H => va_P D vwCl (cs1 ct a r.1 r.2.1 r.2.2) H) (wA (cs1 ct a o ok ov))) args s 0 0 (wA (cs1 ct a o ok ov)) = QQ
  have hDx : ∀ (oy : Ob) (oky : Ob) (ovy : Ob), va_D (GE G) (cs1 ct a oy oky ovy) := fun oy oky ovy => D_cr hD0 rfl
  have hDW : ∀ (oy : Ob) (oky : Ob) (ovy : Ob), va_D (wA (cs1 ct a o ok ov)) (cs1 ct a oy oky ovy) := fun oy oky ovy => D_cr (D_self hD0) rfl
  have hGE : ∀ q, wA (cs1 ct a o ok ov) q → GE G q := wA_GE hD0
  have hP := hP0
  have hS : va_S (wA (cs1 ct a o ok ov)) s.heap s.heap [] := va_S.rf
  rw [p_X1_readRivers] at hf
  refine lv_aload_n hx hb dX1_readRivers_0 rfl (lv_at hl 0 rfl) ?_
  refine va_get (D := D) (ci := 1) (v := .ref (a 5)) (C := RX1) (T := TX1) (N := 6) hx hb htl inlX1 hown hK hP 0 rfl rfl 1 (by decide) (htl _ wq_3_17) (fun _ h9 => h9) rfl dX1_readRivers_1 ?_
  refine lv_iconst (v := 1) hx hb dX1_readRivers_4 (by decide) ?_
  refine va_putN (D := D) (ci := 2) (v := .int 1) (ty := .boolean) (C := RX2) (T := TX2) (N := 20) hx hb htl inlX2 tyX2 tyX2_ok nmX2 hown hK hP (hDW o ok ov) hS 5 rfl rfl 0 (by decide) (va_Nw.use rfl (hN _ nm_39)) (fun _ h9 => h9) rfl (tyX2_ok 0 (by decide)) rfl rfl (Nat.le_of_ble_eq_true rfl) dX1_readRivers_5 (fun H_5 locs_5 hP _ hS => ?_)
  have hP : va_P D vwCl (cs1 ct a o ok (oI ov 0 (1 : Int32))) H_5 := st1rv_0 hP
  refine lv_aload_n hx hb dX1_readRivers_8 rfl (lv_at hl 0 rfl) ?_
  refine lv_iconst (v := 4) hx hb dX1_readRivers_9 (by decide) ?_
  obtain ⟨r_10, e_10, hf⟩ := ob_bind hf
  have hPX_10 : va_P D vwCl (cs1 ct a o ok (oI ov 0 (1 : Int32))) H_5 := hP
  refine wr_call0 (va_runV (As := [.int 4]) (rest := []) ⟨hx, hb, hml, hown, htl⟩ (c_X1_take l D ct G a fu o ok (oI ov 0 (1 : Int32)) (4 : Int32) e_10 (hDx o ok (oI ov 0 (1 : Int32)))) (cw_X1_X1_take htl ⟨Nat.le_of_ble_eq_true rfl, Nat.le_of_ble_eq_true rfl⟩) ⟨Bx_blind, va_recv hK hPX_10 (ci := 1) (q0 := 0) rfl rfl, Bx_pre hPX_10 hK hN (hX.stay hS hGE)⟩ rfl rfl hl.1 rfl (lv_room (Nat.le_of_ble_eq_true rfl)) dX1_readRivers_10 ⟨Nat.zero_le _, Nat.zero_le _⟩) hS (wA_cg rfl) (fun H_10 locs_10 hB_10 _ hk_10 hS => ?_)
  have hP : va_P D vwCl (cs1 ct a r_10.1 r_10.2.1 r_10.2.2) H_10 := hB_10
  refine lv_aload_n hx hb dX1_readRivers_13 rfl (lv_at hl 0 rfl) ?_
  refine va_get (D := D) (ci := 1) (v := .ref (a 5)) (C := RX1) (T := TX1) (N := 6) hx hb htl inlX1 hown hK hP 0 rfl rfl 1 (by decide) (htl _ wq_3_17) (fun _ h9 => h9) rfl dX1_readRivers_14 ?_
  refine lv_aload_n hx hb dX1_readRivers_17 rfl (lv_at hl 0 rfl) ?_
  refine lv_iconst (v := 5) hx hb dX1_readRivers_18 (by decide) ?_
  refine lv_iconst (v := 0) hx hb dX1_readRivers_19 (by decide) ?_
  refine lv_bipush (v := 60) hx hb dX1_readRivers_20 (by decide) ?_
  obtain ⟨r_22, e_22, hf⟩ := ob_bind hf
  have hPX_22 : va_P D vwCl (cs1 ct a r_10.1 r_10.2.1 r_10.2.2) H_10 := hP
  refine wr_call1 (va_runV (As := [.int 5, .int 0, .int 60]) (rest := [.ref (a 5)]) ⟨hx, hb, hml, hown, htl⟩ (c_X1_takeNumber l D ct G a fu r_10.1 r_10.2.1 r_10.2.2 (5 : Int32) (0 : Int32) (60 : Int32) e_22 (hDx r_10.1 r_10.2.1 r_10.2.2)) (cw_X1_X1_takeNumber htl ⟨Nat.le_of_ble_eq_true rfl, Nat.le_of_ble_eq_true rfl⟩) ⟨Bx_blind, va_recv hK hPX_22 (ci := 1) (q0 := 0) rfl rfl, Bx_pre hPX_22 hK hN (hX.stay hS hGE)⟩ rfl rfl hl.1 rfl (lv_room (Nat.le_of_ble_eq_true rfl)) dX1_readRivers_22 ⟨Nat.zero_le _, Nat.zero_le _⟩) hS (wA_cg rfl) (fun H_22 locs_22 hB_22 _ hk_22 hS => ?_)
  have hP : va_P D vwCl (cs1 ct a r_22.2.1 r_22.2.2.1 r_22.2.2.2) H_22 := hB_22
  refine va_putN (D := D) (ci := 2) (v := .int r_22.1) (ty := .int) (C := RX2) (T := TX2) (N := 20) hx hb htl inlX2 tyX2 tyX2_ok nmX2 hown hK hP (hDW r_22.2.1 r_22.2.2.1 r_22.2.2.2) hS 5 rfl rfl 1 (by decide) (va_Nw.use rfl (hN _ nm_40)) (fun _ h9 => h9) rfl (tyX2_ok 1 (by decide)) rfl rfl (Nat.le_of_ble_eq_true rfl) dX1_readRivers_25 (fun H_25 locs_25 hP _ hS => ?_)
  have hP : va_P D vwCl (cs1 ct a r_22.2.1 r_22.2.2.1 (oI r_22.2.2.2 1 r_22.1)) H_25 := st1rv_1 hP
  refine lv_aload_n hx hb dX1_readRivers_28 rfl (lv_at hl 0 rfl) ?_
  refine va_get (D := D) (ci := 1) (v := .ref (a 5)) (C := RX1) (T := TX1) (N := 6) hx hb htl inlX1 hown hK hP 0 rfl rfl 1 (by decide) (htl _ wq_3_17) (fun _ h9 => h9) rfl dX1_readRivers_29 ?_
  refine lv_aload_n hx hb dX1_readRivers_32 rfl (lv_at hl 0 rfl) ?_
  refine lv_bipush (v := 6) hx hb dX1_readRivers_33 (by decide) ?_
  refine lv_iconst (v := 0) hx hb dX1_readRivers_35 (by decide) ?_
  refine lv_bipush (v := 10) hx hb dX1_readRivers_36 (by decide) ?_
  obtain ⟨r_38, e_38, hf⟩ := ob_bind hf
  have hPX_38 : va_P D vwCl (cs1 ct a r_22.2.1 r_22.2.2.1 (oI r_22.2.2.2 1 r_22.1)) H_25 := hP
  refine wr_call1 (va_runV (As := [.int 6, .int 0, .int 10]) (rest := [.ref (a 5)]) ⟨hx, hb, hml, hown, htl⟩ (c_X1_takeNumber l D ct G a fu r_22.2.1 r_22.2.2.1 (oI r_22.2.2.2 1 r_22.1) (6 : Int32) (0 : Int32) (10 : Int32) e_38 (hDx r_22.2.1 r_22.2.2.1 (oI r_22.2.2.2 1 r_22.1))) (cw_X1_X1_takeNumber htl ⟨Nat.le_of_ble_eq_true rfl, Nat.le_of_ble_eq_true rfl⟩) ⟨Bx_blind, va_recv hK hPX_38 (ci := 1) (q0 := 0) rfl rfl, Bx_pre hPX_38 hK hN (hX.stay hS hGE)⟩ rfl rfl hl.1 rfl (lv_room (Nat.le_of_ble_eq_true rfl)) dX1_readRivers_38 ⟨Nat.zero_le _, Nat.zero_le _⟩) hS (wA_cg rfl) (fun H_38 locs_38 hB_38 _ hk_38 hS => ?_)
  have hP : va_P D vwCl (cs1 ct a r_38.2.1 r_38.2.2.1 r_38.2.2.2) H_38 := hB_38
  refine va_putN (D := D) (ci := 2) (v := .int r_38.1) (ty := .int) (C := RX2) (T := TX2) (N := 20) hx hb htl inlX2 tyX2 tyX2_ok nmX2 hown hK hP (hDW r_38.2.1 r_38.2.2.1 r_38.2.2.2) hS 5 rfl rfl 2 (by decide) (va_Nw.use rfl (hN _ nm_41)) (fun _ h9 => h9) rfl (tyX2_ok 2 (by decide)) rfl rfl (Nat.le_of_ble_eq_true rfl) dX1_readRivers_41 (fun H_41 locs_41 hP _ hS => ?_)
  have hP : va_P D vwCl (cs1 ct a r_38.2.1 r_38.2.2.1 (oI r_38.2.2.2 2 r_38.1)) H_41 := st1rv_2 hP
  refine lv_aload_n hx hb dX1_readRivers_44 rfl (lv_at hl 0 rfl) ?_
  refine va_get (D := D) (ci := 1) (v := .ref (a 5)) (C := RX1) (T := TX1) (N := 6) hx hb htl inlX1 hown hK hP 0 rfl rfl 1 (by decide) (htl _ wq_3_17) (fun _ h9 => h9) rfl dX1_readRivers_45 ?_
  refine lv_aload_n hx hb dX1_readRivers_48 rfl (lv_at hl 0 rfl) ?_
  refine lv_bipush (v := 7) hx hb dX1_readRivers_49 (by decide) ?_
  refine lv_iconst (v := 1) hx hb dX1_readRivers_51 (by decide) ?_
  refine lv_bipush (v := 9) hx hb dX1_readRivers_52 (by decide) ?_
  obtain ⟨r_54, e_54, hf⟩ := ob_bind hf
  have hPX_54 : va_P D vwCl (cs1 ct a r_38.2.1 r_38.2.2.1 (oI r_38.2.2.2 2 r_38.1)) H_41 := hP
  refine wr_call1 (va_runV (As := [.int 7, .int 1, .int 9]) (rest := [.ref (a 5)]) ⟨hx, hb, hml, hown, htl⟩ (c_X1_takeNumber l D ct G a fu r_38.2.1 r_38.2.2.1 (oI r_38.2.2.2 2 r_38.1) (7 : Int32) (1 : Int32) (9 : Int32) e_54 (hDx r_38.2.1 r_38.2.2.1 (oI r_38.2.2.2 2 r_38.1))) (cw_X1_X1_takeNumber htl ⟨Nat.le_of_ble_eq_true rfl, Nat.le_of_ble_eq_true rfl⟩) ⟨Bx_blind, va_recv hK hPX_54 (ci := 1) (q0 := 0) rfl rfl, Bx_pre hPX_54 hK hN (hX.stay hS hGE)⟩ rfl rfl hl.1 rfl (lv_room (Nat.le_of_ble_eq_true rfl)) dX1_readRivers_54 ⟨Nat.zero_le _, Nat.zero_le _⟩) hS (wA_cg rfl) (fun H_54 locs_54 hB_54 _ hk_54 hS => ?_)
  have hP : va_P D vwCl (cs1 ct a r_54.2.1 r_54.2.2.1 r_54.2.2.2) H_54 := hB_54
  refine va_putN (D := D) (ci := 2) (v := .int r_54.1) (ty := .int) (C := RX2) (T := TX2) (N := 20) hx hb htl inlX2 tyX2 tyX2_ok nmX2 hown hK hP (hDW r_54.2.1 r_54.2.2.1 r_54.2.2.2) hS 5 rfl rfl 3 (by decide) (va_Nw.use rfl (hN _ nm_42)) (fun _ h9 => h9) rfl (tyX2_ok 3 (by decide)) rfl rfl (Nat.le_of_ble_eq_true rfl) dX1_readRivers_57 (fun H_57 locs_57 hP _ hS => ?_)
  have hP : va_P D vwCl (cs1 ct a r_54.2.1 r_54.2.2.1 (oI r_54.2.2.2 3 r_54.1)) H_57 := st1rv_3 hP
  rw [← hQQ]
  cases hf
  exact rw_v hx hb hr hlocks hP hS dX1_readRivers_60
theorem c_X1_readRivers (l : Launch) (D : va_G) (ct : Nat → ClassId) (G : GT) (a : Nat → Nat) (fu : Nat) (o : Ob) (ok : Ob) (ov : Ob) {r : Ob × Ob × Ob} (hf : p_X1_readRivers fu o ok ov = some r)  (hD0 : va_D (GE G) (cs1 ct a o ok ov)) : Met l yX1_readRivers (.code yX1_readRivers cX1_readRivers 1 none :: wsL_law) rm_X1_readRivers (va_Pc [.ref (a 0)] (Bx D ct G (cs1 ct a o ok ov))) (Qwr none (fun H => va_P D vwCl (cs1 ct a r.1 r.2.1 r.2.2) H) (wA (cs1 ct a o ok ov))) 0 0 (wA (cs1 ct a o ok ov)) := by
  refine Met.ofW (cc := cX1_readRivers) (maxL := 1) (ret := none) (by decide) rfl ?_
  intro p e s m args below meth c s₁ B hml hv
  obtain ⟨rfl, hP, hK, hN, hX⟩ := hv
  have hts := atoms_spec (ws := .code yX1_readRivers cX1_readRivers 1 none :: wsL_law) B.pre
  rw [lg_entry_eq]
  exact b_X1_readRivers a fu o ok ov B.exec B.bytes B.returns hml (findClass_of_methodNamed B.named) (fun w h => hts w (List.mem_cons_of_mem _ h)) B.notSynchronized hK hN hX hP hf hD0  (lv_entry [.ref (a 0)] (n := 1) (Nat.le_of_ble_eq_true rfl))
theorem hd_J0_length_8abf5 : yJ0_length_8abf5.cls ≠ "java/lang/invoke/MethodHandle" ∧ yJ0_length_8abf5.cls ≠ "java/lang/invoke/VarHandle" ∧ (parseMethodDescriptor yJ0_length_8abf5.desc).map (fun d => d.parameters.length) = some 0 := by decide +kernel
theorem cw_X6_J0_length_8abf5 {R : Room} {s : State} {args : Array Value} (ht : ∀ w ∈ wsL_law, w.before args s = true) (hR : rm_J0_length_8abf5.frames + 1 ≤ R.frames ∧ 8 + (1 + 11) + rm_J0_length_8abf5.locals ≤ R.locals) : CallW R s args RX6 RJ0 23 yJ0_length_8abf5 cJ0_length_8abf5 1 (some .int) ((.code yJ0_length_8abf5 cJ0_length_8abf5 1 (some .int)) :: wsL_law) rm_J0_length_8abf5 0 0 0 := cwV 0 ht (GV wq_10_9 wq_10_10 wq_10_11 wq_10_12 wq_10_13) rfl rfl rfl ⟨rfl, hd_J0_length_8abf5⟩ hR
theorem cw_X6_X6_byteAt {R : Room} {s : State} {args : Array Value} (ht : ∀ w ∈ wsL_law, w.before args s = true) (hR : rm_X6_byteAt.frames + 1 ≤ R.frames ∧ 8 + (2 + 11) + rm_X6_byteAt.locals ≤ R.locals) : CallW R s args RX6 RX6 29 yX6_byteAt cX6_byteAt 2 (some .int) ((.code yX6_byteAt cX6_byteAt 2 (some .int)) :: wsL_law) rm_X6_byteAt 0 0 1 := cwV 1 ht (GV wq_10_21 wq_9_14 wq_9_15 wq_1_15 wq_9_16) rfl rfl rfl ⟨rfl, hd_X6_byteAt⟩ hR
theorem hd_J0_charAt_5068e : yJ0_charAt_5068e.cls ≠ "java/lang/invoke/MethodHandle" ∧ yJ0_charAt_5068e.cls ≠ "java/lang/invoke/VarHandle" ∧ (parseMethodDescriptor yJ0_charAt_5068e.desc).map (fun d => d.parameters.length) = some 1 := by decide +kernel
theorem cw_X6_J0_charAt_5068e {R : Room} {s : State} {args : Array Value} (ht : ∀ w ∈ wsL_law, w.before args s = true) (hR : rm_J0_charAt_5068e.frames + 1 ≤ R.frames ∧ 8 + (2 + 11) + rm_J0_charAt_5068e.locals ≤ R.locals) : CallW R s args RX6 RJ0 33 yJ0_charAt_5068e cJ0_charAt_5068e 2 (some .char) ((.code yJ0_charAt_5068e cJ0_charAt_5068e 2 (some .char)) :: wsL_law) rm_J0_charAt_5068e 0 0 1 := cwV 1 ht (GV wq_10_22 wq_10_23 wq_11_0 wq_10_12 wq_11_1) rfl rfl rfl ⟨rfl, hd_J0_charAt_5068e⟩ hR
def p_X6_says_L2 (fu : Nat) (o : Ob) (w1 : Nat)  : Nat → Int32 → Int32 → Option (Int32)
  | 0, _, _ => none
  | n + 1, v2, v3 =>
    (p_J0_length w1).bind fun r_4 => if r_4 ≤ v3 then some (1 : Int32) else (p_X6_byteAt fu o (v2 + v3)).bind fun r_14 => (p_J0_charAt w1 v3).bind fun r_19 => if r_14 = r_19 then p_X6_says_L2 fu o w1  n v2 (v3 + 1) else some (0 : Int32)
def p_X6_says (fu : Nat) (o : Ob) (w1 : Nat) (v2 : Int32) : Option (Int32) :=
  p_X6_says_L2 fu o w1 fu v2 0
abbrev rm_X6_says : Room := { frames := 4, cells := 0, slots := 0, locals := 85 }
set_option maxHeartbeats 4000000 in
set_option maxRecDepth 100000 in
theorem b_X6_says {p : Program} {l : Launch} {e : Env} {s : State} {m : MethodId} {args : Array Value} {below : List Frame} {meth : Method} {c : Code} {ls : Array Slot} {D : va_G} {ct : Nat → ClassId} {G : GT} (a : Nat → Nat) (fu : Nat) (o : Ob) (w1 : Nat) (v2 : Int32) {r : Int32} (hx : p.tables.exec = Jvm.exec) (hb : c.code = cX6_says) (hr : meth.sig.returnType = (some .boolean)) (hml : c.maxLocals = 4) (hown : s.vm.findClass RX6 = some m.cls) (htl : ∀ w ∈ wsL_law, w.before args s = true) (hlocks : meth.locks = false) (hK : va_K D vwCl (tyl ct) s) (hN : ∀ w ∈ NW, va_Nw w s) (hX : SX G s s.heap) (hP0 : va_P D vwCl (cs6 ct a o) s.heap) (hf : p_X6_says fu o w1 v2 = some r) (hw1 : w1 < 13) (hl : lv_has ls 4 [(0, .ref (a 0)), (1, .ref (G.2.1 w1)), (2, .int v2)]) : W p l e rm_X6_says s m args below meth c s.heap [] 0 0 (MQ below (Qro (some (.int r))) args s 0 0 (fun _ => False)) (F0 m 0 ls []) := by
  generalize hQQ : MQ below (Qro (some (.int r))) args s 0 0 (fun _ => False) = QQ
  have hP := hP0
  have hL2 : ∀ (n : Nat) (v2 : Int32) (v3 : Int32), ∀ (ls : Array Slot), lv_has ls 4 [(0, .ref (a 0)), (1, .ref (G.2.1 w1)), (2, .int v2), (3, .int v3)] → p_X6_says_L2 fu o w1  n v2 v3 = some r → W p l e rm_X6_says s m args below meth c s.heap [] 0 0 QQ (F0 m 2 ls []) := by
    intro  n
    induction n with
    | zero =>
      intro v2 v3 ls hl hf 
      rw [p_X6_says_L2] at hf
      cases hf
    | succ n ih =>
      intro v2 v3 ls hl hf 
      rw [p_X6_says_L2] at hf
      refine lv_iload_n hx hb dX6_says_2 rfl (lv_at hl 3 rfl) ?_
      refine lv_aload_n hx hb dX6_says_3 rfl (lv_at hl 1 rfl) ?_
      obtain ⟨r_4, e_4, hf⟩ := ob_bind hf
      have hPX_4 : va_P D vwCl ([]) s.heap := P_nil
      refine ro_call1 (va_runV (As := []) (rest := [.int v3]) ⟨hx, hb, hml, hown, htl⟩ (c_J0_length_8abf5 l D ct G w1 e_4 hw1) (cw_X6_J0_length_8abf5 htl ⟨Nat.le_of_ble_eq_true rfl, Nat.le_of_ble_eq_true rfl⟩) ⟨Bx_blind, vk_recv hX.1 hw1 va_S.rf, Bx_pre hPX_4 hK hN hX⟩ rfl rfl hl.1 rfl (lv_room (Nat.le_of_ble_eq_true rfl)) dX6_says_4 ⟨Nat.zero_le _, Nat.zero_le _⟩) ?_
      refine lv_icmp_ge (tgt := 33) hx hb dX6_says_7 (by decide) (fun c_7 => ?_) (fun c_7 => ?_)
      · rw [if_pos c_7] at hf
        refine lv_iconst (v := 1) hx hb dX6_says_33 (by decide) ?_
        rw [← hQQ]
        exact rf_z hx hb hr hlocks rfl hf dX6_says_34
      rw [if_neg c_7] at hf
      refine lv_aload_n hx hb dX6_says_10 rfl (lv_at hl 0 rfl) ?_
      refine lv_iload_n hx hb dX6_says_11 rfl (lv_at hl 2 rfl) ?_
      refine lv_iload_n hx hb dX6_says_12 rfl (lv_at hl 3 rfl) ?_
      refine lv_iadd hx hb dX6_says_13 ?_
      obtain ⟨r_14, e_14, hf⟩ := ob_bind hf
      have hPX_14 : va_P D vwCl (cs6 ct a o) s.heap := hP
      refine ro_call1 (va_runV (As := [.int (v2 + v3)]) (rest := []) ⟨hx, hb, hml, hown, htl⟩ (c_X6_byteAt l D ct G a fu o (v2 + v3) e_14) (cw_X6_X6_byteAt htl ⟨Nat.le_of_ble_eq_true rfl, Nat.le_of_ble_eq_true rfl⟩) ⟨Bx_blind, va_recv hK hPX_14 (ci := 6) (q0 := 0) rfl rfl, Bx_pre hPX_14 hK hN hX⟩ rfl rfl hl.1 rfl (lv_room (Nat.le_of_ble_eq_true rfl)) dX6_says_14 ⟨Nat.zero_le _, Nat.zero_le _⟩) ?_
      refine lv_aload_n hx hb dX6_says_17 rfl (lv_at hl 1 rfl) ?_
      refine lv_iload_n hx hb dX6_says_18 rfl (lv_at hl 3 rfl) ?_
      obtain ⟨r_19, e_19, hf⟩ := ob_bind hf
      have hPX_19 : va_P D vwCl ([]) s.heap := P_nil
      refine ro_call1 (va_runV (As := [.int v3]) (rest := [.int r_14]) ⟨hx, hb, hml, hown, htl⟩ (c_J0_charAt_5068e l D ct G w1 v3 e_19 hw1) (cw_X6_J0_charAt_5068e htl ⟨Nat.le_of_ble_eq_true rfl, Nat.le_of_ble_eq_true rfl⟩) ⟨Bx_blind, vk_recv hX.1 hw1 va_S.rf, Bx_pre hPX_19 hK hN hX⟩ rfl rfl hl.1 rfl (lv_room (Nat.le_of_ble_eq_true rfl)) dX6_says_19 ⟨Nat.zero_le _, Nat.zero_le _⟩) ?_
      refine lv_icmp_eq (tgt := 27) hx hb dX6_says_22 (by decide) (fun c_22 => ?_) (fun c_22 => ?_)
      · rw [if_pos c_22] at hf
        refine lv_iinc (v := (v3 + 1)) (lv' := [(3, .int (v3 + 1)), (0, .ref (a 0)), (1, .ref (G.2.1 w1)), (2, .int v2)]) hx hb dX6_says_27 hl (k := 3) rfl rfl (by decide) rfl (fun ls hl => ?_)
        refine lv_goto (tgt := 2) hx hb dX6_says_30 (by decide) ?_
        exact ih v2 (v3 + 1) _ (lv_sub hl [1, 2, 3, 0] rfl) hf 
      rw [if_neg c_22] at hf
      refine lv_iconst (v := 0) hx hb dX6_says_25 (by decide) ?_
      rw [← hQQ]
      exact rf_z hx hb hr hlocks rfl hf dX6_says_26
  rw [p_X6_says] at hf
  refine lv_iconst (v := 0) hx hb dX6_says_0 (by decide) ?_
  refine lv_istore_n (lv' := [(3, .int 0), (0, .ref (a 0)), (1, .ref (G.2.1 w1)), (2, .int v2)]) hx hb dX6_says_1 rfl hl (by decide) rfl (fun ls hl => ?_)
  exact hL2 fu v2 0 _ (lv_sub hl [1, 2, 3, 0] rfl) hf 
theorem c_X6_says (l : Launch) (D : va_G) (ct : Nat → ClassId) (G : GT) (a : Nat → Nat) (fu : Nat) (o : Ob) (w1 : Nat) (v2 : Int32) {r : Int32} (hf : p_X6_says fu o w1 v2 = some r) (hw1 : w1 < 13) : Met l yX6_says (.code yX6_says cX6_says 4 (some .boolean) :: wsL_law) rm_X6_says (va_Pc [.ref (a 0), .ref (G.2.1 w1), .int v2] (Bx D ct G (cs6 ct a o))) (Qro (some (.int r))) 0 0 (fun _ => False) := by
  refine Met.ofW (cc := cX6_says) (maxL := 4) (ret := (some .boolean)) (by decide) rfl ?_
  intro p e s m args below meth c s₁ B hml hv
  obtain ⟨rfl, hP, hK, hN, hX⟩ := hv
  have hts := atoms_spec (ws := .code yX6_says cX6_says 4 (some .boolean) :: wsL_law) B.pre
  rw [lg_entry_eq]
  exact b_X6_says a fu o w1 v2 B.exec B.bytes B.returns hml (findClass_of_methodNamed B.named) (fun w h => hts w (List.mem_cons_of_mem _ h)) B.notSynchronized hK hN hX hP hf  hw1 (lv_entry [.ref (a 0), .ref (G.2.1 w1), .int v2] (n := 4) (Nat.le_of_ble_eq_true rfl))
theorem hd_X6_says : yX6_says.cls ≠ "java/lang/invoke/MethodHandle" ∧ yX6_says.cls ≠ "java/lang/invoke/VarHandle" ∧ (parseMethodDescriptor yX6_says.desc).map (fun d => d.parameters.length) = some 2 := by decide +kernel
theorem cw_X7_X6_says {R : Room} {s : State} {args : Array Value} (ht : ∀ w ∈ wsL_law, w.before args s = true) (hN : ∀ w ∈ NW, va_Nw w s) (hR : rm_X6_says.frames + 1 ≤ R.frames ∧ 8 + (4 + 11) + rm_X6_says.locals ≤ R.locals) : va_CN R s args RX7 69 yX6_says "QuotedRiver" cX6_says 4 (some .boolean) ((.code yX6_says cX6_says 4 (some .boolean)) :: wsL_law) rm_X6_says 0 0 2 ∧ (Cond.instanceMethod yX6_says).before args s = true ∧ (Cond.selects RX6 yX6_says yX6_says).before args s = true := ⟨va_cnB 2 ht (GL wq_10_8) rfl rfl rfl (hN _ nm_135) (ht _ wq_1_15) hd_X6_says hR, ht _ wq_10_6, ht _ wq_10_7⟩
def p_X7_wordKind (fu : Nat) (o0 : Ob) (v1 : Int32) (v2 : Int32) : Option (Int32) :=
  if v2 = 2 then (p_X6_says fu o0 0 v1).bind fun r_40 => if r_40 = 0 then (p_X6_says fu o0 1 v1).bind fun r_55 => if r_55 = 0 then some (3 : Int32) else some (15 : Int32) else some (9 : Int32) else if v2 = 3 then (p_X6_says fu o0 2 v1).bind fun r_72 => if r_72 = 0 then (p_X6_says fu o0 3 v1).bind fun r_87 => if r_87 = 0 then some (3 : Int32) else some (12 : Int32) else some (10 : Int32) else if v2 = 4 then (p_X6_says fu o0 4 v1).bind fun r_104 => if r_104 = 0 then (p_X6_says fu o0 5 v1).bind fun r_119 => if r_119 = 0 then (p_X6_says fu o0 6 v1).bind fun r_134 => if r_134 = 0 then (p_X6_says fu o0 7 v1).bind fun r_149 => if r_149 = 0 then some (3 : Int32) else some (6 : Int32) else some (16 : Int32) else some (14 : Int32) else some (13 : Int32) else if v2 = 5 then (p_X6_says fu o0 8 v1).bind fun r_166 => if r_166 = 0 then (p_X6_says fu o0 9 v1).bind fun r_181 => if r_181 = 0 then (p_X6_says fu o0 10 v1).bind fun r_196 => if r_196 = 0 then (p_X6_says fu o0 11 v1).bind fun r_210 => if r_210 = 0 then some (3 : Int32) else some (7 : Int32) else some (5 : Int32) else some (11 : Int32) else some (8 : Int32) else if v2 = 6 then (p_X6_says fu o0 12 v1).bind fun r_227 => if r_227 = 0 then some (3 : Int32) else some (4 : Int32) else some (3 : Int32)
abbrev rm_X7_wordKind : Room := { frames := 5, cells := 0, slots := 0, locals := 108 }
set_option maxHeartbeats 4000000 in
set_option maxRecDepth 100000 in
theorem b_X7_wordKind {p : Program} {l : Launch} {e : Env} {s : State} {m : MethodId} {args : Array Value} {below : List Frame} {meth : Method} {c : Code} {ls : Array Slot} {D : va_G} {ct : Nat → ClassId} {G : GT} (a : Nat → Nat) (fu : Nat) (o0 : Ob) (v1 : Int32) (v2 : Int32) {r : Int32} (hx : p.tables.exec = Jvm.exec) (hb : c.code = cX7_wordKind) (hr : meth.sig.returnType = (some .int)) (hml : c.maxLocals = 3) (hown : s.vm.findClass RX7 = some m.cls) (htl : ∀ w ∈ wsL_law, w.before args s = true) (hlocks : meth.locks = false) (hK : va_K D vwCl (tyl ct) s) (hN : ∀ w ∈ NW, va_Nw w s) (hX : SX G s s.heap) (hP0 : va_P D vwCl (cs6 ct a o0) s.heap) (hf : p_X7_wordKind fu o0 v1 v2 = some r)  (hl : lv_has ls 3 [(0, .ref (a 0)), (1, .int v1), (2, .int v2)]) : W p l e rm_X7_wordKind s m args below meth c s.heap [] 0 0 (MQ below (Qro (some (.int r))) args s 0 0 (fun _ => False)) (F0 m 0 ls []) := by
  generalize hQQ : MQ below (Qro (some (.int r))) args s 0 0 (fun _ => False) = QQ
  have hP := hP0
  rw [p_X7_wordKind] at hf
  refine lv_iload_n hx hb dX7_wordKind_0 rfl (lv_at hl 2 rfl) ?_
  by_cases c_1_2 : v2 = 2
  · rw [if_pos c_1_2] at hf
    refine lv_tableIn (tgt := 36) hx hb dX7_wordKind_1 (by rw [c_1_2]; decide) (by rw [c_1_2]; decide) (by rw [c_1_2]; rfl) (by decide) ?_
    refine lv_aload_n hx hb dX7_wordKind_36 rfl (lv_at hl 0 rfl) ?_
    refine va_ldcS (index := 67) (tx := "to") (q := G.2.1 0) hx hb hown (hX.2.1 ("QuotedRiver$Tokens", 67, "to", 0) (List.mem_of_getElem? (i := 0) rfl)) dX7_wordKind_37 ?_
    refine lv_iload_n hx hb dX7_wordKind_39 rfl (lv_at hl 1 rfl) ?_
    obtain ⟨r_40, e_40, hf⟩ := ob_bind hf
    have hPX_40 : va_P D vwCl (cs6 ct a o0) s.heap := (hP.sub (ws' := cs6 ct a o0) [0, 1] rfl)
    refine ro_call1 (va_runVN (As := [.ref (G.2.1 0), .int v1]) (rest := []) ⟨hx, hb, hml, hown, htl⟩ (c_X6_says l D ct G a fu o0 0 v1 e_40 (by decide)) (cw_X7_X6_says htl hN ⟨Nat.le_of_ble_eq_true rfl, Nat.le_of_ble_eq_true rfl⟩) ⟨Bx_blind, va_recv hK hPX_40 (ci := 6) (q0 := 0) rfl rfl, Bx_pre hPX_40 hK hN hX⟩ rfl rfl hl.1 rfl (lv_room (Nat.le_of_ble_eq_true rfl)) dX7_wordKind_40 ⟨Nat.zero_le _, Nat.zero_le _⟩) ?_
    refine lv_if_eq (tgt := 51) hx hb dX7_wordKind_43 (by decide) (fun c_43 => ?_) (fun c_43 => ?_)
    rotate_left 1
    · rw [if_neg c_43] at hf
      refine lv_bipush (v := 9) hx hb dX7_wordKind_46 (by decide) ?_
      refine lv_goto (tgt := 67) hx hb dX7_wordKind_48 (by decide) ?_
      rw [← hQQ]
      exact rf_i hx hb hr hlocks hf dX7_wordKind_67
    rw [if_pos c_43] at hf
    refine lv_aload_n hx hb dX7_wordKind_51 rfl (lv_at hl 0 rfl) ?_
    refine va_ldcS (index := 73) (tx := "at") (q := G.2.1 1) hx hb hown (hX.2.1 ("QuotedRiver$Tokens", 73, "at", 1) (List.mem_of_getElem? (i := 1) rfl)) dX7_wordKind_52 ?_
    refine lv_iload_n hx hb dX7_wordKind_54 rfl (lv_at hl 1 rfl) ?_
    obtain ⟨r_55, e_55, hf⟩ := ob_bind hf
    have hPX_55 : va_P D vwCl (cs6 ct a o0) s.heap := (hP.sub (ws' := cs6 ct a o0) [0, 1] rfl)
    refine ro_call1 (va_runVN (As := [.ref (G.2.1 1), .int v1]) (rest := []) ⟨hx, hb, hml, hown, htl⟩ (c_X6_says l D ct G a fu o0 1 v1 e_55 (by decide)) (cw_X7_X6_says htl hN ⟨Nat.le_of_ble_eq_true rfl, Nat.le_of_ble_eq_true rfl⟩) ⟨Bx_blind, va_recv hK hPX_55 (ci := 6) (q0 := 0) rfl rfl, Bx_pre hPX_55 hK hN hX⟩ rfl rfl hl.1 rfl (lv_room (Nat.le_of_ble_eq_true rfl)) dX7_wordKind_55 ⟨Nat.zero_le _, Nat.zero_le _⟩) ?_
    refine lv_if_eq (tgt := 66) hx hb dX7_wordKind_58 (by decide) (fun c_58 => ?_) (fun c_58 => ?_)
    · rw [if_pos c_58] at hf
      refine lv_iconst (v := 3) hx hb dX7_wordKind_66 (by decide) ?_
      rw [← hQQ]
      exact rf_i hx hb hr hlocks hf dX7_wordKind_67
    rw [if_neg c_58] at hf
    refine lv_bipush (v := 15) hx hb dX7_wordKind_61 (by decide) ?_
    refine lv_goto (tgt := 67) hx hb dX7_wordKind_63 (by decide) ?_
    rw [← hQQ]
    exact rf_i hx hb hr hlocks hf dX7_wordKind_67
  rw [if_neg c_1_2] at hf
  by_cases c_1_3 : v2 = 3
  · rw [if_pos c_1_3] at hf
    refine lv_tableIn (tgt := 68) hx hb dX7_wordKind_1 (by rw [c_1_3]; decide) (by rw [c_1_3]; decide) (by rw [c_1_3]; rfl) (by decide) ?_
    refine lv_aload_n hx hb dX7_wordKind_68 rfl (lv_at hl 0 rfl) ?_
    refine va_ldcS (index := 75) (tx := "sea") (q := G.2.1 2) hx hb hown (hX.2.1 ("QuotedRiver$Tokens", 75, "sea", 2) (List.mem_of_getElem? (i := 2) rfl)) dX7_wordKind_69 ?_
    refine lv_iload_n hx hb dX7_wordKind_71 rfl (lv_at hl 1 rfl) ?_
    obtain ⟨r_72, e_72, hf⟩ := ob_bind hf
    have hPX_72 : va_P D vwCl (cs6 ct a o0) s.heap := (hP.sub (ws' := cs6 ct a o0) [0, 1] rfl)
    refine ro_call1 (va_runVN (As := [.ref (G.2.1 2), .int v1]) (rest := []) ⟨hx, hb, hml, hown, htl⟩ (c_X6_says l D ct G a fu o0 2 v1 e_72 (by decide)) (cw_X7_X6_says htl hN ⟨Nat.le_of_ble_eq_true rfl, Nat.le_of_ble_eq_true rfl⟩) ⟨Bx_blind, va_recv hK hPX_72 (ci := 6) (q0 := 0) rfl rfl, Bx_pre hPX_72 hK hN hX⟩ rfl rfl hl.1 rfl (lv_room (Nat.le_of_ble_eq_true rfl)) dX7_wordKind_72 ⟨Nat.zero_le _, Nat.zero_le _⟩) ?_
    refine lv_if_eq (tgt := 83) hx hb dX7_wordKind_75 (by decide) (fun c_75 => ?_) (fun c_75 => ?_)
    rotate_left 1
    · rw [if_neg c_75] at hf
      refine lv_bipush (v := 10) hx hb dX7_wordKind_78 (by decide) ?_
      refine lv_goto (tgt := 99) hx hb dX7_wordKind_80 (by decide) ?_
      rw [← hQQ]
      exact rf_i hx hb hr hlocks hf dX7_wordKind_99
    rw [if_pos c_75] at hf
    refine lv_aload_n hx hb dX7_wordKind_83 rfl (lv_at hl 0 rfl) ?_
    refine va_ldcS (index := 77) (tx := "low") (q := G.2.1 3) hx hb hown (hX.2.1 ("QuotedRiver$Tokens", 77, "low", 3) (List.mem_of_getElem? (i := 3) rfl)) dX7_wordKind_84 ?_
    refine lv_iload_n hx hb dX7_wordKind_86 rfl (lv_at hl 1 rfl) ?_
    obtain ⟨r_87, e_87, hf⟩ := ob_bind hf
    have hPX_87 : va_P D vwCl (cs6 ct a o0) s.heap := (hP.sub (ws' := cs6 ct a o0) [0, 1] rfl)
    refine ro_call1 (va_runVN (As := [.ref (G.2.1 3), .int v1]) (rest := []) ⟨hx, hb, hml, hown, htl⟩ (c_X6_says l D ct G a fu o0 3 v1 e_87 (by decide)) (cw_X7_X6_says htl hN ⟨Nat.le_of_ble_eq_true rfl, Nat.le_of_ble_eq_true rfl⟩) ⟨Bx_blind, va_recv hK hPX_87 (ci := 6) (q0 := 0) rfl rfl, Bx_pre hPX_87 hK hN hX⟩ rfl rfl hl.1 rfl (lv_room (Nat.le_of_ble_eq_true rfl)) dX7_wordKind_87 ⟨Nat.zero_le _, Nat.zero_le _⟩) ?_
    refine lv_if_eq (tgt := 98) hx hb dX7_wordKind_90 (by decide) (fun c_90 => ?_) (fun c_90 => ?_)
    · rw [if_pos c_90] at hf
      refine lv_iconst (v := 3) hx hb dX7_wordKind_98 (by decide) ?_
      rw [← hQQ]
      exact rf_i hx hb hr hlocks hf dX7_wordKind_99
    rw [if_neg c_90] at hf
    refine lv_bipush (v := 12) hx hb dX7_wordKind_93 (by decide) ?_
    refine lv_goto (tgt := 99) hx hb dX7_wordKind_95 (by decide) ?_
    rw [← hQQ]
    exact rf_i hx hb hr hlocks hf dX7_wordKind_99
  rw [if_neg c_1_3] at hf
  by_cases c_1_4 : v2 = 4
  · rw [if_pos c_1_4] at hf
    refine lv_tableIn (tgt := 100) hx hb dX7_wordKind_1 (by rw [c_1_4]; decide) (by rw [c_1_4]; decide) (by rw [c_1_4]; rfl) (by decide) ?_
    refine lv_aload_n hx hb dX7_wordKind_100 rfl (lv_at hl 0 rfl) ?_
    refine va_ldcS (index := 79) (tx := "join") (q := G.2.1 4) hx hb hown (hX.2.1 ("QuotedRiver$Tokens", 79, "join", 4) (List.mem_of_getElem? (i := 4) rfl)) dX7_wordKind_101 ?_
    refine lv_iload_n hx hb dX7_wordKind_103 rfl (lv_at hl 1 rfl) ?_
    obtain ⟨r_104, e_104, hf⟩ := ob_bind hf
    have hPX_104 : va_P D vwCl (cs6 ct a o0) s.heap := (hP.sub (ws' := cs6 ct a o0) [0, 1] rfl)
    refine ro_call1 (va_runVN (As := [.ref (G.2.1 4), .int v1]) (rest := []) ⟨hx, hb, hml, hown, htl⟩ (c_X6_says l D ct G a fu o0 4 v1 e_104 (by decide)) (cw_X7_X6_says htl hN ⟨Nat.le_of_ble_eq_true rfl, Nat.le_of_ble_eq_true rfl⟩) ⟨Bx_blind, va_recv hK hPX_104 (ci := 6) (q0 := 0) rfl rfl, Bx_pre hPX_104 hK hN hX⟩ rfl rfl hl.1 rfl (lv_room (Nat.le_of_ble_eq_true rfl)) dX7_wordKind_104 ⟨Nat.zero_le _, Nat.zero_le _⟩) ?_
    refine lv_if_eq (tgt := 115) hx hb dX7_wordKind_107 (by decide) (fun c_107 => ?_) (fun c_107 => ?_)
    rotate_left 1
    · rw [if_neg c_107] at hf
      refine lv_bipush (v := 13) hx hb dX7_wordKind_110 (by decide) ?_
      refine lv_goto (tgt := 161) hx hb dX7_wordKind_112 (by decide) ?_
      rw [← hQQ]
      exact rf_i hx hb hr hlocks hf dX7_wordKind_161
    rw [if_pos c_107] at hf
    refine lv_aload_n hx hb dX7_wordKind_115 rfl (lv_at hl 0 rfl) ?_
    refine va_ldcS (index := 81) (tx := "each") (q := G.2.1 5) hx hb hown (hX.2.1 ("QuotedRiver$Tokens", 81, "each", 5) (List.mem_of_getElem? (i := 5) rfl)) dX7_wordKind_116 ?_
    refine lv_iload_n hx hb dX7_wordKind_118 rfl (lv_at hl 1 rfl) ?_
    obtain ⟨r_119, e_119, hf⟩ := ob_bind hf
    have hPX_119 : va_P D vwCl (cs6 ct a o0) s.heap := (hP.sub (ws' := cs6 ct a o0) [0, 1] rfl)
    refine ro_call1 (va_runVN (As := [.ref (G.2.1 5), .int v1]) (rest := []) ⟨hx, hb, hml, hown, htl⟩ (c_X6_says l D ct G a fu o0 5 v1 e_119 (by decide)) (cw_X7_X6_says htl hN ⟨Nat.le_of_ble_eq_true rfl, Nat.le_of_ble_eq_true rfl⟩) ⟨Bx_blind, va_recv hK hPX_119 (ci := 6) (q0 := 0) rfl rfl, Bx_pre hPX_119 hK hN hX⟩ rfl rfl hl.1 rfl (lv_room (Nat.le_of_ble_eq_true rfl)) dX7_wordKind_119 ⟨Nat.zero_le _, Nat.zero_le _⟩) ?_
    refine lv_if_eq (tgt := 130) hx hb dX7_wordKind_122 (by decide) (fun c_122 => ?_) (fun c_122 => ?_)
    rotate_left 1
    · rw [if_neg c_122] at hf
      refine lv_bipush (v := 14) hx hb dX7_wordKind_125 (by decide) ?_
      refine lv_goto (tgt := 161) hx hb dX7_wordKind_127 (by decide) ?_
      rw [← hQQ]
      exact rf_i hx hb hr hlocks hf dX7_wordKind_161
    rw [if_pos c_122] at hf
    refine lv_aload_n hx hb dX7_wordKind_130 rfl (lv_at hl 0 rfl) ?_
    refine va_ldcS (index := 83) (tx := "rain") (q := G.2.1 6) hx hb hown (hX.2.1 ("QuotedRiver$Tokens", 83, "rain", 6) (List.mem_of_getElem? (i := 6) rfl)) dX7_wordKind_131 ?_
    refine lv_iload_n hx hb dX7_wordKind_133 rfl (lv_at hl 1 rfl) ?_
    obtain ⟨r_134, e_134, hf⟩ := ob_bind hf
    have hPX_134 : va_P D vwCl (cs6 ct a o0) s.heap := (hP.sub (ws' := cs6 ct a o0) [0, 1] rfl)
    refine ro_call1 (va_runVN (As := [.ref (G.2.1 6), .int v1]) (rest := []) ⟨hx, hb, hml, hown, htl⟩ (c_X6_says l D ct G a fu o0 6 v1 e_134 (by decide)) (cw_X7_X6_says htl hN ⟨Nat.le_of_ble_eq_true rfl, Nat.le_of_ble_eq_true rfl⟩) ⟨Bx_blind, va_recv hK hPX_134 (ci := 6) (q0 := 0) rfl rfl, Bx_pre hPX_134 hK hN hX⟩ rfl rfl hl.1 rfl (lv_room (Nat.le_of_ble_eq_true rfl)) dX7_wordKind_134 ⟨Nat.zero_le _, Nat.zero_le _⟩) ?_
    refine lv_if_eq (tgt := 145) hx hb dX7_wordKind_137 (by decide) (fun c_137 => ?_) (fun c_137 => ?_)
    rotate_left 1
    · rw [if_neg c_137] at hf
      refine lv_bipush (v := 16) hx hb dX7_wordKind_140 (by decide) ?_
      refine lv_goto (tgt := 161) hx hb dX7_wordKind_142 (by decide) ?_
      rw [← hQQ]
      exact rf_i hx hb hr hlocks hf dX7_wordKind_161
    rw [if_pos c_137] at hf
    refine lv_aload_n hx hb dX7_wordKind_145 rfl (lv_at hl 0 rfl) ?_
    refine va_ldcS (index := 85) (tx := "odds") (q := G.2.1 7) hx hb hown (hX.2.1 ("QuotedRiver$Tokens", 85, "odds", 7) (List.mem_of_getElem? (i := 7) rfl)) dX7_wordKind_146 ?_
    refine lv_iload_n hx hb dX7_wordKind_148 rfl (lv_at hl 1 rfl) ?_
    obtain ⟨r_149, e_149, hf⟩ := ob_bind hf
    have hPX_149 : va_P D vwCl (cs6 ct a o0) s.heap := (hP.sub (ws' := cs6 ct a o0) [0, 1] rfl)
    refine ro_call1 (va_runVN (As := [.ref (G.2.1 7), .int v1]) (rest := []) ⟨hx, hb, hml, hown, htl⟩ (c_X6_says l D ct G a fu o0 7 v1 e_149 (by decide)) (cw_X7_X6_says htl hN ⟨Nat.le_of_ble_eq_true rfl, Nat.le_of_ble_eq_true rfl⟩) ⟨Bx_blind, va_recv hK hPX_149 (ci := 6) (q0 := 0) rfl rfl, Bx_pre hPX_149 hK hN hX⟩ rfl rfl hl.1 rfl (lv_room (Nat.le_of_ble_eq_true rfl)) dX7_wordKind_149 ⟨Nat.zero_le _, Nat.zero_le _⟩) ?_
    refine lv_if_eq (tgt := 160) hx hb dX7_wordKind_152 (by decide) (fun c_152 => ?_) (fun c_152 => ?_)
    · rw [if_pos c_152] at hf
      refine lv_iconst (v := 3) hx hb dX7_wordKind_160 (by decide) ?_
      rw [← hQQ]
      exact rf_i hx hb hr hlocks hf dX7_wordKind_161
    rw [if_neg c_152] at hf
    refine lv_bipush (v := 6) hx hb dX7_wordKind_155 (by decide) ?_
    refine lv_goto (tgt := 161) hx hb dX7_wordKind_157 (by decide) ?_
    rw [← hQQ]
    exact rf_i hx hb hr hlocks hf dX7_wordKind_161
  rw [if_neg c_1_4] at hf
  by_cases c_1_5 : v2 = 5
  · rw [if_pos c_1_5] at hf
    refine lv_tableIn (tgt := 162) hx hb dX7_wordKind_1 (by rw [c_1_5]; decide) (by rw [c_1_5]; decide) (by rw [c_1_5]; rfl) (by decide) ?_
    refine lv_aload_n hx hb dX7_wordKind_162 rfl (lv_at hl 0 rfl) ?_
    refine va_ldcS (index := 87) (tx := "reach") (q := G.2.1 8) hx hb hown (hX.2.1 ("QuotedRiver$Tokens", 87, "reach", 8) (List.mem_of_getElem? (i := 8) rfl)) dX7_wordKind_163 ?_
    refine lv_iload_n hx hb dX7_wordKind_165 rfl (lv_at hl 1 rfl) ?_
    obtain ⟨r_166, e_166, hf⟩ := ob_bind hf
    have hPX_166 : va_P D vwCl (cs6 ct a o0) s.heap := (hP.sub (ws' := cs6 ct a o0) [0, 1] rfl)
    refine ro_call1 (va_runVN (As := [.ref (G.2.1 8), .int v1]) (rest := []) ⟨hx, hb, hml, hown, htl⟩ (c_X6_says l D ct G a fu o0 8 v1 e_166 (by decide)) (cw_X7_X6_says htl hN ⟨Nat.le_of_ble_eq_true rfl, Nat.le_of_ble_eq_true rfl⟩) ⟨Bx_blind, va_recv hK hPX_166 (ci := 6) (q0 := 0) rfl rfl, Bx_pre hPX_166 hK hN hX⟩ rfl rfl hl.1 rfl (lv_room (Nat.le_of_ble_eq_true rfl)) dX7_wordKind_166 ⟨Nat.zero_le _, Nat.zero_le _⟩) ?_
    refine lv_if_eq (tgt := 177) hx hb dX7_wordKind_169 (by decide) (fun c_169 => ?_) (fun c_169 => ?_)
    rotate_left 1
    · rw [if_neg c_169] at hf
      refine lv_bipush (v := 8) hx hb dX7_wordKind_172 (by decide) ?_
      refine lv_goto (tgt := 222) hx hb dX7_wordKind_174 (by decide) ?_
      rw [← hQQ]
      exact rf_i hx hb hr hlocks hf dX7_wordKind_222
    rw [if_pos c_169] at hf
    refine lv_aload_n hx hb dX7_wordKind_177 rfl (lv_at hl 0 rfl) ?_
    refine va_ldcS (index := 89) (tx := "takes") (q := G.2.1 9) hx hb hown (hX.2.1 ("QuotedRiver$Tokens", 89, "takes", 9) (List.mem_of_getElem? (i := 9) rfl)) dX7_wordKind_178 ?_
    refine lv_iload_n hx hb dX7_wordKind_180 rfl (lv_at hl 1 rfl) ?_
    obtain ⟨r_181, e_181, hf⟩ := ob_bind hf
    have hPX_181 : va_P D vwCl (cs6 ct a o0) s.heap := (hP.sub (ws' := cs6 ct a o0) [0, 1] rfl)
    refine ro_call1 (va_runVN (As := [.ref (G.2.1 9), .int v1]) (rest := []) ⟨hx, hb, hml, hown, htl⟩ (c_X6_says l D ct G a fu o0 9 v1 e_181 (by decide)) (cw_X7_X6_says htl hN ⟨Nat.le_of_ble_eq_true rfl, Nat.le_of_ble_eq_true rfl⟩) ⟨Bx_blind, va_recv hK hPX_181 (ci := 6) (q0 := 0) rfl rfl, Bx_pre hPX_181 hK hN hX⟩ rfl rfl hl.1 rfl (lv_room (Nat.le_of_ble_eq_true rfl)) dX7_wordKind_181 ⟨Nat.zero_le _, Nat.zero_le _⟩) ?_
    refine lv_if_eq (tgt := 192) hx hb dX7_wordKind_184 (by decide) (fun c_184 => ?_) (fun c_184 => ?_)
    rotate_left 1
    · rw [if_neg c_184] at hf
      refine lv_bipush (v := 11) hx hb dX7_wordKind_187 (by decide) ?_
      refine lv_goto (tgt := 222) hx hb dX7_wordKind_189 (by decide) ?_
      rw [← hQQ]
      exact rf_i hx hb hr hlocks hf dX7_wordKind_222
    rw [if_pos c_184] at hf
    refine lv_aload_n hx hb dX7_wordKind_192 rfl (lv_at hl 0 rfl) ?_
    refine va_ldcS (index := 91) (tx := "level") (q := G.2.1 10) hx hb hown (hX.2.1 ("QuotedRiver$Tokens", 91, "level", 10) (List.mem_of_getElem? (i := 10) rfl)) dX7_wordKind_193 ?_
    refine lv_iload_n hx hb dX7_wordKind_195 rfl (lv_at hl 1 rfl) ?_
    obtain ⟨r_196, e_196, hf⟩ := ob_bind hf
    have hPX_196 : va_P D vwCl (cs6 ct a o0) s.heap := (hP.sub (ws' := cs6 ct a o0) [0, 1] rfl)
    refine ro_call1 (va_runVN (As := [.ref (G.2.1 10), .int v1]) (rest := []) ⟨hx, hb, hml, hown, htl⟩ (c_X6_says l D ct G a fu o0 10 v1 e_196 (by decide)) (cw_X7_X6_says htl hN ⟨Nat.le_of_ble_eq_true rfl, Nat.le_of_ble_eq_true rfl⟩) ⟨Bx_blind, va_recv hK hPX_196 (ci := 6) (q0 := 0) rfl rfl, Bx_pre hPX_196 hK hN hX⟩ rfl rfl hl.1 rfl (lv_room (Nat.le_of_ble_eq_true rfl)) dX7_wordKind_196 ⟨Nat.zero_le _, Nat.zero_le _⟩) ?_
    refine lv_if_eq (tgt := 206) hx hb dX7_wordKind_199 (by decide) (fun c_199 => ?_) (fun c_199 => ?_)
    rotate_left 1
    · rw [if_neg c_199] at hf
      refine lv_iconst (v := 5) hx hb dX7_wordKind_202 (by decide) ?_
      refine lv_goto (tgt := 222) hx hb dX7_wordKind_203 (by decide) ?_
      rw [← hQQ]
      exact rf_i hx hb hr hlocks hf dX7_wordKind_222
    rw [if_pos c_199] at hf
    refine lv_aload_n hx hb dX7_wordKind_206 rfl (lv_at hl 0 rfl) ?_
    refine va_ldcS (index := 93) (tx := "swell") (q := G.2.1 11) hx hb hown (hX.2.1 ("QuotedRiver$Tokens", 93, "swell", 11) (List.mem_of_getElem? (i := 11) rfl)) dX7_wordKind_207 ?_
    refine lv_iload_n hx hb dX7_wordKind_209 rfl (lv_at hl 1 rfl) ?_
    obtain ⟨r_210, e_210, hf⟩ := ob_bind hf
    have hPX_210 : va_P D vwCl (cs6 ct a o0) s.heap := (hP.sub (ws' := cs6 ct a o0) [0, 1] rfl)
    refine ro_call1 (va_runVN (As := [.ref (G.2.1 11), .int v1]) (rest := []) ⟨hx, hb, hml, hown, htl⟩ (c_X6_says l D ct G a fu o0 11 v1 e_210 (by decide)) (cw_X7_X6_says htl hN ⟨Nat.le_of_ble_eq_true rfl, Nat.le_of_ble_eq_true rfl⟩) ⟨Bx_blind, va_recv hK hPX_210 (ci := 6) (q0 := 0) rfl rfl, Bx_pre hPX_210 hK hN hX⟩ rfl rfl hl.1 rfl (lv_room (Nat.le_of_ble_eq_true rfl)) dX7_wordKind_210 ⟨Nat.zero_le _, Nat.zero_le _⟩) ?_
    refine lv_if_eq (tgt := 221) hx hb dX7_wordKind_213 (by decide) (fun c_213 => ?_) (fun c_213 => ?_)
    · rw [if_pos c_213] at hf
      refine lv_iconst (v := 3) hx hb dX7_wordKind_221 (by decide) ?_
      rw [← hQQ]
      exact rf_i hx hb hr hlocks hf dX7_wordKind_222
    rw [if_neg c_213] at hf
    refine lv_bipush (v := 7) hx hb dX7_wordKind_216 (by decide) ?_
    refine lv_goto (tgt := 222) hx hb dX7_wordKind_218 (by decide) ?_
    rw [← hQQ]
    exact rf_i hx hb hr hlocks hf dX7_wordKind_222
  rw [if_neg c_1_5] at hf
  by_cases c_1_6 : v2 = 6
  · rw [if_pos c_1_6] at hf
    refine lv_tableIn (tgt := 223) hx hb dX7_wordKind_1 (by rw [c_1_6]; decide) (by rw [c_1_6]; decide) (by rw [c_1_6]; rfl) (by decide) ?_
    refine lv_aload_n hx hb dX7_wordKind_223 rfl (lv_at hl 0 rfl) ?_
    refine va_ldcS (index := 95) (tx := "rivers") (q := G.2.1 12) hx hb hown (hX.2.1 ("QuotedRiver$Tokens", 95, "rivers", 12) (List.mem_of_getElem? (i := 12) rfl)) dX7_wordKind_224 ?_
    refine lv_iload_n hx hb dX7_wordKind_226 rfl (lv_at hl 1 rfl) ?_
    obtain ⟨r_227, e_227, hf⟩ := ob_bind hf
    have hPX_227 : va_P D vwCl (cs6 ct a o0) s.heap := (hP.sub (ws' := cs6 ct a o0) [0, 1] rfl)
    refine ro_call1 (va_runVN (As := [.ref (G.2.1 12), .int v1]) (rest := []) ⟨hx, hb, hml, hown, htl⟩ (c_X6_says l D ct G a fu o0 12 v1 e_227 (by decide)) (cw_X7_X6_says htl hN ⟨Nat.le_of_ble_eq_true rfl, Nat.le_of_ble_eq_true rfl⟩) ⟨Bx_blind, va_recv hK hPX_227 (ci := 6) (q0 := 0) rfl rfl, Bx_pre hPX_227 hK hN hX⟩ rfl rfl hl.1 rfl (lv_room (Nat.le_of_ble_eq_true rfl)) dX7_wordKind_227 ⟨Nat.zero_le _, Nat.zero_le _⟩) ?_
    refine lv_if_eq (tgt := 237) hx hb dX7_wordKind_230 (by decide) (fun c_230 => ?_) (fun c_230 => ?_)
    · rw [if_pos c_230] at hf
      refine lv_iconst (v := 3) hx hb dX7_wordKind_237 (by decide) ?_
      rw [← hQQ]
      exact rf_i hx hb hr hlocks hf dX7_wordKind_238
    rw [if_neg c_230] at hf
    refine lv_iconst (v := 4) hx hb dX7_wordKind_233 (by decide) ?_
    refine lv_goto (tgt := 238) hx hb dX7_wordKind_234 (by decide) ?_
    rw [← hQQ]
    exact rf_i hx hb hr hlocks hf dX7_wordKind_238
  rw [if_neg c_1_6] at hf
  refine lv_tableOut (tgt := 239) hx hb dX7_wordKind_1 (sw_out_2_6 (lv_neT c_1_2 (a := 2) rfl) (lv_neT c_1_3 (a := 3) rfl) (lv_neT c_1_4 (a := 4) rfl) (lv_neT c_1_5 (a := 5) rfl) (lv_neT c_1_6 (a := 6) rfl)) (by decide) ?_
  refine lv_iconst (v := 3) hx hb dX7_wordKind_239 (by decide) ?_
  rw [← hQQ]
  exact rf_i hx hb hr hlocks hf dX7_wordKind_240
theorem c_X7_wordKind (l : Launch) (D : va_G) (ct : Nat → ClassId) (G : GT) (a : Nat → Nat) (fu : Nat) (o0 : Ob) (v1 : Int32) (v2 : Int32) {r : Int32} (hf : p_X7_wordKind fu o0 v1 v2 = some r)  : Met l yX7_wordKind (.code yX7_wordKind cX7_wordKind 3 (some .int) :: wsL_law) rm_X7_wordKind (va_Pc [.ref (a 0), .int v1, .int v2] (Bx D ct G (cs6 ct a o0))) (Qro (some (.int r))) 0 0 (fun _ => False) := by
  refine Met.ofW (cc := cX7_wordKind) (maxL := 3) (ret := (some .int)) (by decide) rfl ?_
  intro p e s m args below meth c s₁ B hml hv
  obtain ⟨rfl, hP, hK, hN, hX⟩ := hv
  have hts := atoms_spec (ws := .code yX7_wordKind cX7_wordKind 3 (some .int) :: wsL_law) B.pre
  rw [lg_entry_eq]
  exact b_X7_wordKind a fu o0 v1 v2 B.exec B.bytes B.returns hml (findClass_of_methodNamed B.named) (fun w h => hts w (List.mem_cons_of_mem _ h)) B.notSynchronized hK hN hX hP hf   (lv_entry [.ref (a 0), .int v1, .int v2] (n := 3) (Nat.le_of_ble_eq_true rfl))
theorem hd_X7_isLetter : yX7_isLetter.cls ≠ "java/lang/invoke/MethodHandle" ∧ yX7_isLetter.cls ≠ "java/lang/invoke/VarHandle" ∧ (parseMethodDescriptor yX7_isLetter.desc).map (fun d => d.parameters.length) = some 1 := by decide +kernel
theorem cw_X7_X7_isLetter {R : Room} {s : State} {args : Array Value} (ht : ∀ w ∈ wsL_law, w.before args s = true) (hR : rm_X7_isLetter.frames + 1 ≤ R.frames ∧ 8 + (1 + 11) + rm_X7_isLetter.locals ≤ R.locals) : CallB R s args RX7 44 yX7_isLetter cX7_isLetter 1 (some .boolean) ((.code yX7_isLetter cX7_isLetter 1 (some .boolean)) :: wsL_law) rm_X7_isLetter 0 0 1 ∧ (Cond.static yX7_isLetter).before args s = true := va_cwS 1 ht (GS wq_10_0 wq_10_1 wq_3_14 wq_10_2) rfl rfl rfl hd_X7_isLetter hR
theorem hd_X7_isDigit : yX7_isDigit.cls ≠ "java/lang/invoke/MethodHandle" ∧ yX7_isDigit.cls ≠ "java/lang/invoke/VarHandle" ∧ (parseMethodDescriptor yX7_isDigit.desc).map (fun d => d.parameters.length) = some 1 := by decide +kernel
theorem cw_X7_X7_isDigit {R : Room} {s : State} {args : Array Value} (ht : ∀ w ∈ wsL_law, w.before args s = true) (hR : rm_X7_isDigit.frames + 1 ≤ R.frames ∧ 8 + (1 + 11) + rm_X7_isDigit.locals ≤ R.locals) : CallB R s args RX7 51 yX7_isDigit cX7_isDigit 1 (some .boolean) ((.code yX7_isDigit cX7_isDigit 1 (some .boolean)) :: wsL_law) rm_X7_isDigit 0 0 1 ∧ (Cond.static yX7_isDigit).before args s = true := va_cwS 1 ht (GS wq_12_15 wq_12_16 wq_3_14 wq_12_17) rfl rfl rfl hd_X7_isDigit hR
theorem hd_X7_add : yX7_add.cls ≠ "java/lang/invoke/MethodHandle" ∧ yX7_add.cls ≠ "java/lang/invoke/VarHandle" ∧ (parseMethodDescriptor yX7_add.desc).map (fun d => d.parameters.length) = some 3 := by decide +kernel
theorem cw_X7_X7_add {R : Room} {s : State} {args : Array Value} (ht : ∀ w ∈ wsL_law, w.before args s = true) (hR : rm_X7_add.frames + 1 ≤ R.frames ∧ 8 + (4 + 11) + rm_X7_add.locals ≤ R.locals) : CallW R s args RX7 RX7 40 yX7_add cX7_add 4 none ((.code yX7_add cX7_add 4 none) :: wsL_law) rm_X7_add 0 0 3 := cwV 3 ht (GV wq_12_11 wq_12_12 wq_12_13 wq_3_14 wq_12_14) rfl rfl rfl ⟨rfl, hd_X7_add⟩ hR
theorem hd_X7_valueOf : yX7_valueOf.cls ≠ "java/lang/invoke/MethodHandle" ∧ yX7_valueOf.cls ≠ "java/lang/invoke/VarHandle" ∧ (parseMethodDescriptor yX7_valueOf.desc).map (fun d => d.parameters.length) = some 3 := by decide +kernel
theorem cw_X7_X7_valueOf {R : Room} {s : State} {args : Array Value} (ht : ∀ w ∈ wsL_law, w.before args s = true) (hR : rm_X7_valueOf.frames + 1 ≤ R.frames ∧ 8 + (5 + 11) + rm_X7_valueOf.locals ≤ R.locals) : CallB R s args RX7 54 yX7_valueOf cX7_valueOf 5 (some .int) ((.code yX7_valueOf cX7_valueOf 5 (some .int)) :: wsL_law) rm_X7_valueOf 0 0 3 ∧ (Cond.static yX7_valueOf).before args s = true := va_cwS 3 ht (GS wq_12_18 wq_12_19 wq_3_14 wq_12_20) rfl rfl rfl hd_X7_valueOf hR
theorem hd_X7_wordKind : yX7_wordKind.cls ≠ "java/lang/invoke/MethodHandle" ∧ yX7_wordKind.cls ≠ "java/lang/invoke/VarHandle" ∧ (parseMethodDescriptor yX7_wordKind.desc).map (fun d => d.parameters.length) = some 3 := by decide +kernel
theorem cw_X7_X7_wordKind {R : Room} {s : State} {args : Array Value} (ht : ∀ w ∈ wsL_law, w.before args s = true) (hR : rm_X7_wordKind.frames + 1 ≤ R.frames ∧ 8 + (3 + 11) + rm_X7_wordKind.locals ≤ R.locals) : CallB R s args RX7 47 yX7_wordKind cX7_wordKind 3 (some .int) ((.code yX7_wordKind cX7_wordKind 3 (some .int)) :: wsL_law) rm_X7_wordKind 0 0 3 ∧ (Cond.static yX7_wordKind).before args s = true := va_cwS 3 ht (GS wq_10_3 wq_10_4 wq_3_14 wq_10_5) rfl rfl rfl hd_X7_wordKind hR
def p_X7_scanToken_J124 (fu : Nat) (o1 : Ob)  (oz : Ob) (v2 : Int32) (v3 : Int32) (s1 : Int32) : Option (Int32 × Ob) :=
    (p_X7_add fu oz s1 v2 (0 : Int32)).bind fun r_126 => some (v3, r_126)
def p_X7_scanToken_L68 (fu : Nat) (o1 : Ob) (c93 : Ob → Int32 → Int32 → Option (Int32 × Ob)) : Nat → Ob → Int32 → Int32 → Option (Int32 × Ob)
  | 0, _, _, _ => none
  | n + 1, oz, v2, v3 =>
    if (o1.1 1 0) ≤ v3 then c93 oz v2 v3 else (p_X6_byteAt fu o1 v3).bind fun r_78 => (p_X7_isDigit fu r_78).bind fun r_81 => if r_81 = 0 then c93 oz v2 v3 else p_X7_scanToken_L68 fu o1 c93 n oz v2 (v3 + 1)
def p_X7_scanToken_L15 (fu : Nat) (o1 : Ob) (c40 : Ob → Int32 → Int32 → Option (Int32 × Ob)) : Nat → Ob → Int32 → Int32 → Option (Int32 × Ob)
  | 0, _, _, _ => none
  | n + 1, oz, v2, v3 =>
    if (o1.1 1 0) ≤ v3 then c40 oz v2 v3 else (p_X6_byteAt fu o1 v3).bind fun r_25 => (p_X7_isLetter fu r_25).bind fun r_28 => if r_28 = 0 then c40 oz v2 v3 else p_X7_scanToken_L15 fu o1 c40 n oz v2 (v3 + 1)
def p_X7_scanToken (fu : Nat) (o : Ob) (o1 : Ob) (v2 : Int32) : Option (Int32 × Ob) :=
  (p_X6_byteAt fu o1 v2).bind fun r_6 => (p_X7_isLetter fu r_6).bind fun r_9 => if r_9 = 0 then (p_X6_byteAt fu o1 v2).bind fun r_59 => (p_X7_isDigit fu r_59).bind fun r_62 => if r_62 = 0 then (p_X6_byteAt fu o1 v2).bind fun r_111 => if r_111 = (59 : Int32) then p_X7_scanToken_J124 fu o1 o v2 (v2 + 1) 1 else p_X7_scanToken_J124 fu o1 o v2 (v2 + 1) 3 else p_X7_scanToken_L68 fu o1 (fun oz v2 v3 => (p_X7_valueOf fu o1 v2 v3).bind fun r_99 => (p_X7_add fu oz (2 : Int32) v2 r_99).bind fun r_102 => some (v3, r_102)) fu o v2 (v2 + 1) else p_X7_scanToken_L15 fu o1 (fun oz v2 v3 => (p_X7_wordKind fu o1 v2 (v3 - v2)).bind fun r_46 => (p_X7_add fu oz r_46 v2 (0 : Int32)).bind fun r_51 => some (v3, r_51)) fu o v2 (v2 + 1)
abbrev rm_X7_scanToken : Room := { frames := 6, cells := 0, slots := 0, locals := 130 }
set_option maxHeartbeats 4000000 in
set_option maxRecDepth 100000 in
theorem b_X7_scanToken {p : Program} {l : Launch} {e : Env} {s : State} {m : MethodId} {args : Array Value} {below : List Frame} {meth : Method} {c : Code} {ls : Array Slot} {D : va_G} {ct : Nat → ClassId} {G : GT} (a : Nat → Nat) (ab : Nat → Nat) (fu : Nat) (o : Ob) (o1 : Ob) (v2 : Int32) {r : Int32 × Ob} (hx : p.tables.exec = Jvm.exec) (hb : c.code = cX7_scanToken) (hr : meth.sig.returnType = (some .int)) (hml : c.maxLocals = 4) (hown : s.vm.findClass RX7 = some m.cls) (htl : ∀ w ∈ wsL_law, w.before args s = true) (hlocks : meth.locks = false) (hK : va_K D vwCl (tyl ct) s) (hN : ∀ w ∈ NW, va_Nw w s) (hX : SX G s s.heap) (hP0 : va_P D vwCl (cs7 ct a o ++ (cs6 ct ab o1)) s.heap) (hf : p_X7_scanToken fu o o1 v2 = some r) (hD0 : va_D (GE G) (cs7 ct a o ++ (cs6 ct ab o1)))  (hl : lv_has ls 4 [(0, .ref (a 0)), (1, .ref (ab 0)), (2, .int v2)]) : W p l e rm_X7_scanToken s m args below meth c s.heap [] 0 0 (MQ below (Qwr (some (.int r.1)) (fun H => va_P D vwCl (cs7 ct a r.2) H) (wA (cs7 ct a o))) args s 0 0 (wA (cs7 ct a o))) (F0 m 0 ls []) := by
  generalize hQQ : MQ below (Qwr (some (.int r.1)) (fun H => va_P D vwCl (cs7 ct a r.2) H) (wA (cs7 ct a o))) args s 0 0 (wA (cs7 ct a o)) = QQ
  have hDx : ∀ (oy : Ob), va_D (GE G) (cs7 ct a oy ++ (cs6 ct ab o1)) := fun oy => D_cr hD0 rfl
  have hDW : ∀ (oy : Ob), va_D (wA (cs7 ct a o)) (cs7 ct a oy) := fun oy => D_cr (D_left hD0) rfl
  have hGE : ∀ q, wA (cs7 ct a o) q → GE G q := wA_GEl hD0
  have hP : va_P D vwCl (cs7 ct a o) s.heap := P_left hP0
  have hRR : ∀ (H : Heap) (locs : List Loc), va_S (wA (cs7 ct a o)) s.heap H locs → va_P D vwCl (cs6 ct ab o1) H := fun H locs hS => P_rest hD0 (P_right hP0) hS
  have hS : va_S (wA (cs7 ct a o)) s.heap s.heap [] := va_S.rf
  have hJ124 : ∀ (oz : Ob) (v2 : Int32) (v3 : Int32) (s1 : Int32), ∀ (H : Heap) (locs : List Loc) (ls : Array Slot), va_P D vwCl (cs7 ct a oz) H → va_S (wA (cs7 ct a o)) s.heap H locs → lv_has ls 4 [(2, .int v2), (3, .int v3)] → p_X7_scanToken_J124 fu o1  oz v2 v3 s1 = some r → W p l e rm_X7_scanToken s m args below meth c H locs 0 0 QQ (F0 m 124 ls [.int s1, .ref (a 0)]) := by
    intro  oz v2 v3 s1 H locs ls hP hS hl hf 
    rw [p_X7_scanToken_J124] at hf
    refine lv_iload_n hx hb dX7_scanToken_124 rfl (lv_at hl 0 rfl) ?_
    refine lv_iconst (v := 0) hx hb dX7_scanToken_125 (by decide) ?_
    obtain ⟨r_126, e_126, hf⟩ := ob_bind hf
    have hPX_126 : va_P D vwCl (cs7 ct a oz) H := hP
    refine wr_call0 (va_runV (As := [.int s1, .int v2, .int 0]) (rest := []) ⟨hx, hb, hml, hown, htl⟩ (c_X7_add l D ct G a fu oz s1 v2 (0 : Int32) e_126 ((hDx oz).sub (ws' := cs7 ct a oz) [0, 1, 2, 3] (by decide) rfl)) (cw_X7_X7_add htl ⟨Nat.le_of_ble_eq_true rfl, Nat.le_of_ble_eq_true rfl⟩) ⟨Bx_blind, va_recv hK hPX_126 (ci := 7) (q0 := 0) rfl rfl, Bx_pre hPX_126 hK hN (hX.stay hS hGE)⟩ rfl rfl hl.1 rfl (lv_room (Nat.le_of_ble_eq_true rfl)) dX7_scanToken_126 ⟨Nat.zero_le _, Nat.zero_le _⟩) hS (wA_cg rfl) (fun H_126 locs_126 hB_126 _ hk_126 hS => ?_)
    have hP : va_P D vwCl (cs7 ct a r_126) H_126 := hB_126
    refine lv_iload_n hx hb dX7_scanToken_129 rfl (lv_at hl 1 rfl) ?_
    rw [← hQQ]
    cases hf
    exact rw_i hx hb hr hlocks hP hS dX7_scanToken_130
  have hL68 : ∀ (c93 : Ob → Int32 → Int32 → Option (Int32 × Ob)) (n : Nat) (oz : Ob) (v2 : Int32) (v3 : Int32), ∀ (H : Heap) (locs : List Loc) (ls : Array Slot), va_P D vwCl (cs7 ct a oz) H → va_S (wA (cs7 ct a o)) s.heap H locs → lv_has ls 4 [(0, .ref (a 0)), (1, .ref (ab 0)), (2, .int v2), (3, .int v3)] → p_X7_scanToken_L68 fu o1 c93 n oz v2 v3 = some r → (∀ (oz : Ob) (v2 : Int32) (v3 : Int32), ∀ (H : Heap) (locs : List Loc) (ls : Array Slot), va_P D vwCl (cs7 ct a oz) H → va_S (wA (cs7 ct a o)) s.heap H locs → lv_has ls 4 [(0, .ref (a 0)), (1, .ref (ab 0)), (2, .int v2), (3, .int v3)] → c93 oz v2 v3 = some r → W p l e rm_X7_scanToken s m args below meth c H locs 0 0 QQ (F0 m 93 ls [])) → W p l e rm_X7_scanToken s m args below meth c H locs 0 0 QQ (F0 m 68 ls []) := by
    intro c93 n
    induction n with
    | zero =>
      intro oz v2 v3 H locs ls hP hS hl hf k93
      rw [p_X7_scanToken_L68] at hf
      cases hf
    | succ n ih =>
      intro oz v2 v3 H locs ls hP hS hl hf k93
      rw [p_X7_scanToken_L68] at hf
      refine lv_iload_n hx hb dX7_scanToken_68 rfl (lv_at hl 3 rfl) ?_
      refine lv_aload_n hx hb dX7_scanToken_69 rfl (lv_at hl 1 rfl) ?_
      refine va_getN (D := D) (ci := 6) (v := .int (o1.1 1 0)) (C := RX6) (T := TX6) (N := 2) hx hb htl inlX6 hown hK (hRR _ _ hS) 0 rfl rfl 1 (by decide) (va_Nw.use rfl (hN _ nm_64)) (fun _ h9 => h9) rfl dX7_scanToken_70 ?_
      refine lv_icmp_ge (tgt := 93) hx hb dX7_scanToken_73 (by decide) (fun c_73 => ?_) (fun c_73 => ?_)
      · rw [if_pos c_73] at hf
        exact k93 oz v2 v3 _ _ _ hP hS (lv_sub hl [0, 1, 2, 3] rfl) hf
      rw [if_neg c_73] at hf
      refine lv_aload_n hx hb dX7_scanToken_76 rfl (lv_at hl 1 rfl) ?_
      refine lv_iload_n hx hb dX7_scanToken_77 rfl (lv_at hl 3 rfl) ?_
      obtain ⟨r_78, e_78, hf⟩ := ob_bind hf
      have hPX_78 : va_P D vwCl (cs6 ct ab o1) H := ((hRR _ _ hS).sub (ws' := cs6 ct ab o1) [0, 1] rfl)
      refine ro_call1 (va_runVN (As := [.int v3]) (rest := []) ⟨hx, hb, hml, hown, htl⟩ (c_X6_byteAt l D ct G ab fu o1 v3 e_78) (cw_X7_X6_byteAt htl hN ⟨Nat.le_of_ble_eq_true rfl, Nat.le_of_ble_eq_true rfl⟩) ⟨Bx_blind, va_recv hK hPX_78 (ci := 6) (q0 := 0) rfl rfl, Bx_pre hPX_78 hK hN (hX.stay hS hGE)⟩ rfl rfl hl.1 rfl (lv_room (Nat.le_of_ble_eq_true rfl)) dX7_scanToken_78 ⟨Nat.zero_le _, Nat.zero_le _⟩) ?_
      obtain ⟨r_81, e_81, hf⟩ := ob_bind hf
      have hPX_81 : va_P D vwCl ([]) H := P_nil
      refine ro_call1 (va_runS (As := [.int r_78]) (rest := []) ⟨hx, hb, hml, hown, htl⟩ (c_X7_isDigit l D ct G fu r_78 e_81) (cw_X7_X7_isDigit htl ⟨Nat.le_of_ble_eq_true rfl, Nat.le_of_ble_eq_true rfl⟩) ⟨Bx_blind, Bx_pre hPX_81 hK hN (hX.stay hS hGE)⟩ rfl rfl hl.1 rfl (lv_room (Nat.le_of_ble_eq_true rfl)) dX7_scanToken_81 ⟨Nat.zero_le _, Nat.zero_le _⟩) ?_
      refine lv_if_eq (tgt := 93) hx hb dX7_scanToken_84 (by decide) (fun c_84 => ?_) (fun c_84 => ?_)
      · rw [if_pos c_84] at hf
        exact k93 oz v2 v3 _ _ _ hP hS (lv_sub hl [0, 1, 2, 3] rfl) hf
      rw [if_neg c_84] at hf
      refine lv_iinc (v := (v3 + 1)) (lv' := [(3, .int (v3 + 1)), (0, .ref (a 0)), (1, .ref (ab 0)), (2, .int v2)]) hx hb dX7_scanToken_87 hl (k := 3) rfl rfl (by decide) rfl (fun ls hl => ?_)
      refine lv_goto (tgt := 68) hx hb dX7_scanToken_90 (by decide) ?_
      exact ih oz v2 (v3 + 1) _ _ _ hP hS (lv_sub hl [1, 2, 3, 0] rfl) hf k93
  have hL15 : ∀ (c40 : Ob → Int32 → Int32 → Option (Int32 × Ob)) (n : Nat) (oz : Ob) (v2 : Int32) (v3 : Int32), ∀ (H : Heap) (locs : List Loc) (ls : Array Slot), va_P D vwCl (cs7 ct a oz) H → va_S (wA (cs7 ct a o)) s.heap H locs → lv_has ls 4 [(0, .ref (a 0)), (1, .ref (ab 0)), (2, .int v2), (3, .int v3)] → p_X7_scanToken_L15 fu o1 c40 n oz v2 v3 = some r → (∀ (oz : Ob) (v2 : Int32) (v3 : Int32), ∀ (H : Heap) (locs : List Loc) (ls : Array Slot), va_P D vwCl (cs7 ct a oz) H → va_S (wA (cs7 ct a o)) s.heap H locs → lv_has ls 4 [(0, .ref (a 0)), (1, .ref (ab 0)), (2, .int v2), (3, .int v3)] → c40 oz v2 v3 = some r → W p l e rm_X7_scanToken s m args below meth c H locs 0 0 QQ (F0 m 40 ls [])) → W p l e rm_X7_scanToken s m args below meth c H locs 0 0 QQ (F0 m 15 ls []) := by
    intro c40 n
    induction n with
    | zero =>
      intro oz v2 v3 H locs ls hP hS hl hf k40
      rw [p_X7_scanToken_L15] at hf
      cases hf
    | succ n ih =>
      intro oz v2 v3 H locs ls hP hS hl hf k40
      rw [p_X7_scanToken_L15] at hf
      refine lv_iload_n hx hb dX7_scanToken_15 rfl (lv_at hl 3 rfl) ?_
      refine lv_aload_n hx hb dX7_scanToken_16 rfl (lv_at hl 1 rfl) ?_
      refine va_getN (D := D) (ci := 6) (v := .int (o1.1 1 0)) (C := RX6) (T := TX6) (N := 2) hx hb htl inlX6 hown hK (hRR _ _ hS) 0 rfl rfl 1 (by decide) (va_Nw.use rfl (hN _ nm_64)) (fun _ h9 => h9) rfl dX7_scanToken_17 ?_
      refine lv_icmp_ge (tgt := 40) hx hb dX7_scanToken_20 (by decide) (fun c_20 => ?_) (fun c_20 => ?_)
      · rw [if_pos c_20] at hf
        exact k40 oz v2 v3 _ _ _ hP hS (lv_sub hl [0, 1, 2, 3] rfl) hf
      rw [if_neg c_20] at hf
      refine lv_aload_n hx hb dX7_scanToken_23 rfl (lv_at hl 1 rfl) ?_
      refine lv_iload_n hx hb dX7_scanToken_24 rfl (lv_at hl 3 rfl) ?_
      obtain ⟨r_25, e_25, hf⟩ := ob_bind hf
      have hPX_25 : va_P D vwCl (cs6 ct ab o1) H := ((hRR _ _ hS).sub (ws' := cs6 ct ab o1) [0, 1] rfl)
      refine ro_call1 (va_runVN (As := [.int v3]) (rest := []) ⟨hx, hb, hml, hown, htl⟩ (c_X6_byteAt l D ct G ab fu o1 v3 e_25) (cw_X7_X6_byteAt htl hN ⟨Nat.le_of_ble_eq_true rfl, Nat.le_of_ble_eq_true rfl⟩) ⟨Bx_blind, va_recv hK hPX_25 (ci := 6) (q0 := 0) rfl rfl, Bx_pre hPX_25 hK hN (hX.stay hS hGE)⟩ rfl rfl hl.1 rfl (lv_room (Nat.le_of_ble_eq_true rfl)) dX7_scanToken_25 ⟨Nat.zero_le _, Nat.zero_le _⟩) ?_
      obtain ⟨r_28, e_28, hf⟩ := ob_bind hf
      have hPX_28 : va_P D vwCl ([]) H := P_nil
      refine ro_call1 (va_runS (As := [.int r_25]) (rest := []) ⟨hx, hb, hml, hown, htl⟩ (c_X7_isLetter l D ct G fu r_25 e_28) (cw_X7_X7_isLetter htl ⟨Nat.le_of_ble_eq_true rfl, Nat.le_of_ble_eq_true rfl⟩) ⟨Bx_blind, Bx_pre hPX_28 hK hN (hX.stay hS hGE)⟩ rfl rfl hl.1 rfl (lv_room (Nat.le_of_ble_eq_true rfl)) dX7_scanToken_28 ⟨Nat.zero_le _, Nat.zero_le _⟩) ?_
      refine lv_if_eq (tgt := 40) hx hb dX7_scanToken_31 (by decide) (fun c_31 => ?_) (fun c_31 => ?_)
      · rw [if_pos c_31] at hf
        exact k40 oz v2 v3 _ _ _ hP hS (lv_sub hl [0, 1, 2, 3] rfl) hf
      rw [if_neg c_31] at hf
      refine lv_iinc (v := (v3 + 1)) (lv' := [(3, .int (v3 + 1)), (0, .ref (a 0)), (1, .ref (ab 0)), (2, .int v2)]) hx hb dX7_scanToken_34 hl (k := 3) rfl rfl (by decide) rfl (fun ls hl => ?_)
      refine lv_goto (tgt := 15) hx hb dX7_scanToken_37 (by decide) ?_
      exact ih oz v2 (v3 + 1) _ _ _ hP hS (lv_sub hl [1, 2, 3, 0] rfl) hf k40
  rw [p_X7_scanToken] at hf
  refine lv_iload_n hx hb dX7_scanToken_0 rfl (lv_at hl 2 rfl) ?_
  refine lv_iconst (v := 1) hx hb dX7_scanToken_1 (by decide) ?_
  refine lv_iadd hx hb dX7_scanToken_2 ?_
  refine lv_istore_n (lv' := [(3, .int (v2 + 1)), (0, .ref (a 0)), (1, .ref (ab 0)), (2, .int v2)]) hx hb dX7_scanToken_3 rfl hl (by decide) rfl (fun ls hl => ?_)
  refine lv_aload_n hx hb dX7_scanToken_4 rfl (lv_at hl 2 rfl) ?_
  refine lv_iload_n hx hb dX7_scanToken_5 rfl (lv_at hl 3 rfl) ?_
  obtain ⟨r_6, e_6, hf⟩ := ob_bind hf
  have hPX_6 : va_P D vwCl (cs6 ct ab o1) s.heap := ((hRR _ _ hS).sub (ws' := cs6 ct ab o1) [0, 1] rfl)
  refine ro_call1 (va_runVN (As := [.int v2]) (rest := []) ⟨hx, hb, hml, hown, htl⟩ (c_X6_byteAt l D ct G ab fu o1 v2 e_6) (cw_X7_X6_byteAt htl hN ⟨Nat.le_of_ble_eq_true rfl, Nat.le_of_ble_eq_true rfl⟩) ⟨Bx_blind, va_recv hK hPX_6 (ci := 6) (q0 := 0) rfl rfl, Bx_pre hPX_6 hK hN (hX.stay hS hGE)⟩ rfl rfl hl.1 rfl (lv_room (Nat.le_of_ble_eq_true rfl)) dX7_scanToken_6 ⟨Nat.zero_le _, Nat.zero_le _⟩) ?_
  obtain ⟨r_9, e_9, hf⟩ := ob_bind hf
  have hPX_9 : va_P D vwCl ([]) s.heap := P_nil
  refine ro_call1 (va_runS (As := [.int r_6]) (rest := []) ⟨hx, hb, hml, hown, htl⟩ (c_X7_isLetter l D ct G fu r_6 e_9) (cw_X7_X7_isLetter htl ⟨Nat.le_of_ble_eq_true rfl, Nat.le_of_ble_eq_true rfl⟩) ⟨Bx_blind, Bx_pre hPX_9 hK hN (hX.stay hS hGE)⟩ rfl rfl hl.1 rfl (lv_room (Nat.le_of_ble_eq_true rfl)) dX7_scanToken_9 ⟨Nat.zero_le _, Nat.zero_le _⟩) ?_
  refine lv_if_eq (tgt := 57) hx hb dX7_scanToken_12 (by decide) (fun c_12 => ?_) (fun c_12 => ?_)
  rotate_left 1
  · rw [if_neg c_12] at hf
    refine hL15 _ fu o v2 (v2 + 1) _ _ _ hP hS (lv_sub hl [1, 2, 3, 0] rfl) hf (fun oz v2 v3 H locs ls hP hS hl hf => ?_)
    refine lv_aload_n hx hb dX7_scanToken_40 rfl (lv_at hl 0 rfl) ?_
    refine lv_aload_n hx hb dX7_scanToken_41 rfl (lv_at hl 1 rfl) ?_
    refine lv_iload_n hx hb dX7_scanToken_42 rfl (lv_at hl 2 rfl) ?_
    refine lv_iload_n hx hb dX7_scanToken_43 rfl (lv_at hl 3 rfl) ?_
    refine lv_iload_n hx hb dX7_scanToken_44 rfl (lv_at hl 2 rfl) ?_
    refine lv_isub hx hb dX7_scanToken_45 ?_
    obtain ⟨r_46, e_46, hf⟩ := ob_bind hf
    have hPX_46 : va_P D vwCl (cs6 ct ab o1) H := ((hRR _ _ hS).sub (ws' := cs6 ct ab o1) [0, 1] rfl)
    refine ro_call1 (va_runS (As := [.ref (ab 0), .int v2, .int (v3 - v2)]) (rest := [.ref (a 0)]) ⟨hx, hb, hml, hown, htl⟩ (c_X7_wordKind l D ct G ab fu o1 v2 (v3 - v2) e_46) (cw_X7_X7_wordKind htl ⟨Nat.le_of_ble_eq_true rfl, Nat.le_of_ble_eq_true rfl⟩) ⟨Bx_blind, Bx_pre hPX_46 hK hN (hX.stay hS hGE)⟩ rfl rfl hl.1 rfl (lv_room (Nat.le_of_ble_eq_true rfl)) dX7_scanToken_46 ⟨Nat.zero_le _, Nat.zero_le _⟩) ?_
    refine lv_iload_n hx hb dX7_scanToken_49 rfl (lv_at hl 2 rfl) ?_
    refine lv_iconst (v := 0) hx hb dX7_scanToken_50 (by decide) ?_
    obtain ⟨r_51, e_51, hf⟩ := ob_bind hf
    have hPX_51 : va_P D vwCl (cs7 ct a oz) H := hP
    refine wr_call0 (va_runV (As := [.int r_46, .int v2, .int 0]) (rest := []) ⟨hx, hb, hml, hown, htl⟩ (c_X7_add l D ct G a fu oz r_46 v2 (0 : Int32) e_51 ((hDx oz).sub (ws' := cs7 ct a oz) [0, 1, 2, 3] (by decide) rfl)) (cw_X7_X7_add htl ⟨Nat.le_of_ble_eq_true rfl, Nat.le_of_ble_eq_true rfl⟩) ⟨Bx_blind, va_recv hK hPX_51 (ci := 7) (q0 := 0) rfl rfl, Bx_pre hPX_51 hK hN (hX.stay hS hGE)⟩ rfl rfl hl.1 rfl (lv_room (Nat.le_of_ble_eq_true rfl)) dX7_scanToken_51 ⟨Nat.zero_le _, Nat.zero_le _⟩) hS (wA_cg rfl) (fun H_51 locs_51 hB_51 _ hk_51 hS => ?_)
    have hP : va_P D vwCl (cs7 ct a r_51) H_51 := hB_51
    refine lv_goto (tgt := 129) hx hb dX7_scanToken_54 (by decide) ?_
    refine lv_iload_n hx hb dX7_scanToken_129 rfl (lv_at hl 3 rfl) ?_
    rw [← hQQ]
    cases hf
    exact rw_i hx hb hr hlocks hP hS dX7_scanToken_130
  rw [if_pos c_12] at hf
  refine lv_aload_n hx hb dX7_scanToken_57 rfl (lv_at hl 2 rfl) ?_
  refine lv_iload_n hx hb dX7_scanToken_58 rfl (lv_at hl 3 rfl) ?_
  obtain ⟨r_59, e_59, hf⟩ := ob_bind hf
  have hPX_59 : va_P D vwCl (cs6 ct ab o1) s.heap := ((hRR _ _ hS).sub (ws' := cs6 ct ab o1) [0, 1] rfl)
  refine ro_call1 (va_runVN (As := [.int v2]) (rest := []) ⟨hx, hb, hml, hown, htl⟩ (c_X6_byteAt l D ct G ab fu o1 v2 e_59) (cw_X7_X6_byteAt htl hN ⟨Nat.le_of_ble_eq_true rfl, Nat.le_of_ble_eq_true rfl⟩) ⟨Bx_blind, va_recv hK hPX_59 (ci := 6) (q0 := 0) rfl rfl, Bx_pre hPX_59 hK hN (hX.stay hS hGE)⟩ rfl rfl hl.1 rfl (lv_room (Nat.le_of_ble_eq_true rfl)) dX7_scanToken_59 ⟨Nat.zero_le _, Nat.zero_le _⟩) ?_
  obtain ⟨r_62, e_62, hf⟩ := ob_bind hf
  have hPX_62 : va_P D vwCl ([]) s.heap := P_nil
  refine ro_call1 (va_runS (As := [.int r_59]) (rest := []) ⟨hx, hb, hml, hown, htl⟩ (c_X7_isDigit l D ct G fu r_59 e_62) (cw_X7_X7_isDigit htl ⟨Nat.le_of_ble_eq_true rfl, Nat.le_of_ble_eq_true rfl⟩) ⟨Bx_blind, Bx_pre hPX_62 hK hN (hX.stay hS hGE)⟩ rfl rfl hl.1 rfl (lv_room (Nat.le_of_ble_eq_true rfl)) dX7_scanToken_62 ⟨Nat.zero_le _, Nat.zero_le _⟩) ?_
  refine lv_if_eq (tgt := 108) hx hb dX7_scanToken_65 (by decide) (fun c_65 => ?_) (fun c_65 => ?_)
  · rw [if_pos c_65] at hf
    refine lv_aload_n hx hb dX7_scanToken_108 rfl (lv_at hl 1 rfl) ?_
    refine lv_aload_n hx hb dX7_scanToken_109 rfl (lv_at hl 2 rfl) ?_
    refine lv_iload_n hx hb dX7_scanToken_110 rfl (lv_at hl 3 rfl) ?_
    obtain ⟨r_111, e_111, hf⟩ := ob_bind hf
    have hPX_111 : va_P D vwCl (cs6 ct ab o1) s.heap := ((hRR _ _ hS).sub (ws' := cs6 ct ab o1) [0, 1] rfl)
    refine ro_call1 (va_runVN (As := [.int v2]) (rest := [.ref (a 0)]) ⟨hx, hb, hml, hown, htl⟩ (c_X6_byteAt l D ct G ab fu o1 v2 e_111) (cw_X7_X6_byteAt htl hN ⟨Nat.le_of_ble_eq_true rfl, Nat.le_of_ble_eq_true rfl⟩) ⟨Bx_blind, va_recv hK hPX_111 (ci := 6) (q0 := 0) rfl rfl, Bx_pre hPX_111 hK hN (hX.stay hS hGE)⟩ rfl rfl hl.1 rfl (lv_room (Nat.le_of_ble_eq_true rfl)) dX7_scanToken_111 ⟨Nat.zero_le _, Nat.zero_le _⟩) ?_
    refine lv_bipush (v := 59) hx hb dX7_scanToken_114 (by decide) ?_
    refine lv_icmp_ne (tgt := 123) hx hb dX7_scanToken_116 (by decide) (fun c_116 => ?_) (fun c_116 => ?_)
    · rw [if_neg c_116] at hf
      refine lv_iconst (v := 3) hx hb dX7_scanToken_123 (by decide) ?_
      exact hJ124 o v2 (v2 + 1) 3 _ _ _ hP hS (lv_sub hl [3, 0] rfl) hf 
    rw [if_pos c_116] at hf
    refine lv_iconst (v := 1) hx hb dX7_scanToken_119 (by decide) ?_
    refine lv_goto (tgt := 124) hx hb dX7_scanToken_120 (by decide) ?_
    exact hJ124 o v2 (v2 + 1) 1 _ _ _ hP hS (lv_sub hl [3, 0] rfl) hf 
  rw [if_neg c_65] at hf
  refine hL68 _ fu o v2 (v2 + 1) _ _ _ hP hS (lv_sub hl [1, 2, 3, 0] rfl) hf (fun oz v2 v3 H locs ls hP hS hl hf => ?_)
  refine lv_aload_n hx hb dX7_scanToken_93 rfl (lv_at hl 0 rfl) ?_
  refine lv_iconst (v := 2) hx hb dX7_scanToken_94 (by decide) ?_
  refine lv_iload_n hx hb dX7_scanToken_95 rfl (lv_at hl 2 rfl) ?_
  refine lv_aload_n hx hb dX7_scanToken_96 rfl (lv_at hl 1 rfl) ?_
  refine lv_iload_n hx hb dX7_scanToken_97 rfl (lv_at hl 2 rfl) ?_
  refine lv_iload_n hx hb dX7_scanToken_98 rfl (lv_at hl 3 rfl) ?_
  obtain ⟨r_99, e_99, hf⟩ := ob_bind hf
  have hPX_99 : va_P D vwCl (cs6 ct ab o1) H := ((hRR _ _ hS).sub (ws' := cs6 ct ab o1) [0, 1] rfl)
  refine ro_call1 (va_runS (As := [.ref (ab 0), .int v2, .int v3]) (rest := [.int v2, .int 2, .ref (a 0)]) ⟨hx, hb, hml, hown, htl⟩ (c_X7_valueOf l D ct G ab fu o1 v2 v3 e_99) (cw_X7_X7_valueOf htl ⟨Nat.le_of_ble_eq_true rfl, Nat.le_of_ble_eq_true rfl⟩) ⟨Bx_blind, Bx_pre hPX_99 hK hN (hX.stay hS hGE)⟩ rfl rfl hl.1 rfl (lv_room (Nat.le_of_ble_eq_true rfl)) dX7_scanToken_99 ⟨Nat.zero_le _, Nat.zero_le _⟩) ?_
  obtain ⟨r_102, e_102, hf⟩ := ob_bind hf
  have hPX_102 : va_P D vwCl (cs7 ct a oz) H := hP
  refine wr_call0 (va_runV (As := [.int 2, .int v2, .int r_99]) (rest := []) ⟨hx, hb, hml, hown, htl⟩ (c_X7_add l D ct G a fu oz (2 : Int32) v2 r_99 e_102 ((hDx oz).sub (ws' := cs7 ct a oz) [0, 1, 2, 3] (by decide) rfl)) (cw_X7_X7_add htl ⟨Nat.le_of_ble_eq_true rfl, Nat.le_of_ble_eq_true rfl⟩) ⟨Bx_blind, va_recv hK hPX_102 (ci := 7) (q0 := 0) rfl rfl, Bx_pre hPX_102 hK hN (hX.stay hS hGE)⟩ rfl rfl hl.1 rfl (lv_room (Nat.le_of_ble_eq_true rfl)) dX7_scanToken_102 ⟨Nat.zero_le _, Nat.zero_le _⟩) hS (wA_cg rfl) (fun H_102 locs_102 hB_102 _ hk_102 hS => ?_)
  have hP : va_P D vwCl (cs7 ct a r_102) H_102 := hB_102
  refine lv_goto (tgt := 129) hx hb dX7_scanToken_105 (by decide) ?_
  refine lv_iload_n hx hb dX7_scanToken_129 rfl (lv_at hl 3 rfl) ?_
  rw [← hQQ]
  cases hf
  exact rw_i hx hb hr hlocks hP hS dX7_scanToken_130
theorem c_X7_scanToken (l : Launch) (D : va_G) (ct : Nat → ClassId) (G : GT) (a : Nat → Nat) (ab : Nat → Nat) (fu : Nat) (o : Ob) (o1 : Ob) (v2 : Int32) {r : Int32 × Ob} (hf : p_X7_scanToken fu o o1 v2 = some r)  (hD0 : va_D (GE G) (cs7 ct a o ++ (cs6 ct ab o1))) : Met l yX7_scanToken (.code yX7_scanToken cX7_scanToken 4 (some .int) :: wsL_law) rm_X7_scanToken (va_Pc [.ref (a 0), .ref (ab 0), .int v2] (Bx D ct G (cs7 ct a o ++ (cs6 ct ab o1)))) (Qwr (some (.int r.1)) (fun H => va_P D vwCl (cs7 ct a r.2) H) (wA (cs7 ct a o))) 0 0 (wA (cs7 ct a o)) := by
  refine Met.ofW (cc := cX7_scanToken) (maxL := 4) (ret := (some .int)) (by decide) rfl ?_
  intro p e s m args below meth c s₁ B hml hv
  obtain ⟨rfl, hP, hK, hN, hX⟩ := hv
  have hts := atoms_spec (ws := .code yX7_scanToken cX7_scanToken 4 (some .int) :: wsL_law) B.pre
  rw [lg_entry_eq]
  exact b_X7_scanToken a ab fu o o1 v2 B.exec B.bytes B.returns hml (findClass_of_methodNamed B.named) (fun w h => hts w (List.mem_cons_of_mem _ h)) B.notSynchronized hK hN hX hP hf hD0  (lv_entry [.ref (a 0), .ref (ab 0), .int v2] (n := 4) (Nat.le_of_ble_eq_true rfl))
theorem hd_X7_isBlank : yX7_isBlank.cls ≠ "java/lang/invoke/MethodHandle" ∧ yX7_isBlank.cls ≠ "java/lang/invoke/VarHandle" ∧ (parseMethodDescriptor yX7_isBlank.desc).map (fun d => d.parameters.length) = some 1 := by decide +kernel
theorem cw_X7_X7_isBlank {R : Room} {s : State} {args : Array Value} (ht : ∀ w ∈ wsL_law, w.before args s = true) (hR : rm_X7_isBlank.frames + 1 ≤ R.frames ∧ 8 + (1 + 11) + rm_X7_isBlank.locals ≤ R.locals) : CallB R s args RX7 32 yX7_isBlank cX7_isBlank 1 (some .boolean) ((.code yX7_isBlank cX7_isBlank 1 (some .boolean)) :: wsL_law) rm_X7_isBlank 0 0 1 ∧ (Cond.static yX7_isBlank).before args s = true := va_cwS 1 ht (GS wq_9_17 wq_9_18 wq_3_14 wq_9_19) rfl rfl rfl hd_X7_isBlank hR
theorem hd_X7_scanToken : yX7_scanToken.cls ≠ "java/lang/invoke/MethodHandle" ∧ yX7_scanToken.cls ≠ "java/lang/invoke/VarHandle" ∧ (parseMethodDescriptor yX7_scanToken.desc).map (fun d => d.parameters.length) = some 2 := by decide +kernel
theorem cw_X7_X7_scanToken {R : Room} {s : State} {args : Array Value} (ht : ∀ w ∈ wsL_law, w.before args s = true) (hR : rm_X7_scanToken.frames + 1 ≤ R.frames ∧ 8 + (4 + 11) + rm_X7_scanToken.locals ≤ R.locals) : CallW R s args RX7 RX7 36 yX7_scanToken cX7_scanToken 4 (some .int) ((.code yX7_scanToken cX7_scanToken 4 (some .int)) :: wsL_law) rm_X7_scanToken 0 0 2 := cwV 2 ht (GV wq_9_20 wq_9_21 wq_9_22 wq_3_14 wq_9_23) rfl rfl rfl ⟨rfl, hd_X7_scanToken⟩ hR
def p_X7_scan_L9 (fu : Nat) (o1 : Ob) (c46 : Ob → Option (Ob)) : Nat → Ob → Int32 → Int32 → Option (Ob)
  | 0, _, _, _ => none
  | n + 1, oz, v2, v3 =>
    if (o1.1 1 0) ≤ v3 then c46 oz else if v3 < v2 then p_X7_scan_L9 fu o1 c46 n oz v2 (v3 + 1) else (p_X6_byteAt fu o1 v3).bind fun r_24 => (p_X7_isBlank fu r_24).bind fun r_27 => if r_27 = 0 then (p_X7_scanToken fu oz o1 v3).bind fun r_36 => p_X7_scan_L9 fu o1 c46 n r_36.2 r_36.1 (v3 + 1) else p_X7_scan_L9 fu o1 c46 n oz v2 (v3 + 1)
def p_X7_scan (fu : Nat) (o : Ob) (o1 : Ob) : Option (Ob) :=
  p_X7_scan_L9 fu o1 (fun oz => (p_X7_add fu oz (0 : Int32) (o1.1 1 0) (0 : Int32)).bind fun r_53 => some r_53) fu (oI o 3 (0 : Int32)) 0 0
abbrev rm_X7_scan : Room := { frames := 7, cells := 0, slots := 0, locals := 153 }
set_option maxHeartbeats 4000000 in
set_option maxRecDepth 100000 in
theorem b_X7_scan {p : Program} {l : Launch} {e : Env} {s : State} {m : MethodId} {args : Array Value} {below : List Frame} {meth : Method} {c : Code} {ls : Array Slot} {D : va_G} {ct : Nat → ClassId} {G : GT} (a : Nat → Nat) (ab : Nat → Nat) (fu : Nat) (o : Ob) (o1 : Ob) {r : Ob} (hx : p.tables.exec = Jvm.exec) (hb : c.code = cX7_scan) (hr : meth.sig.returnType = none) (hml : c.maxLocals = 4) (hown : s.vm.findClass RX7 = some m.cls) (htl : ∀ w ∈ wsL_law, w.before args s = true) (hlocks : meth.locks = false) (hK : va_K D vwCl (tyl ct) s) (hN : ∀ w ∈ NW, va_Nw w s) (hX : SX G s s.heap) (hP0 : va_P D vwCl (cs7 ct a o ++ (cs6 ct ab o1)) s.heap) (hf : p_X7_scan fu o o1 = some r) (hD0 : va_D (GE G) (cs7 ct a o ++ (cs6 ct ab o1)))  (hl : lv_has ls 4 [(0, .ref (a 0)), (1, .ref (ab 0))]) : W p l e rm_X7_scan s m args below meth c s.heap [] 0 0 (MQ below (Qwr none (fun H => va_P D vwCl (cs7 ct a r) H) (wA (cs7 ct a o))) args s 0 0 (wA (cs7 ct a o))) (F0 m 0 ls []) := by
  generalize hQQ : MQ below (Qwr none (fun H => va_P D vwCl (cs7 ct a r) H) (wA (cs7 ct a o))) args s 0 0 (wA (cs7 ct a o)) = QQ
  have hDx : ∀ (oy : Ob), va_D (GE G) (cs7 ct a oy ++ (cs6 ct ab o1)) := fun oy => D_cr hD0 rfl
  have hDW : ∀ (oy : Ob), va_D (wA (cs7 ct a o)) (cs7 ct a oy) := fun oy => D_cr (D_left hD0) rfl
  have hGE : ∀ q, wA (cs7 ct a o) q → GE G q := wA_GEl hD0
  have hP : va_P D vwCl (cs7 ct a o) s.heap := P_left hP0
  have hRR : ∀ (H : Heap) (locs : List Loc), va_S (wA (cs7 ct a o)) s.heap H locs → va_P D vwCl (cs6 ct ab o1) H := fun H locs hS => P_rest hD0 (P_right hP0) hS
  have hS : va_S (wA (cs7 ct a o)) s.heap s.heap [] := va_S.rf
  have hL9 : ∀ (c46 : Ob → Option (Ob)) (n : Nat) (oz : Ob) (v2 : Int32) (v3 : Int32), ∀ (H : Heap) (locs : List Loc) (ls : Array Slot), va_P D vwCl (cs7 ct a oz) H → va_S (wA (cs7 ct a o)) s.heap H locs → lv_has ls 4 [(0, .ref (a 0)), (1, .ref (ab 0)), (2, .int v2), (3, .int v3)] → p_X7_scan_L9 fu o1 c46 n oz v2 v3 = some r → (∀ (oz : Ob), ∀ (H : Heap) (locs : List Loc) (ls : Array Slot), va_P D vwCl (cs7 ct a oz) H → va_S (wA (cs7 ct a o)) s.heap H locs → lv_has ls 4 [(0, .ref (a 0)), (1, .ref (ab 0))] → c46 oz = some r → W p l e rm_X7_scan s m args below meth c H locs 0 0 QQ (F0 m 46 ls [])) → W p l e rm_X7_scan s m args below meth c H locs 0 0 QQ (F0 m 9 ls []) := by
    intro c46 n
    induction n with
    | zero =>
      intro oz v2 v3 H locs ls hP hS hl hf k46
      rw [p_X7_scan_L9] at hf
      cases hf
    | succ n ih =>
      intro oz v2 v3 H locs ls hP hS hl hf k46
      rw [p_X7_scan_L9] at hf
      refine lv_iload_n hx hb dX7_scan_9 rfl (lv_at hl 3 rfl) ?_
      refine lv_aload_n hx hb dX7_scan_10 rfl (lv_at hl 1 rfl) ?_
      refine va_getN (D := D) (ci := 6) (v := .int (o1.1 1 0)) (C := RX6) (T := TX6) (N := 2) hx hb htl inlX6 hown hK (hRR _ _ hS) 0 rfl rfl 1 (by decide) (va_Nw.use rfl (hN _ nm_64)) (fun _ h9 => h9) rfl dX7_scan_11 ?_
      refine lv_icmp_ge (tgt := 46) hx hb dX7_scan_14 (by decide) (fun c_14 => ?_) (fun c_14 => ?_)
      · rw [if_pos c_14] at hf
        exact k46 oz _ _ _ hP hS (lv_sub hl [0, 1] rfl) hf
      rw [if_neg c_14] at hf
      refine lv_iload_n hx hb dX7_scan_17 rfl (lv_at hl 3 rfl) ?_
      refine lv_iload_n hx hb dX7_scan_18 rfl (lv_at hl 2 rfl) ?_
      refine lv_icmp_lt (tgt := 40) hx hb dX7_scan_19 (by decide) (fun c_19 => ?_) (fun c_19 => ?_)
      · rw [if_pos c_19] at hf
        refine lv_iinc (v := (v3 + 1)) (lv' := [(3, .int (v3 + 1)), (0, .ref (a 0)), (1, .ref (ab 0)), (2, .int v2)]) hx hb dX7_scan_40 hl (k := 3) rfl rfl (by decide) rfl (fun ls hl => ?_)
        refine lv_goto (tgt := 9) hx hb dX7_scan_43 (by decide) ?_
        exact ih oz v2 (v3 + 1) _ _ _ hP hS (lv_sub hl [1, 2, 3, 0] rfl) hf k46
      rw [if_neg c_19] at hf
      refine lv_aload_n hx hb dX7_scan_22 rfl (lv_at hl 1 rfl) ?_
      refine lv_iload_n hx hb dX7_scan_23 rfl (lv_at hl 3 rfl) ?_
      obtain ⟨r_24, e_24, hf⟩ := ob_bind hf
      have hPX_24 : va_P D vwCl (cs6 ct ab o1) H := ((hRR _ _ hS).sub (ws' := cs6 ct ab o1) [0, 1] rfl)
      refine ro_call1 (va_runVN (As := [.int v3]) (rest := []) ⟨hx, hb, hml, hown, htl⟩ (c_X6_byteAt l D ct G ab fu o1 v3 e_24) (cw_X7_X6_byteAt htl hN ⟨Nat.le_of_ble_eq_true rfl, Nat.le_of_ble_eq_true rfl⟩) ⟨Bx_blind, va_recv hK hPX_24 (ci := 6) (q0 := 0) rfl rfl, Bx_pre hPX_24 hK hN (hX.stay hS hGE)⟩ rfl rfl hl.1 rfl (lv_room (Nat.le_of_ble_eq_true rfl)) dX7_scan_24 ⟨Nat.zero_le _, Nat.zero_le _⟩) ?_
      obtain ⟨r_27, e_27, hf⟩ := ob_bind hf
      have hPX_27 : va_P D vwCl ([]) H := P_nil
      refine ro_call1 (va_runS (As := [.int r_24]) (rest := []) ⟨hx, hb, hml, hown, htl⟩ (c_X7_isBlank l D ct G fu r_24 e_27) (cw_X7_X7_isBlank htl ⟨Nat.le_of_ble_eq_true rfl, Nat.le_of_ble_eq_true rfl⟩) ⟨Bx_blind, Bx_pre hPX_27 hK hN (hX.stay hS hGE)⟩ rfl rfl hl.1 rfl (lv_room (Nat.le_of_ble_eq_true rfl)) dX7_scan_27 ⟨Nat.zero_le _, Nat.zero_le _⟩) ?_
      refine lv_if_ne (tgt := 40) hx hb dX7_scan_30 (by decide) (fun c_30 => ?_) (fun c_30 => ?_)
      · rw [if_neg c_30] at hf
        refine lv_iinc (v := (v3 + 1)) (lv' := [(3, .int (v3 + 1)), (0, .ref (a 0)), (1, .ref (ab 0)), (2, .int v2)]) hx hb dX7_scan_40 hl (k := 3) rfl rfl (by decide) rfl (fun ls hl => ?_)
        refine lv_goto (tgt := 9) hx hb dX7_scan_43 (by decide) ?_
        exact ih oz v2 (v3 + 1) _ _ _ hP hS (lv_sub hl [1, 2, 3, 0] rfl) hf k46
      rw [if_pos c_30] at hf
      refine lv_aload_n hx hb dX7_scan_33 rfl (lv_at hl 0 rfl) ?_
      refine lv_aload_n hx hb dX7_scan_34 rfl (lv_at hl 1 rfl) ?_
      refine lv_iload_n hx hb dX7_scan_35 rfl (lv_at hl 3 rfl) ?_
      obtain ⟨r_36, e_36, hf⟩ := ob_bind hf
      have hPX_36 : va_P D vwCl (cs7 ct a oz ++ (cs6 ct ab o1)) H := (va_P.app hP ((hRR _ _ hS).sub (ws' := cs6 ct ab o1) [0, 1] rfl))
      refine wr_call1 (va_runV (As := [.ref (ab 0), .int v3]) (rest := []) ⟨hx, hb, hml, hown, htl⟩ (c_X7_scanToken l D ct G a ab fu oz o1 v3 e_36 (hDx oz)) (cw_X7_X7_scanToken htl ⟨Nat.le_of_ble_eq_true rfl, Nat.le_of_ble_eq_true rfl⟩) ⟨Bx_blind, va_recv hK hPX_36 (ci := 7) (q0 := 0) rfl rfl, Bx_pre hPX_36 hK hN (hX.stay hS hGE)⟩ rfl rfl hl.1 rfl (lv_room (Nat.le_of_ble_eq_true rfl)) dX7_scan_36 ⟨Nat.zero_le _, Nat.zero_le _⟩) hS (wA_cg rfl) (fun H_36 locs_36 hB_36 _ hk_36 hS => ?_)
      have hP : va_P D vwCl (cs7 ct a r_36.2) H_36 := hB_36
      refine lv_istore_n (lv' := [(2, .int r_36.1), (0, .ref (a 0)), (1, .ref (ab 0)), (3, .int v3)]) hx hb dX7_scan_39 rfl hl (by decide) rfl (fun ls hl => ?_)
      refine lv_iinc (v := (v3 + 1)) (lv' := [(3, .int (v3 + 1)), (2, .int r_36.1), (0, .ref (a 0)), (1, .ref (ab 0))]) hx hb dX7_scan_40 hl (k := 3) rfl rfl (by decide) rfl (fun ls hl => ?_)
      refine lv_goto (tgt := 9) hx hb dX7_scan_43 (by decide) ?_
      exact ih r_36.2 r_36.1 (v3 + 1) _ _ _ hP hS (lv_sub hl [2, 3, 1, 0] rfl) hf k46
  rw [p_X7_scan] at hf
  refine lv_aload_n hx hb dX7_scan_0 rfl (lv_at hl 0 rfl) ?_
  refine lv_iconst (v := 0) hx hb dX7_scan_1 (by decide) ?_
  refine va_put (D := D) (ci := 7) (v := .int 0) (ty := .int) (C := RX7) (T := TX7) (N := 4) hx hb htl inlX7 tyX7 tyX7_ok nmX7 hown hK hP (hDW o) hS 0 rfl rfl 3 (by decide) (htl _ wq_4_4) (fun _ h9 => h9) rfl (tyX7_ok 3 (by decide)) rfl rfl (Nat.le_of_ble_eq_true rfl) dX7_scan_2 (fun H_2 locs_2 hP _ hS => ?_)
  have hP : va_P D vwCl (cs7 ct a (oI o 3 (0 : Int32))) H_2 := st7_3 hP
  refine lv_iconst (v := 0) hx hb dX7_scan_5 (by decide) ?_
  refine lv_istore_n (lv' := [(2, .int 0), (0, .ref (a 0)), (1, .ref (ab 0))]) hx hb dX7_scan_6 rfl hl (by decide) rfl (fun ls hl => ?_)
  refine lv_iconst (v := 0) hx hb dX7_scan_7 (by decide) ?_
  refine lv_istore_n (lv' := [(3, .int 0), (2, .int 0), (0, .ref (a 0)), (1, .ref (ab 0))]) hx hb dX7_scan_8 rfl hl (by decide) rfl (fun ls hl => ?_)
  refine hL9 _ fu (oI o 3 (0 : Int32)) 0 0 _ _ _ hP hS (lv_sub hl [2, 3, 1, 0] rfl) hf (fun oz H locs ls hP hS hl hf => ?_)
  refine lv_aload_n hx hb dX7_scan_46 rfl (lv_at hl 0 rfl) ?_
  refine lv_iconst (v := 0) hx hb dX7_scan_47 (by decide) ?_
  refine lv_aload_n hx hb dX7_scan_48 rfl (lv_at hl 1 rfl) ?_
  refine va_getN (D := D) (ci := 6) (v := .int (o1.1 1 0)) (C := RX6) (T := TX6) (N := 2) hx hb htl inlX6 hown hK (hRR _ _ hS) 0 rfl rfl 1 (by decide) (va_Nw.use rfl (hN _ nm_64)) (fun _ h9 => h9) rfl dX7_scan_49 ?_
  refine lv_iconst (v := 0) hx hb dX7_scan_52 (by decide) ?_
  obtain ⟨r_53, e_53, hf⟩ := ob_bind hf
  have hPX_53 : va_P D vwCl (cs7 ct a oz) H := hP
  refine wr_call0 (va_runV (As := [.int 0, .int (o1.1 1 0), .int 0]) (rest := []) ⟨hx, hb, hml, hown, htl⟩ (c_X7_add l D ct G a fu oz (0 : Int32) (o1.1 1 0) (0 : Int32) e_53 ((hDx oz).sub (ws' := cs7 ct a oz) [0, 1, 2, 3] (by decide) rfl)) (cw_X7_X7_add htl ⟨Nat.le_of_ble_eq_true rfl, Nat.le_of_ble_eq_true rfl⟩) ⟨Bx_blind, va_recv hK hPX_53 (ci := 7) (q0 := 0) rfl rfl, Bx_pre hPX_53 hK hN (hX.stay hS hGE)⟩ rfl rfl hl.1 rfl (lv_room (Nat.le_of_ble_eq_true rfl)) dX7_scan_53 ⟨Nat.zero_le _, Nat.zero_le _⟩) hS (wA_cg rfl) (fun H_53 locs_53 hB_53 _ hk_53 hS => ?_)
  have hP : va_P D vwCl (cs7 ct a r_53) H_53 := hB_53
  rw [← hQQ]
  cases hf
  exact rw_v hx hb hr hlocks hP hS dX7_scan_56
theorem c_X7_scan (l : Launch) (D : va_G) (ct : Nat → ClassId) (G : GT) (a : Nat → Nat) (ab : Nat → Nat) (fu : Nat) (o : Ob) (o1 : Ob) {r : Ob} (hf : p_X7_scan fu o o1 = some r)  (hD0 : va_D (GE G) (cs7 ct a o ++ (cs6 ct ab o1))) : Met l yX7_scan (.code yX7_scan cX7_scan 4 none :: wsL_law) rm_X7_scan (va_Pc [.ref (a 0), .ref (ab 0)] (Bx D ct G (cs7 ct a o ++ (cs6 ct ab o1)))) (Qwr none (fun H => va_P D vwCl (cs7 ct a r) H) (wA (cs7 ct a o))) 0 0 (wA (cs7 ct a o)) := by
  refine Met.ofW (cc := cX7_scan) (maxL := 4) (ret := none) (by decide) rfl ?_
  intro p e s m args below meth c s₁ B hml hv
  obtain ⟨rfl, hP, hK, hN, hX⟩ := hv
  have hts := atoms_spec (ws := .code yX7_scan cX7_scan 4 none :: wsL_law) B.pre
  rw [lg_entry_eq]
  exact b_X7_scan a ab fu o o1 B.exec B.bytes B.returns hml (findClass_of_methodNamed B.named) (fun w h => hts w (List.mem_cons_of_mem _ h)) B.notSynchronized hK hN hX hP hf hD0  (lv_entry [.ref (a 0), .ref (ab 0)] (n := 4) (Nat.le_of_ble_eq_true rfl))
theorem hd_X7_scan : yX7_scan.cls ≠ "java/lang/invoke/MethodHandle" ∧ yX7_scan.cls ≠ "java/lang/invoke/VarHandle" ∧ (parseMethodDescriptor yX7_scan.desc).map (fun d => d.parameters.length) = some 1 := by decide +kernel
theorem cw_X1_X7_scan {R : Room} {s : State} {args : Array Value} (ht : ∀ w ∈ wsL_law, w.before args s = true) (hN : ∀ w ∈ NW, va_Nw w s) (hR : rm_X7_scan.frames + 1 ≤ R.frames ∧ 8 + (4 + 11) + rm_X7_scan.locals ≤ R.locals) : va_CN R s args RX1 38 yX7_scan "QuotedRiver" cX7_scan 4 none ((.code yX7_scan cX7_scan 4 none) :: wsL_law) rm_X7_scan 0 0 1 ∧ (Cond.instanceMethod yX7_scan).before args s = true ∧ (Cond.selects RX7 yX7_scan yX7_scan).before args s = true := ⟨va_cnB 1 ht (GL wq_9_13) rfl rfl rfl (hN _ nm_115) (ht _ wq_3_14) hd_X7_scan hR, ht _ wq_9_11, ht _ wq_9_12⟩
theorem hd_X2_clear : yX2_clear.cls ≠ "java/lang/invoke/MethodHandle" ∧ yX2_clear.cls ≠ "java/lang/invoke/VarHandle" ∧ (parseMethodDescriptor yX2_clear.desc).map (fun d => d.parameters.length) = some 0 := by decide +kernel
theorem cw_X1_X2_clear {R : Room} {s : State} {args : Array Value} (ht : ∀ w ∈ wsL_law, w.before args s = true) (hN : ∀ w ∈ NW, va_Nw w s) (hR : rm_X2_clear.frames + 1 ≤ R.frames ∧ 8 + (1 + 11) + rm_X2_clear.locals ≤ R.locals) : va_CN R s args RX1 42 yX2_clear "QuotedRiver" cX2_clear 1 none ((.code yX2_clear cX2_clear 1 none) :: wsL_law) rm_X2_clear 0 0 0 ∧ (Cond.instanceMethod yX2_clear).before args s = true ∧ (Cond.selects RX2 yX2_clear yX2_clear).before args s = true := ⟨va_cnB 0 ht (GL wq_13_3) rfl rfl rfl (hN _ nm_116) (ht _ wq_1_23) hd_X2_clear hR, ht _ wq_13_1, ht _ wq_13_2⟩
theorem hd_X1_readRain : yX1_readRain.cls ≠ "java/lang/invoke/MethodHandle" ∧ yX1_readRain.cls ≠ "java/lang/invoke/VarHandle" ∧ (parseMethodDescriptor yX1_readRain.desc).map (fun d => d.parameters.length) = some 0 := by decide +kernel
theorem cw_X1_X1_readRain {R : Room} {s : State} {args : Array Value} (ht : ∀ w ∈ wsL_law, w.before args s = true) (hR : rm_X1_readRain.frames + 1 ≤ R.frames ∧ 8 + (2 + 11) + rm_X1_readRain.locals ≤ R.locals) : CallW R s args RX1 RX1 62 yX1_readRain cX1_readRain 2 none ((.code yX1_readRain cX1_readRain 2 none) :: wsL_law) rm_X1_readRain 0 0 0 := cwV 0 ht (GV wq_14_15 wq_14_16 wq_14_17 wq_1_19 wq_14_18) rfl rfl rfl ⟨rfl, hd_X1_readRain⟩ hR
theorem hd_X1_readJoin : yX1_readJoin.cls ≠ "java/lang/invoke/MethodHandle" ∧ yX1_readJoin.cls ≠ "java/lang/invoke/VarHandle" ∧ (parseMethodDescriptor yX1_readJoin.desc).map (fun d => d.parameters.length) = some 0 := by decide +kernel
theorem cw_X1_X1_readJoin {R : Room} {s : State} {args : Array Value} (ht : ∀ w ∈ wsL_law, w.before args s = true) (hR : rm_X1_readJoin.frames + 1 ≤ R.frames ∧ 8 + (3 + 11) + rm_X1_readJoin.locals ≤ R.locals) : CallW R s args RX1 RX1 59 yX1_readJoin cX1_readJoin 3 none ((.code yX1_readJoin cX1_readJoin 3 none) :: wsL_law) rm_X1_readJoin 0 0 0 := cwV 0 ht (GV wq_14_11 wq_14_12 wq_14_13 wq_1_19 wq_14_14) rfl rfl rfl ⟨rfl, hd_X1_readJoin⟩ hR
theorem hd_X1_readReach : yX1_readReach.cls ≠ "java/lang/invoke/MethodHandle" ∧ yX1_readReach.cls ≠ "java/lang/invoke/VarHandle" ∧ (parseMethodDescriptor yX1_readReach.desc).map (fun d => d.parameters.length) = some 0 := by decide +kernel
theorem cw_X1_X1_readReach {R : Room} {s : State} {args : Array Value} (ht : ∀ w ∈ wsL_law, w.before args s = true) (hR : rm_X1_readReach.frames + 1 ≤ R.frames ∧ 8 + (2 + 11) + rm_X1_readReach.locals ≤ R.locals) : CallW R s args RX1 RX1 56 yX1_readReach cX1_readReach 2 none ((.code yX1_readReach cX1_readReach 2 none) :: wsL_law) rm_X1_readReach 0 0 0 := cwV 0 ht (GV wq_14_2 wq_14_3 wq_14_4 wq_1_19 wq_14_5) rfl rfl rfl ⟨rfl, hd_X1_readReach⟩ hR
theorem hd_X1_readRivers : yX1_readRivers.cls ≠ "java/lang/invoke/MethodHandle" ∧ yX1_readRivers.cls ≠ "java/lang/invoke/VarHandle" ∧ (parseMethodDescriptor yX1_readRivers.desc).map (fun d => d.parameters.length) = some 0 := by decide +kernel
theorem cw_X1_X1_readRivers {R : Room} {s : State} {args : Array Value} (ht : ∀ w ∈ wsL_law, w.before args s = true) (hR : rm_X1_readRivers.frames + 1 ≤ R.frames ∧ 8 + (1 + 11) + rm_X1_readRivers.locals ≤ R.locals) : CallW R s args RX1 RX1 53 yX1_readRivers cX1_readRivers 1 none ((.code yX1_readRivers cX1_readRivers 1 none) :: wsL_law) rm_X1_readRivers 0 0 0 := cwV 0 ht (GV wq_13_6 wq_13_7 wq_13_8 wq_1_19 wq_13_9) rfl rfl rfl ⟨rfl, hd_X1_readRivers⟩ hR
theorem hd_X2_sendToSea : yX2_sendToSea.cls ≠ "java/lang/invoke/MethodHandle" ∧ yX2_sendToSea.cls ≠ "java/lang/invoke/VarHandle" ∧ (parseMethodDescriptor yX2_sendToSea.desc).map (fun d => d.parameters.length) = some 0 := by decide +kernel
theorem cw_X1_X2_sendToSea {R : Room} {s : State} {args : Array Value} (ht : ∀ w ∈ wsL_law, w.before args s = true) (hN : ∀ w ∈ NW, va_Nw w s) (hR : rm_X2_sendToSea.frames + 1 ≤ R.frames ∧ 8 + (2 + 11) + rm_X2_sendToSea.locals ≤ R.locals) : va_CN R s args RX1 75 yX2_sendToSea "QuotedRiver" cX2_sendToSea 2 none ((.code yX2_sendToSea cX2_sendToSea 2 none) :: wsL_law) rm_X2_sendToSea 0 0 0 ∧ (Cond.instanceMethod yX2_sendToSea).before args s = true ∧ (Cond.selects RX2 yX2_sendToSea yX2_sendToSea).before args s = true := ⟨va_cnB 0 ht (GL wq_14_21) rfl rfl rfl (hN _ nm_118) (ht _ wq_1_23) hd_X2_sendToSea hR, ht _ wq_14_19, ht _ wq_14_20⟩
def p_X1_read_J130 (fu : Nat) (o1 : Ob) (c45 : Ob → Ob → Ob → Int32 → Option (Ob × Ob × Ob)) (oz : Ob) (okz : Ob) (ovz : Ob) (v2 : Int32) : Option (Ob × Ob × Ob) :=
    (p_X1_take fu oz okz ovz (1 : Int32)).bind fun r_132 => c45 r_132.1 r_132.2.1 r_132.2.2 (v2 + 1)
def p_X1_read_L45 (fu : Nat) (o1 : Ob) (c141 : Ob → Ob → Ob → Option (Ob × Ob × Ob)) : Nat → Ob → Ob → Ob → Int32 → Option (Ob × Ob × Ob)
  | 0, _, _, _, _ => none
  | n + 1, oz, okz, ovz, v2 =>
    if (700 : Int32) ≤ v2 then c141 oz okz ovz else if (oz.1 4 0) = 0 then c141 oz okz ovz else if (oz.1 2 0) = 0 then if v2 = 0 then (p_X1_readRivers fu oz okz ovz).bind fun r_71 => p_X1_read_J130 fu o1 (fun oz okz ovz v2 => p_X1_read_L45 fu o1 c141 n oz okz ovz v2) r_71.1 r_71.2.1 r_71.2.2 v2 else if (oz.1 4 0) = (8 : Int32) then (p_X1_readReach fu oz okz ovz).bind fun r_87 => p_X1_read_J130 fu o1 (fun oz okz ovz v2 => p_X1_read_L45 fu o1 c141 n oz okz ovz v2) r_87.1 r_87.2.1 r_87.2.2 v2 else if (oz.1 4 0) = (13 : Int32) then (p_X1_readJoin fu oz okz ovz).bind fun r_103 => p_X1_read_J130 fu o1 (fun oz okz ovz v2 => p_X1_read_L45 fu o1 c141 n oz okz ovz v2) r_103.1 r_103.2.1 r_103.2.2 v2 else if (oz.1 4 0) = (16 : Int32) then (p_X1_readRain fu oz okz ovz).bind fun r_119 => p_X1_read_J130 fu o1 (fun oz okz ovz v2 => p_X1_read_L45 fu o1 c141 n oz okz ovz v2) r_119.1 r_119.2.1 r_119.2.2 v2 else (p_X1_blame fu oz okz ovz (1 : Int32)).bind fun r_127 => p_X1_read_J130 fu o1 (fun oz okz ovz v2 => p_X1_read_L45 fu o1 c141 n oz okz ovz v2) r_127.1 r_127.2.1 r_127.2.2 v2 else c141 oz okz ovz
def p_X1_read_J167 (fu : Nat) (o1 : Ob)  (oz : Ob) (okz : Ob) (ovz : Ob) (s1 : Int32) : Option (Ob × Ob × Ob) :=
    (p_X2_sendToSea fu ovz).bind fun r_174 => some ((oI oz 3 s1), okz, r_174)
def p_X1_read (fu : Nat) (o : Ob) (ok : Ob) (ov : Ob) (o1 : Ob) : Option (Ob × Ob × Ob) :=
  (p_X7_scan fu ok o1).bind fun r_5 => (p_X2_clear fu ov).bind fun r_12 => (p_X9_pick fu 701 (r_5.1 0) ((oI (oI o 2 (0 : Int32)) 5 (0 : Int32)).1 5 0)).bind fun r_37 => p_X1_read_L45 fu o1 (fun oz okz ovz => if (oz.1 2 0) = 0 then p_X1_read_J167 fu o1 oz okz ovz (-1) else (p_X9_pick fu 701 (okz.1 1) (oz.1 5 0)).bind fun r_164 => p_X1_read_J167 fu o1 oz okz ovz r_164) fu (oI (oI (oI o 2 (0 : Int32)) 5 (0 : Int32)) 4 r_37) r_5 r_12 0
abbrev rm_X1_read : Room := { frames := 8, cells := 0, slots := 0, locals := 176 }
set_option maxHeartbeats 4000000 in
set_option maxRecDepth 100000 in
theorem b_X1_read {p : Program} {l : Launch} {e : Env} {s : State} {m : MethodId} {args : Array Value} {below : List Frame} {meth : Method} {c : Code} {ls : Array Slot} {D : va_G} {ct : Nat → ClassId} {G : GT} (a : Nat → Nat) (ab : Nat → Nat) (fu : Nat) (o : Ob) (ok : Ob) (ov : Ob) (o1 : Ob) {r : Ob × Ob × Ob} (hx : p.tables.exec = Jvm.exec) (hb : c.code = cX1_read) (hr : meth.sig.returnType = none) (hml : c.maxLocals = 3) (hown : s.vm.findClass RX1 = some m.cls) (htl : ∀ w ∈ wsL_law, w.before args s = true) (hlocks : meth.locks = false) (hK : va_K D vwCl (tyl ct) s) (hN : ∀ w ∈ NW, va_Nw w s) (hX : SX G s s.heap) (hP0 : va_P D vwCl (cs1 ct a o ok ov ++ (cs6 ct ab o1)) s.heap) (hf : p_X1_read fu o ok ov o1 = some r) (hD0 : va_D (GE G) (cs1 ct a o ok ov ++ (cs6 ct ab o1)))  (hl : lv_has ls 3 [(0, .ref (a 0)), (1, .ref (ab 0))]) : W p l e rm_X1_read s m args below meth c s.heap [] 0 0 (MQ below (Qwr none (fun H => va_P D vwCl (cs1 ct a r.1 r.2.1 r.2.2) H) (wA (cs1 ct a o ok ov))) args s 0 0 (wA (cs1 ct a o ok ov))) (F0 m 0 ls []) := by
  generalize hQQ : MQ below (Qwr none (fun H => va_P D vwCl (cs1 ct a r.1 r.2.1 r.2.2) H) (wA (cs1 ct a o ok ov))) args s 0 0 (wA (cs1 ct a o ok ov)) = QQ
  have hDx : ∀ (oy : Ob) (oky : Ob) (ovy : Ob), va_D (GE G) (cs1 ct a oy oky ovy ++ (cs6 ct ab o1)) := fun oy oky ovy => D_cr hD0 rfl
  have hDW : ∀ (oy : Ob) (oky : Ob) (ovy : Ob), va_D (wA (cs1 ct a o ok ov)) (cs1 ct a oy oky ovy) := fun oy oky ovy => D_cr (D_left hD0) rfl
  have hGE : ∀ q, wA (cs1 ct a o ok ov) q → GE G q := wA_GEl hD0
  have hP : va_P D vwCl (cs1 ct a o ok ov) s.heap := P_left hP0
  have hRR : ∀ (H : Heap) (locs : List Loc), va_S (wA (cs1 ct a o ok ov)) s.heap H locs → va_P D vwCl (cs6 ct ab o1) H := fun H locs hS => P_rest hD0 (P_right hP0) hS
  have hS : va_S (wA (cs1 ct a o ok ov)) s.heap s.heap [] := va_S.rf
  have hJ130 : ∀ (c45 : Ob → Ob → Ob → Int32 → Option (Ob × Ob × Ob)) (oz : Ob) (okz : Ob) (ovz : Ob) (v2 : Int32), ∀ (H : Heap) (locs : List Loc) (ls : Array Slot), va_P D vwCl (cs1 ct a oz okz ovz) H → va_S (wA (cs1 ct a o ok ov)) s.heap H locs → lv_has ls 3 [(0, .ref (a 0)), (2, .int v2)] → p_X1_read_J130 fu o1 c45 oz okz ovz v2 = some r → (∀ (oz : Ob) (okz : Ob) (ovz : Ob) (v2 : Int32), ∀ (H : Heap) (locs : List Loc) (ls : Array Slot), va_P D vwCl (cs1 ct a oz okz ovz) H → va_S (wA (cs1 ct a o ok ov)) s.heap H locs → lv_has ls 3 [(0, .ref (a 0)), (2, .int v2)] → c45 oz okz ovz v2 = some r → W p l e rm_X1_read s m args below meth c H locs 0 0 QQ (F0 m 45 ls [])) → W p l e rm_X1_read s m args below meth c H locs 0 0 QQ (F0 m 130 ls []) := by
    intro c45 oz okz ovz v2 H locs ls hP hS hl hf k45
    rw [p_X1_read_J130] at hf
    refine lv_aload_n hx hb dX1_read_130 rfl (lv_at hl 0 rfl) ?_
    refine lv_iconst (v := 1) hx hb dX1_read_131 (by decide) ?_
    obtain ⟨r_132, e_132, hf⟩ := ob_bind hf
    have hPX_132 : va_P D vwCl (cs1 ct a oz okz ovz) H := hP
    refine wr_call0 (va_runV (As := [.int 1]) (rest := []) ⟨hx, hb, hml, hown, htl⟩ (c_X1_take l D ct G a fu oz okz ovz (1 : Int32) e_132 ((hDx oz okz ovz).sub (ws' := cs1 ct a oz okz ovz) [0, 1, 2, 3, 4, 5, 6, 7, 8, 9, 10, 11, 12, 13, 14, 15, 16, 17] (by decide) rfl)) (cw_X1_X1_take htl ⟨Nat.le_of_ble_eq_true rfl, Nat.le_of_ble_eq_true rfl⟩) ⟨Bx_blind, va_recv hK hPX_132 (ci := 1) (q0 := 0) rfl rfl, Bx_pre hPX_132 hK hN (hX.stay hS hGE)⟩ rfl rfl hl.1 rfl (lv_room (Nat.le_of_ble_eq_true rfl)) dX1_read_132 ⟨Nat.zero_le _, Nat.zero_le _⟩) hS (wA_cg rfl) (fun H_132 locs_132 hB_132 _ hk_132 hS => ?_)
    have hP : va_P D vwCl (cs1 ct a r_132.1 r_132.2.1 r_132.2.2) H_132 := hB_132
    refine lv_iinc (v := (v2 + 1)) (lv' := [(2, .int (v2 + 1)), (0, .ref (a 0))]) hx hb dX1_read_135 hl (k := 1) rfl rfl (by decide) rfl (fun ls hl => ?_)
    refine lv_goto (tgt := 45) hx hb dX1_read_138 (by decide) ?_
    exact k45 r_132.1 r_132.2.1 r_132.2.2 (v2 + 1) _ _ _ hP hS (lv_sub hl [1, 0] rfl) hf
  have hL45 : ∀ (c141 : Ob → Ob → Ob → Option (Ob × Ob × Ob)) (n : Nat) (oz : Ob) (okz : Ob) (ovz : Ob) (v2 : Int32), ∀ (H : Heap) (locs : List Loc) (ls : Array Slot), va_P D vwCl (cs1 ct a oz okz ovz) H → va_S (wA (cs1 ct a o ok ov)) s.heap H locs → lv_has ls 3 [(0, .ref (a 0)), (2, .int v2)] → p_X1_read_L45 fu o1 c141 n oz okz ovz v2 = some r → (∀ (oz : Ob) (okz : Ob) (ovz : Ob), ∀ (H : Heap) (locs : List Loc) (ls : Array Slot), va_P D vwCl (cs1 ct a oz okz ovz) H → va_S (wA (cs1 ct a o ok ov)) s.heap H locs → lv_has ls 3 [(0, .ref (a 0))] → c141 oz okz ovz = some r → W p l e rm_X1_read s m args below meth c H locs 0 0 QQ (F0 m 141 ls [])) → W p l e rm_X1_read s m args below meth c H locs 0 0 QQ (F0 m 45 ls []) := by
    intro c141 n
    induction n with
    | zero =>
      intro oz okz ovz v2 H locs ls hP hS hl hf k141
      rw [p_X1_read_L45] at hf
      cases hf
    | succ n ih =>
      intro oz okz ovz v2 H locs ls hP hS hl hf k141
      rw [p_X1_read_L45] at hf
      refine lv_iload_n hx hb dX1_read_45 rfl (lv_at hl 1 rfl) ?_
      refine lv_sipush (v := 700) hx hb dX1_read_46 (by decide) ?_
      refine lv_icmp_ge (tgt := 141) hx hb dX1_read_49 (by decide) (fun c_49 => ?_) (fun c_49 => ?_)
      · rw [if_pos c_49] at hf
        exact k141 oz okz ovz _ _ _ hP hS (lv_sub hl [0] rfl) hf
      rw [if_neg c_49] at hf
      refine lv_aload_n hx hb dX1_read_52 rfl (lv_at hl 0 rfl) ?_
      refine va_get (D := D) (ci := 1) (v := .int (oz.1 4 0)) (C := RX1) (T := TX1) (N := 6) hx hb htl inlX1 hown hK hP 0 rfl rfl 4 (by decide) (htl _ wq_3_20) (fun _ h9 => h9) rfl dX1_read_53 ?_
      refine lv_if_eq (tgt := 141) hx hb dX1_read_56 (by decide) (fun c_56 => ?_) (fun c_56 => ?_)
      · rw [if_pos c_56] at hf
        exact k141 oz okz ovz _ _ _ hP hS (lv_sub hl [0] rfl) hf
      rw [if_neg c_56] at hf
      refine lv_aload_n hx hb dX1_read_59 rfl (lv_at hl 0 rfl) ?_
      refine va_get (D := D) (ci := 1) (v := .int (oz.1 2 0)) (C := RX1) (T := TX1) (N := 6) hx hb htl inlX1 hown hK hP 0 rfl rfl 2 (by decide) (htl _ wq_3_18) (fun _ h9 => h9) rfl dX1_read_60 ?_
      refine lv_if_ne (tgt := 141) hx hb dX1_read_63 (by decide) (fun c_63 => ?_) (fun c_63 => ?_)
      · rw [if_neg c_63] at hf
        exact k141 oz okz ovz _ _ _ hP hS (lv_sub hl [0] rfl) hf
      rw [if_pos c_63] at hf
      refine lv_iload_n hx hb dX1_read_66 rfl (lv_at hl 1 rfl) ?_
      refine lv_if_ne (tgt := 77) hx hb dX1_read_67 (by decide) (fun c_67 => ?_) (fun c_67 => ?_)
      rotate_left 1
      · rw [if_pos c_67] at hf
        refine lv_aload_n hx hb dX1_read_70 rfl (lv_at hl 0 rfl) ?_
        obtain ⟨r_71, e_71, hf⟩ := ob_bind hf
        have hPX_71 : va_P D vwCl (cs1 ct a oz okz ovz) H := hP
        refine wr_call0 (va_runV (As := []) (rest := []) ⟨hx, hb, hml, hown, htl⟩ (c_X1_readRivers l D ct G a fu oz okz ovz e_71 ((hDx oz okz ovz).sub (ws' := cs1 ct a oz okz ovz) [0, 1, 2, 3, 4, 5, 6, 7, 8, 9, 10, 11, 12, 13, 14, 15, 16, 17] (by decide) rfl)) (cw_X1_X1_readRivers htl ⟨Nat.le_of_ble_eq_true rfl, Nat.le_of_ble_eq_true rfl⟩) ⟨Bx_blind, va_recv hK hPX_71 (ci := 1) (q0 := 0) rfl rfl, Bx_pre hPX_71 hK hN (hX.stay hS hGE)⟩ rfl rfl hl.1 rfl (lv_room (Nat.le_of_ble_eq_true rfl)) dX1_read_71 ⟨Nat.zero_le _, Nat.zero_le _⟩) hS (wA_cg rfl) (fun H_71 locs_71 hB_71 _ hk_71 hS => ?_)
        have hP : va_P D vwCl (cs1 ct a r_71.1 r_71.2.1 r_71.2.2) H_71 := hB_71
        refine lv_goto (tgt := 130) hx hb dX1_read_74 (by decide) ?_
        exact hJ130 _ r_71.1 r_71.2.1 r_71.2.2 v2 _ _ _ hP hS (lv_sub hl [0, 1] rfl) hf (fun oz okz ovz v2 H locs ls hP hS hl hf => ih oz okz ovz v2 H locs ls hP hS hl hf k141)
      rw [if_neg c_67] at hf
      refine lv_aload_n hx hb dX1_read_77 rfl (lv_at hl 0 rfl) ?_
      refine va_get (D := D) (ci := 1) (v := .int (oz.1 4 0)) (C := RX1) (T := TX1) (N := 6) hx hb htl inlX1 hown hK hP 0 rfl rfl 4 (by decide) (htl _ wq_3_20) (fun _ h9 => h9) rfl dX1_read_78 ?_
      refine lv_bipush (v := 8) hx hb dX1_read_81 (by decide) ?_
      refine lv_icmp_ne (tgt := 93) hx hb dX1_read_83 (by decide) (fun c_83 => ?_) (fun c_83 => ?_)
      rotate_left 1
      · rw [if_pos c_83] at hf
        refine lv_aload_n hx hb dX1_read_86 rfl (lv_at hl 0 rfl) ?_
        obtain ⟨r_87, e_87, hf⟩ := ob_bind hf
        have hPX_87 : va_P D vwCl (cs1 ct a oz okz ovz) H := hP
        refine wr_call0 (va_runV (As := []) (rest := []) ⟨hx, hb, hml, hown, htl⟩ (c_X1_readReach l D ct G a fu oz okz ovz e_87 ((hDx oz okz ovz).sub (ws' := cs1 ct a oz okz ovz) [0, 1, 2, 3, 4, 5, 6, 7, 8, 9, 10, 11, 12, 13, 14, 15, 16, 17] (by decide) rfl)) (cw_X1_X1_readReach htl ⟨Nat.le_of_ble_eq_true rfl, Nat.le_of_ble_eq_true rfl⟩) ⟨Bx_blind, va_recv hK hPX_87 (ci := 1) (q0 := 0) rfl rfl, Bx_pre hPX_87 hK hN (hX.stay hS hGE)⟩ rfl rfl hl.1 rfl (lv_room (Nat.le_of_ble_eq_true rfl)) dX1_read_87 ⟨Nat.zero_le _, Nat.zero_le _⟩) hS (wA_cg rfl) (fun H_87 locs_87 hB_87 _ hk_87 hS => ?_)
        have hP : va_P D vwCl (cs1 ct a r_87.1 r_87.2.1 r_87.2.2) H_87 := hB_87
        refine lv_goto (tgt := 130) hx hb dX1_read_90 (by decide) ?_
        exact hJ130 _ r_87.1 r_87.2.1 r_87.2.2 v2 _ _ _ hP hS (lv_sub hl [0, 1] rfl) hf (fun oz okz ovz v2 H locs ls hP hS hl hf => ih oz okz ovz v2 H locs ls hP hS hl hf k141)
      rw [if_neg c_83] at hf
      refine lv_aload_n hx hb dX1_read_93 rfl (lv_at hl 0 rfl) ?_
      refine va_get (D := D) (ci := 1) (v := .int (oz.1 4 0)) (C := RX1) (T := TX1) (N := 6) hx hb htl inlX1 hown hK hP 0 rfl rfl 4 (by decide) (htl _ wq_3_20) (fun _ h9 => h9) rfl dX1_read_94 ?_
      refine lv_bipush (v := 13) hx hb dX1_read_97 (by decide) ?_
      refine lv_icmp_ne (tgt := 109) hx hb dX1_read_99 (by decide) (fun c_99 => ?_) (fun c_99 => ?_)
      rotate_left 1
      · rw [if_pos c_99] at hf
        refine lv_aload_n hx hb dX1_read_102 rfl (lv_at hl 0 rfl) ?_
        obtain ⟨r_103, e_103, hf⟩ := ob_bind hf
        have hPX_103 : va_P D vwCl (cs1 ct a oz okz ovz) H := hP
        refine wr_call0 (va_runV (As := []) (rest := []) ⟨hx, hb, hml, hown, htl⟩ (c_X1_readJoin l D ct G a fu oz okz ovz e_103 ((hDx oz okz ovz).sub (ws' := cs1 ct a oz okz ovz) [0, 1, 2, 3, 4, 5, 6, 7, 8, 9, 10, 11, 12, 13, 14, 15, 16, 17] (by decide) rfl)) (cw_X1_X1_readJoin htl ⟨Nat.le_of_ble_eq_true rfl, Nat.le_of_ble_eq_true rfl⟩) ⟨Bx_blind, va_recv hK hPX_103 (ci := 1) (q0 := 0) rfl rfl, Bx_pre hPX_103 hK hN (hX.stay hS hGE)⟩ rfl rfl hl.1 rfl (lv_room (Nat.le_of_ble_eq_true rfl)) dX1_read_103 ⟨Nat.zero_le _, Nat.zero_le _⟩) hS (wA_cg rfl) (fun H_103 locs_103 hB_103 _ hk_103 hS => ?_)
        have hP : va_P D vwCl (cs1 ct a r_103.1 r_103.2.1 r_103.2.2) H_103 := hB_103
        refine lv_goto (tgt := 130) hx hb dX1_read_106 (by decide) ?_
        exact hJ130 _ r_103.1 r_103.2.1 r_103.2.2 v2 _ _ _ hP hS (lv_sub hl [0, 1] rfl) hf (fun oz okz ovz v2 H locs ls hP hS hl hf => ih oz okz ovz v2 H locs ls hP hS hl hf k141)
      rw [if_neg c_99] at hf
      refine lv_aload_n hx hb dX1_read_109 rfl (lv_at hl 0 rfl) ?_
      refine va_get (D := D) (ci := 1) (v := .int (oz.1 4 0)) (C := RX1) (T := TX1) (N := 6) hx hb htl inlX1 hown hK hP 0 rfl rfl 4 (by decide) (htl _ wq_3_20) (fun _ h9 => h9) rfl dX1_read_110 ?_
      refine lv_bipush (v := 16) hx hb dX1_read_113 (by decide) ?_
      refine lv_icmp_ne (tgt := 125) hx hb dX1_read_115 (by decide) (fun c_115 => ?_) (fun c_115 => ?_)
      · rw [if_neg c_115] at hf
        refine lv_aload_n hx hb dX1_read_125 rfl (lv_at hl 0 rfl) ?_
        refine lv_iconst (v := 1) hx hb dX1_read_126 (by decide) ?_
        obtain ⟨r_127, e_127, hf⟩ := ob_bind hf
        have hPX_127 : va_P D vwCl (cs1 ct a oz okz ovz) H := hP
        refine wr_call0 (va_runV (As := [.int 1]) (rest := []) ⟨hx, hb, hml, hown, htl⟩ (c_X1_blame l D ct G a fu oz okz ovz (1 : Int32) e_127 ((hDx oz okz ovz).sub (ws' := cs1 ct a oz okz ovz) [0, 1, 2, 3, 4, 5, 6, 7, 8, 9, 10, 11, 12, 13, 14, 15, 16, 17] (by decide) rfl)) (cw_X1_X1_blame htl ⟨Nat.le_of_ble_eq_true rfl, Nat.le_of_ble_eq_true rfl⟩) ⟨Bx_blind, va_recv hK hPX_127 (ci := 1) (q0 := 0) rfl rfl, Bx_pre hPX_127 hK hN (hX.stay hS hGE)⟩ rfl rfl hl.1 rfl (lv_room (Nat.le_of_ble_eq_true rfl)) dX1_read_127 ⟨Nat.zero_le _, Nat.zero_le _⟩) hS (wA_cg rfl) (fun H_127 locs_127 hB_127 _ hk_127 hS => ?_)
        have hP : va_P D vwCl (cs1 ct a r_127.1 r_127.2.1 r_127.2.2) H_127 := hB_127
        exact hJ130 _ r_127.1 r_127.2.1 r_127.2.2 v2 _ _ _ hP hS (lv_sub hl [0, 1] rfl) hf (fun oz okz ovz v2 H locs ls hP hS hl hf => ih oz okz ovz v2 H locs ls hP hS hl hf k141)
      rw [if_pos c_115] at hf
      refine lv_aload_n hx hb dX1_read_118 rfl (lv_at hl 0 rfl) ?_
      obtain ⟨r_119, e_119, hf⟩ := ob_bind hf
      have hPX_119 : va_P D vwCl (cs1 ct a oz okz ovz) H := hP
      refine wr_call0 (va_runV (As := []) (rest := []) ⟨hx, hb, hml, hown, htl⟩ (c_X1_readRain l D ct G a fu oz okz ovz e_119 ((hDx oz okz ovz).sub (ws' := cs1 ct a oz okz ovz) [0, 1, 2, 3, 4, 5, 6, 7, 8, 9, 10, 11, 12, 13, 14, 15, 16, 17] (by decide) rfl)) (cw_X1_X1_readRain htl ⟨Nat.le_of_ble_eq_true rfl, Nat.le_of_ble_eq_true rfl⟩) ⟨Bx_blind, va_recv hK hPX_119 (ci := 1) (q0 := 0) rfl rfl, Bx_pre hPX_119 hK hN (hX.stay hS hGE)⟩ rfl rfl hl.1 rfl (lv_room (Nat.le_of_ble_eq_true rfl)) dX1_read_119 ⟨Nat.zero_le _, Nat.zero_le _⟩) hS (wA_cg rfl) (fun H_119 locs_119 hB_119 _ hk_119 hS => ?_)
      have hP : va_P D vwCl (cs1 ct a r_119.1 r_119.2.1 r_119.2.2) H_119 := hB_119
      refine lv_goto (tgt := 130) hx hb dX1_read_122 (by decide) ?_
      exact hJ130 _ r_119.1 r_119.2.1 r_119.2.2 v2 _ _ _ hP hS (lv_sub hl [0, 1] rfl) hf (fun oz okz ovz v2 H locs ls hP hS hl hf => ih oz okz ovz v2 H locs ls hP hS hl hf k141)
  have hJ167 : ∀ (oz : Ob) (okz : Ob) (ovz : Ob) (s1 : Int32), ∀ (H : Heap) (locs : List Loc) (ls : Array Slot), va_P D vwCl (cs1 ct a oz okz ovz) H → va_S (wA (cs1 ct a o ok ov)) s.heap H locs → lv_has ls 3 [(0, .ref (a 0))] → p_X1_read_J167 fu o1  oz okz ovz s1 = some r → W p l e rm_X1_read s m args below meth c H locs 0 0 QQ (F0 m 167 ls [.int s1, .ref (a 0)]) := by
    intro  oz okz ovz s1 H locs ls hP hS hl hf 
    rw [p_X1_read_J167] at hf
    refine va_put (D := D) (ci := 1) (v := .int s1) (ty := .int) (C := RX1) (T := TX1) (N := 6) hx hb htl inlX1 tyX1 tyX1_ok nmX1 hown hK hP (hDW oz okz ovz) hS 0 rfl rfl 3 (by decide) (htl _ wq_3_19) (fun _ h9 => h9) rfl (tyX1_ok 3 (by decide)) rfl rfl (Nat.le_of_ble_eq_true rfl) dX1_read_167 (fun H_167 locs_167 hP _ hS => ?_)
    have hP : va_P D vwCl (cs1 ct a (oI oz 3 s1) okz ovz) H_167 := st1_3 hP
    refine lv_aload_n hx hb dX1_read_170 rfl (lv_at hl 0 rfl) ?_
    refine va_get (D := D) (ci := 1) (v := .ref (a 5)) (C := RX1) (T := TX1) (N := 6) hx hb htl inlX1 hown hK hP 0 rfl rfl 1 (by decide) (htl _ wq_3_17) (fun _ h9 => h9) rfl dX1_read_171 ?_
    obtain ⟨r_174, e_174, hf⟩ := ob_bind hf
    have hPX_174 : va_P D vwCl (cs2 ct (fun i => a (5 + i)) ovz) H_167 := (hP.sub (ws' := cs2 ct (fun i => a (5 + i)) ovz) [5, 6, 7, 8, 9, 10, 11, 12, 13, 14, 15, 16, 17] rfl)
    refine wr_call0 (va_runVN (As := []) (rest := []) ⟨hx, hb, hml, hown, htl⟩ (c_X2_sendToSea l D ct G (fun i => a (5 + i)) fu ovz e_174 ((hDx (oI oz 3 s1) okz ovz).sub (ws' := cs2 ct (fun i => a (5 + i)) ovz) [5, 6, 7, 8, 9, 10, 11, 12, 13, 14, 15, 16, 17] (by decide) rfl)) (cw_X1_X2_sendToSea htl hN ⟨Nat.le_of_ble_eq_true rfl, Nat.le_of_ble_eq_true rfl⟩) ⟨Bx_blind, va_recv hK hPX_174 (ci := 2) (q0 := 0) rfl rfl, Bx_pre hPX_174 hK hN (hX.stay hS hGE)⟩ rfl rfl hl.1 rfl (lv_room (Nat.le_of_ble_eq_true rfl)) dX1_read_174 ⟨Nat.zero_le _, Nat.zero_le _⟩) hS (fun q h => wA_cg (w1 := cs1 ct a (oI oz 3 s1) okz ovz) (w2 := cs1 ct a o ok ov) rfl q (wA_sub (w2 := cs1 ct a (oI oz 3 s1) okz ovz) [5, 6, 7, 8, 9, 10, 11, 12, 13, 14, 15, 16, 17] rfl q h)) (fun H_174 locs_174 hB_174 _ hk_174 hS => ?_)
    have hP : va_P D vwCl (cs1 ct a (oI oz 3 s1) okz r_174) H_174 := P_join hP (hDW (oI oz 3 s1) okz ovz) [5, 6, 7, 8, 9, 10, 11, 12, 13, 14, 15, 16, 17] rfl rfl hk_174 hB_174
    rw [← hQQ]
    cases hf
    exact rw_v hx hb hr hlocks hP hS dX1_read_177
  rw [p_X1_read] at hf
  refine lv_aload_n hx hb dX1_read_0 rfl (lv_at hl 0 rfl) ?_
  refine va_get (D := D) (ci := 1) (v := .ref (a 1)) (C := RX1) (T := TX1) (N := 6) hx hb htl inlX1 hown hK hP 0 rfl rfl 0 (by decide) (htl _ wq_3_15) (fun _ h9 => h9) rfl dX1_read_1 ?_
  refine lv_aload_n hx hb dX1_read_4 rfl (lv_at hl 1 rfl) ?_
  obtain ⟨r_5, e_5, hf⟩ := ob_bind hf
  have hPX_5 : va_P D vwCl (cs7 ct (fun i => a (1 + i)) ok ++ (cs6 ct ab o1)) s.heap := (va_P.app (hP.sub (ws' := cs7 ct (fun i => a (1 + i)) ok) [1, 2, 3, 4] rfl) ((hRR _ _ hS).sub (ws' := cs6 ct ab o1) [0, 1] rfl))
  refine wr_call0 (va_runVN (As := [.ref (ab 0)]) (rest := []) ⟨hx, hb, hml, hown, htl⟩ (c_X7_scan l D ct G (fun i => a (1 + i)) ab fu ok o1 e_5 ((hDx o ok ov).sub (ws' := cs7 ct (fun i => a (1 + i)) ok ++ (cs6 ct ab o1)) [1, 2, 3, 4, 18, 19] (by decide) rfl)) (cw_X1_X7_scan htl hN ⟨Nat.le_of_ble_eq_true rfl, Nat.le_of_ble_eq_true rfl⟩) ⟨Bx_blind, va_recv hK hPX_5 (ci := 7) (q0 := 0) rfl rfl, Bx_pre hPX_5 hK hN (hX.stay hS hGE)⟩ rfl rfl hl.1 rfl (lv_room (Nat.le_of_ble_eq_true rfl)) dX1_read_5 ⟨Nat.zero_le _, Nat.zero_le _⟩) hS (fun q h => wA_cg (w1 := cs1 ct a o ok ov) (w2 := cs1 ct a o ok ov) rfl q (wA_sub (w2 := cs1 ct a o ok ov) [1, 2, 3, 4] rfl q h)) (fun H_5 locs_5 hB_5 _ hk_5 hS => ?_)
  have hP : va_P D vwCl (cs1 ct a o r_5 ov) H_5 := P_join hP (hDW o ok ov) [1, 2, 3, 4] rfl rfl hk_5 hB_5
  refine lv_aload_n hx hb dX1_read_8 rfl (lv_at hl 0 rfl) ?_
  refine va_get (D := D) (ci := 1) (v := .ref (a 5)) (C := RX1) (T := TX1) (N := 6) hx hb htl inlX1 hown hK hP 0 rfl rfl 1 (by decide) (htl _ wq_3_17) (fun _ h9 => h9) rfl dX1_read_9 ?_
  obtain ⟨r_12, e_12, hf⟩ := ob_bind hf
  have hPX_12 : va_P D vwCl (cs2 ct (fun i => a (5 + i)) ov) H_5 := (hP.sub (ws' := cs2 ct (fun i => a (5 + i)) ov) [5, 6, 7, 8, 9, 10, 11, 12, 13, 14, 15, 16, 17] rfl)
  refine wr_call0 (va_runVN (As := []) (rest := []) ⟨hx, hb, hml, hown, htl⟩ (c_X2_clear l D ct G (fun i => a (5 + i)) fu ov e_12 ((hDx o r_5 ov).sub (ws' := cs2 ct (fun i => a (5 + i)) ov) [5, 6, 7, 8, 9, 10, 11, 12, 13, 14, 15, 16, 17] (by decide) rfl)) (cw_X1_X2_clear htl hN ⟨Nat.le_of_ble_eq_true rfl, Nat.le_of_ble_eq_true rfl⟩) ⟨Bx_blind, va_recv hK hPX_12 (ci := 2) (q0 := 0) rfl rfl, Bx_pre hPX_12 hK hN (hX.stay hS hGE)⟩ rfl rfl hl.1 rfl (lv_room (Nat.le_of_ble_eq_true rfl)) dX1_read_12 ⟨Nat.zero_le _, Nat.zero_le _⟩) hS (fun q h => wA_cg (w1 := cs1 ct a o r_5 ov) (w2 := cs1 ct a o ok ov) rfl q (wA_sub (w2 := cs1 ct a o r_5 ov) [5, 6, 7, 8, 9, 10, 11, 12, 13, 14, 15, 16, 17] rfl q h)) (fun H_12 locs_12 hB_12 _ hk_12 hS => ?_)
  have hP : va_P D vwCl (cs1 ct a o r_5 r_12) H_12 := P_join hP (hDW o r_5 ov) [5, 6, 7, 8, 9, 10, 11, 12, 13, 14, 15, 16, 17] rfl rfl hk_12 hB_12
  refine lv_aload_n hx hb dX1_read_15 rfl (lv_at hl 0 rfl) ?_
  refine lv_iconst (v := 0) hx hb dX1_read_16 (by decide) ?_
  refine va_put (D := D) (ci := 1) (v := .int 0) (ty := .int) (C := RX1) (T := TX1) (N := 6) hx hb htl inlX1 tyX1 tyX1_ok nmX1 hown hK hP (hDW o r_5 r_12) hS 0 rfl rfl 2 (by decide) (htl _ wq_3_18) (fun _ h9 => h9) rfl (tyX1_ok 2 (by decide)) rfl rfl (Nat.le_of_ble_eq_true rfl) dX1_read_17 (fun H_17 locs_17 hP _ hS => ?_)
  have hP : va_P D vwCl (cs1 ct a (oI o 2 (0 : Int32)) r_5 r_12) H_17 := st1_2 hP
  refine lv_aload_n hx hb dX1_read_20 rfl (lv_at hl 0 rfl) ?_
  refine lv_iconst (v := 0) hx hb dX1_read_21 (by decide) ?_
  refine va_put (D := D) (ci := 1) (v := .int 0) (ty := .int) (C := RX1) (T := TX1) (N := 6) hx hb htl inlX1 tyX1 tyX1_ok nmX1 hown hK hP (hDW (oI o 2 (0 : Int32)) r_5 r_12) hS 0 rfl rfl 5 (by decide) (htl _ wq_3_21) (fun _ h9 => h9) rfl (tyX1_ok 5 (by decide)) rfl rfl (Nat.le_of_ble_eq_true rfl) dX1_read_22 (fun H_22 locs_22 hP _ hS => ?_)
  have hP : va_P D vwCl (cs1 ct a (oI (oI o 2 (0 : Int32)) 5 (0 : Int32)) r_5 r_12) H_22 := st1_5 hP
  refine lv_aload_n hx hb dX1_read_25 rfl (lv_at hl 0 rfl) ?_
  refine lv_aload_n hx hb dX1_read_26 rfl (lv_at hl 0 rfl) ?_
  refine va_get (D := D) (ci := 1) (v := .ref (a 1)) (C := RX1) (T := TX1) (N := 6) hx hb htl inlX1 hown hK hP 0 rfl rfl 0 (by decide) (htl _ wq_3_15) (fun _ h9 => h9) rfl dX1_read_27 ?_
  refine va_getN (D := D) (ci := 7) (v := .ref (a 2)) (C := RX7) (T := TX7) (N := 4) hx hb htl inlX7 hown hK hP 1 rfl rfl 0 (by decide) (va_Nw.use rfl (hN _ nm_37)) (fun _ h9 => h9) rfl dX1_read_30 ?_
  refine lv_aload_n hx hb dX1_read_33 rfl (lv_at hl 0 rfl) ?_
  refine va_get (D := D) (ci := 1) (v := .int ((oI (oI o 2 (0 : Int32)) 5 (0 : Int32)).1 5 0)) (C := RX1) (T := TX1) (N := 6) hx hb htl inlX1 hown hK hP 0 rfl rfl 5 (by decide) (htl _ wq_3_21) (fun _ h9 => h9) rfl dX1_read_34 ?_
  obtain ⟨r_37, e_37, hf⟩ := ob_bind hf
  have hPX_37 : va_P D vwCl ([((a 2), .inl (ct 0, 701, .inl (r_5.1 0)))]) H_22 := (P_one hP 2 rfl)
  refine ro_call1 (va_runSN (As := [.ref (a 2), .int ((oI (oI o 2 (0 : Int32)) 5 (0 : Int32)).1 5 0)]) (rest := [.ref (a 0)]) ⟨hx, hb, hml, hown, htl⟩ (c_X9_pick l D ct G (a 2) fu 701 (r_5.1 0) ((oI (oI o 2 (0 : Int32)) 5 (0 : Int32)).1 5 0) e_37) (cw_X1_X9_pick htl hN ⟨Nat.le_of_ble_eq_true rfl, Nat.le_of_ble_eq_true rfl⟩) ⟨Bx_blind, Bx_pre hPX_37 hK hN (hX.stay hS hGE)⟩ rfl rfl hl.1 rfl (lv_room (Nat.le_of_ble_eq_true rfl)) dX1_read_37 ⟨Nat.zero_le _, Nat.zero_le _⟩) ?_
  refine va_put (D := D) (ci := 1) (v := .int r_37) (ty := .int) (C := RX1) (T := TX1) (N := 6) hx hb htl inlX1 tyX1 tyX1_ok nmX1 hown hK hP (hDW (oI (oI o 2 (0 : Int32)) 5 (0 : Int32)) r_5 r_12) hS 0 rfl rfl 4 (by decide) (htl _ wq_3_20) (fun _ h9 => h9) rfl (tyX1_ok 4 (by decide)) rfl rfl (Nat.le_of_ble_eq_true rfl) dX1_read_40 (fun H_40 locs_40 hP _ hS => ?_)
  have hP : va_P D vwCl (cs1 ct a (oI (oI (oI o 2 (0 : Int32)) 5 (0 : Int32)) 4 r_37) r_5 r_12) H_40 := st1_4 hP
  refine lv_iconst (v := 0) hx hb dX1_read_43 (by decide) ?_
  refine lv_istore_n (lv' := [(2, .int 0), (0, .ref (a 0)), (1, .ref (ab 0))]) hx hb dX1_read_44 rfl hl (by decide) rfl (fun ls hl => ?_)
  refine hL45 _ fu (oI (oI (oI o 2 (0 : Int32)) 5 (0 : Int32)) 4 r_37) r_5 r_12 0 _ _ _ hP hS (lv_sub hl [1, 0] rfl) hf (fun oz okz ovz H locs ls hP hS hl hf => ?_)
  refine lv_aload_n hx hb dX1_read_141 rfl (lv_at hl 0 rfl) ?_
  refine lv_aload_n hx hb dX1_read_142 rfl (lv_at hl 0 rfl) ?_
  refine va_get (D := D) (ci := 1) (v := .int (oz.1 2 0)) (C := RX1) (T := TX1) (N := 6) hx hb htl inlX1 hown hK hP 0 rfl rfl 2 (by decide) (htl _ wq_3_18) (fun _ h9 => h9) rfl dX1_read_143 ?_
  refine lv_if_ne (tgt := 153) hx hb dX1_read_146 (by decide) (fun c_146 => ?_) (fun c_146 => ?_)
  rotate_left 1
  · rw [if_pos c_146] at hf
    refine lv_iconst (v := (-1)) hx hb dX1_read_149 (by decide) ?_
    refine lv_goto (tgt := 167) hx hb dX1_read_150 (by decide) ?_
    exact hJ167 oz okz ovz (-1) _ _ _ hP hS (lv_sub hl [0] rfl) hf 
  rw [if_neg c_146] at hf
  refine lv_aload_n hx hb dX1_read_153 rfl (lv_at hl 0 rfl) ?_
  refine va_get (D := D) (ci := 1) (v := .ref (a 1)) (C := RX1) (T := TX1) (N := 6) hx hb htl inlX1 hown hK hP 0 rfl rfl 0 (by decide) (htl _ wq_3_15) (fun _ h9 => h9) rfl dX1_read_154 ?_
  refine va_getN (D := D) (ci := 7) (v := .ref (a 3)) (C := RX7) (T := TX7) (N := 4) hx hb htl inlX7 hown hK hP 1 rfl rfl 1 (by decide) (va_Nw.use rfl (hN _ nm_38)) (fun _ h9 => h9) rfl dX1_read_157 ?_
  refine lv_aload_n hx hb dX1_read_160 rfl (lv_at hl 0 rfl) ?_
  refine va_get (D := D) (ci := 1) (v := .int (oz.1 5 0)) (C := RX1) (T := TX1) (N := 6) hx hb htl inlX1 hown hK hP 0 rfl rfl 5 (by decide) (htl _ wq_3_21) (fun _ h9 => h9) rfl dX1_read_161 ?_
  obtain ⟨r_164, e_164, hf⟩ := ob_bind hf
  have hPX_164 : va_P D vwCl ([((a 3), .inl (ct 0, 701, .inl (okz.1 1)))]) H := (P_one hP 3 rfl)
  refine ro_call1 (va_runSN (As := [.ref (a 3), .int (oz.1 5 0)]) (rest := [.ref (a 0)]) ⟨hx, hb, hml, hown, htl⟩ (c_X9_pick l D ct G (a 3) fu 701 (okz.1 1) (oz.1 5 0) e_164) (cw_X1_X9_pick htl hN ⟨Nat.le_of_ble_eq_true rfl, Nat.le_of_ble_eq_true rfl⟩) ⟨Bx_blind, Bx_pre hPX_164 hK hN (hX.stay hS hGE)⟩ rfl rfl hl.1 rfl (lv_room (Nat.le_of_ble_eq_true rfl)) dX1_read_164 ⟨Nat.zero_le _, Nat.zero_le _⟩) ?_
  exact hJ167 oz okz ovz r_164 _ _ _ hP hS (lv_sub hl [0] rfl) hf 
theorem c_X1_read (l : Launch) (D : va_G) (ct : Nat → ClassId) (G : GT) (a : Nat → Nat) (ab : Nat → Nat) (fu : Nat) (o : Ob) (ok : Ob) (ov : Ob) (o1 : Ob) {r : Ob × Ob × Ob} (hf : p_X1_read fu o ok ov o1 = some r)  (hD0 : va_D (GE G) (cs1 ct a o ok ov ++ (cs6 ct ab o1))) : Met l yX1_read (.code yX1_read cX1_read 3 none :: wsL_law) rm_X1_read (va_Pc [.ref (a 0), .ref (ab 0)] (Bx D ct G (cs1 ct a o ok ov ++ (cs6 ct ab o1)))) (Qwr none (fun H => va_P D vwCl (cs1 ct a r.1 r.2.1 r.2.2) H) (wA (cs1 ct a o ok ov))) 0 0 (wA (cs1 ct a o ok ov)) := by
  refine Met.ofW (cc := cX1_read) (maxL := 3) (ret := none) (by decide) rfl ?_
  intro p e s m args below meth c s₁ B hml hv
  obtain ⟨rfl, hP, hK, hN, hX⟩ := hv
  have hts := atoms_spec (ws := .code yX1_read cX1_read 3 none :: wsL_law) B.pre
  rw [lg_entry_eq]
  exact b_X1_read a ab fu o ok ov o1 B.exec B.bytes B.returns hml (findClass_of_methodNamed B.named) (fun w h => hts w (List.mem_cons_of_mem _ h)) B.notSynchronized hK hN hX hP hf hD0  (lv_entry [.ref (a 0), .ref (ab 0)] (n := 3) (Nat.le_of_ble_eq_true rfl))
