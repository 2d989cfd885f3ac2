/-! ===== the common ground: objects' contents, worlds of one class, calls that write and calls that don't ===== -/
/-- what an object holds: ints by field and place (a plain field has place 0), longs likewise -/
abbrev Ob : Type := (Nat → Nat → Int32) × (Nat → Nat → Int64)
def oA (o : Ob) (f : Nat) (g : Nat → Int32) : Ob := (va_up o.1 f g, o.2)
def oI (o : Ob) (f : Nat) (v : Int32) : Ob := (va_up o.1 f (fun _ => v), o.2)
def oLA (o : Ob) (f : Nat) (g : Nat → Int64) : Ob := (o.1, va_up o.2 f g)
def oL (o : Ob) (f : Nat) (v : Int64) : Ob := (o.1, va_up o.2 f (fun _ => v))
def inb (i : Int32) (n : Nat) : Bool := decide (0 ≤ i.toInt ∧ i.toInt < n)
theorem ob_bind {α β : Type} {x : Option α} {f : α → Option β} {r : β} (h : x.bind f = some r) : ∃ v, x = some v ∧ f v = some r := by
  cases x with
  | none => cases h
  | some v => exact ⟨v, rfl, h⟩
theorem ob_in {α : Type} {i : Int32} {n : Nat} {a : Option α} {r : α} (h : (if inb i n = true then a else none) = some r) : vp_in i n ∧ a = some r := by
  by_cases hc : inb i n = true
  · rw [if_pos hc] at h
    exact ⟨vp_in_iff.mpr (of_decide_eq_true hc), h⟩
  · rw [if_neg hc] at h
    cases h
theorem ob_ne {α : Type} {y : Int32} {a : Option α} {r : α} (h : (if y = 0 then none else a) = some r) : ¬ y = 0 ∧ a = some r := by
  by_cases hc : y = 0
  · rw [if_pos hc] at h
    cases h
  · rw [if_neg hc] at h
    exact ⟨hc, h⟩
theorem ob_neL {α : Type} {y : Int64} {a : Option α} {r : α} (h : (if y = 0 then none else a) = some r) : ¬ y = 0 ∧ a = some r := by
  by_cases hc : y = 0
  · rw [if_pos hc] at h
    cases h
  · rw [if_neg hc] at h
    exact ⟨hc, h⟩
theorem ob_lt {α : Type} {j n : Nat} {a : Option α} {r : α} (h : (if j < n then a else none) = some r) : j < n ∧ a = some r := by
  by_cases hc : j < n
  · rw [if_pos hc] at h
    exact ⟨hc, h⟩
  · rw [if_neg hc] at h
    cases h
/-- the addresses of a world -/
def wA (ws : va_W) : Nat → Prop := fun q => ∃ (k : Nat) (e : va_E), ws[k]? = some (q, e)
/-- answers v, and the heap is as it was -/
def Qro (v : Option Value) : Array Value → State → Outcome → State → Prop := fun _ st o t => o = .returned v ∧ t.heap = st.heap
/-- answers v, the heap has B, nothing outside A is changed -/
def Qwr (v : Option Value) (B : Heap → Prop) (A : Nat → Prop) : Array Value → State → Outcome → State → Prop := fun _ st o t => o = .returned v ∧ B t.heap ∧ va_F A st t
section GWC
variable {p : Program} {l : Launch} {e : Env} {R : Room} {s : State} {m : MethodId} {args : Array Value} {below : List Frame} {meth : Method} {c : Code} {H H0 : Heap} {locs : List Loc} {cells slots : Nat} {Q : State → Prop} {pc : Nat} {ls : Array Slot} {rest st0 : List Value} {a : Array Value}
theorem ro_call {v : Option Value} (hr : va_Run p l e R s m args below meth c H locs cells slots 0 0 (F0 m pc ls st0) rest (Qro v a) (fun _ => False))
    (kk : W p l e R s m args below meth c H locs cells slots Q (F0 m (pc + 3) ls (v.toList ++ rest))) : W p l e R s m args below meth c H locs cells slots Q (F0 m pc ls st0) := by
  intro T hT X
  obtain ⟨v', st₀, t, T', L, h0, X', hL, e1, e2, ⟨hv, hh⟩, st⟩ := hr T hT X
  cases hv
  have hLn : L = [] := List.eq_nil_iff_forall_not_mem.mpr (fun q hq => (hL q hq).elim)
  subst hLn
  rw [List.append_nil] at X'
  obtain ⟨t2, a1, b1⟩ := kk T' (by rw [e1, hh, h0]) X'
  exact ⟨t2, st t2 a1, b1⟩
theorem wr_call {v : Option Value} {B : Heap → Prop} {A1 A0 : Nat → Prop} (hr : va_Run p l e R s m args below meth c H locs cells slots 0 0 (F0 m pc ls st0) rest (Qwr v B A1 a) A1) (hS : va_S A0 H0 H locs) (hA : ∀ q, A1 q → A0 q)
    (kk : ∀ (H1 : Heap) (locs1 : List Loc), B H1 → H.size ≤ H1.size → (∀ q : Nat, q < H.size → ¬ A1 q → H1[q]? = H[q]?) → va_S A0 H0 H1 locs1 → W p l e R s m args below meth c H1 locs1 cells slots Q (F0 m (pc + 3) ls (v.toList ++ rest))) : W p l e R s m args below meth c H locs cells slots Q (F0 m pc ls st0) := by
  intro T hT X
  obtain ⟨v', st₀, t, T', L, h0, X', hL, e1, e2, ⟨hv, hB, hz, hk⟩, st⟩ := hr T hT X
  cases hv
  rw [h0] at hz hk
  obtain ⟨t2, a1, b1⟩ := kk T'.heap (locs ++ L) (by rw [e1]; exact hB) (by rw [e1]; exact hz) (fun q h1 h2 => by rw [e1]; exact hk q h1 h2)
    ⟨Nat.le_trans hS.1 (by rw [e1]; exact hz), fun q h1 h2 => by rw [e1, hk q (Nat.lt_of_lt_of_le h1 hS.1) (fun z => h2 (hA q z))]; exact hS.2.1 q h1 h2, fun q hq => by
      rcases List.mem_append.mp hq with h | h
      · exact hS.2.2 q h
      · exact hA _ (hL q h)⟩ T' rfl X'
  exact ⟨t2, st t2 a1, b1⟩
end GWC
/-- one cell of a world -/
theorem P_one {D : va_G} {cl : List vw_C} {ws : va_W} {H : Heap} {q : Nat × va_E} (h : va_P D cl ws H) (k : Nat) (hk : ws[k]? = some q) : va_P D cl [q] H := by
  intro j r hj
  cases j with
  | zero => cases hj; exact h k q hk
  | succ j => simp at hj
theorem P_left {D : va_G} {cl : List vw_C} {w1 w2 : va_W} {H : Heap} (h : va_P D cl (w1 ++ w2) H) : va_P D cl w1 H := fun k q hk => h k q (by rw [List.getElem?_append_left (List.getElem?_eq_some_iff.mp hk).1]; exact hk)
theorem P_right {D : va_G} {cl : List vw_C} {w1 w2 : va_W} {H : Heap} (h : va_P D cl (w1 ++ w2) H) : va_P D cl w2 H := fun k q hk => h (w1.length + k) q (by rw [List.getElem?_append_right (Nat.le_add_right _ _), Nat.add_sub_cancel_left]; exact hk)
/-- cells put in the place of others -/
def wset : va_W → List Nat → va_W → va_W
  | ws, i :: is, c :: wc => wset (ws.set i c) is wc
  | ws, _, _ => ws
theorem wset_out : ∀ (is : List Nat) (wc ws : va_W) (k : Nat), k ∉ is → (wset ws is wc)[k]? = ws[k]?
  | [], wc, ws, k, _ => by simp [wset]
  | i :: is, [], ws, k, _ => by simp [wset]
  | i :: is, c :: wc, ws, k, h => by
    rw [wset, wset_out is wc (ws.set i c) k (fun z => h (List.mem_cons_of_mem _ z))]
    rw [List.getElem?_set_ne (fun z => h (by rw [z]; exact List.mem_cons_self))]
theorem wset_in : ∀ (is : List Nat) (wc ws : va_W) (k : Nat) (q : Nat × va_E), k ∈ is → (wset ws is wc)[k]? = some q → is.length = wc.length → (∀ i ∈ is, i < ws.length) → q ∈ wc
  | [], wc, ws, k, q, h, _, _, _ => by cases h
  | i :: is, [], ws, k, q, _, _, h, _ => by simp at h
  | i :: is, c :: wc, ws, k, q, h, hq, hl, hw => by
    rw [wset] at hq
    by_cases hk : k ∈ is
    · exact List.mem_cons_of_mem _ (wset_in is wc (ws.set i c) k q hk hq (by simpa using hl) (fun j hj => by rw [List.length_set]; exact hw j (List.mem_cons_of_mem _ hj)))
    · have hki : k = i := (List.mem_cons.mp h).resolve_right hk
      rw [wset_out is wc (ws.set i c) k hk, hki, List.getElem?_set_self (hw i List.mem_cons_self)] at hq
      cases hq
      exact List.mem_cons_self
/-- behind a call that wrote the cells wc (at the places is of ws), which hold wc1 now -/
theorem P_join {D : va_G} {cl : List vw_C} {A0 : Nat → Prop} {ws wc wc1 : va_W} {H H1 : Heap} (hP : va_P D cl ws H) (hD : va_D A0 ws) (is : List Nat) (hC : is.map (fun i => ws[i]?) = wc.map some) (hL : is.length = wc1.length)
    (hk : ∀ q : Nat, q < H.size → ¬ wA wc q → H1[q]? = H[q]?) (hP1 : va_P D cl wc1 H1) : va_P D cl (wset ws is wc1) H1 := by
  have hlen : ∀ i ∈ is, i < ws.length := by
    intro i hi
    have h1 : ws[i]? ∈ wc.map some := by rw [← hC]; exact List.mem_map.mpr ⟨i, hi, rfl⟩
    obtain ⟨q, -, hq⟩ := List.mem_map.mp h1
    exact (List.getElem?_eq_some_iff.mp hq.symm).1
  intro k q hq
  by_cases hki : k ∈ is
  · obtain ⟨j, hj⟩ := List.getElem?_of_mem (wset_in is wc1 ws k q hki hq hL hlen)
    exact hP1 j q hj
  · rw [wset_out is wc1 ws k hki] at hq
    refine (hP k q hq).kept (hk q.1 (hP k q hq).lt ?_)
    rintro ⟨j, e, hj⟩
    have h1 : (some (q.1, e) : Option (Nat × va_E)) ∈ wc.map some := List.mem_map.mpr ⟨_, List.mem_of_getElem? hj, rfl⟩
    rw [← hC] at h1
    obtain ⟨i, hi, hw⟩ := List.mem_map.mp h1
    exact hki (by rw [hD.1 k i q (q.1, e) hq hw rfl]; exact hi)
/-- distinct addresses, out of one map of places to addresses -/
theorem D_idx {A : Nat → Nat} {n : Nat} (hJ : ∀ i j, i < n → j < n → A i = A j → i = j) {ws : va_W} (is : List Nat) (hn : va_nd is = true) (hl : is.all (fun i => decide (i < n)) = true) (hw : ws.map Prod.fst = is.map A) : va_D (fun _ => True) ws := by
  refine ⟨?_, fun _ _ _ => trivial⟩
  intro i j p q hi hj he
  have h1 : (is.map A)[i]? = some p.1 := by rw [← hw, List.getElem?_map, hi]; rfl
  have h2 : (is.map A)[j]? = some q.1 := by rw [← hw, List.getElem?_map, hj]; rfl
  rw [List.getElem?_map] at h1 h2
  obtain ⟨x, hx, ex⟩ := Option.map_eq_some_iff.mp h1
  obtain ⟨y, hy, ey⟩ := Option.map_eq_some_iff.mp h2
  have hx' := of_decide_eq_true (List.all_eq_true.mp hl x (List.mem_of_getElem? hx))
  have hy' := of_decide_eq_true (List.all_eq_true.mp hl y (List.mem_of_getElem? hy))
  have := hJ x y hx' hy' (by rw [ex, ey, he])
  subst this
  exact va_nd_inj is hn i j x hx hy
theorem D_left {A : Nat → Prop} {w1 w2 : va_W} (h : va_D A (w1 ++ w2)) : va_D (wA w1) w1 := by
  refine ⟨fun i j p q hi hj => h.1 i j p q ?_ ?_, fun k q hk => ⟨k, q.2, hk⟩⟩
  · rw [List.getElem?_append_left (List.getElem?_eq_some_iff.mp hi).1]; exact hi
  · rw [List.getElem?_append_left (List.getElem?_eq_some_iff.mp hj).1]; exact hj
theorem D_self {A : Nat → Prop} {w : va_W} (h : va_D A w) : va_D (wA w) w := ⟨h.1, fun k q hk => ⟨k, q.2, hk⟩⟩
theorem D_any {A B : Nat → Prop} {w : va_W} (h : va_D A w) (hB : ∀ q, A q → B q) : va_D B w := ⟨h.1, fun k q hk => hB _ (h.2 k q hk)⟩
/-- what isn't among the cells that may be written stays -/
theorem P_rest {D : va_G} {cl : List vw_C} {A : Nat → Prop} {w1 w2 : va_W} {H0 H : Heap} {locs : List Loc} (hD : va_D A (w1 ++ w2)) (hP : va_P D cl w2 H0) (hS : va_S (wA w1) H0 H locs) : va_P D cl w2 H := by
  refine hP.kept fun k q hk => hS.2.1 q.1 (hP k q hk).lt ?_
  rintro ⟨j, e, hj⟩
  have hjl := (List.getElem?_eq_some_iff.mp hj).1
  have := hD.1 j (w1.length + k) (q.1, e) q (by rw [List.getElem?_append_left hjl]; exact hj) (by rw [List.getElem?_append_right (Nat.le_add_right _ _), Nat.add_sub_cancel_left]; exact hk) rfl
  omega
theorem wA_cg {w1 w2 : va_W} (h : w1.map Prod.fst = w2.map Prod.fst) : ∀ q, wA w1 q → wA w2 q := by
  rintro q ⟨k, e, hk⟩
  have h1 : (w1.map Prod.fst)[k]? = some q := by rw [List.getElem?_map, hk]; rfl
  rw [h, List.getElem?_map] at h1
  obtain ⟨x, hx, ex⟩ := Option.map_eq_some_iff.mp h1
  exact ⟨k, x.2, by rw [hx, ← ex]⟩
theorem wA_sub {w1 w2 : va_W} (is : List Nat) (h : is.map (fun i => w2[i]?) = w1.map some) : ∀ q, wA w1 q → wA w2 q := by
  rintro q ⟨k, e, hk⟩
  have h1 : (some (q, e) : Option (Nat × va_E)) ∈ w1.map some := List.mem_map.mpr ⟨_, List.mem_of_getElem? hk, rfl⟩
  rw [← h] at h1
  obtain ⟨i, -, hi⟩ := List.mem_map.mp h1
  exact ⟨i, e, hi⟩
theorem wA_left {w1 w2 : va_W} : ∀ q, wA w1 q → wA (w1 ++ w2) q := by
  rintro q ⟨k, e, hk⟩
  exact ⟨k, e, by rw [List.getElem?_append_left (List.getElem?_eq_some_iff.mp hk).1]; exact hk⟩
/-! ===== what every contract takes: the world, the classes, the nest's links, the texts ===== -/
def isNest : Cond → Bool
  | .fieldLinkNest .. => true
  | .methodLinkNest .. => true
  | _ => false
theorem NW_nest : ∀ w ∈ NW, isNest w = true := fun w h => List.all_eq_true.mp (show NW.all isNest = true by decide +kernel) w h
theorem nest_on {w : Cond} (h : isNest w = true) : w.onTables = true := by
  cases w <;> first | rfl | (simp [isNest] at h; done)
theorem nest_warm {w : Cond} (h : isNest w = true) {s U : State} (hW : s.WarmedH U.vm) (hZ : va_Nw w s) : va_Nw w U := by
  cases w <;> first | exact va_Nw.warmF hW hZ | exact va_Nw.warmM hW hZ | (simp [isNest] at h; done)
abbrev lenS : List Nat := [2, 2, 3, 3, 4, 4, 4, 4, 5, 5, 5, 5, 6]
abbrev bytS : List (List Int32) := [[116, 111], [97, 116], [115, 101, 97], [108, 111, 119], [106, 111, 105, 110], [101, 97, 99, 104], [114, 97, 105, 110], [111, 100, 100, 115], [114, 101, 97, 99, 104], [116, 97, 107, 101, 115], [108, 101, 118, 101, 108], [115, 119, 101, 108, 108], [114, 105, 118, 101, 114, 115]]
/-- the texts' places: class, entry, text, which -/
abbrev SW : List (String × Nat × String × Nat) := [("QuotedRiver$Tokens", 67, "to", 0), ("QuotedRiver$Tokens", 73, "at", 1), ("QuotedRiver$Tokens", 75, "sea", 2), ("QuotedRiver$Tokens", 77, "low", 3), ("QuotedRiver$Tokens", 79, "join", 4), ("QuotedRiver$Tokens", 81, "each", 5), ("QuotedRiver$Tokens", 83, "rain", 6), ("QuotedRiver$Tokens", 85, "odds", 7), ("QuotedRiver$Tokens", 87, "reach", 8), ("QuotedRiver$Tokens", 89, "takes", 9), ("QuotedRiver$Tokens", 91, "level", 10), ("QuotedRiver$Tokens", 93, "swell", 11), ("QuotedRiver$Tokens", 95, "rivers", 12), ("QuotedRiverModel", 173, "rivers", 12), ("QuotedRiverModel", 175, "level", 10), ("QuotedRiverModel", 181, "odds", 7), ("QuotedRiverModel", 183, "swell", 11), ("QuotedRiverModel", 185, "to", 0), ("QuotedRiverModel", 187, "sea", 2), ("QuotedRiverModel", 189, "takes", 9), ("QuotedRiverModel", 190, "low", 3), ("QuotedRiverModel", 192, "each", 5), ("QuotedRiverModel", 194, "at", 1), ("QuotedRiverModel", 195, "reach", 8), ("QuotedRiverModel", 197, "join", 4), ("QuotedRiverModel", 199, "rain", 6)]
abbrev GT : Type := Nat × (Nat → Nat) × (Nat → Nat)
def GE (G : GT) : Nat → Prop := fun q => G.1 ≤ q
def SX (G : GT) (U : State) (H : Heap) : Prop :=
  vk_S 13 lenS bytS G.2.1 G.2.2 (GE G) U H ∧ (∀ w ∈ SW, vk_R w.1 w.2.1 w.2.2.1 (G.2.1 w.2.2.2) U) ∧ va_Z "java/lang/String" "COMPACT_STRINGS" "Z" (.int 1) (GE G) U H ∧ va_Zq "jdk/internal/util/Preconditions" "SIOOBE_FORMATTER" "Ljava/util/function/BiFunction;" (GE G) U H
theorem Zq_moved {C n d : String} {A : Nat → Prop} {u U : State} {H : Heap} (hvm : u.vm.Alike U.vm) (h : va_Zq C n d A u H) : va_Zq C n d A U H := by
  rcases h with h | ⟨t, h⟩
  · exact Or.inl (h.moved hvm)
  · exact Or.inr ⟨t, h.moved hvm⟩
theorem Zq_kept {C n d : String} {A : Nat → Prop} {U : State} {H H1 : Heap} (h : va_Zq C n d A U H) (hq : ∀ a : Nat, a < H.size → ¬ A a → H1[a]? = H[a]?) : va_Zq C n d A U H1 := by
  rcases h with h | ⟨t, h⟩
  · exact Or.inl (h.kept hq)
  · exact Or.inr ⟨t, h.kept hq⟩
theorem SX.warm {G : GT} {s U : State} {H : Heap} (hW : s.WarmedH U.vm) (h : SX G s H) : SX G U H :=
  ⟨h.1.moved hW.alike, fun w hw => (h.2.1 w hw).warm hW, h.2.2.1.moved hW.alike, Zq_moved hW.alike h.2.2.2⟩
theorem SX.same {G : GT} {u U : State} {H : Heap} (hv : U.vm = u.vm) (h : SX G u H) : SX G U H :=
  ⟨h.1.moved (hv ▸ Vm.Alike.refl U.vm), fun w hw => (h.2.1 w hw).same hv, h.2.2.1.moved (hv ▸ Vm.Alike.refl U.vm), Zq_moved (hv ▸ Vm.Alike.refl U.vm) h.2.2.2⟩
theorem SX.stay {G : GT} {A0 : Nat → Prop} {s : State} {H : Heap} {locs : List Loc} (h : SX G s s.heap) (hS : va_S A0 s.heap H locs) (hA : ∀ q, A0 q → GE G q) : SX G s H :=
  ⟨h.1.kept fun a ha hn => hS.2.1 a ha (fun z => hn (hA a z)), h.2.1, h.2.2.1.kept fun a ha hn => hS.2.1 a ha (fun z => hn (hA a z)), Zq_kept h.2.2.2 fun a ha hn => hS.2.1 a ha (fun z => hn (hA a z))⟩
abbrev vwCl : List vw_C := [(RX0, TX0, 4), (RX1, TX1, 6), (RX2, TX2, 20), (RX3, TX3, 4), (RX4, TX4, 4), (RX5, TX5, 9), (RX6, TX6, 2), (RX7, TX7, 4), (RX8, TX8, 3), (RX9, TX9, 14), (RX10, TX10, 42)]
abbrev tyl (ct : Nat → ClassId) : List (ClassId × FieldType) := [(ct 0, .int), (ct 1, .long), (ct 2, .byte), (ct 3, .boolean), (ct 4, .object "QuotedRiver$Rivers"), (ct 5, .object "QuotedRiver$Row")]
def Bx (D : va_G) (ct : Nat → ClassId) (G : GT) (ws : va_W) (U : State) : Prop := va_P D vwCl ws U.heap ∧ va_K D vwCl (tyl ct) U ∧ (∀ w ∈ NW, va_Nw w U) ∧ SX G U U.heap
theorem Bx_blind {D : va_G} {ct : Nat → ClassId} {G : GT} {ws : va_W} {av : List Value} : FrameBlind (va_Pc av (Bx D ct G ws)) := by
  intro a U g mk h
  obtain ⟨h1, h2, h3, h4, h5⟩ := h
  exact ⟨h1, h2, va_K.moved (u := U) (U := U.calling g mk a) (Vm.Alike.refl U.vm) h3, fun w hw => va_Nw.same (u := U) (U := U.calling g mk a) (nest_on (NW_nest w hw)) rfl (h4 w hw), SX.same (u := U) (U := U.calling g mk a) rfl h5⟩
theorem Bx_pre {D : va_G} {ct : Nat → ClassId} {G : GT} {ws : va_W} {av : List Value} {s : State} {H : Heap} (hP : va_P D vwCl ws H) (hK : va_K D vwCl (tyl ct) s) (hN : ∀ w ∈ NW, va_Nw w s) (hX : SX G s H) :
    ∀ U : State, U.heap = H → s.WarmedH U.vm → va_Pc av (Bx D ct G ws) av.toArray U := by
  intro U hU hW
  subst hU
  exact ⟨rfl, hP, hK.moved hW.alike, fun w hw => nest_warm (NW_nest w hw) hW (hN w hw), hX.warm hW⟩
theorem D_cg {A : Nat → Prop} {w1 w2 : va_W} (h : w1.map Prod.fst = w2.map Prod.fst) (hD : va_D A w1) : va_D A w2 := by
  have key : ∀ (k : Nat) (q : Nat × va_E), w2[k]? = some q → ∃ p : Nat × va_E, w1[k]? = some p ∧ p.1 = q.1 := by
    intro k q hk
    have h1 : (w2.map Prod.fst)[k]? = some q.1 := by rw [List.getElem?_map, hk]; rfl
    rw [← h, List.getElem?_map] at h1
    obtain ⟨x, hx, ex⟩ := Option.map_eq_some_iff.mp h1
    exact ⟨x, hx, ex⟩
  refine ⟨fun i j p q hi hj he => ?_, fun k q hk => ?_⟩
  · obtain ⟨p', hp', ep⟩ := key i p hi
    obtain ⟨q', hq', eq⟩ := key j q hj
    exact hD.1 i j p' q' hp' hq' (by rw [ep, eq, he])
  · obtain ⟨p, hp, ep⟩ := key k q hk
    rw [← ep]
    exact hD.2 k p hp
theorem vp_lt {i : Int32} {n : Nat} (h : vp_in i n) : i.toNatClampNeg < n := Nat.not_le.mp fun q => h (Or.inr q)
theorem ob_z {α : Type} {v : Int32} {a : Option α} {r : α} (h : (if v = 0 ∨ v = 1 then a else none) = some r) : (narrow .boolean (.int v) = .int v ∧ fits .boolean (.int v) = true) ∧ a = some r := by
  by_cases hc : v = 0 ∨ v = 1
  · rw [if_pos hc] at h
    refine ⟨?_, h⟩
    rcases hc with rfl | rfl <;> exact ⟨rfl, rfl⟩
  · rw [if_neg hc] at h
    cases h
def oCase {α : Type} (r : Option Nat) (a : Option α) (f : Nat → Option α) : Option α := match r with
  | none => a
  | some j => f j
theorem ob_case {α : Type} {r : Option Nat} {a : Option α} {f : Nat → Option α} {z : α} (h : oCase r a f = some z) : (r = none ∧ a = some z) ∨ ∃ j, r = some j ∧ f j = some z := by
  cases r with
  | none => exact Or.inl ⟨rfl, h⟩
  | some j => exact Or.inr ⟨j, rfl, h⟩
-- the ends of a method
section GWR
variable {p : Program} {l : Launch} {e : Env} {R : Room} {s : State} {m : MethodId} {args : Array Value} {below : List Frame} {meth : Method} {c : Code} {H : Heap} {locs : List Loc} {cc : ByteArray}
theorem rf_i {v0 : Int32} (hx : p.tables.exec = Jvm.exec) (hb : c.code = cc) (hr : meth.sig.returnType = some .int) (hlocks : meth.locks = false) {v : Int32} (hv : some v = some v0) {pc : Nat} {ls : Array Slot} (hd : decode cc pc = .ok (.ireturn, 1)) :
    W p l e R s m args below meth c s.heap [] 0 0 (MQ below (Qro (some (.int v0))) args s 0 0 (fun _ => False)) (F0 m pc ls [.int v]) := by
  cases hv
  exact W.iret hx hb hr (fun t ht hW => ⟨rfl, ht⟩) (fun q h => by cases h) hd
theorem rf_z {v0 : Int32} {ty : FieldType} (hx : p.tables.exec = Jvm.exec) (hb : c.code = cc) (hr : meth.sig.returnType = some ty) (hlocks : meth.locks = false) {v : Int32} (hn : narrow ty (.int v) = .int v) (hv : some v = some v0) {pc : Nat} {ls : Array Slot} (hd : decode cc pc = .ok (.ireturn, 1)) :
    W p l e R s m args below meth c s.heap [] 0 0 (MQ below (Qro (some (.int v0))) args s 0 0 (fun _ => False)) (F0 m pc ls [.int v]) := by
  cases hv
  exact W.zret hx hb hr hn (fun t ht hW => ⟨rfl, ht⟩) (fun q h => by cases h) hd
theorem rf_l {v0 : Int64} (hx : p.tables.exec = Jvm.exec) (hb : c.code = cc) (hr : meth.sig.returnType = some .long) (hlocks : meth.locks = false) {v : Int64} (hv : some v = some v0) {pc : Nat} {ls : Array Slot} (hd : decode cc pc = .ok (.lreturn, 1)) :
    W p l e R s m args below meth c s.heap [] 0 0 (MQ below (Qro (some (.long v0))) args s 0 0 (fun _ => False)) (F0 m pc ls [.long v]) := by
  cases hv
  exact W.lret hx hb hr (fun t ht hW => ⟨rfl, ht⟩) (fun q h => by cases h) hd
theorem rf_a {v0 v : Value} {C : String} (hx : p.tables.exec = Jvm.exec) (hb : c.code = cc) (hr : meth.sig.returnType = some (.object C)) (hlocks : meth.locks = false) (hv : v = v0) (hn : v = .null ∨ ∃ a, v = .ref a) {pc : Nat} {ls : Array Slot} (hd : decode cc pc = .ok (.areturn, 1)) :
    W p l e R s m args below meth c s.heap [] 0 0 (MQ below (Qro (some v0)) args s 0 0 (fun _ => False)) (F0 m pc ls [v]) := by
  cases hv
  exact W.aret hx hb hr (Or.inl ⟨C, rfl⟩) hn (fun t ht hW => ⟨rfl, ht⟩) (fun q h => by cases h) hd
theorem rw_i {v : Int32} {B : Heap → Prop} {A : Nat → Prop} (hx : p.tables.exec = Jvm.exec) (hb : c.code = cc) (hr : meth.sig.returnType = some .int) (hlocks : meth.locks = false) (hB : B H) (hS : va_S A s.heap H locs) {pc : Nat} {ls : Array Slot} (hd : decode cc pc = .ok (.ireturn, 1)) :
    W p l e R s m args below meth c H locs 0 0 (MQ below (Qwr (some (.int v)) B A) args s 0 0 A) (F0 m pc ls [.int v]) :=
  W.iret hx hb hr (fun t ht hW => ⟨rfl, by rw [ht]; exact hB, hS.F ht⟩) hS.2.2 hd
theorem rw_z {v : Int32} {ty : FieldType} {B : Heap → Prop} {A : Nat → Prop} (hx : p.tables.exec = Jvm.exec) (hb : c.code = cc) (hr : meth.sig.returnType = some ty) (hlocks : meth.locks = false) (hn : narrow ty (.int v) = .int v) (hB : B H) (hS : va_S A s.heap H locs) {pc : Nat} {ls : Array Slot} (hd : decode cc pc = .ok (.ireturn, 1)) :
    W p l e R s m args below meth c H locs 0 0 (MQ below (Qwr (some (.int v)) B A) args s 0 0 A) (F0 m pc ls [.int v]) :=
  W.zret hx hb hr hn (fun t ht hW => ⟨rfl, by rw [ht]; exact hB, hS.F ht⟩) hS.2.2 hd
theorem rw_l {v : Int64} {B : Heap → Prop} {A : Nat → Prop} (hx : p.tables.exec = Jvm.exec) (hb : c.code = cc) (hr : meth.sig.returnType = some .long) (hlocks : meth.locks = false) (hB : B H) (hS : va_S A s.heap H locs) {pc : Nat} {ls : Array Slot} (hd : decode cc pc = .ok (.lreturn, 1)) :
    W p l e R s m args below meth c H locs 0 0 (MQ below (Qwr (some (.long v)) B A) args s 0 0 A) (F0 m pc ls [.long v]) :=
  W.lret hx hb hr (fun t ht hW => ⟨rfl, by rw [ht]; exact hB, hS.F ht⟩) hS.2.2 hd
theorem rw_a {a : Nat} {C : String} {B : Heap → Prop} {A : Nat → Prop} (hx : p.tables.exec = Jvm.exec) (hb : c.code = cc) (hr : meth.sig.returnType = some (.object C)) (hlocks : meth.locks = false) (hB : B H) (hS : va_S A s.heap H locs) {pc : Nat} {ls : Array Slot} (hd : decode cc pc = .ok (.areturn, 1)) :
    W p l e R s m args below meth c H locs 0 0 (MQ below (Qwr (some (.ref a)) B A) args s 0 0 A) (F0 m pc ls [.ref a]) :=
  W.aret hx hb hr (Or.inl ⟨C, rfl⟩) (Or.inr ⟨a, rfl⟩) (fun t ht hW => ⟨rfl, by rw [ht]; exact hB, hS.F ht⟩) hS.2.2 hd
theorem rw_v {B : Heap → Prop} {A : Nat → Prop} (hx : p.tables.exec = Jvm.exec) (hb : c.code = cc) (hr : meth.sig.returnType = none) (hlocks : meth.locks = false) (hB : B H) (hS : va_S A s.heap H locs) {pc : Nat} {ls : Array Slot} (hd : decode cc pc = .ok (.return_, 1)) :
    W p l e R s m args below meth c H locs 0 0 (MQ below (Qwr none B A) args s 0 0 A) (F0 m pc ls []) :=
  W.vret hx hb hr (fun t ht hW => ⟨rfl, by rw [ht]; exact hB, hS.F ht⟩) hS.2.2 hd
end GWR
theorem GV {own C : String} {idx : Nat} {y : MethodName} {c' : Cond} (h1 : Cond.methodLink own idx y ∈ wsL_law) (h2 : Cond.instanceMethod y ∈ wsL_law) (h3 : Cond.selects C y y ∈ wsL_law) (h4 : Cond.initialized C ∈ wsL_law) (h5 : c' ∈ wsL_law) : GoodIn wsL_law (wsV own idx C y (c' :: wsL_law)) := by
  have hg : ∀ w ∈ wsL_law, goodWord w = true := fun w hw => List.all_eq_true.mp wl_good w hw
  have key : ∀ w ∈ wsV own idx C y (c' :: wsL_law), w ∈ wsL_law := by
    intro w hw
    simp only [wsV, List.cons_append, List.nil_append, List.mem_cons] at hw
    rcases hw with rfl | rfl | rfl | rfl | rfl | hw <;> assumption
  exact fun w hw => ⟨key w hw, good_of_word (hg _ (key w hw))⟩
theorem GS {own : String} {idx : Nat} {y : MethodName} {c' : Cond} (h1 : Cond.methodLink own idx y ∈ wsL_law) (h2 : Cond.static y ∈ wsL_law) (h4 : Cond.initialized y.cls ∈ wsL_law) (h5 : c' ∈ wsL_law) : GoodIn wsL_law (va_wsS own idx y (c' :: wsL_law)) := by
  have hg : ∀ w ∈ wsL_law, goodWord w = true := fun w hw => List.all_eq_true.mp wl_good w hw
  have key : ∀ w ∈ va_wsS own idx y (c' :: wsL_law), w ∈ wsL_law := by
    intro w hw
    simp only [va_wsS, List.cons_append, List.nil_append, List.mem_cons] at hw
    rcases hw with rfl | rfl | rfl | rfl | hw <;> assumption
  exact fun w hw => ⟨key w hw, good_of_word (hg _ (key w hw))⟩
theorem GL {c' : Cond} (h5 : c' ∈ wsL_law) : GoodIn wsL_law (c' :: wsL_law) := by
  have hg : ∀ w ∈ wsL_law, goodWord w = true := fun w hw => List.all_eq_true.mp wl_good w hw
  intro w hw
  rcases List.mem_cons.mp hw with rfl | hw
  · exact ⟨h5, good_of_word (hg _ h5)⟩
  · exact ⟨hw, good_of_word (hg _ hw)⟩
theorem P_nil {D : va_G} {cl : List vw_C} {H : Heap} : va_P D cl [] H := fun k q h => by simp at h
theorem wA_GE {G : GT} {w : va_W} (h : va_D (GE G) w) : ∀ q, wA w q → GE G q := by
  rintro q ⟨k, e, hk⟩
  exact h.2 k (q, e) hk
theorem wA_GEl {G : GT} {w1 w2 : va_W} (h : va_D (GE G) (w1 ++ w2)) : ∀ q, wA w1 q → GE G q := fun q hq => wA_GE h q (wA_left q hq)
def oLet {α : Type} (v : Nat) (f : Nat → Option α) : Option α := f v
theorem ob_let {α : Type} {v : Nat} {f : Nat → Option α} {z : α} (h : oLet v f = some z) : ∃ j, j = v ∧ f j = some z := ⟨v, rfl, h⟩
theorem ob_c {α : Type} {c : Prop} [Decidable c] {a : Option α} {r : α} (h : (if c then a else none) = some r) : c ∧ a = some r := by
  by_cases hc : c
  · rw [if_pos hc] at h
    exact ⟨hc, h⟩
  · rw [if_neg hc] at h
    cases h
def swp (a : Nat → Nat) : Nat → Nat := fun i => if i = 1 then a 2 else if i = 2 then a 1 else a i
def oSw (o : Ob) : Ob := (va_up o.1 4 (fun _ => if o.1 4 0 = 0 then 1 else 0), fun k => if k = 0 then o.2 1 else if k = 1 then o.2 0 else o.2 k)
section GWC2
variable {p : Program} {l : Launch} {e : Env} {R : Room} {s : State} {m : MethodId} {args : Array Value} {below : List Frame} {meth : Method} {c : Code} {H H0 : Heap} {locs : List Loc} {cells slots : Nat} {Q : State → Prop} {pc : Nat} {ls : Array Slot} {rest st0 : List Value} {a : Array Value}
theorem ro_call1 {v : Value} (hr : va_Run p l e R s m args below meth c H locs cells slots 0 0 (F0 m pc ls st0) rest (Qro (some v) a) (fun _ => False))
    (kk : W p l e R s m args below meth c H locs cells slots Q (F0 m (pc + 3) ls (v :: rest))) : W p l e R s m args below meth c H locs cells slots Q (F0 m pc ls st0) := ro_call hr kk
theorem ro_call0 (hr : va_Run p l e R s m args below meth c H locs cells slots 0 0 (F0 m pc ls st0) rest (Qro none a) (fun _ => False))
    (kk : W p l e R s m args below meth c H locs cells slots Q (F0 m (pc + 3) ls rest)) : W p l e R s m args below meth c H locs cells slots Q (F0 m pc ls st0) := ro_call hr kk
theorem wr_call1 {v : Value} {B : Heap → Prop} {A1 A0 : Nat → Prop} (hr : va_Run p l e R s m args below meth c H locs cells slots 0 0 (F0 m pc ls st0) rest (Qwr (some v) B A1 a) A1) (hS : va_S A0 H0 H locs) (hA : ∀ q, A1 q → A0 q)
    (kk : ∀ (H1 : Heap) (locs1 : List Loc), B H1 → H.size ≤ H1.size → (∀ q : Nat, q < H.size → ¬ A1 q → H1[q]? = H[q]?) → va_S A0 H0 H1 locs1 → W p l e R s m args below meth c H1 locs1 cells slots Q (F0 m (pc + 3) ls (v :: rest))) : W p l e R s m args below meth c H locs cells slots Q (F0 m pc ls st0) := wr_call hr hS hA kk
theorem wr_call0 {B : Heap → Prop} {A1 A0 : Nat → Prop} (hr : va_Run p l e R s m args below meth c H locs cells slots 0 0 (F0 m pc ls st0) rest (Qwr none B A1 a) A1) (hS : va_S A0 H0 H locs) (hA : ∀ q, A1 q → A0 q)
    (kk : ∀ (H1 : Heap) (locs1 : List Loc), B H1 → H.size ≤ H1.size → (∀ q : Nat, q < H.size → ¬ A1 q → H1[q]? = H[q]?) → va_S A0 H0 H1 locs1 → W p l e R s m args below meth c H1 locs1 cells slots Q (F0 m (pc + 3) ls rest)) : W p l e R s m args below meth c H locs cells slots Q (F0 m pc ls st0) := wr_call hr hS hA kk
end GWC2
theorem D_cr {A : Nat → Prop} {w1 w2 : va_W} (hD : va_D A w1) (h : w1.map Prod.fst = w2.map Prod.fst) : va_D A w2 := D_cg h hD
/-! ===== the layout: each class' cells, the class' world, the reference's ===== -/
def cs0 (ct : Nat → ClassId) (a : Nat → Nat) (o : Ob) : va_W := [(a 0, .inr (0, [.ref (a 1), .ref (a 2), .int (o.1 2 0), .long (o.2 3 0)])), (a 1, .inl (ct 1, 1240, .inr (.inl (o.2 0)))), (a 2, .inl (ct 1, 1240, .inr (.inl (o.2 1))))]
def cs2 (ct : Nat → ClassId) (a : Nat → Nat) (o : Ob) : va_W := [(a 0, .inr (2, [.int (o.1 0 0), .int (o.1 1 0), .int (o.1 2 0), .int (o.1 3 0), .int (o.1 4 0), .ref (a 1), .ref (a 2), .ref (a 3), .int (o.1 8 0), .ref (a 4), .ref (a 5), .ref (a 6), .ref (a 7), .int (o.1 13 0), .ref (a 8), .ref (a 9), .int (o.1 16 0), .ref (a 10), .ref (a 11), .ref (a 12)])), (a 1, .inl (ct 0, 10, .inl (o.1 5))), (a 2, .inl (ct 0, 10, .inl (o.1 6))), (a 3, .inl (ct 0, 10, .inl (o.1 7))), (a 4, .inl (ct 0, 5, .inl (o.1 9))), (a 5, .inl (ct 0, 5, .inl (o.1 10))), (a 6, .inl (ct 0, 5, .inl (o.1 11))), (a 7, .inl (ct 0, 5, .inl (o.1 12))), (a 8, .inl (ct 0, 5, .inl (o.1 14))), (a 9, .inl (ct 0, 5, .inl (o.1 15))), (a 10, .inl (ct 0, 30, .inl (o.1 17))), (a 11, .inl (ct 0, 30, .inl (o.1 18))), (a 12, .inl (ct 0, 30, .inl (o.1 19)))]
def cs3 (ct : Nat → ClassId) (a : Nat → Nat) (o : Ob) : va_W := [(a 0, .inr (3, [.int (o.1 0 0), .int (o.1 1 0), .int (o.1 2 0), .ref (a 1)])), (a 1, .inl (ct 1, 60, .inr (.inl (o.2 3))))]
def cs4 (ct : Nat → ClassId) (a : Nat → Nat) (o : Ob) : va_W := [(a 0, .inr (4, [.int (o.1 0 0), .int (o.1 1 0), .int (o.1 2 0), .ref (a 1)])), (a 1, .inl (ct 0, 732, .inl (o.1 3)))]
def cs5 (ct : Nat → ClassId) (a : Nat → Nat) (o : Ob) : va_W := [(a 0, .inr (5, [.ref (a 1), .int (o.1 1 0), .int (o.1 2 0), .int (o.1 3 0), .int (o.1 4 0), .int (o.1 5 0), .int (o.1 6 0), .int (o.1 7 0), .int (o.1 8 0)])), (a 1, .inl (ct 0, 61, .inl (o.1 0)))]
def cs6 (ct : Nat → ClassId) (a : Nat → Nat) (o : Ob) : va_W := [(a 0, .inr (6, [.ref (a 1), .int (o.1 1 0)])), (a 1, .inl (ct 0, 700, .inl (o.1 0)))]
def cs7 (ct : Nat → ClassId) (a : Nat → Nat) (o : Ob) : va_W := [(a 0, .inr (7, [.ref (a 1), .ref (a 2), .ref (a 3), .int (o.1 3 0)])), (a 1, .inl (ct 0, 701, .inl (o.1 0))), (a 2, .inl (ct 0, 701, .inl (o.1 1))), (a 3, .inl (ct 0, 701, .inl (o.1 2)))]
def cs8 (ct : Nat → ClassId) (a : Nat → Nat) (o : Ob) : va_W := [(a 0, .inr (8, [.ref (a 1), .ref (a 2), .int (o.1 2 0)])), (a 1, .inl (ct 0, 61, .inl (o.1 0))), (a 2, .inl (ct 0, 61, .inl (o.1 1)))]
def cs10 (ct : Nat → ClassId) (a : Nat → Nat) (o : Ob) : va_W := [(a 0, .inr (10, [.int (o.1 0 0), .ref (a 1), .ref (a 2), .ref (a 3), .ref (a 4), .int (o.1 5 0), .ref (a 5), .int (o.1 7 0), .int (o.1 8 0), .int (o.1 9 0), .int (o.1 10 0), .int (o.1 11 0), .int (o.1 12 0), .int (o.1 13 0), .ref (a 6), .ref (a 7), .ref (a 8), .ref (a 9), .ref (a 10), .ref (a 11), .int (o.1 20 0), .int (o.1 21 0), .ref (a 12), .ref (a 13), .int (o.1 24 0), .int (o.1 25 0), .int (o.1 26 0), .ref (a 14), .ref (a 15), .int (o.1 29 0), .ref (a 16), .ref (a 17), .int (o.1 32 0), .int (o.1 33 0), .int (o.1 34 0), .ref (a 18), .ref (a 19), .int (o.1 37 0), .ref (a 20), .ref (a 21), .ref (a 22), .ref (a 23)])), (a 1, .inl (ct 0, 98, .inl (o.1 1))), (a 2, .inl (ct 0, 294, .inl (o.1 2))), (a 3, .inl (ct 3, 3, .inl (o.1 3))), (a 4, .inl (ct 2, 700, .inl (o.1 4))), (a 5, .inl (ct 0, 5, .inl (o.1 6))), (a 6, .inl (ct 0, 98, .inl (o.1 14))), (a 7, .inl (ct 0, 61, .inl (o.1 15))), (a 8, .inl (ct 0, 61, .inl (o.1 16))), (a 9, .inl (ct 0, 61, .inl (o.1 17))), (a 10, .inl (ct 0, 5, .inl (o.1 18))), (a 11, .inl (ct 0, 5, .inl (o.1 19))), (a 12, .inl (ct 0, 61, .inl (o.1 22))), (a 13, .inl (ct 3, 61, .inl (o.1 23))), (a 14, .inl (ct 0, 61, .inl (o.1 27))), (a 15, .inl (ct 0, 10, .inl (o.1 28))), (a 16, .inl (ct 0, 610, .inl (o.1 30))), (a 17, .inl (ct 2, 37210, .inl (o.1 31))), (a 18, .inl (ct 1, 1300, .inr (.inl (o.2 35)))), (a 19, .inl (ct 1, 1300, .inr (.inl (o.2 36)))), (a 20, .inl (ct 0, 4, .inl (o.1 38))), (a 21, .inl (ct 0, 4, .inl (o.1 39))), (a 22, .inl (ct 1, 240, .inr (.inl (o.2 40)))), (a 23, .inl (ct 1, 60, .inr (.inl (o.2 41))))]
def cs1 (ct : Nat → ClassId) (a : Nat → Nat) (o t r : Ob) : va_W := (a 0, .inr (1, [.ref (a 1), .ref (a 5), .int (o.1 2 0), .int (o.1 3 0), .int (o.1 4 0), .int (o.1 5 0)])) :: (cs7 ct (fun i => a (1 + i)) t ++ cs2 ct (fun i => a (5 + i)) r)
/-- where the two rows of the chances lie: they change places -/
def chp (o : Ob) : Nat → Nat
  | 0 => 108
  | 1 => if o.1 4 0 = 0 then 109 else 110
  | 2 => if o.1 4 0 = 0 then 110 else 109
  | n + 3 => 111 + n
def csQ (ct : Nat → ClassId) (A : Nat → Nat) (x : Nat → Ob) : va_W := (A 0, .inr (9, [.ref (A 1), .ref (A 3), .ref (A 21), .ref (A 34), .ref (A 47), .int ((x 0).1 5 0), .ref (A 87), .ref (A 90), .ref (A 93), .ref (A 95), .ref (A 97), .ref (A 106), .ref (A 108), .ref (A 111)])) :: (cs6 ct (fun i => A (1 + i)) (x 1) ++ (cs1 ct (fun i => A (3 + i)) (x 2) (x 3) (x 4) ++ (cs2 ct (fun i => A (21 + i)) (x 5) ++ (cs2 ct (fun i => A (34 + i)) (x 6) ++ ([(A 47, .inl (ct 4, 3, .inr (.inr (.inr (.inr (fun j => some (A (48 + 13 * j))))))))] ++ (cs2 ct (fun i => A (48 + i)) (x 7) ++ (cs2 ct (fun i => A (61 + i)) (x 8) ++ (cs2 ct (fun i => A (74 + i)) (x 9) ++ (cs8 ct (fun i => A (87 + i)) (x 10) ++ (cs8 ct (fun i => A (90 + i)) (x 11) ++ (cs5 ct (fun i => A (93 + i)) (x 12) ++ (cs5 ct (fun i => A (95 + i)) (x 13) ++ ([(A 97, .inl (ct 5, 4, .inr (.inr (.inr (.inr (fun j => some (A (98 + 2 * j))))))))] ++ (cs3 ct (fun i => A (98 + i)) (x 14) ++ (cs3 ct (fun i => A (100 + i)) (x 15) ++ (cs3 ct (fun i => A (102 + i)) (x 16) ++ (cs3 ct (fun i => A (104 + i)) (x 17) ++ (cs4 ct (fun i => A (106 + i)) (x 18) ++ (cs0 ct (fun i => A (chp (x 19) i)) (x 19) ++ ([(A 111, .inl (ct 0, 61, .inl ((x 0).1 13)))]))))))))))))))))))))
theorem st2_0 {ct : Nat → ClassId} {a : Nat → Nat} {D : va_G} {H : Heap} {o : Ob} {v : Int32} (h : va_P D vwCl ((cs2 ct a o).set 0 (a 0, .inr (2, [.int (o.1 0 0), .int (o.1 1 0), .int (o.1 2 0), .int (o.1 3 0), .int (o.1 4 0), .ref (a 1), .ref (a 2), .ref (a 3), .int (o.1 8 0), .ref (a 4), .ref (a 5), .ref (a 6), .ref (a 7), .int (o.1 13 0), .ref (a 8), .ref (a 9), .int (o.1 16 0), .ref (a 10), .ref (a 11), .ref (a 12)].set 0 (.int v)))) H) : va_P D vwCl (cs2 ct a (oI o 0 v)) H := h
theorem st2_1 {ct : Nat → ClassId} {a : Nat → Nat} {D : va_G} {H : Heap} {o : Ob} {v : Int32} (h : va_P D vwCl ((cs2 ct a o).set 0 (a 0, .inr (2, [.int (o.1 0 0), .int (o.1 1 0), .int (o.1 2 0), .int (o.1 3 0), .int (o.1 4 0), .ref (a 1), .ref (a 2), .ref (a 3), .int (o.1 8 0), .ref (a 4), .ref (a 5), .ref (a 6), .ref (a 7), .int (o.1 13 0), .ref (a 8), .ref (a 9), .int (o.1 16 0), .ref (a 10), .ref (a 11), .ref (a 12)].set 1 (.int v)))) H) : va_P D vwCl (cs2 ct a (oI o 1 v)) H := h
theorem st2_2 {ct : Nat → ClassId} {a : Nat → Nat} {D : va_G} {H : Heap} {o : Ob} {v : Int32} (h : va_P D vwCl ((cs2 ct a o).set 0 (a 0, .inr (2, [.int (o.1 0 0), .int (o.1 1 0), .int (o.1 2 0), .int (o.1 3 0), .int (o.1 4 0), .ref (a 1), .ref (a 2), .ref (a 3), .int (o.1 8 0), .ref (a 4), .ref (a 5), .ref (a 6), .ref (a 7), .int (o.1 13 0), .ref (a 8), .ref (a 9), .int (o.1 16 0), .ref (a 10), .ref (a 11), .ref (a 12)].set 2 (.int v)))) H) : va_P D vwCl (cs2 ct a (oI o 2 v)) H := h
theorem st2_3 {ct : Nat → ClassId} {a : Nat → Nat} {D : va_G} {H : Heap} {o : Ob} {v : Int32} (h : va_P D vwCl ((cs2 ct a o).set 0 (a 0, .inr (2, [.int (o.1 0 0), .int (o.1 1 0), .int (o.1 2 0), .int (o.1 3 0), .int (o.1 4 0), .ref (a 1), .ref (a 2), .ref (a 3), .int (o.1 8 0), .ref (a 4), .ref (a 5), .ref (a 6), .ref (a 7), .int (o.1 13 0), .ref (a 8), .ref (a 9), .int (o.1 16 0), .ref (a 10), .ref (a 11), .ref (a 12)].set 3 (.int v)))) H) : va_P D vwCl (cs2 ct a (oI o 3 v)) H := h
theorem st2_4 {ct : Nat → ClassId} {a : Nat → Nat} {D : va_G} {H : Heap} {o : Ob} {v : Int32} (h : va_P D vwCl ((cs2 ct a o).set 0 (a 0, .inr (2, [.int (o.1 0 0), .int (o.1 1 0), .int (o.1 2 0), .int (o.1 3 0), .int (o.1 4 0), .ref (a 1), .ref (a 2), .ref (a 3), .int (o.1 8 0), .ref (a 4), .ref (a 5), .ref (a 6), .ref (a 7), .int (o.1 13 0), .ref (a 8), .ref (a 9), .int (o.1 16 0), .ref (a 10), .ref (a 11), .ref (a 12)].set 4 (.int v)))) H) : va_P D vwCl (cs2 ct a (oI o 4 v)) H := h
theorem sa2_5 {ct : Nat → ClassId} {a : Nat → Nat} {D : va_G} {H : Heap} {o : Ob} {f : Nat → Int32} (h : va_P D vwCl ((cs2 ct a o).set 1 (a 1, .inl (ct 0, 10, .inl f))) H) : va_P D vwCl (cs2 ct a (oA o 5 f)) H := h
theorem sa2_6 {ct : Nat → ClassId} {a : Nat → Nat} {D : va_G} {H : Heap} {o : Ob} {f : Nat → Int32} (h : va_P D vwCl ((cs2 ct a o).set 2 (a 2, .inl (ct 0, 10, .inl f))) H) : va_P D vwCl (cs2 ct a (oA o 6 f)) H := h
theorem sa2_7 {ct : Nat → ClassId} {a : Nat → Nat} {D : va_G} {H : Heap} {o : Ob} {f : Nat → Int32} (h : va_P D vwCl ((cs2 ct a o).set 3 (a 3, .inl (ct 0, 10, .inl f))) H) : va_P D vwCl (cs2 ct a (oA o 7 f)) H := h
theorem st2_8 {ct : Nat → ClassId} {a : Nat → Nat} {D : va_G} {H : Heap} {o : Ob} {v : Int32} (h : va_P D vwCl ((cs2 ct a o).set 0 (a 0, .inr (2, [.int (o.1 0 0), .int (o.1 1 0), .int (o.1 2 0), .int (o.1 3 0), .int (o.1 4 0), .ref (a 1), .ref (a 2), .ref (a 3), .int (o.1 8 0), .ref (a 4), .ref (a 5), .ref (a 6), .ref (a 7), .int (o.1 13 0), .ref (a 8), .ref (a 9), .int (o.1 16 0), .ref (a 10), .ref (a 11), .ref (a 12)].set 8 (.int v)))) H) : va_P D vwCl (cs2 ct a (oI o 8 v)) H := h
theorem sa2_9 {ct : Nat → ClassId} {a : Nat → Nat} {D : va_G} {H : Heap} {o : Ob} {f : Nat → Int32} (h : va_P D vwCl ((cs2 ct a o).set 4 (a 4, .inl (ct 0, 5, .inl f))) H) : va_P D vwCl (cs2 ct a (oA o 9 f)) H := h
theorem sa2_10 {ct : Nat → ClassId} {a : Nat → Nat} {D : va_G} {H : Heap} {o : Ob} {f : Nat → Int32} (h : va_P D vwCl ((cs2 ct a o).set 5 (a 5, .inl (ct 0, 5, .inl f))) H) : va_P D vwCl (cs2 ct a (oA o 10 f)) H := h
theorem sa2_11 {ct : Nat → ClassId} {a : Nat → Nat} {D : va_G} {H : Heap} {o : Ob} {f : Nat → Int32} (h : va_P D vwCl ((cs2 ct a o).set 6 (a 6, .inl (ct 0, 5, .inl f))) H) : va_P D vwCl (cs2 ct a (oA o 11 f)) H := h
theorem sa2_12 {ct : Nat → ClassId} {a : Nat → Nat} {D : va_G} {H : Heap} {o : Ob} {f : Nat → Int32} (h : va_P D vwCl ((cs2 ct a o).set 7 (a 7, .inl (ct 0, 5, .inl f))) H) : va_P D vwCl (cs2 ct a (oA o 12 f)) H := h
theorem st2_13 {ct : Nat → ClassId} {a : Nat → Nat} {D : va_G} {H : Heap} {o : Ob} {v : Int32} (h : va_P D vwCl ((cs2 ct a o).set 0 (a 0, .inr (2, [.int (o.1 0 0), .int (o.1 1 0), .int (o.1 2 0), .int (o.1 3 0), .int (o.1 4 0), .ref (a 1), .ref (a 2), .ref (a 3), .int (o.1 8 0), .ref (a 4), .ref (a 5), .ref (a 6), .ref (a 7), .int (o.1 13 0), .ref (a 8), .ref (a 9), .int (o.1 16 0), .ref (a 10), .ref (a 11), .ref (a 12)].set 13 (.int v)))) H) : va_P D vwCl (cs2 ct a (oI o 13 v)) H := h
theorem sa2_14 {ct : Nat → ClassId} {a : Nat → Nat} {D : va_G} {H : Heap} {o : Ob} {f : Nat → Int32} (h : va_P D vwCl ((cs2 ct a o).set 8 (a 8, .inl (ct 0, 5, .inl f))) H) : va_P D vwCl (cs2 ct a (oA o 14 f)) H := h
theorem sa2_15 {ct : Nat → ClassId} {a : Nat → Nat} {D : va_G} {H : Heap} {o : Ob} {f : Nat → Int32} (h : va_P D vwCl ((cs2 ct a o).set 9 (a 9, .inl (ct 0, 5, .inl f))) H) : va_P D vwCl (cs2 ct a (oA o 15 f)) H := h
theorem st2_16 {ct : Nat → ClassId} {a : Nat → Nat} {D : va_G} {H : Heap} {o : Ob} {v : Int32} (h : va_P D vwCl ((cs2 ct a o).set 0 (a 0, .inr (2, [.int (o.1 0 0), .int (o.1 1 0), .int (o.1 2 0), .int (o.1 3 0), .int (o.1 4 0), .ref (a 1), .ref (a 2), .ref (a 3), .int (o.1 8 0), .ref (a 4), .ref (a 5), .ref (a 6), .ref (a 7), .int (o.1 13 0), .ref (a 8), .ref (a 9), .int (o.1 16 0), .ref (a 10), .ref (a 11), .ref (a 12)].set 16 (.int v)))) H) : va_P D vwCl (cs2 ct a (oI o 16 v)) H := h
theorem sa2_17 {ct : Nat → ClassId} {a : Nat → Nat} {D : va_G} {H : Heap} {o : Ob} {f : Nat → Int32} (h : va_P D vwCl ((cs2 ct a o).set 10 (a 10, .inl (ct 0, 30, .inl f))) H) : va_P D vwCl (cs2 ct a (oA o 17 f)) H := h
theorem sa2_18 {ct : Nat → ClassId} {a : Nat → Nat} {D : va_G} {H : Heap} {o : Ob} {f : Nat → Int32} (h : va_P D vwCl ((cs2 ct a o).set 11 (a 11, .inl (ct 0, 30, .inl f))) H) : va_P D vwCl (cs2 ct a (oA o 18 f)) H := h
theorem sa2_19 {ct : Nat → ClassId} {a : Nat → Nat} {D : va_G} {H : Heap} {o : Ob} {f : Nat → Int32} (h : va_P D vwCl ((cs2 ct a o).set 12 (a 12, .inl (ct 0, 30, .inl f))) H) : va_P D vwCl (cs2 ct a (oA o 19 f)) H := h
theorem st3_0 {ct : Nat → ClassId} {a : Nat → Nat} {D : va_G} {H : Heap} {o : Ob} {v : Int32} (h : va_P D vwCl ((cs3 ct a o).set 0 (a 0, .inr (3, [.int (o.1 0 0), .int (o.1 1 0), .int (o.1 2 0), .ref (a 1)].set 0 (.int v)))) H) : va_P D vwCl (cs3 ct a (oI o 0 v)) H := h
theorem st3_1 {ct : Nat → ClassId} {a : Nat → Nat} {D : va_G} {H : Heap} {o : Ob} {v : Int32} (h : va_P D vwCl ((cs3 ct a o).set 0 (a 0, .inr (3, [.int (o.1 0 0), .int (o.1 1 0), .int (o.1 2 0), .ref (a 1)].set 1 (.int v)))) H) : va_P D vwCl (cs3 ct a (oI o 1 v)) H := h
theorem st3_2 {ct : Nat → ClassId} {a : Nat → Nat} {D : va_G} {H : Heap} {o : Ob} {v : Int32} (h : va_P D vwCl ((cs3 ct a o).set 0 (a 0, .inr (3, [.int (o.1 0 0), .int (o.1 1 0), .int (o.1 2 0), .ref (a 1)].set 2 (.int v)))) H) : va_P D vwCl (cs3 ct a (oI o 2 v)) H := h
theorem sa3_3 {ct : Nat → ClassId} {a : Nat → Nat} {D : va_G} {H : Heap} {o : Ob} {f : Nat → Int64} (h : va_P D vwCl ((cs3 ct a o).set 1 (a 1, .inl (ct 1, 60, .inr (.inl f)))) H) : va_P D vwCl (cs3 ct a (oLA o 3 f)) H := h
theorem st4_0 {ct : Nat → ClassId} {a : Nat → Nat} {D : va_G} {H : Heap} {o : Ob} {v : Int32} (h : va_P D vwCl ((cs4 ct a o).set 0 (a 0, .inr (4, [.int (o.1 0 0), .int (o.1 1 0), .int (o.1 2 0), .ref (a 1)].set 0 (.int v)))) H) : va_P D vwCl (cs4 ct a (oI o 0 v)) H := h
theorem st4_1 {ct : Nat → ClassId} {a : Nat → Nat} {D : va_G} {H : Heap} {o : Ob} {v : Int32} (h : va_P D vwCl ((cs4 ct a o).set 0 (a 0, .inr (4, [.int (o.1 0 0), .int (o.1 1 0), .int (o.1 2 0), .ref (a 1)].set 1 (.int v)))) H) : va_P D vwCl (cs4 ct a (oI o 1 v)) H := h
theorem st4_2 {ct : Nat → ClassId} {a : Nat → Nat} {D : va_G} {H : Heap} {o : Ob} {v : Int32} (h : va_P D vwCl ((cs4 ct a o).set 0 (a 0, .inr (4, [.int (o.1 0 0), .int (o.1 1 0), .int (o.1 2 0), .ref (a 1)].set 2 (.int v)))) H) : va_P D vwCl (cs4 ct a (oI o 2 v)) H := h
theorem sa4_3 {ct : Nat → ClassId} {a : Nat → Nat} {D : va_G} {H : Heap} {o : Ob} {f : Nat → Int32} (h : va_P D vwCl ((cs4 ct a o).set 1 (a 1, .inl (ct 0, 732, .inl f))) H) : va_P D vwCl (cs4 ct a (oA o 3 f)) H := h
theorem sa5_0 {ct : Nat → ClassId} {a : Nat → Nat} {D : va_G} {H : Heap} {o : Ob} {f : Nat → Int32} (h : va_P D vwCl ((cs5 ct a o).set 1 (a 1, .inl (ct 0, 61, .inl f))) H) : va_P D vwCl (cs5 ct a (oA o 0 f)) H := h
theorem st5_1 {ct : Nat → ClassId} {a : Nat → Nat} {D : va_G} {H : Heap} {o : Ob} {v : Int32} (h : va_P D vwCl ((cs5 ct a o).set 0 (a 0, .inr (5, [.ref (a 1), .int (o.1 1 0), .int (o.1 2 0), .int (o.1 3 0), .int (o.1 4 0), .int (o.1 5 0), .int (o.1 6 0), .int (o.1 7 0), .int (o.1 8 0)].set 1 (.int v)))) H) : va_P D vwCl (cs5 ct a (oI o 1 v)) H := h
theorem st5_2 {ct : Nat → ClassId} {a : Nat → Nat} {D : va_G} {H : Heap} {o : Ob} {v : Int32} (h : va_P D vwCl ((cs5 ct a o).set 0 (a 0, .inr (5, [.ref (a 1), .int (o.1 1 0), .int (o.1 2 0), .int (o.1 3 0), .int (o.1 4 0), .int (o.1 5 0), .int (o.1 6 0), .int (o.1 7 0), .int (o.1 8 0)].set 2 (.int v)))) H) : va_P D vwCl (cs5 ct a (oI o 2 v)) H := h
theorem st5_3 {ct : Nat → ClassId} {a : Nat → Nat} {D : va_G} {H : Heap} {o : Ob} {v : Int32} (h : va_P D vwCl ((cs5 ct a o).set 0 (a 0, .inr (5, [.ref (a 1), .int (o.1 1 0), .int (o.1 2 0), .int (o.1 3 0), .int (o.1 4 0), .int (o.1 5 0), .int (o.1 6 0), .int (o.1 7 0), .int (o.1 8 0)].set 3 (.int v)))) H) : va_P D vwCl (cs5 ct a (oI o 3 v)) H := h
theorem st5_4 {ct : Nat → ClassId} {a : Nat → Nat} {D : va_G} {H : Heap} {o : Ob} {v : Int32} (h : va_P D vwCl ((cs5 ct a o).set 0 (a 0, .inr (5, [.ref (a 1), .int (o.1 1 0), .int (o.1 2 0), .int (o.1 3 0), .int (o.1 4 0), .int (o.1 5 0), .int (o.1 6 0), .int (o.1 7 0), .int (o.1 8 0)].set 4 (.int v)))) H) : va_P D vwCl (cs5 ct a (oI o 4 v)) H := h
theorem st5_5 {ct : Nat → ClassId} {a : Nat → Nat} {D : va_G} {H : Heap} {o : Ob} {v : Int32} (h : va_P D vwCl ((cs5 ct a o).set 0 (a 0, .inr (5, [.ref (a 1), .int (o.1 1 0), .int (o.1 2 0), .int (o.1 3 0), .int (o.1 4 0), .int (o.1 5 0), .int (o.1 6 0), .int (o.1 7 0), .int (o.1 8 0)].set 5 (.int v)))) H) : va_P D vwCl (cs5 ct a (oI o 5 v)) H := h
theorem st5_6 {ct : Nat → ClassId} {a : Nat → Nat} {D : va_G} {H : Heap} {o : Ob} {v : Int32} (h : va_P D vwCl ((cs5 ct a o).set 0 (a 0, .inr (5, [.ref (a 1), .int (o.1 1 0), .int (o.1 2 0), .int (o.1 3 0), .int (o.1 4 0), .int (o.1 5 0), .int (o.1 6 0), .int (o.1 7 0), .int (o.1 8 0)].set 6 (.int v)))) H) : va_P D vwCl (cs5 ct a (oI o 6 v)) H := h
theorem st5_7 {ct : Nat → ClassId} {a : Nat → Nat} {D : va_G} {H : Heap} {o : Ob} {v : Int32} (h : va_P D vwCl ((cs5 ct a o).set 0 (a 0, .inr (5, [.ref (a 1), .int (o.1 1 0), .int (o.1 2 0), .int (o.1 3 0), .int (o.1 4 0), .int (o.1 5 0), .int (o.1 6 0), .int (o.1 7 0), .int (o.1 8 0)].set 7 (.int v)))) H) : va_P D vwCl (cs5 ct a (oI o 7 v)) H := h
theorem st5_8 {ct : Nat → ClassId} {a : Nat → Nat} {D : va_G} {H : Heap} {o : Ob} {v : Int32} (h : va_P D vwCl ((cs5 ct a o).set 0 (a 0, .inr (5, [.ref (a 1), .int (o.1 1 0), .int (o.1 2 0), .int (o.1 3 0), .int (o.1 4 0), .int (o.1 5 0), .int (o.1 6 0), .int (o.1 7 0), .int (o.1 8 0)].set 8 (.int v)))) H) : va_P D vwCl (cs5 ct a (oI o 8 v)) H := h
theorem sa6_0 {ct : Nat → ClassId} {a : Nat → Nat} {D : va_G} {H : Heap} {o : Ob} {f : Nat → Int32} (h : va_P D vwCl ((cs6 ct a o).set 1 (a 1, .inl (ct 0, 700, .inl f))) H) : va_P D vwCl (cs6 ct a (oA o 0 f)) H := h
theorem st6_1 {ct : Nat → ClassId} {a : Nat → Nat} {D : va_G} {H : Heap} {o : Ob} {v : Int32} (h : va_P D vwCl ((cs6 ct a o).set 0 (a 0, .inr (6, [.ref (a 1), .int (o.1 1 0)].set 1 (.int v)))) H) : va_P D vwCl (cs6 ct a (oI o 1 v)) H := h
theorem sa7_0 {ct : Nat → ClassId} {a : Nat → Nat} {D : va_G} {H : Heap} {o : Ob} {f : Nat → Int32} (h : va_P D vwCl ((cs7 ct a o).set 1 (a 1, .inl (ct 0, 701, .inl f))) H) : va_P D vwCl (cs7 ct a (oA o 0 f)) H := h
theorem sa7_1 {ct : Nat → ClassId} {a : Nat → Nat} {D : va_G} {H : Heap} {o : Ob} {f : Nat → Int32} (h : va_P D vwCl ((cs7 ct a o).set 2 (a 2, .inl (ct 0, 701, .inl f))) H) : va_P D vwCl (cs7 ct a (oA o 1 f)) H := h
theorem sa7_2 {ct : Nat → ClassId} {a : Nat → Nat} {D : va_G} {H : Heap} {o : Ob} {f : Nat → Int32} (h : va_P D vwCl ((cs7 ct a o).set 3 (a 3, .inl (ct 0, 701, .inl f))) H) : va_P D vwCl (cs7 ct a (oA o 2 f)) H := h
theorem st7_3 {ct : Nat → ClassId} {a : Nat → Nat} {D : va_G} {H : Heap} {o : Ob} {v : Int32} (h : va_P D vwCl ((cs7 ct a o).set 0 (a 0, .inr (7, [.ref (a 1), .ref (a 2), .ref (a 3), .int (o.1 3 0)].set 3 (.int v)))) H) : va_P D vwCl (cs7 ct a (oI o 3 v)) H := h
theorem sa8_0 {ct : Nat → ClassId} {a : Nat → Nat} {D : va_G} {H : Heap} {o : Ob} {f : Nat → Int32} (h : va_P D vwCl ((cs8 ct a o).set 1 (a 1, .inl (ct 0, 61, .inl f))) H) : va_P D vwCl (cs8 ct a (oA o 0 f)) H := h
theorem sa8_1 {ct : Nat → ClassId} {a : Nat → Nat} {D : va_G} {H : Heap} {o : Ob} {f : Nat → Int32} (h : va_P D vwCl ((cs8 ct a o).set 2 (a 2, .inl (ct 0, 61, .inl f))) H) : va_P D vwCl (cs8 ct a (oA o 1 f)) H := h
theorem st8_2 {ct : Nat → ClassId} {a : Nat → Nat} {D : va_G} {H : Heap} {o : Ob} {v : Int32} (h : va_P D vwCl ((cs8 ct a o).set 0 (a 0, .inr (8, [.ref (a 1), .ref (a 2), .int (o.1 2 0)].set 2 (.int v)))) H) : va_P D vwCl (cs8 ct a (oI o 2 v)) H := h
theorem st10_0 {ct : Nat → ClassId} {a : Nat → Nat} {D : va_G} {H : Heap} {o : Ob} {v : Int32} (h : va_P D vwCl ((cs10 ct a o).set 0 (a 0, .inr (10, [.int (o.1 0 0), .ref (a 1), .ref (a 2), .ref (a 3), .ref (a 4), .int (o.1 5 0), .ref (a 5), .int (o.1 7 0), .int (o.1 8 0), .int (o.1 9 0), .int (o.1 10 0), .int (o.1 11 0), .int (o.1 12 0), .int (o.1 13 0), .ref (a 6), .ref (a 7), .ref (a 8), .ref (a 9), .ref (a 10), .ref (a 11), .int (o.1 20 0), .int (o.1 21 0), .ref (a 12), .ref (a 13), .int (o.1 24 0), .int (o.1 25 0), .int (o.1 26 0), .ref (a 14), .ref (a 15), .int (o.1 29 0), .ref (a 16), .ref (a 17), .int (o.1 32 0), .int (o.1 33 0), .int (o.1 34 0), .ref (a 18), .ref (a 19), .int (o.1 37 0), .ref (a 20), .ref (a 21), .ref (a 22), .ref (a 23)].set 0 (.int v)))) H) : va_P D vwCl (cs10 ct a (oI o 0 v)) H := h
theorem sa10_1 {ct : Nat → ClassId} {a : Nat → Nat} {D : va_G} {H : Heap} {o : Ob} {f : Nat → Int32} (h : va_P D vwCl ((cs10 ct a o).set 1 (a 1, .inl (ct 0, 98, .inl f))) H) : va_P D vwCl (cs10 ct a (oA o 1 f)) H := h
theorem sa10_2 {ct : Nat → ClassId} {a : Nat → Nat} {D : va_G} {H : Heap} {o : Ob} {f : Nat → Int32} (h : va_P D vwCl ((cs10 ct a o).set 2 (a 2, .inl (ct 0, 294, .inl f))) H) : va_P D vwCl (cs10 ct a (oA o 2 f)) H := h
theorem sa10_3 {ct : Nat → ClassId} {a : Nat → Nat} {D : va_G} {H : Heap} {o : Ob} {f : Nat → Int32} (h : va_P D vwCl ((cs10 ct a o).set 3 (a 3, .inl (ct 3, 3, .inl f))) H) : va_P D vwCl (cs10 ct a (oA o 3 f)) H := h
theorem sa10_4 {ct : Nat → ClassId} {a : Nat → Nat} {D : va_G} {H : Heap} {o : Ob} {f : Nat → Int32} (h : va_P D vwCl ((cs10 ct a o).set 4 (a 4, .inl (ct 2, 700, .inl f))) H) : va_P D vwCl (cs10 ct a (oA o 4 f)) H := h
theorem st10_5 {ct : Nat → ClassId} {a : Nat → Nat} {D : va_G} {H : Heap} {o : Ob} {v : Int32} (h : va_P D vwCl ((cs10 ct a o).set 0 (a 0, .inr (10, [.int (o.1 0 0), .ref (a 1), .ref (a 2), .ref (a 3), .ref (a 4), .int (o.1 5 0), .ref (a 5), .int (o.1 7 0), .int (o.1 8 0), .int (o.1 9 0), .int (o.1 10 0), .int (o.1 11 0), .int (o.1 12 0), .int (o.1 13 0), .ref (a 6), .ref (a 7), .ref (a 8), .ref (a 9), .ref (a 10), .ref (a 11), .int (o.1 20 0), .int (o.1 21 0), .ref (a 12), .ref (a 13), .int (o.1 24 0), .int (o.1 25 0), .int (o.1 26 0), .ref (a 14), .ref (a 15), .int (o.1 29 0), .ref (a 16), .ref (a 17), .int (o.1 32 0), .int (o.1 33 0), .int (o.1 34 0), .ref (a 18), .ref (a 19), .int (o.1 37 0), .ref (a 20), .ref (a 21), .ref (a 22), .ref (a 23)].set 5 (.int v)))) H) : va_P D vwCl (cs10 ct a (oI o 5 v)) H := h
theorem sa10_6 {ct : Nat → ClassId} {a : Nat → Nat} {D : va_G} {H : Heap} {o : Ob} {f : Nat → Int32} (h : va_P D vwCl ((cs10 ct a o).set 5 (a 5, .inl (ct 0, 5, .inl f))) H) : va_P D vwCl (cs10 ct a (oA o 6 f)) H := h
theorem st10_7 {ct : Nat → ClassId} {a : Nat → Nat} {D : va_G} {H : Heap} {o : Ob} {v : Int32} (h : va_P D vwCl ((cs10 ct a o).set 0 (a 0, .inr (10, [.int (o.1 0 0), .ref (a 1), .ref (a 2), .ref (a 3), .ref (a 4), .int (o.1 5 0), .ref (a 5), .int (o.1 7 0), .int (o.1 8 0), .int (o.1 9 0), .int (o.1 10 0), .int (o.1 11 0), .int (o.1 12 0), .int (o.1 13 0), .ref (a 6), .ref (a 7), .ref (a 8), .ref (a 9), .ref (a 10), .ref (a 11), .int (o.1 20 0), .int (o.1 21 0), .ref (a 12), .ref (a 13), .int (o.1 24 0), .int (o.1 25 0), .int (o.1 26 0), .ref (a 14), .ref (a 15), .int (o.1 29 0), .ref (a 16), .ref (a 17), .int (o.1 32 0), .int (o.1 33 0), .int (o.1 34 0), .ref (a 18), .ref (a 19), .int (o.1 37 0), .ref (a 20), .ref (a 21), .ref (a 22), .ref (a 23)].set 7 (.int v)))) H) : va_P D vwCl (cs10 ct a (oI o 7 v)) H := h
theorem st10_8 {ct : Nat → ClassId} {a : Nat → Nat} {D : va_G} {H : Heap} {o : Ob} {v : Int32} (h : va_P D vwCl ((cs10 ct a o).set 0 (a 0, .inr (10, [.int (o.1 0 0), .ref (a 1), .ref (a 2), .ref (a 3), .ref (a 4), .int (o.1 5 0), .ref (a 5), .int (o.1 7 0), .int (o.1 8 0), .int (o.1 9 0), .int (o.1 10 0), .int (o.1 11 0), .int (o.1 12 0), .int (o.1 13 0), .ref (a 6), .ref (a 7), .ref (a 8), .ref (a 9), .ref (a 10), .ref (a 11), .int (o.1 20 0), .int (o.1 21 0), .ref (a 12), .ref (a 13), .int (o.1 24 0), .int (o.1 25 0), .int (o.1 26 0), .ref (a 14), .ref (a 15), .int (o.1 29 0), .ref (a 16), .ref (a 17), .int (o.1 32 0), .int (o.1 33 0), .int (o.1 34 0), .ref (a 18), .ref (a 19), .int (o.1 37 0), .ref (a 20), .ref (a 21), .ref (a 22), .ref (a 23)].set 8 (.int v)))) H) : va_P D vwCl (cs10 ct a (oI o 8 v)) H := h
theorem st10_9 {ct : Nat → ClassId} {a : Nat → Nat} {D : va_G} {H : Heap} {o : Ob} {v : Int32} (h : va_P D vwCl ((cs10 ct a o).set 0 (a 0, .inr (10, [.int (o.1 0 0), .ref (a 1), .ref (a 2), .ref (a 3), .ref (a 4), .int (o.1 5 0), .ref (a 5), .int (o.1 7 0), .int (o.1 8 0), .int (o.1 9 0), .int (o.1 10 0), .int (o.1 11 0), .int (o.1 12 0), .int (o.1 13 0), .ref (a 6), .ref (a 7), .ref (a 8), .ref (a 9), .ref (a 10), .ref (a 11), .int (o.1 20 0), .int (o.1 21 0), .ref (a 12), .ref (a 13), .int (o.1 24 0), .int (o.1 25 0), .int (o.1 26 0), .ref (a 14), .ref (a 15), .int (o.1 29 0), .ref (a 16), .ref (a 17), .int (o.1 32 0), .int (o.1 33 0), .int (o.1 34 0), .ref (a 18), .ref (a 19), .int (o.1 37 0), .ref (a 20), .ref (a 21), .ref (a 22), .ref (a 23)].set 9 (.int v)))) H) : va_P D vwCl (cs10 ct a (oI o 9 v)) H := h
theorem st10_10 {ct : Nat → ClassId} {a : Nat → Nat} {D : va_G} {H : Heap} {o : Ob} {v : Int32} (h : va_P D vwCl ((cs10 ct a o).set 0 (a 0, .inr (10, [.int (o.1 0 0), .ref (a 1), .ref (a 2), .ref (a 3), .ref (a 4), .int (o.1 5 0), .ref (a 5), .int (o.1 7 0), .int (o.1 8 0), .int (o.1 9 0), .int (o.1 10 0), .int (o.1 11 0), .int (o.1 12 0), .int (o.1 13 0), .ref (a 6), .ref (a 7), .ref (a 8), .ref (a 9), .ref (a 10), .ref (a 11), .int (o.1 20 0), .int (o.1 21 0), .ref (a 12), .ref (a 13), .int (o.1 24 0), .int (o.1 25 0), .int (o.1 26 0), .ref (a 14), .ref (a 15), .int (o.1 29 0), .ref (a 16), .ref (a 17), .int (o.1 32 0), .int (o.1 33 0), .int (o.1 34 0), .ref (a 18), .ref (a 19), .int (o.1 37 0), .ref (a 20), .ref (a 21), .ref (a 22), .ref (a 23)].set 10 (.int v)))) H) : va_P D vwCl (cs10 ct a (oI o 10 v)) H := h
theorem st10_11 {ct : Nat → ClassId} {a : Nat → Nat} {D : va_G} {H : Heap} {o : Ob} {v : Int32} (h : va_P D vwCl ((cs10 ct a o).set 0 (a 0, .inr (10, [.int (o.1 0 0), .ref (a 1), .ref (a 2), .ref (a 3), .ref (a 4), .int (o.1 5 0), .ref (a 5), .int (o.1 7 0), .int (o.1 8 0), .int (o.1 9 0), .int (o.1 10 0), .int (o.1 11 0), .int (o.1 12 0), .int (o.1 13 0), .ref (a 6), .ref (a 7), .ref (a 8), .ref (a 9), .ref (a 10), .ref (a 11), .int (o.1 20 0), .int (o.1 21 0), .ref (a 12), .ref (a 13), .int (o.1 24 0), .int (o.1 25 0), .int (o.1 26 0), .ref (a 14), .ref (a 15), .int (o.1 29 0), .ref (a 16), .ref (a 17), .int (o.1 32 0), .int (o.1 33 0), .int (o.1 34 0), .ref (a 18), .ref (a 19), .int (o.1 37 0), .ref (a 20), .ref (a 21), .ref (a 22), .ref (a 23)].set 11 (.int v)))) H) : va_P D vwCl (cs10 ct a (oI o 11 v)) H := h
theorem st10_12 {ct : Nat → ClassId} {a : Nat → Nat} {D : va_G} {H : Heap} {o : Ob} {v : Int32} (h : va_P D vwCl ((cs10 ct a o).set 0 (a 0, .inr (10, [.int (o.1 0 0), .ref (a 1), .ref (a 2), .ref (a 3), .ref (a 4), .int (o.1 5 0), .ref (a 5), .int (o.1 7 0), .int (o.1 8 0), .int (o.1 9 0), .int (o.1 10 0), .int (o.1 11 0), .int (o.1 12 0), .int (o.1 13 0), .ref (a 6), .ref (a 7), .ref (a 8), .ref (a 9), .ref (a 10), .ref (a 11), .int (o.1 20 0), .int (o.1 21 0), .ref (a 12), .ref (a 13), .int (o.1 24 0), .int (o.1 25 0), .int (o.1 26 0), .ref (a 14), .ref (a 15), .int (o.1 29 0), .ref (a 16), .ref (a 17), .int (o.1 32 0), .int (o.1 33 0), .int (o.1 34 0), .ref (a 18), .ref (a 19), .int (o.1 37 0), .ref (a 20), .ref (a 21), .ref (a 22), .ref (a 23)].set 12 (.int v)))) H) : va_P D vwCl (cs10 ct a (oI o 12 v)) H := h
theorem st10_13 {ct : Nat → ClassId} {a : Nat → Nat} {D : va_G} {H : Heap} {o : Ob} {v : Int32} (h : va_P D vwCl ((cs10 ct a o).set 0 (a 0, .inr (10, [.int (o.1 0 0), .ref (a 1), .ref (a 2), .ref (a 3), .ref (a 4), .int (o.1 5 0), .ref (a 5), .int (o.1 7 0), .int (o.1 8 0), .int (o.1 9 0), .int (o.1 10 0), .int (o.1 11 0), .int (o.1 12 0), .int (o.1 13 0), .ref (a 6), .ref (a 7), .ref (a 8), .ref (a 9), .ref (a 10), .ref (a 11), .int (o.1 20 0), .int (o.1 21 0), .ref (a 12), .ref (a 13), .int (o.1 24 0), .int (o.1 25 0), .int (o.1 26 0), .ref (a 14), .ref (a 15), .int (o.1 29 0), .ref (a 16), .ref (a 17), .int (o.1 32 0), .int (o.1 33 0), .int (o.1 34 0), .ref (a 18), .ref (a 19), .int (o.1 37 0), .ref (a 20), .ref (a 21), .ref (a 22), .ref (a 23)].set 13 (.int v)))) H) : va_P D vwCl (cs10 ct a (oI o 13 v)) H := h
theorem sa10_14 {ct : Nat → ClassId} {a : Nat → Nat} {D : va_G} {H : Heap} {o : Ob} {f : Nat → Int32} (h : va_P D vwCl ((cs10 ct a o).set 6 (a 6, .inl (ct 0, 98, .inl f))) H) : va_P D vwCl (cs10 ct a (oA o 14 f)) H := h
theorem sa10_15 {ct : Nat → ClassId} {a : Nat → Nat} {D : va_G} {H : Heap} {o : Ob} {f : Nat → Int32} (h : va_P D vwCl ((cs10 ct a o).set 7 (a 7, .inl (ct 0, 61, .inl f))) H) : va_P D vwCl (cs10 ct a (oA o 15 f)) H := h
theorem sa10_16 {ct : Nat → ClassId} {a : Nat → Nat} {D : va_G} {H : Heap} {o : Ob} {f : Nat → Int32} (h : va_P D vwCl ((cs10 ct a o).set 8 (a 8, .inl (ct 0, 61, .inl f))) H) : va_P D vwCl (cs10 ct a (oA o 16 f)) H := h
theorem sa10_17 {ct : Nat → ClassId} {a : Nat → Nat} {D : va_G} {H : Heap} {o : Ob} {f : Nat → Int32} (h : va_P D vwCl ((cs10 ct a o).set 9 (a 9, .inl (ct 0, 61, .inl f))) H) : va_P D vwCl (cs10 ct a (oA o 17 f)) H := h
theorem sa10_18 {ct : Nat → ClassId} {a : Nat → Nat} {D : va_G} {H : Heap} {o : Ob} {f : Nat → Int32} (h : va_P D vwCl ((cs10 ct a o).set 10 (a 10, .inl (ct 0, 5, .inl f))) H) : va_P D vwCl (cs10 ct a (oA o 18 f)) H := h
theorem sa10_19 {ct : Nat → ClassId} {a : Nat → Nat} {D : va_G} {H : Heap} {o : Ob} {f : Nat → Int32} (h : va_P D vwCl ((cs10 ct a o).set 11 (a 11, .inl (ct 0, 5, .inl f))) H) : va_P D vwCl (cs10 ct a (oA o 19 f)) H := h
theorem st10_20 {ct : Nat → ClassId} {a : Nat → Nat} {D : va_G} {H : Heap} {o : Ob} {v : Int32} (h : va_P D vwCl ((cs10 ct a o).set 0 (a 0, .inr (10, [.int (o.1 0 0), .ref (a 1), .ref (a 2), .ref (a 3), .ref (a 4), .int (o.1 5 0), .ref (a 5), .int (o.1 7 0), .int (o.1 8 0), .int (o.1 9 0), .int (o.1 10 0), .int (o.1 11 0), .int (o.1 12 0), .int (o.1 13 0), .ref (a 6), .ref (a 7), .ref (a 8), .ref (a 9), .ref (a 10), .ref (a 11), .int (o.1 20 0), .int (o.1 21 0), .ref (a 12), .ref (a 13), .int (o.1 24 0), .int (o.1 25 0), .int (o.1 26 0), .ref (a 14), .ref (a 15), .int (o.1 29 0), .ref (a 16), .ref (a 17), .int (o.1 32 0), .int (o.1 33 0), .int (o.1 34 0), .ref (a 18), .ref (a 19), .int (o.1 37 0), .ref (a 20), .ref (a 21), .ref (a 22), .ref (a 23)].set 20 (.int v)))) H) : va_P D vwCl (cs10 ct a (oI o 20 v)) H := h
theorem st10_21 {ct : Nat → ClassId} {a : Nat → Nat} {D : va_G} {H : Heap} {o : Ob} {v : Int32} (h : va_P D vwCl ((cs10 ct a o).set 0 (a 0, .inr (10, [.int (o.1 0 0), .ref (a 1), .ref (a 2), .ref (a 3), .ref (a 4), .int (o.1 5 0), .ref (a 5), .int (o.1 7 0), .int (o.1 8 0), .int (o.1 9 0), .int (o.1 10 0), .int (o.1 11 0), .int (o.1 12 0), .int (o.1 13 0), .ref (a 6), .ref (a 7), .ref (a 8), .ref (a 9), .ref (a 10), .ref (a 11), .int (o.1 20 0), .int (o.1 21 0), .ref (a 12), .ref (a 13), .int (o.1 24 0), .int (o.1 25 0), .int (o.1 26 0), .ref (a 14), .ref (a 15), .int (o.1 29 0), .ref (a 16), .ref (a 17), .int (o.1 32 0), .int (o.1 33 0), .int (o.1 34 0), .ref (a 18), .ref (a 19), .int (o.1 37 0), .ref (a 20), .ref (a 21), .ref (a 22), .ref (a 23)].set 21 (.int v)))) H) : va_P D vwCl (cs10 ct a (oI o 21 v)) H := h
theorem sa10_22 {ct : Nat → ClassId} {a : Nat → Nat} {D : va_G} {H : Heap} {o : Ob} {f : Nat → Int32} (h : va_P D vwCl ((cs10 ct a o).set 12 (a 12, .inl (ct 0, 61, .inl f))) H) : va_P D vwCl (cs10 ct a (oA o 22 f)) H := h
theorem sa10_23 {ct : Nat → ClassId} {a : Nat → Nat} {D : va_G} {H : Heap} {o : Ob} {f : Nat → Int32} (h : va_P D vwCl ((cs10 ct a o).set 13 (a 13, .inl (ct 3, 61, .inl f))) H) : va_P D vwCl (cs10 ct a (oA o 23 f)) H := h
theorem st10_24 {ct : Nat → ClassId} {a : Nat → Nat} {D : va_G} {H : Heap} {o : Ob} {v : Int32} (h : va_P D vwCl ((cs10 ct a o).set 0 (a 0, .inr (10, [.int (o.1 0 0), .ref (a 1), .ref (a 2), .ref (a 3), .ref (a 4), .int (o.1 5 0), .ref (a 5), .int (o.1 7 0), .int (o.1 8 0), .int (o.1 9 0), .int (o.1 10 0), .int (o.1 11 0), .int (o.1 12 0), .int (o.1 13 0), .ref (a 6), .ref (a 7), .ref (a 8), .ref (a 9), .ref (a 10), .ref (a 11), .int (o.1 20 0), .int (o.1 21 0), .ref (a 12), .ref (a 13), .int (o.1 24 0), .int (o.1 25 0), .int (o.1 26 0), .ref (a 14), .ref (a 15), .int (o.1 29 0), .ref (a 16), .ref (a 17), .int (o.1 32 0), .int (o.1 33 0), .int (o.1 34 0), .ref (a 18), .ref (a 19), .int (o.1 37 0), .ref (a 20), .ref (a 21), .ref (a 22), .ref (a 23)].set 24 (.int v)))) H) : va_P D vwCl (cs10 ct a (oI o 24 v)) H := h
theorem st10_25 {ct : Nat → ClassId} {a : Nat → Nat} {D : va_G} {H : Heap} {o : Ob} {v : Int32} (h : va_P D vwCl ((cs10 ct a o).set 0 (a 0, .inr (10, [.int (o.1 0 0), .ref (a 1), .ref (a 2), .ref (a 3), .ref (a 4), .int (o.1 5 0), .ref (a 5), .int (o.1 7 0), .int (o.1 8 0), .int (o.1 9 0), .int (o.1 10 0), .int (o.1 11 0), .int (o.1 12 0), .int (o.1 13 0), .ref (a 6), .ref (a 7), .ref (a 8), .ref (a 9), .ref (a 10), .ref (a 11), .int (o.1 20 0), .int (o.1 21 0), .ref (a 12), .ref (a 13), .int (o.1 24 0), .int (o.1 25 0), .int (o.1 26 0), .ref (a 14), .ref (a 15), .int (o.1 29 0), .ref (a 16), .ref (a 17), .int (o.1 32 0), .int (o.1 33 0), .int (o.1 34 0), .ref (a 18), .ref (a 19), .int (o.1 37 0), .ref (a 20), .ref (a 21), .ref (a 22), .ref (a 23)].set 25 (.int v)))) H) : va_P D vwCl (cs10 ct a (oI o 25 v)) H := h
theorem st10_26 {ct : Nat → ClassId} {a : Nat → Nat} {D : va_G} {H : Heap} {o : Ob} {v : Int32} (h : va_P D vwCl ((cs10 ct a o).set 0 (a 0, .inr (10, [.int (o.1 0 0), .ref (a 1), .ref (a 2), .ref (a 3), .ref (a 4), .int (o.1 5 0), .ref (a 5), .int (o.1 7 0), .int (o.1 8 0), .int (o.1 9 0), .int (o.1 10 0), .int (o.1 11 0), .int (o.1 12 0), .int (o.1 13 0), .ref (a 6), .ref (a 7), .ref (a 8), .ref (a 9), .ref (a 10), .ref (a 11), .int (o.1 20 0), .int (o.1 21 0), .ref (a 12), .ref (a 13), .int (o.1 24 0), .int (o.1 25 0), .int (o.1 26 0), .ref (a 14), .ref (a 15), .int (o.1 29 0), .ref (a 16), .ref (a 17), .int (o.1 32 0), .int (o.1 33 0), .int (o.1 34 0), .ref (a 18), .ref (a 19), .int (o.1 37 0), .ref (a 20), .ref (a 21), .ref (a 22), .ref (a 23)].set 26 (.int v)))) H) : va_P D vwCl (cs10 ct a (oI o 26 v)) H := h
theorem sa10_27 {ct : Nat → ClassId} {a : Nat → Nat} {D : va_G} {H : Heap} {o : Ob} {f : Nat → Int32} (h : va_P D vwCl ((cs10 ct a o).set 14 (a 14, .inl (ct 0, 61, .inl f))) H) : va_P D vwCl (cs10 ct a (oA o 27 f)) H := h
theorem sa10_28 {ct : Nat → ClassId} {a : Nat → Nat} {D : va_G} {H : Heap} {o : Ob} {f : Nat → Int32} (h : va_P D vwCl ((cs10 ct a o).set 15 (a 15, .inl (ct 0, 10, .inl f))) H) : va_P D vwCl (cs10 ct a (oA o 28 f)) H := h
theorem st10_29 {ct : Nat → ClassId} {a : Nat → Nat} {D : va_G} {H : Heap} {o : Ob} {v : Int32} (h : va_P D vwCl ((cs10 ct a o).set 0 (a 0, .inr (10, [.int (o.1 0 0), .ref (a 1), .ref (a 2), .ref (a 3), .ref (a 4), .int (o.1 5 0), .ref (a 5), .int (o.1 7 0), .int (o.1 8 0), .int (o.1 9 0), .int (o.1 10 0), .int (o.1 11 0), .int (o.1 12 0), .int (o.1 13 0), .ref (a 6), .ref (a 7), .ref (a 8), .ref (a 9), .ref (a 10), .ref (a 11), .int (o.1 20 0), .int (o.1 21 0), .ref (a 12), .ref (a 13), .int (o.1 24 0), .int (o.1 25 0), .int (o.1 26 0), .ref (a 14), .ref (a 15), .int (o.1 29 0), .ref (a 16), .ref (a 17), .int (o.1 32 0), .int (o.1 33 0), .int (o.1 34 0), .ref (a 18), .ref (a 19), .int (o.1 37 0), .ref (a 20), .ref (a 21), .ref (a 22), .ref (a 23)].set 29 (.int v)))) H) : va_P D vwCl (cs10 ct a (oI o 29 v)) H := h
theorem sa10_30 {ct : Nat → ClassId} {a : Nat → Nat} {D : va_G} {H : Heap} {o : Ob} {f : Nat → Int32} (h : va_P D vwCl ((cs10 ct a o).set 16 (a 16, .inl (ct 0, 610, .inl f))) H) : va_P D vwCl (cs10 ct a (oA o 30 f)) H := h
theorem sa10_31 {ct : Nat → ClassId} {a : Nat → Nat} {D : va_G} {H : Heap} {o : Ob} {f : Nat → Int32} (h : va_P D vwCl ((cs10 ct a o).set 17 (a 17, .inl (ct 2, 37210, .inl f))) H) : va_P D vwCl (cs10 ct a (oA o 31 f)) H := h
theorem st10_32 {ct : Nat → ClassId} {a : Nat → Nat} {D : va_G} {H : Heap} {o : Ob} {v : Int32} (h : va_P D vwCl ((cs10 ct a o).set 0 (a 0, .inr (10, [.int (o.1 0 0), .ref (a 1), .ref (a 2), .ref (a 3), .ref (a 4), .int (o.1 5 0), .ref (a 5), .int (o.1 7 0), .int (o.1 8 0), .int (o.1 9 0), .int (o.1 10 0), .int (o.1 11 0), .int (o.1 12 0), .int (o.1 13 0), .ref (a 6), .ref (a 7), .ref (a 8), .ref (a 9), .ref (a 10), .ref (a 11), .int (o.1 20 0), .int (o.1 21 0), .ref (a 12), .ref (a 13), .int (o.1 24 0), .int (o.1 25 0), .int (o.1 26 0), .ref (a 14), .ref (a 15), .int (o.1 29 0), .ref (a 16), .ref (a 17), .int (o.1 32 0), .int (o.1 33 0), .int (o.1 34 0), .ref (a 18), .ref (a 19), .int (o.1 37 0), .ref (a 20), .ref (a 21), .ref (a 22), .ref (a 23)].set 32 (.int v)))) H) : va_P D vwCl (cs10 ct a (oI o 32 v)) H := h
theorem st10_33 {ct : Nat → ClassId} {a : Nat → Nat} {D : va_G} {H : Heap} {o : Ob} {v : Int32} (h : va_P D vwCl ((cs10 ct a o).set 0 (a 0, .inr (10, [.int (o.1 0 0), .ref (a 1), .ref (a 2), .ref (a 3), .ref (a 4), .int (o.1 5 0), .ref (a 5), .int (o.1 7 0), .int (o.1 8 0), .int (o.1 9 0), .int (o.1 10 0), .int (o.1 11 0), .int (o.1 12 0), .int (o.1 13 0), .ref (a 6), .ref (a 7), .ref (a 8), .ref (a 9), .ref (a 10), .ref (a 11), .int (o.1 20 0), .int (o.1 21 0), .ref (a 12), .ref (a 13), .int (o.1 24 0), .int (o.1 25 0), .int (o.1 26 0), .ref (a 14), .ref (a 15), .int (o.1 29 0), .ref (a 16), .ref (a 17), .int (o.1 32 0), .int (o.1 33 0), .int (o.1 34 0), .ref (a 18), .ref (a 19), .int (o.1 37 0), .ref (a 20), .ref (a 21), .ref (a 22), .ref (a 23)].set 33 (.int v)))) H) : va_P D vwCl (cs10 ct a (oI o 33 v)) H := h
theorem st10_34 {ct : Nat → ClassId} {a : Nat → Nat} {D : va_G} {H : Heap} {o : Ob} {v : Int32} (h : va_P D vwCl ((cs10 ct a o).set 0 (a 0, .inr (10, [.int (o.1 0 0), .ref (a 1), .ref (a 2), .ref (a 3), .ref (a 4), .int (o.1 5 0), .ref (a 5), .int (o.1 7 0), .int (o.1 8 0), .int (o.1 9 0), .int (o.1 10 0), .int (o.1 11 0), .int (o.1 12 0), .int (o.1 13 0), .ref (a 6), .ref (a 7), .ref (a 8), .ref (a 9), .ref (a 10), .ref (a 11), .int (o.1 20 0), .int (o.1 21 0), .ref (a 12), .ref (a 13), .int (o.1 24 0), .int (o.1 25 0), .int (o.1 26 0), .ref (a 14), .ref (a 15), .int (o.1 29 0), .ref (a 16), .ref (a 17), .int (o.1 32 0), .int (o.1 33 0), .int (o.1 34 0), .ref (a 18), .ref (a 19), .int (o.1 37 0), .ref (a 20), .ref (a 21), .ref (a 22), .ref (a 23)].set 34 (.int v)))) H) : va_P D vwCl (cs10 ct a (oI o 34 v)) H := h
theorem sa10_35 {ct : Nat → ClassId} {a : Nat → Nat} {D : va_G} {H : Heap} {o : Ob} {f : Nat → Int64} (h : va_P D vwCl ((cs10 ct a o).set 18 (a 18, .inl (ct 1, 1300, .inr (.inl f)))) H) : va_P D vwCl (cs10 ct a (oLA o 35 f)) H := h
theorem sa10_36 {ct : Nat → ClassId} {a : Nat → Nat} {D : va_G} {H : Heap} {o : Ob} {f : Nat → Int64} (h : va_P D vwCl ((cs10 ct a o).set 19 (a 19, .inl (ct 1, 1300, .inr (.inl f)))) H) : va_P D vwCl (cs10 ct a (oLA o 36 f)) H := h
theorem st10_37 {ct : Nat → ClassId} {a : Nat → Nat} {D : va_G} {H : Heap} {o : Ob} {v : Int32} (h : va_P D vwCl ((cs10 ct a o).set 0 (a 0, .inr (10, [.int (o.1 0 0), .ref (a 1), .ref (a 2), .ref (a 3), .ref (a 4), .int (o.1 5 0), .ref (a 5), .int (o.1 7 0), .int (o.1 8 0), .int (o.1 9 0), .int (o.1 10 0), .int (o.1 11 0), .int (o.1 12 0), .int (o.1 13 0), .ref (a 6), .ref (a 7), .ref (a 8), .ref (a 9), .ref (a 10), .ref (a 11), .int (o.1 20 0), .int (o.1 21 0), .ref (a 12), .ref (a 13), .int (o.1 24 0), .int (o.1 25 0), .int (o.1 26 0), .ref (a 14), .ref (a 15), .int (o.1 29 0), .ref (a 16), .ref (a 17), .int (o.1 32 0), .int (o.1 33 0), .int (o.1 34 0), .ref (a 18), .ref (a 19), .int (o.1 37 0), .ref (a 20), .ref (a 21), .ref (a 22), .ref (a 23)].set 37 (.int v)))) H) : va_P D vwCl (cs10 ct a (oI o 37 v)) H := h
theorem sa10_38 {ct : Nat → ClassId} {a : Nat → Nat} {D : va_G} {H : Heap} {o : Ob} {f : Nat → Int32} (h : va_P D vwCl ((cs10 ct a o).set 20 (a 20, .inl (ct 0, 4, .inl f))) H) : va_P D vwCl (cs10 ct a (oA o 38 f)) H := h
theorem sa10_39 {ct : Nat → ClassId} {a : Nat → Nat} {D : va_G} {H : Heap} {o : Ob} {f : Nat → Int32} (h : va_P D vwCl ((cs10 ct a o).set 21 (a 21, .inl (ct 0, 4, .inl f))) H) : va_P D vwCl (cs10 ct a (oA o 39 f)) H := h
theorem sa10_40 {ct : Nat → ClassId} {a : Nat → Nat} {D : va_G} {H : Heap} {o : Ob} {f : Nat → Int64} (h : va_P D vwCl ((cs10 ct a o).set 22 (a 22, .inl (ct 1, 240, .inr (.inl f)))) H) : va_P D vwCl (cs10 ct a (oLA o 40 f)) H := h
theorem sa10_41 {ct : Nat → ClassId} {a : Nat → Nat} {D : va_G} {H : Heap} {o : Ob} {f : Nat → Int64} (h : va_P D vwCl ((cs10 ct a o).set 23 (a 23, .inl (ct 1, 60, .inr (.inl f)))) H) : va_P D vwCl (cs10 ct a (oLA o 41 f)) H := h
theorem sa0_0 {ct : Nat → ClassId} {a : Nat → Nat} {D : va_G} {H : Heap} {o : Ob} {f : Nat → Int64} (h : va_P D vwCl ((cs0 ct a o).set 1 (a 1, .inl (ct 1, 1240, .inr (.inl f)))) H) : va_P D vwCl (cs0 ct a (oLA o 0 f)) H := h
theorem sa0_1 {ct : Nat → ClassId} {a : Nat → Nat} {D : va_G} {H : Heap} {o : Ob} {f : Nat → Int64} (h : va_P D vwCl ((cs0 ct a o).set 2 (a 2, .inl (ct 1, 1240, .inr (.inl f)))) H) : va_P D vwCl (cs0 ct a (oLA o 1 f)) H := h
theorem st0_2 {ct : Nat → ClassId} {a : Nat → Nat} {D : va_G} {H : Heap} {o : Ob} {v : Int32} (h : va_P D vwCl ((cs0 ct a o).set 0 (a 0, .inr (0, [.ref (a 1), .ref (a 2), .int (o.1 2 0), .long (o.2 3 0)].set 2 (.int v)))) H) : va_P D vwCl (cs0 ct a (oI o 2 v)) H := h
theorem st0_3 {ct : Nat → ClassId} {a : Nat → Nat} {D : va_G} {H : Heap} {o : Ob} {v : Int64} (h : va_P D vwCl ((cs0 ct a o).set 0 (a 0, .inr (0, [.ref (a 1), .ref (a 2), .int (o.1 2 0), .long (o.2 3 0)].set 3 (.long v)))) H) : va_P D vwCl (cs0 ct a (oL o 3 v)) H := h
theorem st1_2 {ct : Nat → ClassId} {a : Nat → Nat} {D : va_G} {H : Heap} {o t r : Ob} {v : Int32} (h : va_P D vwCl ((cs1 ct a o t r).set 0 (a 0, .inr (1, [.ref (a 1), .ref (a 5), .int (o.1 2 0), .int (o.1 3 0), .int (o.1 4 0), .int (o.1 5 0)].set 2 (.int v)))) H) : va_P D vwCl (cs1 ct a (oI o 2 v) t r) H := h
theorem st1_3 {ct : Nat → ClassId} {a : Nat → Nat} {D : va_G} {H : Heap} {o t r : Ob} {v : Int32} (h : va_P D vwCl ((cs1 ct a o t r).set 0 (a 0, .inr (1, [.ref (a 1), .ref (a 5), .int (o.1 2 0), .int (o.1 3 0), .int (o.1 4 0), .int (o.1 5 0)].set 3 (.int v)))) H) : va_P D vwCl (cs1 ct a (oI o 3 v) t r) H := h
theorem st1_4 {ct : Nat → ClassId} {a : Nat → Nat} {D : va_G} {H : Heap} {o t r : Ob} {v : Int32} (h : va_P D vwCl ((cs1 ct a o t r).set 0 (a 0, .inr (1, [.ref (a 1), .ref (a 5), .int (o.1 2 0), .int (o.1 3 0), .int (o.1 4 0), .int (o.1 5 0)].set 4 (.int v)))) H) : va_P D vwCl (cs1 ct a (oI o 4 v) t r) H := h
theorem st1_5 {ct : Nat → ClassId} {a : Nat → Nat} {D : va_G} {H : Heap} {o t r : Ob} {v : Int32} (h : va_P D vwCl ((cs1 ct a o t r).set 0 (a 0, .inr (1, [.ref (a 1), .ref (a 5), .int (o.1 2 0), .int (o.1 3 0), .int (o.1 4 0), .int (o.1 5 0)].set 5 (.int v)))) H) : va_P D vwCl (cs1 ct a (oI o 5 v) t r) H := h
theorem st1rv_0 {ct : Nat → ClassId} {a : Nat → Nat} {D : va_G} {H : Heap} {o t r : Ob} {v : Int32} (h : va_P D vwCl ((cs1 ct a o t r).set 5 (a 5, .inr (2, [.int (r.1 0 0), .int (r.1 1 0), .int (r.1 2 0), .int (r.1 3 0), .int (r.1 4 0), .ref (a 6), .ref (a 7), .ref (a 8), .int (r.1 8 0), .ref (a 9), .ref (a 10), .ref (a 11), .ref (a 12), .int (r.1 13 0), .ref (a 13), .ref (a 14), .int (r.1 16 0), .ref (a 15), .ref (a 16), .ref (a 17)].set 0 (.int v)))) H) : va_P D vwCl (cs1 ct a o t (oI r 0 v)) H := h
theorem st1rv_1 {ct : Nat → ClassId} {a : Nat → Nat} {D : va_G} {H : Heap} {o t r : Ob} {v : Int32} (h : va_P D vwCl ((cs1 ct a o t r).set 5 (a 5, .inr (2, [.int (r.1 0 0), .int (r.1 1 0), .int (r.1 2 0), .int (r.1 3 0), .int (r.1 4 0), .ref (a 6), .ref (a 7), .ref (a 8), .int (r.1 8 0), .ref (a 9), .ref (a 10), .ref (a 11), .ref (a 12), .int (r.1 13 0), .ref (a 13), .ref (a 14), .int (r.1 16 0), .ref (a 15), .ref (a 16), .ref (a 17)].set 1 (.int v)))) H) : va_P D vwCl (cs1 ct a o t (oI r 1 v)) H := h
theorem st1rv_2 {ct : Nat → ClassId} {a : Nat → Nat} {D : va_G} {H : Heap} {o t r : Ob} {v : Int32} (h : va_P D vwCl ((cs1 ct a o t r).set 5 (a 5, .inr (2, [.int (r.1 0 0), .int (r.1 1 0), .int (r.1 2 0), .int (r.1 3 0), .int (r.1 4 0), .ref (a 6), .ref (a 7), .ref (a 8), .int (r.1 8 0), .ref (a 9), .ref (a 10), .ref (a 11), .ref (a 12), .int (r.1 13 0), .ref (a 13), .ref (a 14), .int (r.1 16 0), .ref (a 15), .ref (a 16), .ref (a 17)].set 2 (.int v)))) H) : va_P D vwCl (cs1 ct a o t (oI r 2 v)) H := h
theorem st1rv_3 {ct : Nat → ClassId} {a : Nat → Nat} {D : va_G} {H : Heap} {o t r : Ob} {v : Int32} (h : va_P D vwCl ((cs1 ct a o t r).set 5 (a 5, .inr (2, [.int (r.1 0 0), .int (r.1 1 0), .int (r.1 2 0), .int (r.1 3 0), .int (r.1 4 0), .ref (a 6), .ref (a 7), .ref (a 8), .int (r.1 8 0), .ref (a 9), .ref (a 10), .ref (a 11), .ref (a 12), .int (r.1 13 0), .ref (a 13), .ref (a 14), .int (r.1 16 0), .ref (a 15), .ref (a 16), .ref (a 17)].set 3 (.int v)))) H) : va_P D vwCl (cs1 ct a o t (oI r 3 v)) H := h
theorem st1rv_4 {ct : Nat → ClassId} {a : Nat → Nat} {D : va_G} {H : Heap} {o t r : Ob} {v : Int32} (h : va_P D vwCl ((cs1 ct a o t r).set 5 (a 5, .inr (2, [.int (r.1 0 0), .int (r.1 1 0), .int (r.1 2 0), .int (r.1 3 0), .int (r.1 4 0), .ref (a 6), .ref (a 7), .ref (a 8), .int (r.1 8 0), .ref (a 9), .ref (a 10), .ref (a 11), .ref (a 12), .int (r.1 13 0), .ref (a 13), .ref (a 14), .int (r.1 16 0), .ref (a 15), .ref (a 16), .ref (a 17)].set 4 (.int v)))) H) : va_P D vwCl (cs1 ct a o t (oI r 4 v)) H := h
theorem st1rv_8 {ct : Nat → ClassId} {a : Nat → Nat} {D : va_G} {H : Heap} {o t r : Ob} {v : Int32} (h : va_P D vwCl ((cs1 ct a o t r).set 5 (a 5, .inr (2, [.int (r.1 0 0), .int (r.1 1 0), .int (r.1 2 0), .int (r.1 3 0), .int (r.1 4 0), .ref (a 6), .ref (a 7), .ref (a 8), .int (r.1 8 0), .ref (a 9), .ref (a 10), .ref (a 11), .ref (a 12), .int (r.1 13 0), .ref (a 13), .ref (a 14), .int (r.1 16 0), .ref (a 15), .ref (a 16), .ref (a 17)].set 8 (.int v)))) H) : va_P D vwCl (cs1 ct a o t (oI r 8 v)) H := h
theorem st1rv_13 {ct : Nat → ClassId} {a : Nat → Nat} {D : va_G} {H : Heap} {o t r : Ob} {v : Int32} (h : va_P D vwCl ((cs1 ct a o t r).set 5 (a 5, .inr (2, [.int (r.1 0 0), .int (r.1 1 0), .int (r.1 2 0), .int (r.1 3 0), .int (r.1 4 0), .ref (a 6), .ref (a 7), .ref (a 8), .int (r.1 8 0), .ref (a 9), .ref (a 10), .ref (a 11), .ref (a 12), .int (r.1 13 0), .ref (a 13), .ref (a 14), .int (r.1 16 0), .ref (a 15), .ref (a 16), .ref (a 17)].set 13 (.int v)))) H) : va_P D vwCl (cs1 ct a o t (oI r 13 v)) H := h
theorem st1rv_16 {ct : Nat → ClassId} {a : Nat → Nat} {D : va_G} {H : Heap} {o t r : Ob} {v : Int32} (h : va_P D vwCl ((cs1 ct a o t r).set 5 (a 5, .inr (2, [.int (r.1 0 0), .int (r.1 1 0), .int (r.1 2 0), .int (r.1 3 0), .int (r.1 4 0), .ref (a 6), .ref (a 7), .ref (a 8), .int (r.1 8 0), .ref (a 9), .ref (a 10), .ref (a 11), .ref (a 12), .int (r.1 13 0), .ref (a 13), .ref (a 14), .int (r.1 16 0), .ref (a 15), .ref (a 16), .ref (a 17)].set 16 (.int v)))) H) : va_P D vwCl (cs1 ct a o t (oI r 16 v)) H := h
set_option maxRecDepth 100000 in
theorem stQ_0_5 {ct : Nat → ClassId} {A : Nat → Nat} {D : va_G} {H : Heap} {x : Nat → Ob} {v : Int32} (h : va_P D vwCl ((csQ ct A x).set 0 (A 0, .inr (9, [.ref (A 1), .ref (A 3), .ref (A 21), .ref (A 34), .ref (A 47), .int ((x 0).1 5 0), .ref (A 87), .ref (A 90), .ref (A 93), .ref (A 95), .ref (A 97), .ref (A 106), .ref (A 108), .ref (A 111)].set 5 (.int v)))) H) : va_P D vwCl (csQ ct A (va_up x 0 (oI (x 0) 5 v))) H := h
set_option maxRecDepth 100000 in
theorem stQ_1_1 {ct : Nat → ClassId} {A : Nat → Nat} {D : va_G} {H : Heap} {x : Nat → Ob} {v : Int32} (h : va_P D vwCl ((csQ ct A x).set 1 (A 1, .inr (6, [.ref (A 2), .int ((x 1).1 1 0)].set 1 (.int v)))) H) : va_P D vwCl (csQ ct A (va_up x 1 (oI (x 1) 1 v))) H := h
set_option maxRecDepth 100000 in
theorem stQ_5_16 {ct : Nat → ClassId} {A : Nat → Nat} {D : va_G} {H : Heap} {x : Nat → Ob} {v : Int32} (h : va_P D vwCl ((csQ ct A x).set 21 (A 21, .inr (2, [.int ((x 5).1 0 0), .int ((x 5).1 1 0), .int ((x 5).1 2 0), .int ((x 5).1 3 0), .int ((x 5).1 4 0), .ref (A 22), .ref (A 23), .ref (A 24), .int ((x 5).1 8 0), .ref (A 25), .ref (A 26), .ref (A 27), .ref (A 28), .int ((x 5).1 13 0), .ref (A 29), .ref (A 30), .int ((x 5).1 16 0), .ref (A 31), .ref (A 32), .ref (A 33)].set 16 (.int v)))) H) : va_P D vwCl (csQ ct A (va_up x 5 (oI (x 5) 16 v))) H := h
set_option maxRecDepth 100000 in
theorem stQ_11_2 {ct : Nat → ClassId} {A : Nat → Nat} {D : va_G} {H : Heap} {x : Nat → Ob} {v : Int32} (h : va_P D vwCl ((csQ ct A x).set 90 (A 90, .inr (8, [.ref (A 91), .ref (A 92), .int ((x 11).1 2 0)].set 2 (.int v)))) H) : va_P D vwCl (csQ ct A (va_up x 11 (oI (x 11) 2 v))) H := h
set_option maxRecDepth 100000 in
theorem stQ_18_1 {ct : Nat → ClassId} {A : Nat → Nat} {D : va_G} {H : Heap} {x : Nat → Ob} {v : Int32} (h : va_P D vwCl ((csQ ct A x).set 106 (A 106, .inr (4, [.int ((x 18).1 0 0), .int ((x 18).1 1 0), .int ((x 18).1 2 0), .ref (A 107)].set 1 (.int v)))) H) : va_P D vwCl (csQ ct A (va_up x 18 (oI (x 18) 1 v))) H := h
