/-! ===== the law's loop ===== -/
theorem ao_2 : Cond.arrayOver (.object "QuotedRiver$Rivers") ∈ lw_tbl := List.mem_append_right _ (of_decide_eq_true (by decide +kernel))
theorem ao_3 : Cond.arrayOver (.object "QuotedRiver$Row") ∈ lw_tbl := List.mem_append_right _ (of_decide_eq_true (by decide +kernel))
def loopI (p : Program) (l : Launch) (e : Env) (s : State) (m : MethodId) (args : Array Value) (below : List Frame) (meth : Method) (c : Code) (D : va_G) (ct : Nat → ClassId) (G : GT) (A B : Nat → Nat) (b : Nat) (i : Nat) (pc : Nat) (Q : State → Prop) : Prop := ∀ (x : Nat → Ob) (o : Ob), Rel x o → ∀ (H : Heap) (locs : List Loc), va_P D vwCl (csQ ct A x) H → va_P D vwCl (cs10 ct B o) H → va_S (GE G) s.heap H locs → ∀ ls : Array Slot, lv_has ls 4 [(0, .ref b), (1, .ref (A 0)), (2, .ref (B 0)), (3, .int (nI i))] → W p l e room_1 s m args below meth c H locs LCn LSn Q (F0 m pc ls [])
set_option maxRecDepth 100000 in
theorem lk_0 {p : Program} {l : Launch} {e : Env} {s : State} {m : MethodId} {below : List Frame} {meth : Method} {c : Code} {D : va_G} {ct : Nat → ClassId} {G : GT} {A B : Nat → Nat} {b L : Nat} {xs : Nat → Int32} {Q : State → Prop} {args : Array Value} (hC : lcx p s m c args D ct G A B b L xs) {i : Nat} (hi : i + 6 ≤ L) (hn : loopI p l e s m args below meth c D ct G A B b i 2612 Q) : loopI p l e s m args below meth c D ct G A B b i 352 Q := by
  intro x o hR H locs hP hQ hS ls hl
  obtain ⟨r, x2, o2, e1, e2, h2⟩ := eq_0 hR (xs (i + 1)) (xs (i + 2)) (xs (i + 3)) (xs (i + 4)) (xs (i + 5))
  exact lc_0 hC hi e1 e2 hP hQ hS hl (fun H locs hP hQ hS ls hl => hn _ _ h2 H locs hP hQ hS ls hl)
set_option maxRecDepth 100000 in
theorem lk_1 {p : Program} {l : Launch} {e : Env} {s : State} {m : MethodId} {below : List Frame} {meth : Method} {c : Code} {D : va_G} {ct : Nat → ClassId} {G : GT} {A B : Nat → Nat} {b L : Nat} {xs : Nat → Int32} {Q : State → Prop} {args : Array Value} (hC : lcx p s m c args D ct G A B b L xs) {i : Nat} (hi : i + 6 ≤ L) (hn : loopI p l e s m args below meth c D ct G A B b i 2612 Q) : loopI p l e s m args below meth c D ct G A B b i 415 Q := by
  intro x o hR H locs hP hQ hS ls hl
  obtain ⟨r, x2, o2, e1, e2, h2⟩ := eq_1 hR (xs (i + 1))
  exact lc_1 hC hi e1 e2 hP hQ hS hl (fun H locs hP hQ hS ls hl => hn _ _ h2 H locs hP hQ hS ls hl)
set_option maxRecDepth 100000 in
theorem lk_2 {p : Program} {l : Launch} {e : Env} {s : State} {m : MethodId} {below : List Frame} {meth : Method} {c : Code} {D : va_G} {ct : Nat → ClassId} {G : GT} {A B : Nat → Nat} {b L : Nat} {xs : Nat → Int32} {Q : State → Prop} {args : Array Value} (hC : lcx p s m c args D ct G A B b L xs) {i : Nat} (hi : i + 6 ≤ L) (hn : loopI p l e s m args below meth c D ct G A B b i 2612 Q) : loopI p l e s m args below meth c D ct G A B b i 438 Q := by
  intro x o hR H locs hP hQ hS ls hl
  obtain ⟨r, x2, o2, e1, e2, h2⟩ := eq_2 hR 
  exact lc_2 hC hi e1 e2 hP hQ hS hl (fun H locs hP hQ hS ls hl => hn _ _ h2 H locs hP hQ hS ls hl)
set_option maxRecDepth 100000 in
theorem lk_3 {p : Program} {l : Launch} {e : Env} {s : State} {m : MethodId} {below : List Frame} {meth : Method} {c : Code} {D : va_G} {ct : Nat → ClassId} {G : GT} {A B : Nat → Nat} {b L : Nat} {xs : Nat → Int32} {Q : State → Prop} {args : Array Value} (hC : lcx p s m c args D ct G A B b L xs) {i : Nat} (hi : i + 6 ≤ L) (hn : loopI p l e s m args below meth c D ct G A B b i 2612 Q) : loopI p l e s m args below meth c D ct G A B b i 451 Q := by
  intro x o hR H locs hP hQ hS ls hl
  obtain ⟨r, e1, e2, h2⟩ := eq_3 hR (xs (i + 1))
  exact lc_3 hC hi e1 e2 hP hQ hS hl (fun H locs hP hQ hS ls hl => hn _ _ h2 H locs hP hQ hS ls hl)
set_option maxRecDepth 100000 in
theorem lk_4 {p : Program} {l : Launch} {e : Env} {s : State} {m : MethodId} {below : List Frame} {meth : Method} {c : Code} {D : va_G} {ct : Nat → ClassId} {G : GT} {A B : Nat → Nat} {b L : Nat} {xs : Nat → Int32} {Q : State → Prop} {args : Array Value} (hC : lcx p s m c args D ct G A B b L xs) {i : Nat} (hi : i + 6 ≤ L) (hn : loopI p l e s m args below meth c D ct G A B b i 2612 Q) : loopI p l e s m args below meth c D ct G A B b i 474 Q := by
  intro x o hR H locs hP hQ hS ls hl
  obtain ⟨r, e1, e2, h2⟩ := eq_4 hR (xs (i + 1)) (xs (i + 2))
  exact lc_4 hC hi e1 e2 hP hQ hS hl (fun H locs hP hQ hS ls hl => hn _ _ h2 H locs hP hQ hS ls hl)
set_option maxRecDepth 100000 in
theorem lk_5 {p : Program} {l : Launch} {e : Env} {s : State} {m : MethodId} {below : List Frame} {meth : Method} {c : Code} {D : va_G} {ct : Nat → ClassId} {G : GT} {A B : Nat → Nat} {b L : Nat} {xs : Nat → Int32} {Q : State → Prop} {args : Array Value} (hC : lcx p s m c args D ct G A B b L xs) {i : Nat} (hi : i + 6 ≤ L) (hn : loopI p l e s m args below meth c D ct G A B b i 2612 Q) : loopI p l e s m args below meth c D ct G A B b i 507 Q := by
  intro x o hR H locs hP hQ hS ls hl
  obtain ⟨r, e1, e2, h2⟩ := eq_5 hR (xs (i + 1)) (xs (i + 2))
  exact lc_5 hC hi e1 e2 hP hQ hS hl (fun H locs hP hQ hS ls hl => hn _ _ h2 H locs hP hQ hS ls hl)
set_option maxRecDepth 100000 in
theorem lk_6 {p : Program} {l : Launch} {e : Env} {s : State} {m : MethodId} {below : List Frame} {meth : Method} {c : Code} {D : va_G} {ct : Nat → ClassId} {G : GT} {A B : Nat → Nat} {b L : Nat} {xs : Nat → Int32} {Q : State → Prop} {args : Array Value} (hC : lcx p s m c args D ct G A B b L xs) {i : Nat} (hi : i + 6 ≤ L) (hn : loopI p l e s m args below meth c D ct G A B b i 2612 Q) : loopI p l e s m args below meth c D ct G A B b i 540 Q := by
  intro x o hR H locs hP hQ hS ls hl
  obtain ⟨r, e1, e2, h2⟩ := eq_6 hR (xs (i + 1)) (xs (i + 2))
  exact lc_6 hC hi e1 e2 hP hQ hS hl (fun H locs hP hQ hS ls hl => hn _ _ h2 H locs hP hQ hS ls hl)
set_option maxRecDepth 100000 in
theorem lk_7 {p : Program} {l : Launch} {e : Env} {s : State} {m : MethodId} {below : List Frame} {meth : Method} {c : Code} {D : va_G} {ct : Nat → ClassId} {G : GT} {A B : Nat → Nat} {b L : Nat} {xs : Nat → Int32} {Q : State → Prop} {args : Array Value} (hC : lcx p s m c args D ct G A B b L xs) {i : Nat} (hi : i + 6 ≤ L) (hn : loopI p l e s m args below meth c D ct G A B b i 2612 Q) : loopI p l e s m args below meth c D ct G A B b i 573 Q := by
  intro x o hR H locs hP hQ hS ls hl
  obtain ⟨r, o2, e1, e2, h2⟩ := eq_7 hR (xs (i + 1))
  exact lc_7 hC hi e1 e2 hP hQ hS hl (fun H locs hP hQ hS ls hl => hn _ _ h2 H locs hP hQ hS ls hl)
set_option maxRecDepth 100000 in
theorem lk_8 {p : Program} {l : Launch} {e : Env} {s : State} {m : MethodId} {below : List Frame} {meth : Method} {c : Code} {D : va_G} {ct : Nat → ClassId} {G : GT} {A B : Nat → Nat} {b L : Nat} {xs : Nat → Int32} {Q : State → Prop} {args : Array Value} (hC : lcx p s m c args D ct G A B b L xs) {i : Nat} (hi : i + 6 ≤ L) (hn : loopI p l e s m args below meth c D ct G A B b i 2612 Q) : loopI p l e s m args below meth c D ct G A B b i 596 Q := by
  intro x o hR H locs hP hQ hS ls hl
  obtain ⟨r, o2, e1, e2, h2⟩ := eq_8 hR (xs (i + 1))
  exact lc_8 hC hi e1 e2 hP hQ hS hl (fun H locs hP hQ hS ls hl => hn _ _ h2 H locs hP hQ hS ls hl)
set_option maxRecDepth 100000 in
theorem lk_9 {p : Program} {l : Launch} {e : Env} {s : State} {m : MethodId} {below : List Frame} {meth : Method} {c : Code} {D : va_G} {ct : Nat → ClassId} {G : GT} {A B : Nat → Nat} {b L : Nat} {xs : Nat → Int32} {Q : State → Prop} {args : Array Value} (hC : lcx p s m c args D ct G A B b L xs) {i : Nat} (hi : i + 6 ≤ L) (hn : loopI p l e s m args below meth c D ct G A B b i 2612 Q) : loopI p l e s m args below meth c D ct G A B b i 619 Q := by
  intro x o hR H locs hP hQ hS ls hl
  obtain ⟨r, o2, e1, e2, h2⟩ := eq_9 hR (xs (i + 1))
  exact lc_9 hC hi e1 e2 hP hQ hS hl (fun H locs hP hQ hS ls hl => hn _ _ h2 H locs hP hQ hS ls hl)
set_option maxRecDepth 100000 in
theorem lk_10 {p : Program} {l : Launch} {e : Env} {s : State} {m : MethodId} {below : List Frame} {meth : Method} {c : Code} {D : va_G} {ct : Nat → ClassId} {G : GT} {A B : Nat → Nat} {b L : Nat} {xs : Nat → Int32} {Q : State → Prop} {args : Array Value} (hC : lcx p s m c args D ct G A B b L xs) {i : Nat} (hi : i + 6 ≤ L) (hn : loopI p l e s m args below meth c D ct G A B b i 2612 Q) : loopI p l e s m args below meth c D ct G A B b i 642 Q := by
  intro x o hR H locs hP hQ hS ls hl
  obtain ⟨r, o2, e1, e2, h2⟩ := eq_10 hR (xs (i + 1))
  exact lc_10 hC hi e1 e2 hP hQ hS hl (fun H locs hP hQ hS ls hl => hn _ _ h2 H locs hP hQ hS ls hl)
set_option maxRecDepth 100000 in
theorem lk_11 {p : Program} {l : Launch} {e : Env} {s : State} {m : MethodId} {below : List Frame} {meth : Method} {c : Code} {D : va_G} {ct : Nat → ClassId} {G : GT} {A B : Nat → Nat} {b L : Nat} {xs : Nat → Int32} {Q : State → Prop} {args : Array Value} (hC : lcx p s m c args D ct G A B b L xs) {i : Nat} (hi : i + 6 ≤ L) (hn : loopI p l e s m args below meth c D ct G A B b i 2612 Q) : loopI p l e s m args below meth c D ct G A B b i 665 Q := by
  intro x o hR H locs hP hQ hS ls hl
  obtain ⟨r, x2, o2, e1, e2, h2⟩ := eq_11 hR (xs (i + 1)) (xs (i + 2)) (xs (i + 3))
  exact lc_11 hC hi e1 e2 hP hQ hS hl (fun H locs hP hQ hS ls hl => hn _ _ h2 H locs hP hQ hS ls hl)
set_option maxRecDepth 100000 in
theorem lk_12 {p : Program} {l : Launch} {e : Env} {s : State} {m : MethodId} {below : List Frame} {meth : Method} {c : Code} {D : va_G} {ct : Nat → ClassId} {G : GT} {A B : Nat → Nat} {b L : Nat} {xs : Nat → Int32} {Q : State → Prop} {args : Array Value} (hC : lcx p s m c args D ct G A B b L xs) {i : Nat} (hi : i + 6 ≤ L) (hn : loopI p l e s m args below meth c D ct G A B b i 2612 Q) : loopI p l e s m args below meth c D ct G A B b i 708 Q := by
  intro x o hR H locs hP hQ hS ls hl
  obtain ⟨r, x2, o2, e1, e2, h2⟩ := eq_12 hR (xs (i + 1)) (xs (i + 2))
  exact lc_12 hC hi e1 e2 hP hQ hS hl (fun H locs hP hQ hS ls hl => hn _ _ h2 H locs hP hQ hS ls hl)
set_option maxRecDepth 100000 in
theorem lk_13 {p : Program} {l : Launch} {e : Env} {s : State} {m : MethodId} {below : List Frame} {meth : Method} {c : Code} {D : va_G} {ct : Nat → ClassId} {G : GT} {A B : Nat → Nat} {b L : Nat} {xs : Nat → Int32} {Q : State → Prop} {args : Array Value} (hC : lcx p s m c args D ct G A B b L xs) {i : Nat} (hi : i + 6 ≤ L) (hn : loopI p l e s m args below meth c D ct G A B b i 2612 Q) : loopI p l e s m args below meth c D ct G A B b i 741 Q := by
  intro x o hR H locs hP hQ hS ls hl
  obtain ⟨r, x2, o2, e1, e2, h2⟩ := eq_13 hR (xs (i + 1)) (xs (i + 2)) (xs (i + 3))
  exact lc_13 hC hi e1 e2 hP hQ hS hl (fun H locs hP hQ hS ls hl => hn _ _ h2 H locs hP hQ hS ls hl)
set_option maxRecDepth 100000 in
theorem lk_14 {p : Program} {l : Launch} {e : Env} {s : State} {m : MethodId} {below : List Frame} {meth : Method} {c : Code} {D : va_G} {ct : Nat → ClassId} {G : GT} {A B : Nat → Nat} {b L : Nat} {xs : Nat → Int32} {Q : State → Prop} {args : Array Value} (hC : lcx p s m c args D ct G A B b L xs) {i : Nat} (hi : i + 6 ≤ L) (hn : loopI p l e s m args below meth c D ct G A B b i 2612 Q) : loopI p l e s m args below meth c D ct G A B b i 784 Q := by
  intro x o hR H locs hP hQ hS ls hl
  obtain ⟨r, x2, o2, e1, e2, h2⟩ := eq_14 hR (xs (i + 1)) (xs (i + 2))
  exact lc_14 hC hi e1 e2 hP hQ hS hl (fun H locs hP hQ hS ls hl => hn _ _ h2 H locs hP hQ hS ls hl)
set_option maxRecDepth 100000 in
theorem lk_15 {p : Program} {l : Launch} {e : Env} {s : State} {m : MethodId} {below : List Frame} {meth : Method} {c : Code} {D : va_G} {ct : Nat → ClassId} {G : GT} {A B : Nat → Nat} {b L : Nat} {xs : Nat → Int32} {Q : State → Prop} {args : Array Value} (hC : lcx p s m c args D ct G A B b L xs) {i : Nat} (hi : i + 6 ≤ L) (hn : loopI p l e s m args below meth c D ct G A B b i 2612 Q) : loopI p l e s m args below meth c D ct G A B b i 817 Q := by
  intro x o hR H locs hP hQ hS ls hl
  obtain ⟨r, x2, o2, e1, e2, h2⟩ := eq_15 hR (xs (i + 1)) (xs (i + 2))
  exact lc_15 hC hi e1 e2 hP hQ hS hl (fun H locs hP hQ hS ls hl => hn _ _ h2 H locs hP hQ hS ls hl)
set_option maxRecDepth 100000 in
theorem lk_16 {p : Program} {l : Launch} {e : Env} {s : State} {m : MethodId} {below : List Frame} {meth : Method} {c : Code} {D : va_G} {ct : Nat → ClassId} {G : GT} {A B : Nat → Nat} {b L : Nat} {xs : Nat → Int32} {Q : State → Prop} {args : Array Value} (hC : lcx p s m c args D ct G A B b L xs) {i : Nat} (hi : i + 6 ≤ L) (hn : loopI p l e s m args below meth c D ct G A B b i 2612 Q) : loopI p l e s m args below meth c D ct G A B b i 850 Q := by
  intro x o hR H locs hP hQ hS ls hl
  obtain ⟨r, x2, o2, e1, e2, h2⟩ := eq_16 hR (xs (i + 1)) (xs (i + 2))
  exact lc_16 hC hi e1 e2 hP hQ hS hl (fun H locs hP hQ hS ls hl => hn _ _ h2 H locs hP hQ hS ls hl)
set_option maxRecDepth 100000 in
theorem lk_17 {p : Program} {l : Launch} {e : Env} {s : State} {m : MethodId} {below : List Frame} {meth : Method} {c : Code} {D : va_G} {ct : Nat → ClassId} {G : GT} {A B : Nat → Nat} {b L : Nat} {xs : Nat → Int32} {Q : State → Prop} {args : Array Value} (hC : lcx p s m c args D ct G A B b L xs) {i : Nat} (hi : i + 6 ≤ L) (hn : loopI p l e s m args below meth c D ct G A B b i 2612 Q) : loopI p l e s m args below meth c D ct G A B b i 883 Q := by
  intro x o hR H locs hP hQ hS ls hl
  obtain ⟨r, x2, o2, e1, e2, h2⟩ := eq_17 hR (xs (i + 1)) (xs (i + 2))
  exact lc_17 hC hi e1 e2 hP hQ hS hl (fun H locs hP hQ hS ls hl => hn _ _ h2 H locs hP hQ hS ls hl)
set_option maxRecDepth 100000 in
theorem lk_18 {p : Program} {l : Launch} {e : Env} {s : State} {m : MethodId} {below : List Frame} {meth : Method} {c : Code} {D : va_G} {ct : Nat → ClassId} {G : GT} {A B : Nat → Nat} {b L : Nat} {xs : Nat → Int32} {Q : State → Prop} {args : Array Value} (hC : lcx p s m c args D ct G A B b L xs) {i : Nat} (hi : i + 6 ≤ L) (hn : loopI p l e s m args below meth c D ct G A B b i 2612 Q) : loopI p l e s m args below meth c D ct G A B b i 916 Q := by
  intro x o hR H locs hP hQ hS ls hl
  obtain ⟨r, x2, o2, e1, e2, h2⟩ := eq_18 hR (xs (i + 1)) (xs (i + 2))
  exact lc_18 hC hi e1 e2 hP hQ hS hl (fun H locs hP hQ hS ls hl => hn _ _ h2 H locs hP hQ hS ls hl)
set_option maxRecDepth 100000 in
theorem lk_19 {p : Program} {l : Launch} {e : Env} {s : State} {m : MethodId} {below : List Frame} {meth : Method} {c : Code} {D : va_G} {ct : Nat → ClassId} {G : GT} {A B : Nat → Nat} {b L : Nat} {xs : Nat → Int32} {Q : State → Prop} {args : Array Value} (hC : lcx p s m c args D ct G A B b L xs) {i : Nat} (hi : i + 6 ≤ L) (hn : loopI p l e s m args below meth c D ct G A B b i 2612 Q) : loopI p l e s m args below meth c D ct G A B b i 949 Q := by
  intro x o hR H locs hP hQ hS ls hl
  obtain ⟨r, x2, o2, e1, e2, h2⟩ := eq_19 hR (xs (i + 1)) (xs (i + 2))
  exact lc_19 hC hi e1 e2 hP hQ hS hl (fun H locs hP hQ hS ls hl => hn _ _ h2 H locs hP hQ hS ls hl)
set_option maxRecDepth 100000 in
theorem lk_20 {p : Program} {l : Launch} {e : Env} {s : State} {m : MethodId} {below : List Frame} {meth : Method} {c : Code} {D : va_G} {ct : Nat → ClassId} {G : GT} {A B : Nat → Nat} {b L : Nat} {xs : Nat → Int32} {Q : State → Prop} {args : Array Value} (hC : lcx p s m c args D ct G A B b L xs) {i : Nat} (hi : i + 6 ≤ L) (hn : loopI p l e s m args below meth c D ct G A B b i 2612 Q) : loopI p l e s m args below meth c D ct G A B b i 982 Q := by
  intro x o hR H locs hP hQ hS ls hl
  obtain ⟨r, x2, o2, e1, e2, h2⟩ := eq_20 hR (xs (i + 1))
  exact lc_20 hC hi e1 e2 hP hQ hS hl (fun H locs hP hQ hS ls hl => hn _ _ h2 H locs hP hQ hS ls hl)
set_option maxRecDepth 100000 in
theorem lk_21 {p : Program} {l : Launch} {e : Env} {s : State} {m : MethodId} {below : List Frame} {meth : Method} {c : Code} {D : va_G} {ct : Nat → ClassId} {G : GT} {A B : Nat → Nat} {b L : Nat} {xs : Nat → Int32} {Q : State → Prop} {args : Array Value} (hC : lcx p s m c args D ct G A B b L xs) {i : Nat} (hi : i + 6 ≤ L) (hn : loopI p l e s m args below meth c D ct G A B b i 2612 Q) : loopI p l e s m args below meth c D ct G A B b i 1005 Q := by
  intro x o hR H locs hP hQ hS ls hl
  obtain ⟨r, x2, o2, e1, e2, h2⟩ := eq_21 hR (xs (i + 1)) (xs (i + 2))
  exact lc_21 hC hi e1 e2 hP hQ hS hl (fun H locs hP hQ hS ls hl => hn _ _ h2 H locs hP hQ hS ls hl)
set_option maxRecDepth 100000 in
theorem lk_22 {p : Program} {l : Launch} {e : Env} {s : State} {m : MethodId} {below : List Frame} {meth : Method} {c : Code} {D : va_G} {ct : Nat → ClassId} {G : GT} {A B : Nat → Nat} {b L : Nat} {xs : Nat → Int32} {Q : State → Prop} {args : Array Value} (hC : lcx p s m c args D ct G A B b L xs) {i : Nat} (hi : i + 6 ≤ L) (hn : loopI p l e s m args below meth c D ct G A B b i 2612 Q) : loopI p l e s m args below meth c D ct G A B b i 1038 Q := by
  intro x o hR H locs hP hQ hS ls hl
  obtain ⟨r, o2, e1, e2, h2⟩ := eq_22 hR (xs (i + 1))
  exact lc_22 hC hi e1 e2 hP hQ hS hl (fun H locs hP hQ hS ls hl => hn _ _ h2 H locs hP hQ hS ls hl)
set_option maxRecDepth 100000 in
theorem lk_23 {p : Program} {l : Launch} {e : Env} {s : State} {m : MethodId} {below : List Frame} {meth : Method} {c : Code} {D : va_G} {ct : Nat → ClassId} {G : GT} {A B : Nat → Nat} {b L : Nat} {xs : Nat → Int32} {Q : State → Prop} {args : Array Value} (hC : lcx p s m c args D ct G A B b L xs) {i : Nat} (hi : i + 6 ≤ L) (hn : loopI p l e s m args below meth c D ct G A B b i 2612 Q) : loopI p l e s m args below meth c D ct G A B b i 1061 Q := by
  intro x o hR H locs hP hQ hS ls hl
  obtain ⟨r, x2, o2, e1, e2, h2⟩ := eq_23 hR (xs (i + 1)) (xs (i + 2))
  exact lc_23 hC hi e1 e2 hP hQ hS hl (fun H locs hP hQ hS ls hl => hn _ _ h2 H locs hP hQ hS ls hl)
set_option maxRecDepth 100000 in
theorem lk_24 {p : Program} {l : Launch} {e : Env} {s : State} {m : MethodId} {below : List Frame} {meth : Method} {c : Code} {D : va_G} {ct : Nat → ClassId} {G : GT} {A B : Nat → Nat} {b L : Nat} {xs : Nat → Int32} {Q : State → Prop} {args : Array Value} (hC : lcx p s m c args D ct G A B b L xs) {i : Nat} (hi : i + 6 ≤ L) (hn : loopI p l e s m args below meth c D ct G A B b i 2612 Q) : loopI p l e s m args below meth c D ct G A B b i 1094 Q := by
  intro x o hR H locs hP hQ hS ls hl
  obtain ⟨r, x2, o2, e1, e2, h2⟩ := eq_24 hR (xs (i + 1))
  exact lc_24 hC hi e1 e2 hP hQ hS hl (fun H locs hP hQ hS ls hl => hn _ _ h2 H locs hP hQ hS ls hl)
set_option maxRecDepth 100000 in
theorem lk_25 {p : Program} {l : Launch} {e : Env} {s : State} {m : MethodId} {below : List Frame} {meth : Method} {c : Code} {D : va_G} {ct : Nat → ClassId} {G : GT} {A B : Nat → Nat} {b L : Nat} {xs : Nat → Int32} {Q : State → Prop} {args : Array Value} (hC : lcx p s m c args D ct G A B b L xs) {i : Nat} (hi : i + 6 ≤ L) (hn : loopI p l e s m args below meth c D ct G A B b i 2612 Q) : loopI p l e s m args below meth c D ct G A B b i 1117 Q := by
  intro x o hR H locs hP hQ hS ls hl
  obtain ⟨r, o2, e1, e2, h2⟩ := eq_25 hR (xs (i + 1))
  exact lc_25 hC hi e1 e2 hP hQ hS hl (fun H locs hP hQ hS ls hl => hn _ _ h2 H locs hP hQ hS ls hl)
set_option maxRecDepth 100000 in
theorem lk_26 {p : Program} {l : Launch} {e : Env} {s : State} {m : MethodId} {below : List Frame} {meth : Method} {c : Code} {D : va_G} {ct : Nat → ClassId} {G : GT} {A B : Nat → Nat} {b L : Nat} {xs : Nat → Int32} {Q : State → Prop} {args : Array Value} (hC : lcx p s m c args D ct G A B b L xs) {i : Nat} (hi : i + 6 ≤ L) (hn : loopI p l e s m args below meth c D ct G A B b i 2612 Q) : loopI p l e s m args below meth c D ct G A B b i 1140 Q := by
  intro x o hR H locs hP hQ hS ls hl
  obtain ⟨r, e1, e2, h2⟩ := eq_26 hR 
  exact lc_26 hC hi e1 e2 hP hQ hS hl (fun H locs hP hQ hS ls hl => hn _ _ h2 H locs hP hQ hS ls hl)
set_option maxRecDepth 100000 in
theorem lk_27 {p : Program} {l : Launch} {e : Env} {s : State} {m : MethodId} {below : List Frame} {meth : Method} {c : Code} {D : va_G} {ct : Nat → ClassId} {G : GT} {A B : Nat → Nat} {b L : Nat} {xs : Nat → Int32} {Q : State → Prop} {args : Array Value} (hC : lcx p s m c args D ct G A B b L xs) {i : Nat} (hi : i + 6 ≤ L) (hn : loopI p l e s m args below meth c D ct G A B b i 2612 Q) : loopI p l e s m args below meth c D ct G A B b i 1153 Q := by
  intro x o hR H locs hP hQ hS ls hl
  obtain ⟨r, e1, e2, h2⟩ := eq_27 hR 
  exact lc_27 hC hi e1 e2 hP hQ hS hl (fun H locs hP hQ hS ls hl => hn _ _ h2 H locs hP hQ hS ls hl)
set_option maxRecDepth 100000 in
theorem lk_28 {p : Program} {l : Launch} {e : Env} {s : State} {m : MethodId} {below : List Frame} {meth : Method} {c : Code} {D : va_G} {ct : Nat → ClassId} {G : GT} {A B : Nat → Nat} {b L : Nat} {xs : Nat → Int32} {Q : State → Prop} {args : Array Value} (hC : lcx p s m c args D ct G A B b L xs) {i : Nat} (hi : i + 6 ≤ L) (hn : loopI p l e s m args below meth c D ct G A B b i 2612 Q) : loopI p l e s m args below meth c D ct G A B b i 1166 Q := by
  intro x o hR H locs hP hQ hS ls hl
  obtain ⟨r, e1, e2, h2⟩ := eq_28 hR (xs (i + 1))
  exact lc_28 hC hi e1 e2 hP hQ hS hl (fun H locs hP hQ hS ls hl => hn _ _ h2 H locs hP hQ hS ls hl)
set_option maxRecDepth 100000 in
theorem lk_29 {p : Program} {l : Launch} {e : Env} {s : State} {m : MethodId} {below : List Frame} {meth : Method} {c : Code} {D : va_G} {ct : Nat → ClassId} {G : GT} {A B : Nat → Nat} {b L : Nat} {xs : Nat → Int32} {Q : State → Prop} {args : Array Value} (hC : lcx p s m c args D ct G A B b L xs) {i : Nat} (hi : i + 6 ≤ L) (hn : loopI p l e s m args below meth c D ct G A B b i 2612 Q) : loopI p l e s m args below meth c D ct G A B b i 1189 Q := by
  intro x o hR H locs hP hQ hS ls hl
  obtain ⟨r, e1, e2, h2⟩ := eq_29 hR 
  exact lc_29 hC hi e1 e2 hP hQ hS hl (fun H locs hP hQ hS ls hl => hn _ _ h2 H locs hP hQ hS ls hl)
set_option maxRecDepth 100000 in
theorem lk_30 {p : Program} {l : Launch} {e : Env} {s : State} {m : MethodId} {below : List Frame} {meth : Method} {c : Code} {D : va_G} {ct : Nat → ClassId} {G : GT} {A B : Nat → Nat} {b L : Nat} {xs : Nat → Int32} {Q : State → Prop} {args : Array Value} (hC : lcx p s m c args D ct G A B b L xs) {i : Nat} (hi : i + 6 ≤ L) (hn : loopI p l e s m args below meth c D ct G A B b i 2612 Q) : loopI p l e s m args below meth c D ct G A B b i 1202 Q := by
  intro x o hR H locs hP hQ hS ls hl
  obtain ⟨r, o2, e1, e2, h2⟩ := eq_30 hR (xs (i + 1))
  exact lc_30 hC hi e1 e2 hP hQ hS hl (fun H locs hP hQ hS ls hl => hn _ _ h2 H locs hP hQ hS ls hl)
set_option maxRecDepth 100000 in
theorem lk_31 {p : Program} {l : Launch} {e : Env} {s : State} {m : MethodId} {below : List Frame} {meth : Method} {c : Code} {D : va_G} {ct : Nat → ClassId} {G : GT} {A B : Nat → Nat} {b L : Nat} {xs : Nat → Int32} {Q : State → Prop} {args : Array Value} (hC : lcx p s m c args D ct G A B b L xs) {i : Nat} (hi : i + 6 ≤ L) (hn : loopI p l e s m args below meth c D ct G A B b i 2612 Q) : loopI p l e s m args below meth c D ct G A B b i 1225 Q := by
  intro x o hR H locs hP hQ hS ls hl
  obtain ⟨r, o2, e1, e2, h2⟩ := eq_31 hR 
  exact lc_31 hC hi e1 e2 hP hQ hS hl (fun H locs hP hQ hS ls hl => hn _ _ h2 H locs hP hQ hS ls hl)
set_option maxRecDepth 100000 in
theorem lk_32 {p : Program} {l : Launch} {e : Env} {s : State} {m : MethodId} {below : List Frame} {meth : Method} {c : Code} {D : va_G} {ct : Nat → ClassId} {G : GT} {A B : Nat → Nat} {b L : Nat} {xs : Nat → Int32} {Q : State → Prop} {args : Array Value} (hC : lcx p s m c args D ct G A B b L xs) {i : Nat} (hi : i + 6 ≤ L) (hn : loopI p l e s m args below meth c D ct G A B b i 2612 Q) : loopI p l e s m args below meth c D ct G A B b i 1238 Q := by
  intro x o hR H locs hP hQ hS ls hl
  obtain ⟨r, o2, e1, e2, h2⟩ := eq_32 hR 
  exact lc_32 hC hi e1 e2 hP hQ hS hl (fun H locs hP hQ hS ls hl => hn _ _ h2 H locs hP hQ hS ls hl)
set_option maxRecDepth 100000 in
theorem lk_33 {p : Program} {l : Launch} {e : Env} {s : State} {m : MethodId} {below : List Frame} {meth : Method} {c : Code} {D : va_G} {ct : Nat → ClassId} {G : GT} {A B : Nat → Nat} {b L : Nat} {xs : Nat → Int32} {Q : State → Prop} {args : Array Value} (hC : lcx p s m c args D ct G A B b L xs) {i : Nat} (hi : i + 6 ≤ L) (hn : loopI p l e s m args below meth c D ct G A B b i 2612 Q) : loopI p l e s m args below meth c D ct G A B b i 1251 Q := by
  intro x o hR H locs hP hQ hS ls hl
  obtain ⟨r, o2, e1, e2, h2⟩ := eq_33 hR (xs (i + 1)) (xs (i + 2))
  exact lc_33 hC hi e1 e2 hP hQ hS hl (fun H locs hP hQ hS ls hl => hn _ _ h2 H locs hP hQ hS ls hl)
set_option maxRecDepth 100000 in
theorem lk_34 {p : Program} {l : Launch} {e : Env} {s : State} {m : MethodId} {below : List Frame} {meth : Method} {c : Code} {D : va_G} {ct : Nat → ClassId} {G : GT} {A B : Nat → Nat} {b L : Nat} {xs : Nat → Int32} {Q : State → Prop} {args : Array Value} (hC : lcx p s m c args D ct G A B b L xs) {i : Nat} (hi : i + 6 ≤ L) (hn : loopI p l e s m args below meth c D ct G A B b i 2612 Q) : loopI p l e s m args below meth c D ct G A B b i 1284 Q := by
  intro x o hR H locs hP hQ hS ls hl
  obtain ⟨r, x2, o2, e1, e2, h2⟩ := eq_34 hR (xs (i + 1)) (xs (i + 2))
  exact lc_34 hC hi e1 e2 hP hQ hS hl (fun H locs hP hQ hS ls hl => hn _ _ h2 H locs hP hQ hS ls hl)
set_option maxRecDepth 100000 in
theorem lk_35 {p : Program} {l : Launch} {e : Env} {s : State} {m : MethodId} {below : List Frame} {meth : Method} {c : Code} {D : va_G} {ct : Nat → ClassId} {G : GT} {A B : Nat → Nat} {b L : Nat} {xs : Nat → Int32} {Q : State → Prop} {args : Array Value} (hC : lcx p s m c args D ct G A B b L xs) {i : Nat} (hi : i + 6 ≤ L) (hn : loopI p l e s m args below meth c D ct G A B b i 2612 Q) : loopI p l e s m args below meth c D ct G A B b i 1317 Q := by
  intro x o hR H locs hP hQ hS ls hl
  obtain ⟨r, x2, o2, e1, e2, h2⟩ := eq_35 hR (xs (i + 1)) (xs (i + 2))
  exact lc_35 hC hi e1 e2 hP hQ hS hl (fun H locs hP hQ hS ls hl => hn _ _ h2 H locs hP hQ hS ls hl)
set_option maxRecDepth 100000 in
theorem lk_36 {p : Program} {l : Launch} {e : Env} {s : State} {m : MethodId} {below : List Frame} {meth : Method} {c : Code} {D : va_G} {ct : Nat → ClassId} {G : GT} {A B : Nat → Nat} {b L : Nat} {xs : Nat → Int32} {Q : State → Prop} {args : Array Value} (hC : lcx p s m c args D ct G A B b L xs) {i : Nat} (hi : i + 6 ≤ L) (hn : loopI p l e s m args below meth c D ct G A B b i 2612 Q) : loopI p l e s m args below meth c D ct G A B b i 1350 Q := by
  intro x o hR H locs hP hQ hS ls hl
  obtain ⟨r, x2, o2, e1, e2, h2⟩ := eq_36 hR (xs (i + 1)) (xs (i + 2))
  exact lc_36 hC hi e1 e2 hP hQ hS hl (fun H locs hP hQ hS ls hl => hn _ _ h2 H locs hP hQ hS ls hl)
set_option maxRecDepth 100000 in
theorem lk_37 {p : Program} {l : Launch} {e : Env} {s : State} {m : MethodId} {below : List Frame} {meth : Method} {c : Code} {D : va_G} {ct : Nat → ClassId} {G : GT} {A B : Nat → Nat} {b L : Nat} {xs : Nat → Int32} {Q : State → Prop} {args : Array Value} (hC : lcx p s m c args D ct G A B b L xs) {i : Nat} (hi : i + 6 ≤ L) (hn : loopI p l e s m args below meth c D ct G A B b i 2612 Q) : loopI p l e s m args below meth c D ct G A B b i 1383 Q := by
  intro x o hR H locs hP hQ hS ls hl
  obtain ⟨r, x2, o2, e1, e2, h2⟩ := eq_37 hR (xs (i + 1))
  exact lc_37 hC hi e1 e2 hP hQ hS hl (fun H locs hP hQ hS ls hl => hn _ _ h2 H locs hP hQ hS ls hl)
set_option maxRecDepth 100000 in
theorem lk_38 {p : Program} {l : Launch} {e : Env} {s : State} {m : MethodId} {below : List Frame} {meth : Method} {c : Code} {D : va_G} {ct : Nat → ClassId} {G : GT} {A B : Nat → Nat} {b L : Nat} {xs : Nat → Int32} {Q : State → Prop} {args : Array Value} (hC : lcx p s m c args D ct G A B b L xs) {i : Nat} (hi : i + 6 ≤ L) (hn : loopI p l e s m args below meth c D ct G A B b i 2612 Q) : loopI p l e s m args below meth c D ct G A B b i 1406 Q := by
  intro x o hR H locs hP hQ hS ls hl
  obtain ⟨r, x2, o2, e1, e2, h2⟩ := eq_38 hR (xs (i + 1)) (xs (i + 2))
  exact lc_38 hC hi e1 e2 hP hQ hS hl (fun H locs hP hQ hS ls hl => hn _ _ h2 H locs hP hQ hS ls hl)
set_option maxRecDepth 100000 in
theorem lk_39 {p : Program} {l : Launch} {e : Env} {s : State} {m : MethodId} {below : List Frame} {meth : Method} {c : Code} {D : va_G} {ct : Nat → ClassId} {G : GT} {A B : Nat → Nat} {b L : Nat} {xs : Nat → Int32} {Q : State → Prop} {args : Array Value} (hC : lcx p s m c args D ct G A B b L xs) {i : Nat} (hi : i + 6 ≤ L) (hn : loopI p l e s m args below meth c D ct G A B b i 2612 Q) : loopI p l e s m args below meth c D ct G A B b i 1439 Q := by
  intro x o hR H locs hP hQ hS ls hl
  obtain ⟨r, x2, o2, e1, e2, h2⟩ := eq_39 hR (xs (i + 1)) (xs (i + 2))
  exact lc_39 hC hi e1 e2 hP hQ hS hl (fun H locs hP hQ hS ls hl => hn _ _ h2 H locs hP hQ hS ls hl)
set_option maxRecDepth 100000 in
theorem lk_40 {p : Program} {l : Launch} {e : Env} {s : State} {m : MethodId} {below : List Frame} {meth : Method} {c : Code} {D : va_G} {ct : Nat → ClassId} {G : GT} {A B : Nat → Nat} {b L : Nat} {xs : Nat → Int32} {Q : State → Prop} {args : Array Value} (hC : lcx p s m c args D ct G A B b L xs) {i : Nat} (hi : i + 6 ≤ L) (hn : loopI p l e s m args below meth c D ct G A B b i 2612 Q) : loopI p l e s m args below meth c D ct G A B b i 1473 Q := by
  intro x o hR H locs hP hQ hS ls hl
  obtain ⟨r, e1, e2, h2⟩ := eq_40 hR (xs (i + 1))
  exact lc_40 hC hi e1 e2 hP hQ hS hl (fun H locs hP hQ hS ls hl => hn _ _ h2 H locs hP hQ hS ls hl)
set_option maxRecDepth 100000 in
theorem lk_41 {p : Program} {l : Launch} {e : Env} {s : State} {m : MethodId} {below : List Frame} {meth : Method} {c : Code} {D : va_G} {ct : Nat → ClassId} {G : GT} {A B : Nat → Nat} {b L : Nat} {xs : Nat → Int32} {Q : State → Prop} {args : Array Value} (hC : lcx p s m c args D ct G A B b L xs) {i : Nat} (hi : i + 6 ≤ L) (hn : loopI p l e s m args below meth c D ct G A B b i 2612 Q) : loopI p l e s m args below meth c D ct G A B b i 1496 Q := by
  intro x o hR H locs hP hQ hS ls hl
  obtain ⟨r, x2, o2, e1, e2, h2⟩ := eq_41 hR (xs (i + 1)) (xs (i + 2))
  exact lc_41 hC hi e1 e2 hP hQ hS hl (fun H locs hP hQ hS ls hl => hn _ _ h2 H locs hP hQ hS ls hl)
set_option maxRecDepth 100000 in
theorem lk_42 {p : Program} {l : Launch} {e : Env} {s : State} {m : MethodId} {below : List Frame} {meth : Method} {c : Code} {D : va_G} {ct : Nat → ClassId} {G : GT} {A B : Nat → Nat} {b L : Nat} {xs : Nat → Int32} {Q : State → Prop} {args : Array Value} (hC : lcx p s m c args D ct G A B b L xs) {i : Nat} (hi : i + 6 ≤ L) (hn : loopI p l e s m args below meth c D ct G A B b i 2612 Q) : loopI p l e s m args below meth c D ct G A B b i 1529 Q := by
  intro x o hR H locs hP hQ hS ls hl
  obtain ⟨r, x2, o2, e1, e2, h2⟩ := eq_42 hR (xs (i + 1)) (xs (i + 2))
  exact lc_42 hC hi e1 e2 hP hQ hS hl (fun H locs hP hQ hS ls hl => hn _ _ h2 H locs hP hQ hS ls hl)
set_option maxRecDepth 100000 in
theorem lk_43 {p : Program} {l : Launch} {e : Env} {s : State} {m : MethodId} {below : List Frame} {meth : Method} {c : Code} {D : va_G} {ct : Nat → ClassId} {G : GT} {A B : Nat → Nat} {b L : Nat} {xs : Nat → Int32} {Q : State → Prop} {args : Array Value} (hC : lcx p s m c args D ct G A B b L xs) {i : Nat} (hi : i + 6 ≤ L) (hn : loopI p l e s m args below meth c D ct G A B b i 2612 Q) : loopI p l e s m args below meth c D ct G A B b i 1562 Q := by
  intro x o hR H locs hP hQ hS ls hl
  obtain ⟨r, x2, o2, e1, e2, h2⟩ := eq_43 hR (xs (i + 1)) (xs (i + 2))
  exact lc_43 hC hi e1 e2 hP hQ hS hl (fun H locs hP hQ hS ls hl => hn _ _ h2 H locs hP hQ hS ls hl)
set_option maxRecDepth 100000 in
theorem lk_44 {p : Program} {l : Launch} {e : Env} {s : State} {m : MethodId} {below : List Frame} {meth : Method} {c : Code} {D : va_G} {ct : Nat → ClassId} {G : GT} {A B : Nat → Nat} {b L : Nat} {xs : Nat → Int32} {Q : State → Prop} {args : Array Value} (hC : lcx p s m c args D ct G A B b L xs) {i : Nat} (hi : i + 6 ≤ L) (hn : loopI p l e s m args below meth c D ct G A B b i 2612 Q) : loopI p l e s m args below meth c D ct G A B b i 1595 Q := by
  intro x o hR H locs hP hQ hS ls hl
  obtain ⟨r, x2, o2, e1, e2, h2⟩ := eq_44 hR (xs (i + 1)) (xs (i + 2)) (xs (i + 3))
  exact lc_44 hC hi e1 e2 hP hQ hS hl (fun H locs hP hQ hS ls hl => hn _ _ h2 H locs hP hQ hS ls hl)
set_option maxRecDepth 100000 in
theorem lk_45 {p : Program} {l : Launch} {e : Env} {s : State} {m : MethodId} {below : List Frame} {meth : Method} {c : Code} {D : va_G} {ct : Nat → ClassId} {G : GT} {A B : Nat → Nat} {b L : Nat} {xs : Nat → Int32} {Q : State → Prop} {args : Array Value} (hC : lcx p s m c args D ct G A B b L xs) {i : Nat} (hi : i + 6 ≤ L) (hn : loopI p l e s m args below meth c D ct G A B b i 2612 Q) : loopI p l e s m args below meth c D ct G A B b i 1638 Q := by
  intro x o hR H locs hP hQ hS ls hl
  obtain ⟨r, x2, o2, e1, e2, h2⟩ := eq_45 hR (xs (i + 1)) (xs (i + 2))
  exact lc_45 hC hi e1 e2 hP hQ hS hl (fun H locs hP hQ hS ls hl => hn _ _ h2 H locs hP hQ hS ls hl)
set_option maxRecDepth 100000 in
theorem lk_46 {p : Program} {l : Launch} {e : Env} {s : State} {m : MethodId} {below : List Frame} {meth : Method} {c : Code} {D : va_G} {ct : Nat → ClassId} {G : GT} {A B : Nat → Nat} {b L : Nat} {xs : Nat → Int32} {Q : State → Prop} {args : Array Value} (hC : lcx p s m c args D ct G A B b L xs) {i : Nat} (hi : i + 6 ≤ L) (hn : loopI p l e s m args below meth c D ct G A B b i 2612 Q) : loopI p l e s m args below meth c D ct G A B b i 1671 Q := by
  intro x o hR H locs hP hQ hS ls hl
  obtain ⟨r, x2, o2, e1, e2, h2⟩ := eq_46 hR (xs (i + 1)) (xs (i + 2))
  exact lc_46 hC hi e1 e2 hP hQ hS hl (fun H locs hP hQ hS ls hl => hn _ _ h2 H locs hP hQ hS ls hl)
set_option maxRecDepth 100000 in
theorem lk_47 {p : Program} {l : Launch} {e : Env} {s : State} {m : MethodId} {below : List Frame} {meth : Method} {c : Code} {D : va_G} {ct : Nat → ClassId} {G : GT} {A B : Nat → Nat} {b L : Nat} {xs : Nat → Int32} {Q : State → Prop} {args : Array Value} (hC : lcx p s m c args D ct G A B b L xs) {i : Nat} (hi : i + 6 ≤ L) (hn : loopI p l e s m args below meth c D ct G A B b i 2612 Q) : loopI p l e s m args below meth c D ct G A B b i 1704 Q := by
  intro x o hR H locs hP hQ hS ls hl
  obtain ⟨r, x2, o2, e1, e2, h2⟩ := eq_47 hR (xs (i + 1)) (xs (i + 2))
  exact lc_47 hC hi e1 e2 hP hQ hS hl (fun H locs hP hQ hS ls hl => hn _ _ h2 H locs hP hQ hS ls hl)
set_option maxRecDepth 100000 in
theorem lk_48 {p : Program} {l : Launch} {e : Env} {s : State} {m : MethodId} {below : List Frame} {meth : Method} {c : Code} {D : va_G} {ct : Nat → ClassId} {G : GT} {A B : Nat → Nat} {b L : Nat} {xs : Nat → Int32} {Q : State → Prop} {args : Array Value} (hC : lcx p s m c args D ct G A B b L xs) {i : Nat} (hi : i + 6 ≤ L) (hn : loopI p l e s m args below meth c D ct G A B b i 2612 Q) : loopI p l e s m args below meth c D ct G A B b i 1737 Q := by
  intro x o hR H locs hP hQ hS ls hl
  obtain ⟨r, x2, o2, e1, e2, h2⟩ := eq_48 hR (xs (i + 1)) (xs (i + 2))
  exact lc_48 hC hi e1 e2 hP hQ hS hl (fun H locs hP hQ hS ls hl => hn _ _ h2 H locs hP hQ hS ls hl)
set_option maxRecDepth 100000 in
theorem lk_49 {p : Program} {l : Launch} {e : Env} {s : State} {m : MethodId} {below : List Frame} {meth : Method} {c : Code} {D : va_G} {ct : Nat → ClassId} {G : GT} {A B : Nat → Nat} {b L : Nat} {xs : Nat → Int32} {Q : State → Prop} {args : Array Value} (hC : lcx p s m c args D ct G A B b L xs) {i : Nat} (hi : i + 6 ≤ L) (hn : loopI p l e s m args below meth c D ct G A B b i 2612 Q) : loopI p l e s m args below meth c D ct G A B b i 1770 Q := by
  intro x o hR H locs hP hQ hS ls hl
  obtain ⟨r, x2, o2, e1, e2, h2⟩ := eq_49 hR (xs (i + 1)) (xs (i + 2)) (xs (i + 3))
  exact lc_49 hC hi e1 e2 hP hQ hS hl (fun H locs hP hQ hS ls hl => hn _ _ h2 H locs hP hQ hS ls hl)
set_option maxRecDepth 100000 in
theorem lk_50 {p : Program} {l : Launch} {e : Env} {s : State} {m : MethodId} {below : List Frame} {meth : Method} {c : Code} {D : va_G} {ct : Nat → ClassId} {G : GT} {A B : Nat → Nat} {b L : Nat} {xs : Nat → Int32} {Q : State → Prop} {args : Array Value} (hC : lcx p s m c args D ct G A B b L xs) {i : Nat} (hi : i + 6 ≤ L) (hn : loopI p l e s m args below meth c D ct G A B b i 2612 Q) : loopI p l e s m args below meth c D ct G A B b i 1813 Q := by
  intro x o hR H locs hP hQ hS ls hl
  obtain ⟨r, x2, o2, e1, e2, h2⟩ := eq_50 hR (xs (i + 1))
  exact lc_50 hC hi e1 e2 hP hQ hS hl (fun H locs hP hQ hS ls hl => hn _ _ h2 H locs hP hQ hS ls hl)
set_option maxRecDepth 100000 in
theorem lk_51 {p : Program} {l : Launch} {e : Env} {s : State} {m : MethodId} {below : List Frame} {meth : Method} {c : Code} {D : va_G} {ct : Nat → ClassId} {G : GT} {A B : Nat → Nat} {b L : Nat} {xs : Nat → Int32} {Q : State → Prop} {args : Array Value} (hC : lcx p s m c args D ct G A B b L xs) {i : Nat} (hi : i + 6 ≤ L) (hn : loopI p l e s m args below meth c D ct G A B b i 2612 Q) : loopI p l e s m args below meth c D ct G A B b i 1836 Q := by
  intro x o hR H locs hP hQ hS ls hl
  obtain ⟨r, x2, o2, e1, e2, h2⟩ := eq_51 hR (xs (i + 1))
  exact lc_51 hC hi e1 e2 hP hQ hS hl (fun H locs hP hQ hS ls hl => hn _ _ h2 H locs hP hQ hS ls hl)
set_option maxRecDepth 100000 in
theorem lk_52 {p : Program} {l : Launch} {e : Env} {s : State} {m : MethodId} {below : List Frame} {meth : Method} {c : Code} {D : va_G} {ct : Nat → ClassId} {G : GT} {A B : Nat → Nat} {b L : Nat} {xs : Nat → Int32} {Q : State → Prop} {args : Array Value} (hC : lcx p s m c args D ct G A B b L xs) {i : Nat} (hi : i + 6 ≤ L) (hn : loopI p l e s m args below meth c D ct G A B b i 2612 Q) : loopI p l e s m args below meth c D ct G A B b i 1859 Q := by
  intro x o hR H locs hP hQ hS ls hl
  obtain ⟨r, x2, o2, e1, e2, h2⟩ := eq_52 hR (xs (i + 1))
  exact lc_52 hC hi e1 e2 hP hQ hS hl (fun H locs hP hQ hS ls hl => hn _ _ h2 H locs hP hQ hS ls hl)
set_option maxRecDepth 100000 in
theorem lk_53 {p : Program} {l : Launch} {e : Env} {s : State} {m : MethodId} {below : List Frame} {meth : Method} {c : Code} {D : va_G} {ct : Nat → ClassId} {G : GT} {A B : Nat → Nat} {b L : Nat} {xs : Nat → Int32} {Q : State → Prop} {args : Array Value} (hC : lcx p s m c args D ct G A B b L xs) {i : Nat} (hi : i + 6 ≤ L) (hn : loopI p l e s m args below meth c D ct G A B b i 2612 Q) : loopI p l e s m args below meth c D ct G A B b i 1882 Q := by
  intro x o hR H locs hP hQ hS ls hl
  obtain ⟨r, x2, o2, e1, e2, h2⟩ := eq_53 hR (xs (i + 1))
  exact lc_53 hC hi e1 e2 hP hQ hS hl (fun H locs hP hQ hS ls hl => hn _ _ h2 H locs hP hQ hS ls hl)
set_option maxRecDepth 100000 in
theorem lk_54 {p : Program} {l : Launch} {e : Env} {s : State} {m : MethodId} {below : List Frame} {meth : Method} {c : Code} {D : va_G} {ct : Nat → ClassId} {G : GT} {A B : Nat → Nat} {b L : Nat} {xs : Nat → Int32} {Q : State → Prop} {args : Array Value} (hC : lcx p s m c args D ct G A B b L xs) {i : Nat} (hi : i + 6 ≤ L) (hn : loopI p l e s m args below meth c D ct G A B b i 2612 Q) : loopI p l e s m args below meth c D ct G A B b i 1905 Q := by
  intro x o hR H locs hP hQ hS ls hl
  obtain ⟨r, x2, o2, e1, e2, h2⟩ := eq_54 hR (xs (i + 1))
  exact lc_54 hC hi e1 e2 hP hQ hS hl (fun H locs hP hQ hS ls hl => hn _ _ h2 H locs hP hQ hS ls hl)
set_option maxRecDepth 100000 in
theorem lk_55 {p : Program} {l : Launch} {e : Env} {s : State} {m : MethodId} {below : List Frame} {meth : Method} {c : Code} {D : va_G} {ct : Nat → ClassId} {G : GT} {A B : Nat → Nat} {b L : Nat} {xs : Nat → Int32} {Q : State → Prop} {args : Array Value} (hC : lcx p s m c args D ct G A B b L xs) {i : Nat} (hi : i + 6 ≤ L) (hn : loopI p l e s m args below meth c D ct G A B b i 2612 Q) : loopI p l e s m args below meth c D ct G A B b i 1928 Q := by
  intro x o hR H locs hP hQ hS ls hl
  obtain ⟨r, x2, o2, e1, e2, h2⟩ := eq_55 hR (xs (i + 1)) (xs (i + 2)) (xs (i + 3))
  exact lc_55 hC hi e1 e2 hP hQ hS hl (fun H locs hP hQ hS ls hl => hn _ _ h2 H locs hP hQ hS ls hl)
set_option maxRecDepth 100000 in
theorem lk_56 {p : Program} {l : Launch} {e : Env} {s : State} {m : MethodId} {below : List Frame} {meth : Method} {c : Code} {D : va_G} {ct : Nat → ClassId} {G : GT} {A B : Nat → Nat} {b L : Nat} {xs : Nat → Int32} {Q : State → Prop} {args : Array Value} (hC : lcx p s m c args D ct G A B b L xs) {i : Nat} (hi : i + 6 ≤ L) (hn : loopI p l e s m args below meth c D ct G A B b i 2612 Q) : loopI p l e s m args below meth c D ct G A B b i 1971 Q := by
  intro x o hR H locs hP hQ hS ls hl
  obtain ⟨r, x2, o2, e1, e2, h2⟩ := eq_56 hR (xs (i + 1)) (xs (i + 2)) (xs (i + 3))
  exact lc_56 hC hi e1 e2 hP hQ hS hl (fun H locs hP hQ hS ls hl => hn _ _ h2 H locs hP hQ hS ls hl)
set_option maxRecDepth 100000 in
theorem lk_57 {p : Program} {l : Launch} {e : Env} {s : State} {m : MethodId} {below : List Frame} {meth : Method} {c : Code} {D : va_G} {ct : Nat → ClassId} {G : GT} {A B : Nat → Nat} {b L : Nat} {xs : Nat → Int32} {Q : State → Prop} {args : Array Value} (hC : lcx p s m c args D ct G A B b L xs) {i : Nat} (hi : i + 6 ≤ L) (hn : loopI p l e s m args below meth c D ct G A B b i 2612 Q) : loopI p l e s m args below meth c D ct G A B b i 2014 Q := by
  intro x o hR H locs hP hQ hS ls hl
  obtain ⟨r, e1, e2, h2⟩ := eq_57 hR 
  exact lc_57 hC hi e1 e2 hP hQ hS hl (fun H locs hP hQ hS ls hl => hn _ _ h2 H locs hP hQ hS ls hl)
set_option maxRecDepth 100000 in
theorem lk_58 {p : Program} {l : Launch} {e : Env} {s : State} {m : MethodId} {below : List Frame} {meth : Method} {c : Code} {D : va_G} {ct : Nat → ClassId} {G : GT} {A B : Nat → Nat} {b L : Nat} {xs : Nat → Int32} {Q : State → Prop} {args : Array Value} (hC : lcx p s m c args D ct G A B b L xs) {i : Nat} (hi : i + 6 ≤ L) (hn : loopI p l e s m args below meth c D ct G A B b i 2612 Q) : loopI p l e s m args below meth c D ct G A B b i 2027 Q := by
  intro x o hR H locs hP hQ hS ls hl
  obtain ⟨r, e1, e2, h2⟩ := eq_58 hR 
  exact lc_58 hC hi e1 e2 hP hQ hS hl (fun H locs hP hQ hS ls hl => hn _ _ h2 H locs hP hQ hS ls hl)
set_option maxRecDepth 100000 in
theorem lk_59 {p : Program} {l : Launch} {e : Env} {s : State} {m : MethodId} {below : List Frame} {meth : Method} {c : Code} {D : va_G} {ct : Nat → ClassId} {G : GT} {A B : Nat → Nat} {b L : Nat} {xs : Nat → Int32} {Q : State → Prop} {args : Array Value} (hC : lcx p s m c args D ct G A B b L xs) {i : Nat} (hi : i + 6 ≤ L) (hn : loopI p l e s m args below meth c D ct G A B b i 2612 Q) : loopI p l e s m args below meth c D ct G A B b i 2040 Q := by
  intro x o hR H locs hP hQ hS ls hl
  obtain ⟨r, e1, e2, h2⟩ := eq_59 hR (xs (i + 1)) (xs (i + 2))
  exact lc_59 hC hi e1 e2 hP hQ hS hl (fun H locs hP hQ hS ls hl => hn _ _ h2 H locs hP hQ hS ls hl)
set_option maxRecDepth 100000 in
theorem lk_60 {p : Program} {l : Launch} {e : Env} {s : State} {m : MethodId} {below : List Frame} {meth : Method} {c : Code} {D : va_G} {ct : Nat → ClassId} {G : GT} {A B : Nat → Nat} {b L : Nat} {xs : Nat → Int32} {Q : State → Prop} {args : Array Value} (hC : lcx p s m c args D ct G A B b L xs) {i : Nat} (hi : i + 6 ≤ L) (hn : loopI p l e s m args below meth c D ct G A B b i 2612 Q) : loopI p l e s m args below meth c D ct G A B b i 2073 Q := by
  intro x o hR H locs hP hQ hS ls hl
  obtain ⟨r, e1, e2, h2⟩ := eq_60 hR 
  exact lc_60 hC hi e1 e2 hP hQ hS hl (fun H locs hP hQ hS ls hl => hn _ _ h2 H locs hP hQ hS ls hl)
set_option maxRecDepth 100000 in
theorem lk_61 {p : Program} {l : Launch} {e : Env} {s : State} {m : MethodId} {below : List Frame} {meth : Method} {c : Code} {D : va_G} {ct : Nat → ClassId} {G : GT} {A B : Nat → Nat} {b L : Nat} {xs : Nat → Int32} {Q : State → Prop} {args : Array Value} (hC : lcx p s m c args D ct G A B b L xs) {i : Nat} (hi : i + 6 ≤ L) (hn : loopI p l e s m args below meth c D ct G A B b i 2612 Q) : loopI p l e s m args below meth c D ct G A B b i 2086 Q := by
  intro x o hR H locs hP hQ hS ls hl
  obtain ⟨r, x2, o2, e1, e2, h2⟩ := eq_61 hR (xs (i + 1)) (xs (i + 2)) (xs (i + 3))
  exact lc_61 hC hi e1 e2 hP hQ hS hl (fun H locs hP hQ hS ls hl => hn _ _ h2 H locs hP hQ hS ls hl)
set_option maxRecDepth 100000 in
theorem lk_62 {p : Program} {l : Launch} {e : Env} {s : State} {m : MethodId} {below : List Frame} {meth : Method} {c : Code} {D : va_G} {ct : Nat → ClassId} {G : GT} {A B : Nat → Nat} {b L : Nat} {xs : Nat → Int32} {Q : State → Prop} {args : Array Value} (hC : lcx p s m c args D ct G A B b L xs) {i : Nat} (hi : i + 6 ≤ L) (hn : loopI p l e s m args below meth c D ct G A B b i 2612 Q) : loopI p l e s m args below meth c D ct G A B b i 2130 Q := by
  intro x o hR H locs hP hQ hS ls hl
  obtain ⟨r, x2, o2, e1, e2, h2⟩ := eq_62 hR (xs (i + 1)) (xs (i + 2))
  exact lc_62 hC hi e1 e2 hP hQ hS hl (fun H locs hP hQ hS ls hl => hn _ _ h2 H locs hP hQ hS ls hl)
set_option maxRecDepth 100000 in
theorem lk_63 {p : Program} {l : Launch} {e : Env} {s : State} {m : MethodId} {below : List Frame} {meth : Method} {c : Code} {D : va_G} {ct : Nat → ClassId} {G : GT} {A B : Nat → Nat} {b L : Nat} {xs : Nat → Int32} {Q : State → Prop} {args : Array Value} (hC : lcx p s m c args D ct G A B b L xs) {i : Nat} (hi : i + 6 ≤ L) (hn : loopI p l e s m args below meth c D ct G A B b i 2612 Q) : loopI p l e s m args below meth c D ct G A B b i 2163 Q := by
  intro x o hR H locs hP hQ hS ls hl
  obtain ⟨r, x2, o2, e1, e2, h2⟩ := eq_63 hR (xs (i + 1)) (xs (i + 2))
  exact lc_63 hC hi e1 e2 hP hQ hS hl (fun H locs hP hQ hS ls hl => hn _ _ h2 H locs hP hQ hS ls hl)
set_option maxRecDepth 100000 in
theorem lk_64 {p : Program} {l : Launch} {e : Env} {s : State} {m : MethodId} {below : List Frame} {meth : Method} {c : Code} {D : va_G} {ct : Nat → ClassId} {G : GT} {A B : Nat → Nat} {b L : Nat} {xs : Nat → Int32} {Q : State → Prop} {args : Array Value} (hC : lcx p s m c args D ct G A B b L xs) {i : Nat} (hi : i + 6 ≤ L) (hn : loopI p l e s m args below meth c D ct G A B b i 2612 Q) : loopI p l e s m args below meth c D ct G A B b i 2196 Q := by
  intro x o hR H locs hP hQ hS ls hl
  obtain ⟨r, x2, o2, e1, e2, h2⟩ := eq_64 hR (xs (i + 1)) (xs (i + 2))
  exact lc_64 hC hi e1 e2 hP hQ hS hl (fun H locs hP hQ hS ls hl => hn _ _ h2 H locs hP hQ hS ls hl)
set_option maxRecDepth 100000 in
theorem lk_65 {p : Program} {l : Launch} {e : Env} {s : State} {m : MethodId} {below : List Frame} {meth : Method} {c : Code} {D : va_G} {ct : Nat → ClassId} {G : GT} {A B : Nat → Nat} {b L : Nat} {xs : Nat → Int32} {Q : State → Prop} {args : Array Value} (hC : lcx p s m c args D ct G A B b L xs) {i : Nat} (hi : i + 6 ≤ L) (hn : loopI p l e s m args below meth c D ct G A B b i 2612 Q) : loopI p l e s m args below meth c D ct G A B b i 2229 Q := by
  intro x o hR H locs hP hQ hS ls hl
  obtain ⟨r, x2, o2, e1, e2, h2⟩ := eq_65 hR 
  exact lc_65 hC hi e1 e2 hP hQ hS hl (fun H locs hP hQ hS ls hl => hn _ _ h2 H locs hP hQ hS ls hl)
set_option maxRecDepth 100000 in
theorem lk_66 {p : Program} {l : Launch} {e : Env} {s : State} {m : MethodId} {below : List Frame} {meth : Method} {c : Code} {D : va_G} {ct : Nat → ClassId} {G : GT} {A B : Nat → Nat} {b L : Nat} {xs : Nat → Int32} {Q : State → Prop} {args : Array Value} (hC : lcx p s m c args D ct G A B b L xs) {i : Nat} (hi : i + 6 ≤ L) (hn : loopI p l e s m args below meth c D ct G A B b i 2612 Q) : loopI p l e s m args below meth c D ct G A B b i 2242 Q := by
  intro x o hR H locs hP hQ hS ls hl
  obtain ⟨r, x2, o2, e1, e2, h2⟩ := eq_66 hR 
  exact lc_66 hC hi e1 e2 hP hQ hS hl (fun H locs hP hQ hS ls hl => hn _ _ h2 H locs hP hQ hS ls hl)
set_option maxRecDepth 100000 in
theorem lk_67 {p : Program} {l : Launch} {e : Env} {s : State} {m : MethodId} {below : List Frame} {meth : Method} {c : Code} {D : va_G} {ct : Nat → ClassId} {G : GT} {A B : Nat → Nat} {b L : Nat} {xs : Nat → Int32} {Q : State → Prop} {args : Array Value} (hC : lcx p s m c args D ct G A B b L xs) {i : Nat} (hi : i + 6 ≤ L) (hn : loopI p l e s m args below meth c D ct G A B b i 2612 Q) : loopI p l e s m args below meth c D ct G A B b i 2255 Q := by
  intro x o hR H locs hP hQ hS ls hl
  obtain ⟨r, x2, o2, e1, e2, h2⟩ := eq_67 hR (xs (i + 1)) (xs (i + 2))
  exact lc_67 hC hi e1 e2 hP hQ hS hl (fun H locs hP hQ hS ls hl => hn _ _ h2 H locs hP hQ hS ls hl)
set_option maxRecDepth 100000 in
theorem lk_68 {p : Program} {l : Launch} {e : Env} {s : State} {m : MethodId} {below : List Frame} {meth : Method} {c : Code} {D : va_G} {ct : Nat → ClassId} {G : GT} {A B : Nat → Nat} {b L : Nat} {xs : Nat → Int32} {Q : State → Prop} {args : Array Value} (hC : lcx p s m c args D ct G A B b L xs) {i : Nat} (hi : i + 6 ≤ L) (hn : loopI p l e s m args below meth c D ct G A B b i 2612 Q) : loopI p l e s m args below meth c D ct G A B b i 2288 Q := by
  intro x o hR H locs hP hQ hS ls hl
  obtain ⟨r, x2, o2, e1, e2, h2⟩ := eq_68 hR (xs (i + 1)) (xs (i + 2)) (xs (i + 3))
  exact lc_68 hC hi e1 e2 hP hQ hS hl (fun H locs hP hQ hS ls hl => hn _ _ h2 H locs hP hQ hS ls hl)
set_option maxRecDepth 100000 in
theorem lk_69 {p : Program} {l : Launch} {e : Env} {s : State} {m : MethodId} {below : List Frame} {meth : Method} {c : Code} {D : va_G} {ct : Nat → ClassId} {G : GT} {A B : Nat → Nat} {b L : Nat} {xs : Nat → Int32} {Q : State → Prop} {args : Array Value} (hC : lcx p s m c args D ct G A B b L xs) {i : Nat} (hi : i + 6 ≤ L) (hn : loopI p l e s m args below meth c D ct G A B b i 2612 Q) : loopI p l e s m args below meth c D ct G A B b i 2331 Q := by
  intro x o hR H locs hP hQ hS ls hl
  obtain ⟨r, x2, o2, e1, e2, h2⟩ := eq_69 hR (xs (i + 1)) (xs (i + 2))
  exact lc_69 hC hi e1 e2 hP hQ hS hl (fun H locs hP hQ hS ls hl => hn _ _ h2 H locs hP hQ hS ls hl)
set_option maxRecDepth 100000 in
theorem lk_70 {p : Program} {l : Launch} {e : Env} {s : State} {m : MethodId} {below : List Frame} {meth : Method} {c : Code} {D : va_G} {ct : Nat → ClassId} {G : GT} {A B : Nat → Nat} {b L : Nat} {xs : Nat → Int32} {Q : State → Prop} {args : Array Value} (hC : lcx p s m c args D ct G A B b L xs) {i : Nat} (hi : i + 6 ≤ L) (hn : loopI p l e s m args below meth c D ct G A B b i 2612 Q) : loopI p l e s m args below meth c D ct G A B b i 2364 Q := by
  intro x o hR H locs hP hQ hS ls hl
  obtain ⟨r, e1, e2, h2⟩ := eq_70 hR (xs (i + 1))
  exact lc_70 hC hi e1 e2 hP hQ hS hl (fun H locs hP hQ hS ls hl => hn _ _ h2 H locs hP hQ hS ls hl)
set_option maxRecDepth 100000 in
theorem lk_71 {p : Program} {l : Launch} {e : Env} {s : State} {m : MethodId} {below : List Frame} {meth : Method} {c : Code} {D : va_G} {ct : Nat → ClassId} {G : GT} {A B : Nat → Nat} {b L : Nat} {xs : Nat → Int32} {Q : State → Prop} {args : Array Value} (hC : lcx p s m c args D ct G A B b L xs) {i : Nat} (hi : i + 6 ≤ L) (hn : loopI p l e s m args below meth c D ct G A B b i 2612 Q) : loopI p l e s m args below meth c D ct G A B b i 2387 Q := by
  intro x o hR H locs hP hQ hS ls hl
  obtain ⟨r, x2, o2, e1, e2, h2⟩ := eq_71 hR (xs (i + 1))
  exact lc_71 hC hi e1 e2 hP hQ hS hl (fun H locs hP hQ hS ls hl => hn _ _ h2 H locs hP hQ hS ls hl)
set_option maxRecDepth 100000 in
theorem lk_72 {p : Program} {l : Launch} {e : Env} {s : State} {m : MethodId} {below : List Frame} {meth : Method} {c : Code} {D : va_G} {ct : Nat → ClassId} {G : GT} {A B : Nat → Nat} {b L : Nat} {xs : Nat → Int32} {Q : State → Prop} {args : Array Value} (hC : lcx p s m c args D ct G A B b L xs) {i : Nat} (hi : i + 6 ≤ L) (hn : loopI p l e s m args below meth c D ct G A B b i 2612 Q) : loopI p l e s m args below meth c D ct G A B b i 2410 Q := by
  intro x o hR H locs hP hQ hS ls hl
  obtain ⟨r, x2, o2, e1, e2, h2⟩ := eq_72 hR (xs (i + 1))
  exact lc_72 hC hi e1 e2 hP hQ hS hl (fun H locs hP hQ hS ls hl => hn _ _ h2 H locs hP hQ hS ls hl)
set_option maxRecDepth 100000 in
theorem lk_73 {p : Program} {l : Launch} {e : Env} {s : State} {m : MethodId} {below : List Frame} {meth : Method} {c : Code} {D : va_G} {ct : Nat → ClassId} {G : GT} {A B : Nat → Nat} {b L : Nat} {xs : Nat → Int32} {Q : State → Prop} {args : Array Value} (hC : lcx p s m c args D ct G A B b L xs) {i : Nat} (hi : i + 6 ≤ L) (hn : loopI p l e s m args below meth c D ct G A B b i 2612 Q) : loopI p l e s m args below meth c D ct G A B b i 2433 Q := by
  intro x o hR H locs hP hQ hS ls hl
  obtain ⟨r, x2, o2, e1, e2, h2⟩ := eq_73 hR (xs (i + 1)) (xs (i + 2)) (xs (i + 3))
  exact lc_73 hC hi e1 e2 hP hQ hS hl (fun H locs hP hQ hS ls hl => hn _ _ h2 H locs hP hQ hS ls hl)
set_option maxRecDepth 100000 in
theorem lk_74 {p : Program} {l : Launch} {e : Env} {s : State} {m : MethodId} {below : List Frame} {meth : Method} {c : Code} {D : va_G} {ct : Nat → ClassId} {G : GT} {A B : Nat → Nat} {b L : Nat} {xs : Nat → Int32} {Q : State → Prop} {args : Array Value} (hC : lcx p s m c args D ct G A B b L xs) {i : Nat} (hi : i + 6 ≤ L) (hn : loopI p l e s m args below meth c D ct G A B b i 2612 Q) : loopI p l e s m args below meth c D ct G A B b i 2476 Q := by
  intro x o hR H locs hP hQ hS ls hl
  obtain ⟨r, x2, o2, e1, e2, h2⟩ := eq_74 hR (xs (i + 1)) (xs (i + 2)) (((xs (i + 3)).toInt64 <<< ((32 : Int32).toInt64 &&& 63)) ||| ((xs (i + 4)).toInt64 &&& 4294967295))
  exact lc_74 hC hi e1 e2 hP hQ hS hl (fun H locs hP hQ hS ls hl => hn _ _ h2 H locs hP hQ hS ls hl)
set_option maxRecDepth 100000 in
theorem lk_75 {p : Program} {l : Launch} {e : Env} {s : State} {m : MethodId} {below : List Frame} {meth : Method} {c : Code} {D : va_G} {ct : Nat → ClassId} {G : GT} {A B : Nat → Nat} {b L : Nat} {xs : Nat → Int32} {Q : State → Prop} {args : Array Value} (hC : lcx p s m c args D ct G A B b L xs) {i : Nat} (hi : i + 6 ≤ L) (hn : loopI p l e s m args below meth c D ct G A B b i 2612 Q) : loopI p l e s m args below meth c D ct G A B b i 2549 Q := by
  intro x o hR H locs hP hQ hS ls hl
  obtain ⟨r, x2, o2, e1, e2, h2⟩ := eq_75 hR (xs (i + 1)) (xs (i + 2)) (xs (i + 3)) (xs (i + 4)) (xs (i + 5))
  exact lc_75 hC hi e1 e2 hP hQ hS hl (fun H locs hP hQ hS ls hl => hn _ _ h2 H locs hP hQ hS ls hl)
set_option maxRecDepth 100000 in
theorem law_case {p : Program} {l : Launch} {e : Env} {s : State} {m : MethodId} {below : List Frame} {meth : Method} {c : Code} {D : va_G} {ct : Nat → ClassId} {G : GT} {A B : Nat → Nat} {b L : Nat} {xs : Nat → Int32} {Q : State → Prop} {args : Array Value} (hC : lcx p s m c args D ct G A B b L xs) {i : Nat} (hi : i + 6 ≤ L) (hn : loopI p l e s m args below meth c D ct G A B b i 2612 Q) (v : Int32) (hv : ∃ j : Nat, j < 128 ∧ v = nI j) : ∀ (x : Nat → Ob) (o : Ob), Rel x o → ∀ (H : Heap) (locs : List Loc), va_P D vwCl (csQ ct A x) H → va_P D vwCl (cs10 ct B o) H → va_S (GE G) s.heap H locs → ∀ ls : Array Slot, lv_has ls 4 [(0, .ref b), (1, .ref (A 0)), (2, .ref (B 0)), (3, .int (nI i))] → W p l e room_1 s m args below meth c H locs LCn LSn Q (F0 m 33 ls [.int v]) := by
  intro x o hR H locs hP hQ hS ls hl
  have hx := hC.1
  have hb := hC.2.1
  obtain ⟨j, hj, rfl⟩ := hv
  by_cases h76 : j < 76
  · have key : ∀ t : Nat, (∃ off : Int, (#[319, 382, 405, 418, 441, 474, 507, 540, 563, 586, 609, 632, 675, 708, 751, 784, 817, 850, 883, 916, 949, 972, 1005, 1028, 1061, 1084, 1107, 1120, 1133, 1156, 1169, 1192, 1205, 1218, 1251, 1284, 1317, 1350, 1373, 1406, 1440, 1463, 1496, 1529, 1562, 1605, 1638, 1671, 1704, 1737, 1780, 1803, 1826, 1849, 1872, 1895, 1938, 1981, 1994, 2007, 2040, 2053, 2097, 2130, 2163, 2196, 2209, 2222, 2255, 2298, 2331, 2354, 2377, 2400, 2443, 2516] : Array Int)[((nI j).toInt - 0).toNat]? = some off ∧ ((33 : Nat) : Int) + off = (t : Int)) → loopI p l e s m args below meth c D ct G A B b i t Q → W p l e room_1 s m args below meth c H locs LCn LSn Q (F0 m 33 ls [.int (nI j)]) := by
      intro t ht hk
      obtain ⟨off, h1, h2⟩ := ht
      refine lv_tableIn (tgt := t) hx hb dL_law_33 ?_ ?_ h1 h2 (hk x o hR H locs hP hQ hS ls hl)
      · rw [nI_toInt (by omega)]; omega
      · rw [nI_toInt (by omega)]; omega
    match j, h76, key with
    | 0, _, key => exact key 352 ⟨_, rfl, by decide⟩ (lk_0 hC hi hn)
    | 1, _, key => exact key 415 ⟨_, rfl, by decide⟩ (lk_1 hC hi hn)
    | 2, _, key => exact key 438 ⟨_, rfl, by decide⟩ (lk_2 hC hi hn)
    | 3, _, key => exact key 451 ⟨_, rfl, by decide⟩ (lk_3 hC hi hn)
    | 4, _, key => exact key 474 ⟨_, rfl, by decide⟩ (lk_4 hC hi hn)
    | 5, _, key => exact key 507 ⟨_, rfl, by decide⟩ (lk_5 hC hi hn)
    | 6, _, key => exact key 540 ⟨_, rfl, by decide⟩ (lk_6 hC hi hn)
    | 7, _, key => exact key 573 ⟨_, rfl, by decide⟩ (lk_7 hC hi hn)
    | 8, _, key => exact key 596 ⟨_, rfl, by decide⟩ (lk_8 hC hi hn)
    | 9, _, key => exact key 619 ⟨_, rfl, by decide⟩ (lk_9 hC hi hn)
    | 10, _, key => exact key 642 ⟨_, rfl, by decide⟩ (lk_10 hC hi hn)
    | 11, _, key => exact key 665 ⟨_, rfl, by decide⟩ (lk_11 hC hi hn)
    | 12, _, key => exact key 708 ⟨_, rfl, by decide⟩ (lk_12 hC hi hn)
    | 13, _, key => exact key 741 ⟨_, rfl, by decide⟩ (lk_13 hC hi hn)
    | 14, _, key => exact key 784 ⟨_, rfl, by decide⟩ (lk_14 hC hi hn)
    | 15, _, key => exact key 817 ⟨_, rfl, by decide⟩ (lk_15 hC hi hn)
    | 16, _, key => exact key 850 ⟨_, rfl, by decide⟩ (lk_16 hC hi hn)
    | 17, _, key => exact key 883 ⟨_, rfl, by decide⟩ (lk_17 hC hi hn)
    | 18, _, key => exact key 916 ⟨_, rfl, by decide⟩ (lk_18 hC hi hn)
    | 19, _, key => exact key 949 ⟨_, rfl, by decide⟩ (lk_19 hC hi hn)
    | 20, _, key => exact key 982 ⟨_, rfl, by decide⟩ (lk_20 hC hi hn)
    | 21, _, key => exact key 1005 ⟨_, rfl, by decide⟩ (lk_21 hC hi hn)
    | 22, _, key => exact key 1038 ⟨_, rfl, by decide⟩ (lk_22 hC hi hn)
    | 23, _, key => exact key 1061 ⟨_, rfl, by decide⟩ (lk_23 hC hi hn)
    | 24, _, key => exact key 1094 ⟨_, rfl, by decide⟩ (lk_24 hC hi hn)
    | 25, _, key => exact key 1117 ⟨_, rfl, by decide⟩ (lk_25 hC hi hn)
    | 26, _, key => exact key 1140 ⟨_, rfl, by decide⟩ (lk_26 hC hi hn)
    | 27, _, key => exact key 1153 ⟨_, rfl, by decide⟩ (lk_27 hC hi hn)
    | 28, _, key => exact key 1166 ⟨_, rfl, by decide⟩ (lk_28 hC hi hn)
    | 29, _, key => exact key 1189 ⟨_, rfl, by decide⟩ (lk_29 hC hi hn)
    | 30, _, key => exact key 1202 ⟨_, rfl, by decide⟩ (lk_30 hC hi hn)
    | 31, _, key => exact key 1225 ⟨_, rfl, by decide⟩ (lk_31 hC hi hn)
    | 32, _, key => exact key 1238 ⟨_, rfl, by decide⟩ (lk_32 hC hi hn)
    | 33, _, key => exact key 1251 ⟨_, rfl, by decide⟩ (lk_33 hC hi hn)
    | 34, _, key => exact key 1284 ⟨_, rfl, by decide⟩ (lk_34 hC hi hn)
    | 35, _, key => exact key 1317 ⟨_, rfl, by decide⟩ (lk_35 hC hi hn)
    | 36, _, key => exact key 1350 ⟨_, rfl, by decide⟩ (lk_36 hC hi hn)
    | 37, _, key => exact key 1383 ⟨_, rfl, by decide⟩ (lk_37 hC hi hn)
    | 38, _, key => exact key 1406 ⟨_, rfl, by decide⟩ (lk_38 hC hi hn)
    | 39, _, key => exact key 1439 ⟨_, rfl, by decide⟩ (lk_39 hC hi hn)
    | 40, _, key => exact key 1473 ⟨_, rfl, by decide⟩ (lk_40 hC hi hn)
    | 41, _, key => exact key 1496 ⟨_, rfl, by decide⟩ (lk_41 hC hi hn)
    | 42, _, key => exact key 1529 ⟨_, rfl, by decide⟩ (lk_42 hC hi hn)
    | 43, _, key => exact key 1562 ⟨_, rfl, by decide⟩ (lk_43 hC hi hn)
    | 44, _, key => exact key 1595 ⟨_, rfl, by decide⟩ (lk_44 hC hi hn)
    | 45, _, key => exact key 1638 ⟨_, rfl, by decide⟩ (lk_45 hC hi hn)
    | 46, _, key => exact key 1671 ⟨_, rfl, by decide⟩ (lk_46 hC hi hn)
    | 47, _, key => exact key 1704 ⟨_, rfl, by decide⟩ (lk_47 hC hi hn)
    | 48, _, key => exact key 1737 ⟨_, rfl, by decide⟩ (lk_48 hC hi hn)
    | 49, _, key => exact key 1770 ⟨_, rfl, by decide⟩ (lk_49 hC hi hn)
    | 50, _, key => exact key 1813 ⟨_, rfl, by decide⟩ (lk_50 hC hi hn)
    | 51, _, key => exact key 1836 ⟨_, rfl, by decide⟩ (lk_51 hC hi hn)
    | 52, _, key => exact key 1859 ⟨_, rfl, by decide⟩ (lk_52 hC hi hn)
    | 53, _, key => exact key 1882 ⟨_, rfl, by decide⟩ (lk_53 hC hi hn)
    | 54, _, key => exact key 1905 ⟨_, rfl, by decide⟩ (lk_54 hC hi hn)
    | 55, _, key => exact key 1928 ⟨_, rfl, by decide⟩ (lk_55 hC hi hn)
    | 56, _, key => exact key 1971 ⟨_, rfl, by decide⟩ (lk_56 hC hi hn)
    | 57, _, key => exact key 2014 ⟨_, rfl, by decide⟩ (lk_57 hC hi hn)
    | 58, _, key => exact key 2027 ⟨_, rfl, by decide⟩ (lk_58 hC hi hn)
    | 59, _, key => exact key 2040 ⟨_, rfl, by decide⟩ (lk_59 hC hi hn)
    | 60, _, key => exact key 2073 ⟨_, rfl, by decide⟩ (lk_60 hC hi hn)
    | 61, _, key => exact key 2086 ⟨_, rfl, by decide⟩ (lk_61 hC hi hn)
    | 62, _, key => exact key 2130 ⟨_, rfl, by decide⟩ (lk_62 hC hi hn)
    | 63, _, key => exact key 2163 ⟨_, rfl, by decide⟩ (lk_63 hC hi hn)
    | 64, _, key => exact key 2196 ⟨_, rfl, by decide⟩ (lk_64 hC hi hn)
    | 65, _, key => exact key 2229 ⟨_, rfl, by decide⟩ (lk_65 hC hi hn)
    | 66, _, key => exact key 2242 ⟨_, rfl, by decide⟩ (lk_66 hC hi hn)
    | 67, _, key => exact key 2255 ⟨_, rfl, by decide⟩ (lk_67 hC hi hn)
    | 68, _, key => exact key 2288 ⟨_, rfl, by decide⟩ (lk_68 hC hi hn)
    | 69, _, key => exact key 2331 ⟨_, rfl, by decide⟩ (lk_69 hC hi hn)
    | 70, _, key => exact key 2364 ⟨_, rfl, by decide⟩ (lk_70 hC hi hn)
    | 71, _, key => exact key 2387 ⟨_, rfl, by decide⟩ (lk_71 hC hi hn)
    | 72, _, key => exact key 2410 ⟨_, rfl, by decide⟩ (lk_72 hC hi hn)
    | 73, _, key => exact key 2433 ⟨_, rfl, by decide⟩ (lk_73 hC hi hn)
    | 74, _, key => exact key 2476 ⟨_, rfl, by decide⟩ (lk_74 hC hi hn)
    | 75, _, key => exact key 2549 ⟨_, rfl, by decide⟩ (lk_75 hC hi hn)
    | j + 76, h, _ => exact absurd h (by omega)
  · refine lv_tableOut (tgt := 2612) hx hb dL_law_33 ?_ (by decide) (hn x o hR H locs hP hQ hS ls hl)
    rw [nI_toInt (by omega)]
    omega
set_option maxHeartbeats 4000000 in
set_option maxRecDepth 100000 in
theorem law_loop {p : Program} {l : Launch} {e : Env} {s : State} {m : MethodId} {below : List Frame} {meth : Method} {c : Code} {D : va_G} {ct : Nat → ClassId} {G : GT} {A B : Nat → Nat} {b L : Nat} {xs : Nat → Int32} (hG : G.1 = s.heap.size) (hr : meth.sig.returnType = ret) (hlocks : meth.locks = false) (hC : lcx p s m c #[Value.ref b] D ct G A B b L xs) : ∀ (n i : Nat), i ≤ L + 6 → L + 7 ≤ i + n → loopI p l e s m #[Value.ref b] below meth c D ct G A B b i 18 (lw_Z below #[Value.ref b] s) := by
  obtain ⟨hx, hb, hml, hown, htl, hX, hbl, hL, hK, hN, hX0, hDx, hDy, hAB⟩ := id hC
  intro n
  induction n with
  | zero => intro i h1 h2; omega
  | succ n ih =>
    intro i h1 h2 x o hR H locs hP hQ hS ls hl
    refine lv_iload_n hx hb dL_law_18 rfl (lv_at hl 3 rfl) ?_
    refine lv_aload_n hx hb dL_law_19 rfl (lv_at hl 0 rfl) ?_
    refine va_slen hx hb hX hbl.1 hbl.2 hS dL_law_20 ?_
    refine lv_bipush (v := 6) hx hb dL_law_21 (by decide) ?_
    refine lv_isub hx hb dL_law_23 ?_
    have e6 : (nI L - 6).toInt = (L : Int) - 6 := pk_sub_toInt (a := L) (b := 6) (by omega) (by omega)
    have ei : (nI i).toInt = (i : Int) := nI_toInt (by omega)
    refine lv_icmp_gt (tgt := 2618) hx hb dL_law_24 (by decide) (fun c_24 => ?_) (fun c_24 => ?_)
    · refine lv_iconst (v := 1) hx hb dL_law_2618 (by decide) ?_
      refine va_forget (fun q hq => by have := hS.2.2 q hq; unfold GE at this; omega) ?_
      refine W.widen (k := 600000) (n := 7302250) (Nat.le_of_ble_eq_true rfl) (Nat.le_of_ble_eq_true rfl) ?_
      exact lw_ret hx hb hr hlocks dL_law_2619
    · have hi : i + 6 ≤ L := by
        rcases Nat.lt_or_ge L (i + 6) with q | q
        · exact absurd (Int32.lt_iff_toInt_lt.mpr (show (nI L - 6).toInt < (nI i).toInt by rw [e6, ei]; omega)) c_24
        · exact q
      refine lv_aload_n hx hb dL_law_27 rfl (lv_at hl 0 rfl) ?_
      refine lv_iload_n hx hb dL_law_28 rfl (lv_at hl 3 rfl) ?_
      refine va_sld hx hb hX hbl.1 hbl.2 hS (vp_in_nI (by omega) (by omega)) dL_law_29 ?_
      refine lv_bipush (v := 127) hx hb dL_law_30 (by decide) ?_
      refine lv_iand hx hb dL_law_32 ?_
      refine law_case hC hi ?_ _ (pk_andE _ 7 (by decide)) x o hR H locs hP hQ hS ls hl
      intro x o hR H locs hP hQ hS ls hl
      refine lv_iinc (v := nI (i + 6)) (lv' := [(3, .int (nI (i + 6))), (0, .ref b), (1, .ref (A 0)), (2, .ref (B 0))]) hx hb dL_law_2612 hl (k := 3) rfl (nI_add i 6) (by decide) rfl (fun ls hl => ?_)
      refine lv_goto (tgt := 18) hx hb dL_law_2615 (by decide) ?_
      exact ih (i + 6) (by omega) (by omega) x o hR H locs hP hQ hS ls (lv_sub hl [1, 2, 3, 0] rfl)
/-- the classes' tables, at the start -/
theorem start_K {s : State} {b : Nat} (hts : ∀ w ∈ lw_tbl, w.before #[Value.ref b] s = true) : ∃ (D : va_G) (ct : Nat → ClassId), va_K D vwCl (tyl ct) s := by
  have htl : ∀ w ∈ wsL_law, w.before #[Value.ref b] s = true := fun w h => hts w (wl_in w h)
  have h0 : ∀ k : Nat, ∃ z : ClassId × (Nat → Nat), ∀ q : vw_C, vwCl[k]? = some q → u_Kn s q.1 q.2.1 q.2.2 z.1 z.2 := by
    intro k
    match k with
    | 0 => obtain ⟨c, i, h⟩ := u_known (C := RX0) (T := TX0) (N := 4) (n := 4) htl inlX0 (htl _ wq_2_21); exact ⟨(c, i), fun q hq => by cases hq; exact h⟩
    | 1 => obtain ⟨c, i, h⟩ := u_known (C := RX1) (T := TX1) (N := 6) (n := 6) htl inlX1 (htl _ wq_1_18); exact ⟨(c, i), fun q hq => by cases hq; exact h⟩
    | 2 => obtain ⟨c, i, h⟩ := u_known (C := RX2) (T := TX2) (N := 20) (n := 20) htl inlX2 (htl _ wq_1_22); exact ⟨(c, i), fun q hq => by cases hq; exact h⟩
    | 3 => obtain ⟨c, i, h⟩ := u_known (C := RX3) (T := TX3) (N := 4) (n := 4) htl inlX3 (htl _ wq_3_2); exact ⟨(c, i), fun q hq => by cases hq; exact h⟩
    | 4 => obtain ⟨c, i, h⟩ := u_known (C := RX4) (T := TX4) (N := 4) (n := 4) htl inlX4 (htl _ wq_2_17); exact ⟨(c, i), fun q hq => by cases hq; exact h⟩
    | 5 => obtain ⟨c, i, h⟩ := u_known (C := RX5) (T := TX5) (N := 9) (n := 9) htl inlX5 (htl _ wq_2_10); exact ⟨(c, i), fun q hq => by cases hq; exact h⟩
    | 6 => obtain ⟨c, i, h⟩ := u_known (C := RX6) (T := TX6) (N := 2) (n := 2) htl inlX6 (htl _ wq_1_14); exact ⟨(c, i), fun q hq => by cases hq; exact h⟩
    | 7 => obtain ⟨c, i, h⟩ := u_known (C := RX7) (T := TX7) (N := 4) (n := 4) htl inlX7 (htl _ wq_3_13); exact ⟨(c, i), fun q hq => by cases hq; exact h⟩
    | 8 => obtain ⟨c, i, h⟩ := u_known (C := RX8) (T := TX8) (N := 3) (n := 3) htl inlX8 (htl _ wq_2_5); exact ⟨(c, i), fun q hq => by cases hq; exact h⟩
    | 9 => obtain ⟨c, i, h⟩ := u_known (C := RX9) (T := TX9) (N := 14) (n := 14) htl inlX9 (htl _ wq_1_1); exact ⟨(c, i), fun q hq => by cases hq; exact h⟩
    | 10 => obtain ⟨c, i, h⟩ := u_known (C := RX10) (T := TX10) (N := 42) (n := 42) htl inlX10 (htl _ wq_1_4); exact ⟨(c, i), fun q hq => by cases hq; exact h⟩
    | k + 11 => exact ⟨(0, fun _ => 0), fun q hq => by simp [vwCl] at hq⟩
  obtain ⟨f, hf⟩ := Classical.axiomOfChoice h0
  have hi : ∃ cA : ClassId, ArrOfT s cA .int ∧ va_RA s cA .int := by
    obtain ⟨c, k, comp, h1, h2, h3⟩ := Cond.arrayClass_spec (htl _ wq_3_0)
    exact ⟨c, fun N z => ⟨(fun k h => by cases h), k, h2, comp, h3⟩, h1⟩
  have hj : ∃ cA : ClassId, ArrOfT s cA .long ∧ va_RA s cA .long := by
    obtain ⟨c, k, comp, h1, h2, h3⟩ := Cond.arrayClass_spec (htl _ wq_6_8)
    exact ⟨c, fun N z => ⟨(fun k h => by cases h), k, h2, comp, h3⟩, h1⟩
  have hb : ∃ cA : ClassId, ArrOfT s cA .byte ∧ va_RA s cA .byte := by
    obtain ⟨c, k, comp, h1, h2, h3⟩ := Cond.arrayClass_spec (htl _ wq_7_4)
    exact ⟨c, fun N z => ⟨(fun k h => by cases h), k, h2, comp, h3⟩, h1⟩
  have hz : ∃ cA : ClassId, ArrOfT s cA .boolean ∧ va_RA s cA .boolean := by
    obtain ⟨c, k, comp, h1, h2, h3⟩ := Cond.arrayClass_spec (htl _ wq_7_2)
    exact ⟨c, fun N z => ⟨(fun k h => by cases h), k, h2, comp, h3⟩, h1⟩
  have ho : ∀ C : String, Cond.arrayOver (.object C) ∈ lw_tbl → ∃ cA : ClassId, ArrOfT s cA (.object C) ∧ va_RA s cA (.object C) := by
    intro C hC
    obtain ⟨comp, c, k, h1, -, h2, h3, h4⟩ := Cond.arrayOver_spec (hts _ hC)
    exact ⟨c, fun N z => ⟨(fun k h => by cases h), k, h2, comp, h3⟩, k, comp, h2, h3, h1, h4⟩
  obtain ⟨c0, a0⟩ := hi
  obtain ⟨c1, a1⟩ := hj
  obtain ⟨c2, a2⟩ := hb
  obtain ⟨c3, a3⟩ := hz
  obtain ⟨c4, a4⟩ := ho "QuotedRiver$Rivers" ao_2
  obtain ⟨c5, a5⟩ := ho "QuotedRiver$Row" ao_3
  refine ⟨(fun k => (f k).1, fun k => (f k).2), fun k => ([c0, c1, c2, c3, c4, c5] : List ClassId).getD k 0, fun k q hq => hf k q hq, fun k q hq => ?_⟩
  match k, hq with
  | 0, hq => cases hq; exact a0
  | 1, hq => cases hq; exact a1
  | 2, hq => cases hq; exact a2
  | 3, hq => cases hq; exact a3
  | 4, hq => cases hq; exact a4
  | 5, hq => cases hq; exact a5
  | k + 6, hq => simp at hq
