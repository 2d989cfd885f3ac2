/-! ===== the class' constructor ===== -/
theorem P_sw {D : va_G} {cl : List vw_C} {L O N : va_W} {H : Heap} (h : va_P D cl ((L ++ O) ++ N) H) : va_P D cl ((L ++ N) ++ O) H := va_P.app (va_P.app (P_left (P_left h)) (P_right h)) (P_right (P_left h))
theorem P_mg {D : va_G} {cl : List vw_C} {L O N : va_W} {H : Heap} (h : va_P D cl ((L ++ N) ++ O) H) : va_P D cl (L ++ (O ++ N)) H := va_P.app (P_left (P_left h)) (va_P.app (P_right h) (P_right (P_left h)))
theorem D_pre {A : Nat → Prop} {w1 w2 : va_W} (h : va_D A (w1 ++ w2)) : va_D A w1 := by
  refine ⟨fun i j p q hi hj => h.1 i j p q ?_ ?_, fun k q hk => h.2 k q ?_⟩
  · rw [List.getElem?_append_left (List.getElem?_eq_some_iff.mp hi).1]; exact hi
  · rw [List.getElem?_append_left (List.getElem?_eq_some_iff.mp hj).1]; exact hj
  · rw [List.getElem?_append_left (List.getElem?_eq_some_iff.mp hk).1]; exact hk
theorem D_suf {A : Nat → Prop} {w1 w2 : va_W} (h : va_D A (w1 ++ w2)) : va_D A w2 := by
  have key : ∀ (k : Nat) (q : Nat × va_E), w2[k]? = some q → (w1 ++ w2)[w1.length + k]? = some q := by
    intro k q hk
    rw [List.getElem?_append_right (Nat.le_add_right _ _), Nat.add_sub_cancel_left]; exact hk
  refine ⟨fun i j p q hi hj he => ?_, fun k q hk => h.2 _ q (key k q hk)⟩
  have := h.1 _ _ p q (key i p hi) (key j q hj) he
  omega
theorem D_apart {A : Nat → Prop} {w1 w2 : va_W} (h : va_D A (w1 ++ w2)) (i j : Nat) (p q : Nat × va_E) (hi : w1[i]? = some p) (hj : w2[j]? = some q) : p.1 ≠ q.1 := by
  intro he
  have h1 := (List.getElem?_eq_some_iff.mp hi).1
  have := h.1 i (w1.length + j) p q (by rw [List.getElem?_append_left h1]; exact hi) (by rw [List.getElem?_append_right (Nat.le_add_right _ _), Nat.add_sub_cancel_left]; exact hj) he
  omega
theorem D_app2 {A : Nat → Prop} {w1 w2 : va_W} (h1 : va_D A w1) (h2 : va_D A w2) (h : ∀ (i j : Nat) (p q : Nat × va_E), w1[i]? = some p → w2[j]? = some q → p.1 ≠ q.1) : va_D A (w1 ++ w2) := va_D.app h1 h2 (fun i j x y hx hy he => h i j x y hx hy he)
theorem app_at {w1 w2 : va_W} {j : Nat} {q : Nat × va_E} (h : (w1 ++ w2)[j]? = some q) : (∃ i : Nat, w1[i]? = some q) ∨ ∃ i : Nat, w2[i]? = some q := by
  by_cases c : j < w1.length
  · rw [List.getElem?_append_left c] at h; exact Or.inl ⟨j, h⟩
  · rw [List.getElem?_append_right (by omega)] at h; exact Or.inr ⟨_, h⟩
theorem D_sw {A : Nat → Prop} {L O N : va_W} (h : va_D A ((L ++ O) ++ N)) : va_D A ((L ++ N) ++ O) := by
  have hLO := D_pre h
  have a1 := D_apart hLO
  have a2 := D_apart h
  refine D_app2 (D_app2 (D_pre hLO) (D_suf h) (fun i j p q hi hj => a2 i j p q (by rw [List.getElem?_append_left (List.getElem?_eq_some_iff.mp hi).1]; exact hi) hj)) (D_suf hLO) (fun i j p q hi hj => ?_)
  rcases app_at hi with ⟨k, hk⟩ | ⟨k, hk⟩
  · exact a1 k j p q hk hj
  · exact fun e => a2 (L.length + j) k q p (by rw [List.getElem?_append_right (Nat.le_add_right _ _), Nat.add_sub_cancel_left]; exact hj) hk e.symm
theorem D_mg {A : Nat → Prop} {L O N : va_W} (h : va_D A ((L ++ N) ++ O)) : va_D A (L ++ (O ++ N)) := by
  have hLN := D_pre h
  have a1 := D_apart hLN
  have a2 := D_apart h
  have key : ∀ (k j : Nat) (p q : Nat × va_E), N[k]? = some p → O[j]? = some q → p.1 ≠ q.1 := fun k j p q hk hj => a2 (L.length + k) j p q (by rw [List.getElem?_append_right (Nat.le_add_right _ _), Nat.add_sub_cancel_left]; exact hk) hj
  refine D_app2 (D_pre hLN) (D_app2 (D_suf h) (D_suf hLN) (fun i j p q hi hj e => key j i q p hj hi e.symm)) (fun i j p q hi hj => ?_)
  rcases app_at hj with ⟨k, hk⟩ | ⟨k, hk⟩
  · exact a2 i k p q (by rw [List.getElem?_append_left (List.getElem?_eq_some_iff.mp hi).1]; exact hi) hk
  · exact a1 i k p q hi hk
theorem D_last {A : Nat → Prop} {R : va_W} {c : Nat × va_E} (h : va_D A (R ++ [c])) : A c.1 := h.2 R.length c (by rw [List.getElem?_append_right (Nat.le_refl _), Nat.sub_self]; rfl)
theorem free2 {A0 : Nat → Prop} {R : va_W} {c : Nat × va_E} {H0 H : Heap} {locs : List Loc} (hD : va_D A0 (R ++ [c])) (hS : va_S A0 H0 H locs) (hA : ∀ q : Nat, H0.size ≤ q → A0 q) : ∀ q, va_A [c] H.size q → A0 q := by
  rintro q (⟨k, e, hk⟩ | hq)
  · match k, hk with
    | 0, hk => cases hk; exact D_last hD
    | k + 1, hk => simp at hk
  · exact hA q (Nat.le_trans hS.1 hq)
theorem join2 {A0 : Nat → Prop} {D : va_G} {cl : List vw_C} {R w1 : va_W} {c : Nat × va_E} {H H1 : Heap} (hP : va_P D cl (R ++ [c]) H) (hD : va_D A0 (R ++ [c]))
    (hk : ∀ q : Nat, q < H.size → ¬ va_A [c] H.size q → H1[q]? = H[q]?) (hF : ∀ q, va_A [c] H.size q → A0 q) (hP1 : va_P D cl w1 H1) (hD1 : va_D (va_A [c] H.size) w1) : va_P D cl (R ++ w1) H1 ∧ va_D A0 (R ++ w1) := by
  have hPR := P_left hP
  have ap := D_apart hD
  have apart : ∀ (k : Nat) (q : Nat × va_E), R[k]? = some q → q.1 < H.size ∧ ¬ va_A [c] H.size q.1 := by
    intro k q hq
    have hl := (hPR k q hq).lt
    refine ⟨hl, ?_⟩
    rintro (⟨j, e, hj⟩ | h)
    · match j, hj with
      | 0, hj => cases hj; exact ap k 0 q _ hq rfl rfl
      | j + 1, hj => simp at hj
    · omega
  refine ⟨va_P.app (fun k q hq => ?_) hP1, va_D.app (D_pre hD) (hD1.weaken (fun k q _ h => hF q.1 h)) (fun i j x y hx hy hxy => ?_)⟩
  · obtain ⟨g1, g2⟩ := apart k q hq
    exact (hPR k q hq).kept (hk q.1 g1 g2)
  · exact (apart i x hx).2 (by rw [hxy]; exact hD1.2 j y hy)
theorem Pm_pull {X X1 b Y : va_W} (h : X.Perm (b ++ X1)) : (X ++ Y).Perm (b ++ (X1 ++ Y)) := (h.append_right Y).trans (by rw [List.append_assoc])
theorem Pm_pullR {X X1 b Y : va_W} (h : X.Perm (b ++ X1)) : (Y ++ X).Perm (b ++ (Y ++ X1)) := (List.perm_append_comm.trans (Pm_pull h)).trans (List.Perm.append_left b List.perm_append_comm)
theorem Pm_here {X b : va_W} : (X ++ b).Perm (b ++ X) := List.perm_append_comm
theorem Pm_hd {X b : va_W} : (b ++ X).Perm (b ++ X) := List.Perm.refl _
theorem Pm_nil {X : va_W} : (X ++ []).Perm X := by rw [List.append_nil]
theorem Pm_next {X b X1 R : va_W} (h : X.Perm (b ++ X1)) (k : X1.Perm R) : X.Perm (b ++ R) := h.trans (List.Perm.append_left b k)
theorem permQ (c0 c1 c2 c3 : Nat × va_E) (m0 m1 m2 m3 m4 m5 m6 m7 m8 m9 m10 m11 m12 m13 m14 m15 m16 : va_W) : ([c0] ++ ([c1] ++ ([c2] ++ ([c3] ++ ((((((((((((((((([] ++ m0) ++ m1) ++ m2) ++ m3) ++ m4) ++ m5) ++ m6) ++ m7) ++ m8) ++ m9) ++ m10) ++ m11) ++ m12) ++ m13) ++ m14) ++ m15) ++ m16))))).Perm ([c0] ++ (m0 ++ (m1 ++ (m2 ++ (m3 ++ ([c1] ++ (m10 ++ (m11 ++ (m12 ++ (m4 ++ (m5 ++ (m6 ++ (m7 ++ ([c2] ++ (m13 ++ (m14 ++ (m15 ++ (m16 ++ (m8 ++ (m9 ++ ([c3]))))))))))))))))))))) := (Pm_next Pm_hd (Pm_next (Pm_pullR (Pm_pullR (Pm_pullR (Pm_pull (Pm_pull (Pm_pull (Pm_pull (Pm_pull (Pm_pull (Pm_pull (Pm_pull (Pm_pull (Pm_pull (Pm_pull (Pm_pull (Pm_pull (Pm_pull (Pm_pull (Pm_pull Pm_here))))))))))))))))))) (Pm_next (Pm_pullR (Pm_pullR (Pm_pullR (Pm_pull (Pm_pull (Pm_pull (Pm_pull (Pm_pull (Pm_pull (Pm_pull (Pm_pull (Pm_pull (Pm_pull (Pm_pull (Pm_pull (Pm_pull (Pm_pull (Pm_pull Pm_here)))))))))))))))))) (Pm_next (Pm_pullR (Pm_pullR (Pm_pullR (Pm_pull (Pm_pull (Pm_pull (Pm_pull (Pm_pull (Pm_pull (Pm_pull (Pm_pull (Pm_pull (Pm_pull (Pm_pull (Pm_pull (Pm_pull (Pm_pull Pm_here))))))))))))))))) (Pm_next (Pm_pullR (Pm_pullR (Pm_pullR (Pm_pull (Pm_pull (Pm_pull (Pm_pull (Pm_pull (Pm_pull (Pm_pull (Pm_pull (Pm_pull (Pm_pull (Pm_pull (Pm_pull (Pm_pull Pm_here)))))))))))))))) (Pm_next Pm_hd (Pm_next (Pm_pullR (Pm_pullR (Pm_pull (Pm_pull (Pm_pull (Pm_pull (Pm_pull (Pm_pull Pm_here)))))))) (Pm_next (Pm_pullR (Pm_pullR (Pm_pull (Pm_pull (Pm_pull (Pm_pull (Pm_pull Pm_here))))))) (Pm_next (Pm_pullR (Pm_pullR (Pm_pull (Pm_pull (Pm_pull (Pm_pull Pm_here)))))) (Pm_next (Pm_pullR (Pm_pullR (Pm_pull (Pm_pull (Pm_pull (Pm_pull (Pm_pull (Pm_pull (Pm_pull (Pm_pull (Pm_pull Pm_here))))))))))) (Pm_next (Pm_pullR (Pm_pullR (Pm_pull (Pm_pull (Pm_pull (Pm_pull (Pm_pull (Pm_pull (Pm_pull (Pm_pull Pm_here)))))))))) (Pm_next (Pm_pullR (Pm_pullR (Pm_pull (Pm_pull (Pm_pull (Pm_pull (Pm_pull (Pm_pull (Pm_pull Pm_here))))))))) (Pm_next (Pm_pullR (Pm_pullR (Pm_pull (Pm_pull (Pm_pull (Pm_pull (Pm_pull (Pm_pull Pm_here)))))))) (Pm_next Pm_hd (Pm_next (Pm_pullR (Pm_pull (Pm_pull (Pm_pull Pm_here)))) (Pm_next (Pm_pullR (Pm_pull (Pm_pull Pm_here))) (Pm_next (Pm_pullR (Pm_pull Pm_here)) (Pm_next (Pm_pullR Pm_here) (Pm_next (Pm_pullR (Pm_pull Pm_here)) (Pm_next (Pm_pullR Pm_here) ((List.Perm.append (List.Perm.refl _) (List.Perm.refl [])).trans Pm_nil)))))))))))))))))))))
theorem P_pm {D : va_G} {cl : List vw_C} {w w' : va_W} {H : Heap} (h : va_P D cl w H) (p : w.Perm w') : va_P D cl w' H := by
  intro k q hq
  obtain ⟨j, hj⟩ := List.getElem?_of_mem (p.mem_iff.mpr (List.mem_of_getElem? hq))
  exact h j q hj
theorem D_pm {A : Nat → Prop} {w w' : va_W} (h : va_D A w) (p : w.Perm w') : va_D A w' := by
  have hn : (w.map Prod.fst).Nodup := by
    refine List.pairwise_iff_getElem.mpr fun i j hi hj hij he => ?_
    rw [List.length_map] at hi hj
    rw [List.getElem_map, List.getElem_map] at he
    have := h.1 i j _ _ (List.getElem?_eq_getElem hi) (List.getElem?_eq_getElem hj) he
    omega
  have hn' := List.pairwise_iff_getElem.mp ((p.map Prod.fst).nodup_iff.mp hn)
  refine ⟨fun i j a b hi hj he => ?_, fun k q hq => ?_⟩
  · obtain ⟨li, ei⟩ := List.getElem?_eq_some_iff.mp hi
    obtain ⟨lj, ej⟩ := List.getElem?_eq_some_iff.mp hj
    have li' : i < (w'.map Prod.fst).length := by rw [List.length_map]; exact li
    have lj' : j < (w'.map Prod.fst).length := by rw [List.length_map]; exact lj
    have e : (w'.map Prod.fst)[i] = (w'.map Prod.fst)[j] := by rw [List.getElem_map, List.getElem_map, ei, ej]; exact he
    rcases Nat.lt_trichotomy i j with c | c | c
    · exact absurd e (hn' i j li' lj' c)
    · exact c
    · exact absurd e.symm (hn' j i lj' li' c)
  · obtain ⟨j, hj⟩ := List.getElem?_of_mem (p.mem_iff.mpr (List.mem_of_getElem? hq))
    exact h.2 j q hj
theorem cwi_X9_X6 {R : Room} {s : State} {args : Array Value} (ht : ∀ w ∈ wsL_law, w.before args s = true) (hN : ∀ w ∈ NW, va_Nw w s) (hR : rm_X6_init.frames + 1 ≤ R.frames ∧ 8 + (1 + 11) + rm_X6_init.locals ≤ R.locals) : va_CN R s args RX9 9 yX6_init "QuotedRiver" cX6_init 1 none (.code yX6_init cX6_init 1 none :: wsL_law) rm_X6_init rm_X6_init.cells rm_X6_init.slots 0 ∧ yX6_init.name = "<init>" ∧ (Cond.instanceMethod yX6_init).before args s = true := ⟨va_cnB 0 ht (GL wq_3_5) rfl rfl rfl (hN _ nm_73) (ht _ wq_1_15) (by decide +kernel) hR, rfl, ht _ wq_3_4⟩
theorem cwi_X9_X1 {R : Room} {s : State} {args : Array Value} (ht : ∀ w ∈ wsL_law, w.before args s = true) (hN : ∀ w ∈ NW, va_Nw w s) (hR : rm_X1_init.frames + 1 ≤ R.frames ∧ 8 + (1 + 11) + rm_X1_init.locals ≤ R.locals) : va_CN R s args RX9 18 yX1_init "QuotedRiver" cX1_init 1 none (.code yX1_init cX1_init 1 none :: wsL_law) rm_X1_init rm_X1_init.cells rm_X1_init.slots 0 ∧ yX1_init.name = "<init>" ∧ (Cond.instanceMethod yX1_init).before args s = true := ⟨va_cnB 0 ht (GL wq_3_10) rfl rfl rfl (hN _ nm_74) (ht _ wq_1_19) (by decide +kernel) hR, rfl, ht _ wq_3_9⟩
theorem cwi_X9_X2 {R : Room} {s : State} {args : Array Value} (ht : ∀ w ∈ wsL_law, w.before args s = true) (hN : ∀ w ∈ NW, va_Nw w s) (hR : rm_X2_init.frames + 1 ≤ R.frames ∧ 8 + (1 + 11) + rm_X2_init.locals ≤ R.locals) : va_CN R s args RX9 25 yX2_init "QuotedRiver" cX2_init 1 none (.code yX2_init cX2_init 1 none :: wsL_law) rm_X2_init rm_X2_init.cells rm_X2_init.slots 0 ∧ yX2_init.name = "<init>" ∧ (Cond.instanceMethod yX2_init).before args s = true := ⟨va_cnB 0 ht (GL wq_4_6) rfl rfl rfl (hN _ nm_75) (ht _ wq_1_23) (by decide +kernel) hR, rfl, ht _ wq_4_5⟩
theorem cwi_X9_X8 {R : Room} {s : State} {args : Array Value} (ht : ∀ w ∈ wsL_law, w.before args s = true) (hN : ∀ w ∈ NW, va_Nw w s) (hR : rm_X8_init.frames + 1 ≤ R.frames ∧ 8 + (1 + 11) + rm_X8_init.locals ≤ R.locals) : va_CN R s args RX9 43 yX8_init "QuotedRiver" cX8_init 1 none (.code yX8_init cX8_init 1 none :: wsL_law) rm_X8_init rm_X8_init.cells rm_X8_init.slots 0 ∧ yX8_init.name = "<init>" ∧ (Cond.instanceMethod yX8_init).before args s = true := ⟨va_cnB 0 ht (GL wq_5_5) rfl rfl rfl (hN _ nm_76) (ht _ wq_2_6) (by decide +kernel) hR, rfl, ht _ wq_5_4⟩
theorem cwi_X9_X5 {R : Room} {s : State} {args : Array Value} (ht : ∀ w ∈ wsL_law, w.before args s = true) (hN : ∀ w ∈ NW, va_Nw w s) (hR : rm_X5_init.frames + 1 ≤ R.frames ∧ 8 + (1 + 11) + rm_X5_init.locals ≤ R.locals) : va_CN R s args RX9 53 yX5_init "QuotedRiver" cX5_init 1 none (.code yX5_init cX5_init 1 none :: wsL_law) rm_X5_init rm_X5_init.cells rm_X5_init.slots 0 ∧ yX5_init.name = "<init>" ∧ (Cond.instanceMethod yX5_init).before args s = true := ⟨va_cnB 0 ht (GL wq_5_11) rfl rfl rfl (hN _ nm_77) (ht _ wq_2_11) (by decide +kernel) hR, rfl, ht _ wq_5_10⟩
theorem cwi_X9_X4 {R : Room} {s : State} {args : Array Value} (ht : ∀ w ∈ wsL_law, w.before args s = true) (hN : ∀ w ∈ NW, va_Nw w s) (hR : rm_X4_init.frames + 1 ≤ R.frames ∧ 8 + (1 + 11) + rm_X4_init.locals ≤ R.locals) : va_CN R s args RX9 69 yX4_init "QuotedRiver" cX4_init 1 none (.code yX4_init cX4_init 1 none :: wsL_law) rm_X4_init rm_X4_init.cells rm_X4_init.slots 0 ∧ yX4_init.name = "<init>" ∧ (Cond.instanceMethod yX4_init).before args s = true := ⟨va_cnB 0 ht (GL wq_5_23) rfl rfl rfl (hN _ nm_78) (ht _ wq_2_18) (by decide +kernel) hR, rfl, ht _ wq_5_22⟩
theorem cwi_X9_X0 {R : Room} {s : State} {args : Array Value} (ht : ∀ w ∈ wsL_law, w.before args s = true) (hN : ∀ w ∈ NW, va_Nw w s) (hR : rm_X0_init.frames + 1 ≤ R.frames ∧ 8 + (1 + 11) + rm_X0_init.locals ≤ R.locals) : va_CN R s args RX9 76 yX0_init "QuotedRiver" cX0_init 1 none (.code yX0_init cX0_init 1 none :: wsL_law) rm_X0_init rm_X0_init.cells rm_X0_init.slots 0 ∧ yX0_init.name = "<init>" ∧ (Cond.instanceMethod yX0_init).before args s = true := ⟨va_cnB 0 ht (GL wq_6_6) rfl rfl rfl (hN _ nm_79) (ht _ wq_2_22) (by decide +kernel) hR, rfl, ht _ wq_6_5⟩
theorem cwi_X9_X3 {R : Room} {s : State} {args : Array Value} (ht : ∀ w ∈ wsL_law, w.before args s = true) (hN : ∀ w ∈ NW, va_Nw w s) (hR : rm_X3_init.frames + 1 ≤ R.frames ∧ 8 + (1 + 11) + rm_X3_init.locals ≤ R.locals) : va_CN R s args RX9 85 yX3_init "QuotedRiver" cX3_init 1 none (.code yX3_init cX3_init 1 none :: wsL_law) rm_X3_init rm_X3_init.cells rm_X3_init.slots 0 ∧ yX3_init.name = "<init>" ∧ (Cond.instanceMethod yX3_init).before args s = true := ⟨va_cnB 0 ht (GL wq_6_14) rfl rfl rfl (hN _ nm_80) (ht _ wq_3_3) (by decide +kernel) hR, rfl, ht _ wq_6_13⟩
def i_Q : Nat → Ob := fun k => match k with | 1 => i_X6 | 2 => i_X1o | 3 => i_X7 | 4 => i_X2 | 5 => i_X2 | 6 => i_X2 | 7 => i_X2 | 8 => i_X2 | 9 => i_X2 | 10 => i_X8 | 11 => i_X8 | 12 => i_X5 | 13 => i_X5 | 14 => i_X3 | 15 => i_X3 | 16 => i_X3 | 17 => i_X3 | 18 => i_X4 | 19 => i_X0 | _ => (fun _ _ => 0, fun _ _ => 0)
abbrev rm_X9_init : Room := { frames := 3, cells := 111, slots := 7769, locals := 52 }
set_option maxHeartbeats 8000000 in
set_option maxRecDepth 100000 in
theorem ci_X9 (l : Launch) (D : va_G) (ct : Nat → ClassId) (G : GT) (h0 sz : Nat) (hG0 : GE G h0) (hGs0 : G.1 ≤ sz) : Met l yX9_init (.code yX9_init cX9_init 2 none :: wsL_law) rm_X9_init (va_Pc [.ref h0] (Bi9 D ct G [(h0, .inr (9, [.null, .null, .null, .null, .null, .int 0, .null, .null, .null, .null, .null, .null, .null, .null]))] sz)) (va_Qv (fun _ : Nat → Nat => True) (fun (A : Nat → Nat) t => A 0 = h0 ∧ va_P D vwCl (csQ ct A i_Q) t.heap ∧ ∀ x : Nat → Ob, va_D (va_A [(h0, .inr (9, [.null, .null, .null, .null, .null, .int 0, .null, .null, .null, .null, .null, .null, .null, .null]))] sz) (csQ ct A x)) (va_A [(h0, .inr (9, [.null, .null, .null, .null, .null, .int 0, .null, .null, .null, .null, .null, .null, .null, .null]))] sz)) 111 7769 (va_A [(h0, .inr (9, [.null, .null, .null, .null, .null, .int 0, .null, .null, .null, .null, .null, .null, .null, .null]))] sz) := by
  refine Met.ofW (cc := cX9_init) (maxL := 2) (ret := none) (by decide) rfl ?_
  intro p e s m args below meth c s₁ B hml hv
  obtain ⟨rfl, ⟨⟨hP, hK, hN, hX⟩, hsz⟩, hAO2, hAO3⟩ := hv
  have hx := B.exec
  have hb := B.bytes
  have hr := B.returns
  have hts := atoms_spec (ws := .code yX9_init cX9_init 2 none :: wsL_law) B.pre
  have htl : ∀ w ∈ wsL_law, w.before _ s = true := fun w h => hts w (List.mem_cons_of_mem _ h)
  have hown : s.vm.findClass RX9 = some m.cls := findClass_of_methodNamed B.named
  have hlocks := B.notSynchronized
  have hin : meth.name = "<init>" := (name_of_methodNamed B.named B.method).1
  subst hsz
  have hD : va_D (va_A [(h0, .inr (9, [.null, .null, .null, .null, .null, .int 0, .null, .null, .null, .null, .null, .null, .null, .null]))] s.heap.size) [(h0, .inr (9, [.null, .null, .null, .null, .null, .int 0, .null, .null, .null, .null, .null, .null, .null, .null]))] := va_D.self (A := fun _ => True) ⟨fun i j p q hi hj _ => by
    have h1 := (List.getElem?_eq_some_iff.mp hi).1
    have h2 := (List.getElem?_eq_some_iff.mp hj).1
    simp only [List.length_cons, List.length_nil] at h1 h2
    omega, fun _ _ _ => trivial⟩
  generalize hAe : va_A [(h0, .inr (9, [.null, .null, .null, .null, .null, .int 0, .null, .null, .null, .null, .null, .null, .null, .null]))] s.heap.size = AA at hD ⊢
  have hA : ∀ q : Nat, s.heap.size ≤ q → AA q := fun q h => by rw [← hAe]; exact Or.inr h
  have hGs : G.1 ≤ s.heap.size := hGs0
  have hGE : ∀ q, AA q → GE G q := by
    intro q h
    rw [← hAe] at h
    rcases h with ⟨k, e, hk⟩ | h
    · match k, hk with
      | 0, hk => cases hk; exact hG0
      | k + 1, hk => simp at hk
    · exact Nat.le_trans hGs h
  have hS : va_S AA s.heap s.heap [] := va_S.rf
  have hl := lv_entry ([.ref h0]) (n := 2) (Nat.le_of_ble_eq_true rfl)
  rw [lg_entry_eq]
  generalize (lg_sl ([.ref h0]) ++ List.replicate (2 - (lg_sl ([.ref h0])).length) Slot.unset).toArray = ls at hl ⊢
  have hl : lv_has ls 2 [(0, .ref h0)] := hl
  obtain ⟨O0, hO0⟩ : ∃ O : va_W, O = [] := ⟨_, rfl⟩
  have hP : va_P D vwCl (wapp [(h0, .inr (9, [.null, .null, .null, .null, .null, .int 0, .null, .null, .null, .null, .null, .null, .null, .null]))] O0) s.heap := by rw [hO0]; exact hP
  have hD : va_D AA (wapp [(h0, .inr (9, [.null, .null, .null, .null, .null, .int 0, .null, .null, .null, .null, .null, .null, .null, .null]))] O0) := by rw [hO0]; exact hD
  refine lv_aload_n hx hb dX9_init_0 rfl (lv_at hl 0 rfl) ?_
  refine W.objInit hx hb hown (htl _ wq_1_10) (htl _ wq_1_11) (htl _ wq_1_12) rfl (by rw [hml]; exact hl.1) rfl dX9_init_1 (Nat.le_of_ble_eq_true rfl) (Nat.le_of_ble_eq_true rfl) ?_
  refine W.eq (g2 := F0 m 4 ls []) rfl ?_
  refine lv_aload_n hx hb dX9_init_4 rfl (lv_at hl 0 rfl) ?_
  refine va_new (D := D) (tys := tyl ct) (ci := 6) (fs := [.null, .int 0]) (C := RX6) (T := TX6) (N := 2) hx hb htl inlX6 tyX6 tyX6_ok hown (htl _ wq_1_13) (htl _ wq_1_14) (htl _ wq_1_15) hK hP hD hS hA rfl (def_X6) (Nat.le_of_ble_eq_true rfl) (Nat.le_of_ble_eq_true rfl) dX9_init_5 (fun q5_4 H_5_4 hP hD hS => ?_)
  have hP : va_P D vwCl (wapp (wapp [(h0, .inr (9, [.null, .null, .null, .null, .null, .int 0, .null, .null, .null, .null, .null, .null, .null, .null]))] O0) [(q5_4, .inr (6, [.null, .int 0]))]) H_5_4 := hP
  have hD : va_D AA (wapp (wapp [(h0, .inr (9, [.null, .null, .null, .null, .null, .int 0, .null, .null, .null, .null, .null, .null, .null, .null]))] O0) [(q5_4, .inr (6, [.null, .int 0]))]) := hD
  refine lv_dup hx hb dX9_init_8 rfl ?_
  have hPc : va_P D vwCl [(q5_4, .inr (6, [.null, .int 0]))] H_5_4 := P_right hP
  have hFc := free2 (c := (q5_4, .inr (6, [.null, .int 0]))) hD hS hA
  refine va_callv (va_runIN (As := []) (rest := [.ref q5_4, .ref h0]) ⟨hx, hb, hml, hown, htl⟩ (ci_X6 l D ct G q5_4 H_5_4.size (hGE _ (D_last (c := (q5_4, .inr (6, [.null, .int 0]))) hD)) (Nat.le_trans hGs hS.1)) (cwi_X9_X6 htl hN ⟨Nat.le_of_ble_eq_true rfl, Nat.le_of_ble_eq_true rfl⟩) ⟨Bi_blind, Bi_pre hPc hK hN (hX.stay hS hGE)⟩ rfl rfl hl.1 rfl (lv_room (Nat.le_of_ble_eq_true rfl)) dX9_init_9 ⟨Nat.le_of_ble_eq_true rfl, Nat.le_of_ble_eq_true rfl⟩) hS (fun q _ h => hFc q h) hFc (fun a9_6 t H_9_6 locs_9_6 ht hvm hw hB hz1 hk1 hS => ?_)
  obtain ⟨e0_9_6, hP1, hD1⟩ := hB
  rw [ht] at hP1
  obtain ⟨hP, hD⟩ := join2 (c := (q5_4, .inr (6, [.null, .int 0]))) hP hD hk1 hFc hP1 hD1
  have hP := P_sw hP
  have hD := D_sw hD
  rw [← e0_9_6]
  have hP : va_P D vwCl (wapp (wapp [(h0, .inr (9, [.null, .null, .null, .null, .null, .int 0, .null, .null, .null, .null, .null, .null, .null, .null]))] (cs6 ct a9_6 i_X6)) O0) H_9_6 := hP
  have hD : va_D AA (wapp (wapp [(h0, .inr (9, [.null, .null, .null, .null, .null, .int 0, .null, .null, .null, .null, .null, .null, .null, .null]))] (cs6 ct a9_6 i_X6)) O0) := hD
  refine W.eq (g2 := F0 m 12 ls [.ref (a9_6 0), .ref h0]) rfl ?_
  refine va_putF (D := D) (tys := tyl ct) (ci := 9) (v := .ref (a9_6 0)) (ty := (.object "QuotedRiver$Tape")) (C := RX9) (T := TX9) (N := 14) hx hb htl inlX9 tyX9 tyX9_ok nmX9 hown hK hP hD hS 0 rfl rfl 0 (by decide) (htl _ wq_1_16) (fun _ h9 => h9) rfl hin rfl (tyX9_ok 0 (by decide)) rfl rfl (Nat.le_of_ble_eq_true rfl) dX9_init_12 (fun H_12_7 locs_12_7 hP hD hS => ?_)
  have hP : va_P D vwCl (wapp (wapp [(h0, .inr (9, [.ref (a9_6 0), .null, .null, .null, .null, .int 0, .null, .null, .null, .null, .null, .null, .null, .null]))] (cs6 ct a9_6 i_X6)) O0) H_12_7 := hP
  have hD : va_D AA (wapp (wapp [(h0, .inr (9, [.ref (a9_6 0), .null, .null, .null, .null, .int 0, .null, .null, .null, .null, .null, .null, .null, .null]))] (cs6 ct a9_6 i_X6)) O0) := hD
  have hP := P_mg hP
  have hD := D_mg hD
  obtain ⟨O1, hO1⟩ : ∃ O : va_W, O = O0 ++ cs6 ct a9_6 i_X6 := ⟨_, rfl⟩
  rw [← hO1] at hP hD
  have hP : va_P D vwCl (wapp [(h0, .inr (9, [.ref (a9_6 0), .null, .null, .null, .null, .int 0, .null, .null, .null, .null, .null, .null, .null, .null]))] O1) H_12_7 := hP
  have hD : va_D AA (wapp [(h0, .inr (9, [.ref (a9_6 0), .null, .null, .null, .null, .int 0, .null, .null, .null, .null, .null, .null, .null, .null]))] O1) := hD
  refine lv_aload_n hx hb dX9_init_15 rfl (lv_at hl 0 rfl) ?_
  refine va_new (D := D) (tys := tyl ct) (ci := 1) (fs := [.null, .null, .int 0, .int 0, .int 0, .int 0]) (C := RX1) (T := TX1) (N := 6) hx hb htl inlX1 tyX1 tyX1_ok hown (htl _ wq_1_17) (htl _ wq_1_18) (htl _ wq_1_19) hK hP hD hS hA rfl (def_X1) (Nat.le_of_ble_eq_true rfl) (Nat.le_of_ble_eq_true rfl) dX9_init_16 (fun q16_9 H_16_9 hP hD hS => ?_)
  have hP : va_P D vwCl (wapp (wapp [(h0, .inr (9, [.ref (a9_6 0), .null, .null, .null, .null, .int 0, .null, .null, .null, .null, .null, .null, .null, .null]))] O1) [(q16_9, .inr (1, [.null, .null, .int 0, .int 0, .int 0, .int 0]))]) H_16_9 := hP
  have hD : va_D AA (wapp (wapp [(h0, .inr (9, [.ref (a9_6 0), .null, .null, .null, .null, .int 0, .null, .null, .null, .null, .null, .null, .null, .null]))] O1) [(q16_9, .inr (1, [.null, .null, .int 0, .int 0, .int 0, .int 0]))]) := hD
  refine lv_dup hx hb dX9_init_19 rfl ?_
  have hPc : va_P D vwCl [(q16_9, .inr (1, [.null, .null, .int 0, .int 0, .int 0, .int 0]))] H_16_9 := P_right hP
  have hFc := free2 (c := (q16_9, .inr (1, [.null, .null, .int 0, .int 0, .int 0, .int 0]))) hD hS hA
  refine va_callv (va_runIN (As := []) (rest := [.ref q16_9, .ref h0]) ⟨hx, hb, hml, hown, htl⟩ (ci_X1 l D ct G q16_9 H_16_9.size (hGE _ (D_last (c := (q16_9, .inr (1, [.null, .null, .int 0, .int 0, .int 0, .int 0]))) hD)) (Nat.le_trans hGs hS.1)) (cwi_X9_X1 htl hN ⟨Nat.le_of_ble_eq_true rfl, Nat.le_of_ble_eq_true rfl⟩) ⟨Bi_blind, Bi_pre hPc hK hN (hX.stay hS hGE)⟩ rfl rfl hl.1 rfl (lv_room (Nat.le_of_ble_eq_true rfl)) dX9_init_20 ⟨Nat.le_of_ble_eq_true rfl, Nat.le_of_ble_eq_true rfl⟩) hS (fun q _ h => hFc q h) hFc (fun a20_11 t H_20_11 locs_20_11 ht hvm hw hB hz1 hk1 hS => ?_)
  obtain ⟨e0_20_11, hP1, hD1⟩ := hB
  rw [ht] at hP1
  obtain ⟨hP, hD⟩ := join2 (c := (q16_9, .inr (1, [.null, .null, .int 0, .int 0, .int 0, .int 0]))) hP hD hk1 hFc hP1 hD1
  have hP := P_sw hP
  have hD := D_sw hD
  rw [← e0_20_11]
  have hP : va_P D vwCl (wapp (wapp [(h0, .inr (9, [.ref (a9_6 0), .null, .null, .null, .null, .int 0, .null, .null, .null, .null, .null, .null, .null, .null]))] (cs1 ct a20_11 i_X1o i_X7 i_X2)) O1) H_20_11 := hP
  have hD : va_D AA (wapp (wapp [(h0, .inr (9, [.ref (a9_6 0), .null, .null, .null, .null, .int 0, .null, .null, .null, .null, .null, .null, .null, .null]))] (cs1 ct a20_11 i_X1o i_X7 i_X2)) O1) := hD
  refine W.eq (g2 := F0 m 23 ls [.ref (a20_11 0), .ref h0]) rfl ?_
  refine va_putF (D := D) (tys := tyl ct) (ci := 9) (v := .ref (a20_11 0)) (ty := (.object "QuotedRiver$Reader")) (C := RX9) (T := TX9) (N := 14) hx hb htl inlX9 tyX9 tyX9_ok nmX9 hown hK hP hD hS 0 rfl rfl 1 (by decide) (htl _ wq_1_20) (fun _ h9 => h9) rfl hin rfl (tyX9_ok 1 (by decide)) rfl rfl (Nat.le_of_ble_eq_true rfl) dX9_init_23 (fun H_23_12 locs_23_12 hP hD hS => ?_)
  have hP : va_P D vwCl (wapp (wapp [(h0, .inr (9, [.ref (a9_6 0), .ref (a20_11 0), .null, .null, .null, .int 0, .null, .null, .null, .null, .null, .null, .null, .null]))] (cs1 ct a20_11 i_X1o i_X7 i_X2)) O1) H_23_12 := hP
  have hD : va_D AA (wapp (wapp [(h0, .inr (9, [.ref (a9_6 0), .ref (a20_11 0), .null, .null, .null, .int 0, .null, .null, .null, .null, .null, .null, .null, .null]))] (cs1 ct a20_11 i_X1o i_X7 i_X2)) O1) := hD
  have hP := P_mg hP
  have hD := D_mg hD
  obtain ⟨O2, hO2⟩ : ∃ O : va_W, O = O1 ++ cs1 ct a20_11 i_X1o i_X7 i_X2 := ⟨_, rfl⟩
  rw [← hO2] at hP hD
  have hP : va_P D vwCl (wapp [(h0, .inr (9, [.ref (a9_6 0), .ref (a20_11 0), .null, .null, .null, .int 0, .null, .null, .null, .null, .null, .null, .null, .null]))] O2) H_23_12 := hP
  have hD : va_D AA (wapp [(h0, .inr (9, [.ref (a9_6 0), .ref (a20_11 0), .null, .null, .null, .int 0, .null, .null, .null, .null, .null, .null, .null, .null]))] O2) := hD
  refine lv_aload_n hx hb dX9_init_26 rfl (lv_at hl 0 rfl) ?_
  refine va_new (D := D) (tys := tyl ct) (ci := 2) (fs := [.int 0, .int 0, .int 0, .int 0, .int 0, .null, .null, .null, .int 0, .null, .null, .null, .null, .int 0, .null, .null, .int 0, .null, .null, .null]) (C := RX2) (T := TX2) (N := 20) hx hb htl inlX2 tyX2 tyX2_ok hown (htl _ wq_1_21) (htl _ wq_1_22) (htl _ wq_1_23) hK hP hD hS hA rfl (def_X2) (Nat.le_of_ble_eq_true rfl) (Nat.le_of_ble_eq_true rfl) dX9_init_27 (fun q27_14 H_27_14 hP hD hS => ?_)
  have hP : va_P D vwCl (wapp (wapp [(h0, .inr (9, [.ref (a9_6 0), .ref (a20_11 0), .null, .null, .null, .int 0, .null, .null, .null, .null, .null, .null, .null, .null]))] O2) [(q27_14, .inr (2, [.int 0, .int 0, .int 0, .int 0, .int 0, .null, .null, .null, .int 0, .null, .null, .null, .null, .int 0, .null, .null, .int 0, .null, .null, .null]))]) H_27_14 := hP
  have hD : va_D AA (wapp (wapp [(h0, .inr (9, [.ref (a9_6 0), .ref (a20_11 0), .null, .null, .null, .int 0, .null, .null, .null, .null, .null, .null, .null, .null]))] O2) [(q27_14, .inr (2, [.int 0, .int 0, .int 0, .int 0, .int 0, .null, .null, .null, .int 0, .null, .null, .null, .null, .int 0, .null, .null, .int 0, .null, .null, .null]))]) := hD
  refine lv_dup hx hb dX9_init_30 rfl ?_
  have hPc : va_P D vwCl [(q27_14, .inr (2, [.int 0, .int 0, .int 0, .int 0, .int 0, .null, .null, .null, .int 0, .null, .null, .null, .null, .int 0, .null, .null, .int 0, .null, .null, .null]))] H_27_14 := P_right hP
  have hFc := free2 (c := (q27_14, .inr (2, [.int 0, .int 0, .int 0, .int 0, .int 0, .null, .null, .null, .int 0, .null, .null, .null, .null, .int 0, .null, .null, .int 0, .null, .null, .null]))) hD hS hA
  refine va_callv (va_runIN (As := []) (rest := [.ref q27_14, .ref h0]) ⟨hx, hb, hml, hown, htl⟩ (ci_X2 l D ct G q27_14 H_27_14.size (hGE _ (D_last (c := (q27_14, .inr (2, [.int 0, .int 0, .int 0, .int 0, .int 0, .null, .null, .null, .int 0, .null, .null, .null, .null, .int 0, .null, .null, .int 0, .null, .null, .null]))) hD)) (Nat.le_trans hGs hS.1)) (cwi_X9_X2 htl hN ⟨Nat.le_of_ble_eq_true rfl, Nat.le_of_ble_eq_true rfl⟩) ⟨Bi_blind, Bi_pre hPc hK hN (hX.stay hS hGE)⟩ rfl rfl hl.1 rfl (lv_room (Nat.le_of_ble_eq_true rfl)) dX9_init_31 ⟨Nat.le_of_ble_eq_true rfl, Nat.le_of_ble_eq_true rfl⟩) hS (fun q _ h => hFc q h) hFc (fun a31_16 t H_31_16 locs_31_16 ht hvm hw hB hz1 hk1 hS => ?_)
  obtain ⟨e0_31_16, hP1, hD1⟩ := hB
  rw [ht] at hP1
  obtain ⟨hP, hD⟩ := join2 (c := (q27_14, .inr (2, [.int 0, .int 0, .int 0, .int 0, .int 0, .null, .null, .null, .int 0, .null, .null, .null, .null, .int 0, .null, .null, .int 0, .null, .null, .null]))) hP hD hk1 hFc hP1 hD1
  have hP := P_sw hP
  have hD := D_sw hD
  rw [← e0_31_16]
  have hP : va_P D vwCl (wapp (wapp [(h0, .inr (9, [.ref (a9_6 0), .ref (a20_11 0), .null, .null, .null, .int 0, .null, .null, .null, .null, .null, .null, .null, .null]))] (cs2 ct a31_16 i_X2)) O2) H_31_16 := hP
  have hD : va_D AA (wapp (wapp [(h0, .inr (9, [.ref (a9_6 0), .ref (a20_11 0), .null, .null, .null, .int 0, .null, .null, .null, .null, .null, .null, .null, .null]))] (cs2 ct a31_16 i_X2)) O2) := hD
  refine W.eq (g2 := F0 m 34 ls [.ref (a31_16 0), .ref h0]) rfl ?_
  refine va_putF (D := D) (tys := tyl ct) (ci := 9) (v := .ref (a31_16 0)) (ty := (.object "QuotedRiver$Rivers")) (C := RX9) (T := TX9) (N := 14) hx hb htl inlX9 tyX9 tyX9_ok nmX9 hown hK hP hD hS 0 rfl rfl 2 (by decide) (htl _ wq_2_0) (fun _ h9 => h9) rfl hin rfl (tyX9_ok 2 (by decide)) rfl rfl (Nat.le_of_ble_eq_true rfl) dX9_init_34 (fun H_34_17 locs_34_17 hP hD hS => ?_)
  have hP : va_P D vwCl (wapp (wapp [(h0, .inr (9, [.ref (a9_6 0), .ref (a20_11 0), .ref (a31_16 0), .null, .null, .int 0, .null, .null, .null, .null, .null, .null, .null, .null]))] (cs2 ct a31_16 i_X2)) O2) H_34_17 := hP
  have hD : va_D AA (wapp (wapp [(h0, .inr (9, [.ref (a9_6 0), .ref (a20_11 0), .ref (a31_16 0), .null, .null, .int 0, .null, .null, .null, .null, .null, .null, .null, .null]))] (cs2 ct a31_16 i_X2)) O2) := hD
  have hP := P_mg hP
  have hD := D_mg hD
  obtain ⟨O3, hO3⟩ : ∃ O : va_W, O = O2 ++ cs2 ct a31_16 i_X2 := ⟨_, rfl⟩
  rw [← hO3] at hP hD
  have hP : va_P D vwCl (wapp [(h0, .inr (9, [.ref (a9_6 0), .ref (a20_11 0), .ref (a31_16 0), .null, .null, .int 0, .null, .null, .null, .null, .null, .null, .null, .null]))] O3) H_34_17 := hP
  have hD : va_D AA (wapp [(h0, .inr (9, [.ref (a9_6 0), .ref (a20_11 0), .ref (a31_16 0), .null, .null, .int 0, .null, .null, .null, .null, .null, .null, .null, .null]))] O3) := hD
  refine lv_aload_n hx hb dX9_init_37 rfl (lv_at hl 0 rfl) ?_
  refine va_new (D := D) (tys := tyl ct) (ci := 2) (fs := [.int 0, .int 0, .int 0, .int 0, .int 0, .null, .null, .null, .int 0, .null, .null, .null, .null, .int 0, .null, .null, .int 0, .null, .null, .null]) (C := RX2) (T := TX2) (N := 20) hx hb htl inlX2 tyX2 tyX2_ok hown (htl _ wq_1_21) (htl _ wq_1_22) (htl _ wq_1_23) hK hP hD hS hA rfl (def_X2) (Nat.le_of_ble_eq_true rfl) (Nat.le_of_ble_eq_true rfl) dX9_init_38 (fun q38_19 H_38_19 hP hD hS => ?_)
  have hP : va_P D vwCl (wapp (wapp [(h0, .inr (9, [.ref (a9_6 0), .ref (a20_11 0), .ref (a31_16 0), .null, .null, .int 0, .null, .null, .null, .null, .null, .null, .null, .null]))] O3) [(q38_19, .inr (2, [.int 0, .int 0, .int 0, .int 0, .int 0, .null, .null, .null, .int 0, .null, .null, .null, .null, .int 0, .null, .null, .int 0, .null, .null, .null]))]) H_38_19 := hP
  have hD : va_D AA (wapp (wapp [(h0, .inr (9, [.ref (a9_6 0), .ref (a20_11 0), .ref (a31_16 0), .null, .null, .int 0, .null, .null, .null, .null, .null, .null, .null, .null]))] O3) [(q38_19, .inr (2, [.int 0, .int 0, .int 0, .int 0, .int 0, .null, .null, .null, .int 0, .null, .null, .null, .null, .int 0, .null, .null, .int 0, .null, .null, .null]))]) := hD
  refine lv_dup hx hb dX9_init_41 rfl ?_
  have hPc : va_P D vwCl [(q38_19, .inr (2, [.int 0, .int 0, .int 0, .int 0, .int 0, .null, .null, .null, .int 0, .null, .null, .null, .null, .int 0, .null, .null, .int 0, .null, .null, .null]))] H_38_19 := P_right hP
  have hFc := free2 (c := (q38_19, .inr (2, [.int 0, .int 0, .int 0, .int 0, .int 0, .null, .null, .null, .int 0, .null, .null, .null, .null, .int 0, .null, .null, .int 0, .null, .null, .null]))) hD hS hA
  refine va_callv (va_runIN (As := []) (rest := [.ref q38_19, .ref h0]) ⟨hx, hb, hml, hown, htl⟩ (ci_X2 l D ct G q38_19 H_38_19.size (hGE _ (D_last (c := (q38_19, .inr (2, [.int 0, .int 0, .int 0, .int 0, .int 0, .null, .null, .null, .int 0, .null, .null, .null, .null, .int 0, .null, .null, .int 0, .null, .null, .null]))) hD)) (Nat.le_trans hGs hS.1)) (cwi_X9_X2 htl hN ⟨Nat.le_of_ble_eq_true rfl, Nat.le_of_ble_eq_true rfl⟩) ⟨Bi_blind, Bi_pre hPc hK hN (hX.stay hS hGE)⟩ rfl rfl hl.1 rfl (lv_room (Nat.le_of_ble_eq_true rfl)) dX9_init_42 ⟨Nat.le_of_ble_eq_true rfl, Nat.le_of_ble_eq_true rfl⟩) hS (fun q _ h => hFc q h) hFc (fun a42_21 t H_42_21 locs_42_21 ht hvm hw hB hz1 hk1 hS => ?_)
  obtain ⟨e0_42_21, hP1, hD1⟩ := hB
  rw [ht] at hP1
  obtain ⟨hP, hD⟩ := join2 (c := (q38_19, .inr (2, [.int 0, .int 0, .int 0, .int 0, .int 0, .null, .null, .null, .int 0, .null, .null, .null, .null, .int 0, .null, .null, .int 0, .null, .null, .null]))) hP hD hk1 hFc hP1 hD1
  have hP := P_sw hP
  have hD := D_sw hD
  rw [← e0_42_21]
  have hP : va_P D vwCl (wapp (wapp [(h0, .inr (9, [.ref (a9_6 0), .ref (a20_11 0), .ref (a31_16 0), .null, .null, .int 0, .null, .null, .null, .null, .null, .null, .null, .null]))] (cs2 ct a42_21 i_X2)) O3) H_42_21 := hP
  have hD : va_D AA (wapp (wapp [(h0, .inr (9, [.ref (a9_6 0), .ref (a20_11 0), .ref (a31_16 0), .null, .null, .int 0, .null, .null, .null, .null, .null, .null, .null, .null]))] (cs2 ct a42_21 i_X2)) O3) := hD
  refine W.eq (g2 := F0 m 45 ls [.ref (a42_21 0), .ref h0]) rfl ?_
  refine va_putF (D := D) (tys := tyl ct) (ci := 9) (v := .ref (a42_21 0)) (ty := (.object "QuotedRiver$Rivers")) (C := RX9) (T := TX9) (N := 14) hx hb htl inlX9 tyX9 tyX9_ok nmX9 hown hK hP hD hS 0 rfl rfl 3 (by decide) (htl _ wq_2_1) (fun _ h9 => h9) rfl hin rfl (tyX9_ok 3 (by decide)) rfl rfl (Nat.le_of_ble_eq_true rfl) dX9_init_45 (fun H_45_22 locs_45_22 hP hD hS => ?_)
  have hP : va_P D vwCl (wapp (wapp [(h0, .inr (9, [.ref (a9_6 0), .ref (a20_11 0), .ref (a31_16 0), .ref (a42_21 0), .null, .int 0, .null, .null, .null, .null, .null, .null, .null, .null]))] (cs2 ct a42_21 i_X2)) O3) H_45_22 := hP
  have hD : va_D AA (wapp (wapp [(h0, .inr (9, [.ref (a9_6 0), .ref (a20_11 0), .ref (a31_16 0), .ref (a42_21 0), .null, .int 0, .null, .null, .null, .null, .null, .null, .null, .null]))] (cs2 ct a42_21 i_X2)) O3) := hD
  have hP := P_mg hP
  have hD := D_mg hD
  obtain ⟨O4, hO4⟩ : ∃ O : va_W, O = O3 ++ cs2 ct a42_21 i_X2 := ⟨_, rfl⟩
  rw [← hO4] at hP hD
  have hP : va_P D vwCl (wapp [(h0, .inr (9, [.ref (a9_6 0), .ref (a20_11 0), .ref (a31_16 0), .ref (a42_21 0), .null, .int 0, .null, .null, .null, .null, .null, .null, .null, .null]))] O4) H_45_22 := hP
  have hD : va_D AA (wapp [(h0, .inr (9, [.ref (a9_6 0), .ref (a20_11 0), .ref (a31_16 0), .ref (a42_21 0), .null, .int 0, .null, .null, .null, .null, .null, .null, .null, .null]))] O4) := hD
  refine lv_aload_n hx hb dX9_init_48 rfl (lv_at hl 0 rfl) ?_
  refine lv_iconst (v := 3) hx hb dX9_init_49 (by decide) ?_
  refine va_newq (D := D) (tys := tyl ct) (C := "QuotedRiver$Rivers") (N' := 3) hx hb hown (htl _ wq_1_21) hAO2 hK hP hD hS hA (by decide) (by decide) (by decide) (Nat.le_of_ble_eq_true rfl) (Nat.le_of_ble_eq_true rfl) dX9_init_50 (fun q50_25 cA H_50_25 hK1 hP hD hS => ?_)
  obtain rfl := ct_eq4 hK1
  clear hK1
  have hP := P_sw hP
  have hD := D_sw hD
  have hP : va_P D vwCl (wapp [(h0, .inr (9, [.ref (a9_6 0), .ref (a20_11 0), .ref (a31_16 0), .ref (a42_21 0), .null, .int 0, .null, .null, .null, .null, .null, .null, .null, .null])), (q50_25, .inl (ct 4, 3, .inr (.inr (.inr (.inr (fun _ => none))))))] O4) H_50_25 := hP
  have hD : va_D AA (wapp [(h0, .inr (9, [.ref (a9_6 0), .ref (a20_11 0), .ref (a31_16 0), .ref (a42_21 0), .null, .int 0, .null, .null, .null, .null, .null, .null, .null, .null])), (q50_25, .inl (ct 4, 3, .inr (.inr (.inr (.inr (fun _ => none))))))] O4) := hD
  refine va_putF (D := D) (tys := tyl ct) (ci := 9) (v := .ref q50_25) (ty := (.array (.object "QuotedRiver$Rivers"))) (C := RX9) (T := TX9) (N := 14) hx hb htl inlX9 tyX9 tyX9_ok nmX9 hown hK hP hD hS 0 rfl rfl 4 (by decide) (htl _ wq_2_2) (fun _ h9 => h9) rfl hin rfl (tyX9_ok 4 (by decide)) rfl rfl (Nat.le_of_ble_eq_true rfl) dX9_init_53 (fun H_53_26 locs_53_26 hP hD hS => ?_)
  have hP : va_P D vwCl (wapp [(h0, .inr (9, [.ref (a9_6 0), .ref (a20_11 0), .ref (a31_16 0), .ref (a42_21 0), .ref q50_25, .int 0, .null, .null, .null, .null, .null, .null, .null, .null])), (q50_25, .inl (ct 4, 3, .inr (.inr (.inr (.inr (fun _ => none))))))] O4) H_53_26 := hP
  have hD : va_D AA (wapp [(h0, .inr (9, [.ref (a9_6 0), .ref (a20_11 0), .ref (a31_16 0), .ref (a42_21 0), .ref q50_25, .int 0, .null, .null, .null, .null, .null, .null, .null, .null])), (q50_25, .inl (ct 4, 3, .inr (.inr (.inr (.inr (fun _ => none))))))] O4) := hD
  refine lv_aload_n hx hb dX9_init_56 rfl (lv_at hl 0 rfl) ?_
  refine lv_iconst (v := 0) hx hb dX9_init_57 (by decide) ?_
  refine va_put (D := D) (tys := tyl ct) (ci := 9) (v := .int 0) (ty := .int) (C := RX9) (T := TX9) (N := 14) hx hb htl inlX9 tyX9 tyX9_ok nmX9 hown hK hP hD hS 0 rfl rfl 5 (by decide) (htl _ wq_2_3) (fun _ h9 => h9) rfl (tyX9_ok 5 (by decide)) rfl rfl (Nat.le_of_ble_eq_true rfl) dX9_init_58 (fun H_58_29 locs_58_29 hP hD hS => ?_)
  have hP : va_P D vwCl (wapp [(h0, .inr (9, [.ref (a9_6 0), .ref (a20_11 0), .ref (a31_16 0), .ref (a42_21 0), .ref q50_25, .int 0, .null, .null, .null, .null, .null, .null, .null, .null])), (q50_25, .inl (ct 4, 3, .inr (.inr (.inr (.inr (fun _ => none))))))] O4) H_58_29 := hP
  have hD : va_D AA (wapp [(h0, .inr (9, [.ref (a9_6 0), .ref (a20_11 0), .ref (a31_16 0), .ref (a42_21 0), .ref q50_25, .int 0, .null, .null, .null, .null, .null, .null, .null, .null])), (q50_25, .inl (ct 4, 3, .inr (.inr (.inr (.inr (fun _ => none))))))] O4) := hD
  refine lv_aload_n hx hb dX9_init_61 rfl (lv_at hl 0 rfl) ?_
  refine va_new (D := D) (tys := tyl ct) (ci := 8) (fs := [.null, .null, .int 0]) (C := RX8) (T := TX8) (N := 3) hx hb htl inlX8 tyX8 tyX8_ok hown (htl _ wq_2_4) (htl _ wq_2_5) (htl _ wq_2_6) hK hP hD hS hA rfl (def_X8) (Nat.le_of_ble_eq_true rfl) (Nat.le_of_ble_eq_true rfl) dX9_init_62 (fun q62_31 H_62_31 hP hD hS => ?_)
  have hP : va_P D vwCl (wapp (wapp [(h0, .inr (9, [.ref (a9_6 0), .ref (a20_11 0), .ref (a31_16 0), .ref (a42_21 0), .ref q50_25, .int 0, .null, .null, .null, .null, .null, .null, .null, .null])), (q50_25, .inl (ct 4, 3, .inr (.inr (.inr (.inr (fun _ => none))))))] O4) [(q62_31, .inr (8, [.null, .null, .int 0]))]) H_62_31 := hP
  have hD : va_D AA (wapp (wapp [(h0, .inr (9, [.ref (a9_6 0), .ref (a20_11 0), .ref (a31_16 0), .ref (a42_21 0), .ref q50_25, .int 0, .null, .null, .null, .null, .null, .null, .null, .null])), (q50_25, .inl (ct 4, 3, .inr (.inr (.inr (.inr (fun _ => none))))))] O4) [(q62_31, .inr (8, [.null, .null, .int 0]))]) := hD
  refine lv_dup hx hb dX9_init_65 rfl ?_
  have hPc : va_P D vwCl [(q62_31, .inr (8, [.null, .null, .int 0]))] H_62_31 := P_right hP
  have hFc := free2 (c := (q62_31, .inr (8, [.null, .null, .int 0]))) hD hS hA
  refine va_callv (va_runIN (As := []) (rest := [.ref q62_31, .ref h0]) ⟨hx, hb, hml, hown, htl⟩ (ci_X8 l D ct G q62_31 H_62_31.size (hGE _ (D_last (c := (q62_31, .inr (8, [.null, .null, .int 0]))) hD)) (Nat.le_trans hGs hS.1)) (cwi_X9_X8 htl hN ⟨Nat.le_of_ble_eq_true rfl, Nat.le_of_ble_eq_true rfl⟩) ⟨Bi_blind, Bi_pre hPc hK hN (hX.stay hS hGE)⟩ rfl rfl hl.1 rfl (lv_room (Nat.le_of_ble_eq_true rfl)) dX9_init_66 ⟨Nat.le_of_ble_eq_true rfl, Nat.le_of_ble_eq_true rfl⟩) hS (fun q _ h => hFc q h) hFc (fun a66_33 t H_66_33 locs_66_33 ht hvm hw hB hz1 hk1 hS => ?_)
  obtain ⟨e0_66_33, hP1, hD1⟩ := hB
  rw [ht] at hP1
  obtain ⟨hP, hD⟩ := join2 (c := (q62_31, .inr (8, [.null, .null, .int 0]))) hP hD hk1 hFc hP1 hD1
  have hP := P_sw hP
  have hD := D_sw hD
  rw [← e0_66_33]
  have hP : va_P D vwCl (wapp (wapp [(h0, .inr (9, [.ref (a9_6 0), .ref (a20_11 0), .ref (a31_16 0), .ref (a42_21 0), .ref q50_25, .int 0, .null, .null, .null, .null, .null, .null, .null, .null])), (q50_25, .inl (ct 4, 3, .inr (.inr (.inr (.inr (fun _ => none))))))] (cs8 ct a66_33 i_X8)) O4) H_66_33 := hP
  have hD : va_D AA (wapp (wapp [(h0, .inr (9, [.ref (a9_6 0), .ref (a20_11 0), .ref (a31_16 0), .ref (a42_21 0), .ref q50_25, .int 0, .null, .null, .null, .null, .null, .null, .null, .null])), (q50_25, .inl (ct 4, 3, .inr (.inr (.inr (.inr (fun _ => none))))))] (cs8 ct a66_33 i_X8)) O4) := hD
  refine W.eq (g2 := F0 m 69 ls [.ref (a66_33 0), .ref h0]) rfl ?_
  refine va_putF (D := D) (tys := tyl ct) (ci := 9) (v := .ref (a66_33 0)) (ty := (.object "QuotedRiver$Water")) (C := RX9) (T := TX9) (N := 14) hx hb htl inlX9 tyX9 tyX9_ok nmX9 hown hK hP hD hS 0 rfl rfl 6 (by decide) (htl _ wq_2_7) (fun _ h9 => h9) rfl hin rfl (tyX9_ok 6 (by decide)) rfl rfl (Nat.le_of_ble_eq_true rfl) dX9_init_69 (fun H_69_34 locs_69_34 hP hD hS => ?_)
  have hP : va_P D vwCl (wapp (wapp [(h0, .inr (9, [.ref (a9_6 0), .ref (a20_11 0), .ref (a31_16 0), .ref (a42_21 0), .ref q50_25, .int 0, .ref (a66_33 0), .null, .null, .null, .null, .null, .null, .null])), (q50_25, .inl (ct 4, 3, .inr (.inr (.inr (.inr (fun _ => none))))))] (cs8 ct a66_33 i_X8)) O4) H_69_34 := hP
  have hD : va_D AA (wapp (wapp [(h0, .inr (9, [.ref (a9_6 0), .ref (a20_11 0), .ref (a31_16 0), .ref (a42_21 0), .ref q50_25, .int 0, .ref (a66_33 0), .null, .null, .null, .null, .null, .null, .null])), (q50_25, .inl (ct 4, 3, .inr (.inr (.inr (.inr (fun _ => none))))))] (cs8 ct a66_33 i_X8)) O4) := hD
  have hP := P_mg hP
  have hD := D_mg hD
  obtain ⟨O5, hO5⟩ : ∃ O : va_W, O = O4 ++ cs8 ct a66_33 i_X8 := ⟨_, rfl⟩
  rw [← hO5] at hP hD
  have hP : va_P D vwCl (wapp [(h0, .inr (9, [.ref (a9_6 0), .ref (a20_11 0), .ref (a31_16 0), .ref (a42_21 0), .ref q50_25, .int 0, .ref (a66_33 0), .null, .null, .null, .null, .null, .null, .null])), (q50_25, .inl (ct 4, 3, .inr (.inr (.inr (.inr (fun _ => none))))))] O5) H_69_34 := hP
  have hD : va_D AA (wapp [(h0, .inr (9, [.ref (a9_6 0), .ref (a20_11 0), .ref (a31_16 0), .ref (a42_21 0), .ref q50_25, .int 0, .ref (a66_33 0), .null, .null, .null, .null, .null, .null, .null])), (q50_25, .inl (ct 4, 3, .inr (.inr (.inr (.inr (fun _ => none))))))] O5) := hD
  refine lv_aload_n hx hb dX9_init_72 rfl (lv_at hl 0 rfl) ?_
  refine va_new (D := D) (tys := tyl ct) (ci := 8) (fs := [.null, .null, .int 0]) (C := RX8) (T := TX8) (N := 3) hx hb htl inlX8 tyX8 tyX8_ok hown (htl _ wq_2_4) (htl _ wq_2_5) (htl _ wq_2_6) hK hP hD hS hA rfl (def_X8) (Nat.le_of_ble_eq_true rfl) (Nat.le_of_ble_eq_true rfl) dX9_init_73 (fun q73_36 H_73_36 hP hD hS => ?_)
  have hP : va_P D vwCl (wapp (wapp [(h0, .inr (9, [.ref (a9_6 0), .ref (a20_11 0), .ref (a31_16 0), .ref (a42_21 0), .ref q50_25, .int 0, .ref (a66_33 0), .null, .null, .null, .null, .null, .null, .null])), (q50_25, .inl (ct 4, 3, .inr (.inr (.inr (.inr (fun _ => none))))))] O5) [(q73_36, .inr (8, [.null, .null, .int 0]))]) H_73_36 := hP
  have hD : va_D AA (wapp (wapp [(h0, .inr (9, [.ref (a9_6 0), .ref (a20_11 0), .ref (a31_16 0), .ref (a42_21 0), .ref q50_25, .int 0, .ref (a66_33 0), .null, .null, .null, .null, .null, .null, .null])), (q50_25, .inl (ct 4, 3, .inr (.inr (.inr (.inr (fun _ => none))))))] O5) [(q73_36, .inr (8, [.null, .null, .int 0]))]) := hD
  refine lv_dup hx hb dX9_init_76 rfl ?_
  have hPc : va_P D vwCl [(q73_36, .inr (8, [.null, .null, .int 0]))] H_73_36 := P_right hP
  have hFc := free2 (c := (q73_36, .inr (8, [.null, .null, .int 0]))) hD hS hA
  refine va_callv (va_runIN (As := []) (rest := [.ref q73_36, .ref h0]) ⟨hx, hb, hml, hown, htl⟩ (ci_X8 l D ct G q73_36 H_73_36.size (hGE _ (D_last (c := (q73_36, .inr (8, [.null, .null, .int 0]))) hD)) (Nat.le_trans hGs hS.1)) (cwi_X9_X8 htl hN ⟨Nat.le_of_ble_eq_true rfl, Nat.le_of_ble_eq_true rfl⟩) ⟨Bi_blind, Bi_pre hPc hK hN (hX.stay hS hGE)⟩ rfl rfl hl.1 rfl (lv_room (Nat.le_of_ble_eq_true rfl)) dX9_init_77 ⟨Nat.le_of_ble_eq_true rfl, Nat.le_of_ble_eq_true rfl⟩) hS (fun q _ h => hFc q h) hFc (fun a77_38 t H_77_38 locs_77_38 ht hvm hw hB hz1 hk1 hS => ?_)
  obtain ⟨e0_77_38, hP1, hD1⟩ := hB
  rw [ht] at hP1
  obtain ⟨hP, hD⟩ := join2 (c := (q73_36, .inr (8, [.null, .null, .int 0]))) hP hD hk1 hFc hP1 hD1
  have hP := P_sw hP
  have hD := D_sw hD
  rw [← e0_77_38]
  have hP : va_P D vwCl (wapp (wapp [(h0, .inr (9, [.ref (a9_6 0), .ref (a20_11 0), .ref (a31_16 0), .ref (a42_21 0), .ref q50_25, .int 0, .ref (a66_33 0), .null, .null, .null, .null, .null, .null, .null])), (q50_25, .inl (ct 4, 3, .inr (.inr (.inr (.inr (fun _ => none))))))] (cs8 ct a77_38 i_X8)) O5) H_77_38 := hP
  have hD : va_D AA (wapp (wapp [(h0, .inr (9, [.ref (a9_6 0), .ref (a20_11 0), .ref (a31_16 0), .ref (a42_21 0), .ref q50_25, .int 0, .ref (a66_33 0), .null, .null, .null, .null, .null, .null, .null])), (q50_25, .inl (ct 4, 3, .inr (.inr (.inr (.inr (fun _ => none))))))] (cs8 ct a77_38 i_X8)) O5) := hD
  refine W.eq (g2 := F0 m 80 ls [.ref (a77_38 0), .ref h0]) rfl ?_
  refine va_putF (D := D) (tys := tyl ct) (ci := 9) (v := .ref (a77_38 0)) (ty := (.object "QuotedRiver$Water")) (C := RX9) (T := TX9) (N := 14) hx hb htl inlX9 tyX9 tyX9_ok nmX9 hown hK hP hD hS 0 rfl rfl 7 (by decide) (htl _ wq_2_8) (fun _ h9 => h9) rfl hin rfl (tyX9_ok 7 (by decide)) rfl rfl (Nat.le_of_ble_eq_true rfl) dX9_init_80 (fun H_80_39 locs_80_39 hP hD hS => ?_)
  have hP : va_P D vwCl (wapp (wapp [(h0, .inr (9, [.ref (a9_6 0), .ref (a20_11 0), .ref (a31_16 0), .ref (a42_21 0), .ref q50_25, .int 0, .ref (a66_33 0), .ref (a77_38 0), .null, .null, .null, .null, .null, .null])), (q50_25, .inl (ct 4, 3, .inr (.inr (.inr (.inr (fun _ => none))))))] (cs8 ct a77_38 i_X8)) O5) H_80_39 := hP
  have hD : va_D AA (wapp (wapp [(h0, .inr (9, [.ref (a9_6 0), .ref (a20_11 0), .ref (a31_16 0), .ref (a42_21 0), .ref q50_25, .int 0, .ref (a66_33 0), .ref (a77_38 0), .null, .null, .null, .null, .null, .null])), (q50_25, .inl (ct 4, 3, .inr (.inr (.inr (.inr (fun _ => none))))))] (cs8 ct a77_38 i_X8)) O5) := hD
  have hP := P_mg hP
  have hD := D_mg hD
  obtain ⟨O6, hO6⟩ : ∃ O : va_W, O = O5 ++ cs8 ct a77_38 i_X8 := ⟨_, rfl⟩
  rw [← hO6] at hP hD
  have hP : va_P D vwCl (wapp [(h0, .inr (9, [.ref (a9_6 0), .ref (a20_11 0), .ref (a31_16 0), .ref (a42_21 0), .ref q50_25, .int 0, .ref (a66_33 0), .ref (a77_38 0), .null, .null, .null, .null, .null, .null])), (q50_25, .inl (ct 4, 3, .inr (.inr (.inr (.inr (fun _ => none))))))] O6) H_80_39 := hP
  have hD : va_D AA (wapp [(h0, .inr (9, [.ref (a9_6 0), .ref (a20_11 0), .ref (a31_16 0), .ref (a42_21 0), .ref q50_25, .int 0, .ref (a66_33 0), .ref (a77_38 0), .null, .null, .null, .null, .null, .null])), (q50_25, .inl (ct 4, 3, .inr (.inr (.inr (.inr (fun _ => none))))))] O6) := hD
  refine lv_aload_n hx hb dX9_init_83 rfl (lv_at hl 0 rfl) ?_
  refine va_new (D := D) (tys := tyl ct) (ci := 5) (fs := [.null, .int 0, .int 0, .int 0, .int 0, .int 0, .int 0, .int 0, .int 0]) (C := RX5) (T := TX5) (N := 9) hx hb htl inlX5 tyX5 tyX5_ok hown (htl _ wq_2_9) (htl _ wq_2_10) (htl _ wq_2_11) hK hP hD hS hA rfl (def_X5) (Nat.le_of_ble_eq_true rfl) (Nat.le_of_ble_eq_true rfl) dX9_init_84 (fun q84_41 H_84_41 hP hD hS => ?_)
  have hP : va_P D vwCl (wapp (wapp [(h0, .inr (9, [.ref (a9_6 0), .ref (a20_11 0), .ref (a31_16 0), .ref (a42_21 0), .ref q50_25, .int 0, .ref (a66_33 0), .ref (a77_38 0), .null, .null, .null, .null, .null, .null])), (q50_25, .inl (ct 4, 3, .inr (.inr (.inr (.inr (fun _ => none))))))] O6) [(q84_41, .inr (5, [.null, .int 0, .int 0, .int 0, .int 0, .int 0, .int 0, .int 0, .int 0]))]) H_84_41 := hP
  have hD : va_D AA (wapp (wapp [(h0, .inr (9, [.ref (a9_6 0), .ref (a20_11 0), .ref (a31_16 0), .ref (a42_21 0), .ref q50_25, .int 0, .ref (a66_33 0), .ref (a77_38 0), .null, .null, .null, .null, .null, .null])), (q50_25, .inl (ct 4, 3, .inr (.inr (.inr (.inr (fun _ => none))))))] O6) [(q84_41, .inr (5, [.null, .int 0, .int 0, .int 0, .int 0, .int 0, .int 0, .int 0, .int 0]))]) := hD
  refine lv_dup hx hb dX9_init_87 rfl ?_
  have hPc : va_P D vwCl [(q84_41, .inr (5, [.null, .int 0, .int 0, .int 0, .int 0, .int 0, .int 0, .int 0, .int 0]))] H_84_41 := P_right hP
  have hFc := free2 (c := (q84_41, .inr (5, [.null, .int 0, .int 0, .int 0, .int 0, .int 0, .int 0, .int 0, .int 0]))) hD hS hA
  refine va_callv (va_runIN (As := []) (rest := [.ref q84_41, .ref h0]) ⟨hx, hb, hml, hown, htl⟩ (ci_X5 l D ct G q84_41 H_84_41.size (hGE _ (D_last (c := (q84_41, .inr (5, [.null, .int 0, .int 0, .int 0, .int 0, .int 0, .int 0, .int 0, .int 0]))) hD)) (Nat.le_trans hGs hS.1)) (cwi_X9_X5 htl hN ⟨Nat.le_of_ble_eq_true rfl, Nat.le_of_ble_eq_true rfl⟩) ⟨Bi_blind, Bi_pre hPc hK hN (hX.stay hS hGE)⟩ rfl rfl hl.1 rfl (lv_room (Nat.le_of_ble_eq_true rfl)) dX9_init_88 ⟨Nat.le_of_ble_eq_true rfl, Nat.le_of_ble_eq_true rfl⟩) hS (fun q _ h => hFc q h) hFc (fun a88_43 t H_88_43 locs_88_43 ht hvm hw hB hz1 hk1 hS => ?_)
  obtain ⟨e0_88_43, hP1, hD1⟩ := hB
  rw [ht] at hP1
  obtain ⟨hP, hD⟩ := join2 (c := (q84_41, .inr (5, [.null, .int 0, .int 0, .int 0, .int 0, .int 0, .int 0, .int 0, .int 0]))) hP hD hk1 hFc hP1 hD1
  have hP := P_sw hP
  have hD := D_sw hD
  rw [← e0_88_43]
  have hP : va_P D vwCl (wapp (wapp [(h0, .inr (9, [.ref (a9_6 0), .ref (a20_11 0), .ref (a31_16 0), .ref (a42_21 0), .ref q50_25, .int 0, .ref (a66_33 0), .ref (a77_38 0), .null, .null, .null, .null, .null, .null])), (q50_25, .inl (ct 4, 3, .inr (.inr (.inr (.inr (fun _ => none))))))] (cs5 ct a88_43 i_X5)) O6) H_88_43 := hP
  have hD : va_D AA (wapp (wapp [(h0, .inr (9, [.ref (a9_6 0), .ref (a20_11 0), .ref (a31_16 0), .ref (a42_21 0), .ref q50_25, .int 0, .ref (a66_33 0), .ref (a77_38 0), .null, .null, .null, .null, .null, .null])), (q50_25, .inl (ct 4, 3, .inr (.inr (.inr (.inr (fun _ => none))))))] (cs5 ct a88_43 i_X5)) O6) := hD
  refine W.eq (g2 := F0 m 91 ls [.ref (a88_43 0), .ref h0]) rfl ?_
  refine va_putF (D := D) (tys := tyl ct) (ci := 9) (v := .ref (a88_43 0)) (ty := (.object "QuotedRiver$Stick")) (C := RX9) (T := TX9) (N := 14) hx hb htl inlX9 tyX9 tyX9_ok nmX9 hown hK hP hD hS 0 rfl rfl 8 (by decide) (htl _ wq_2_12) (fun _ h9 => h9) rfl hin rfl (tyX9_ok 8 (by decide)) rfl rfl (Nat.le_of_ble_eq_true rfl) dX9_init_91 (fun H_91_44 locs_91_44 hP hD hS => ?_)
  have hP : va_P D vwCl (wapp (wapp [(h0, .inr (9, [.ref (a9_6 0), .ref (a20_11 0), .ref (a31_16 0), .ref (a42_21 0), .ref q50_25, .int 0, .ref (a66_33 0), .ref (a77_38 0), .ref (a88_43 0), .null, .null, .null, .null, .null])), (q50_25, .inl (ct 4, 3, .inr (.inr (.inr (.inr (fun _ => none))))))] (cs5 ct a88_43 i_X5)) O6) H_91_44 := hP
  have hD : va_D AA (wapp (wapp [(h0, .inr (9, [.ref (a9_6 0), .ref (a20_11 0), .ref (a31_16 0), .ref (a42_21 0), .ref q50_25, .int 0, .ref (a66_33 0), .ref (a77_38 0), .ref (a88_43 0), .null, .null, .null, .null, .null])), (q50_25, .inl (ct 4, 3, .inr (.inr (.inr (.inr (fun _ => none))))))] (cs5 ct a88_43 i_X5)) O6) := hD
  have hP := P_mg hP
  have hD := D_mg hD
  obtain ⟨O7, hO7⟩ : ∃ O : va_W, O = O6 ++ cs5 ct a88_43 i_X5 := ⟨_, rfl⟩
  rw [← hO7] at hP hD
  have hP : va_P D vwCl (wapp [(h0, .inr (9, [.ref (a9_6 0), .ref (a20_11 0), .ref (a31_16 0), .ref (a42_21 0), .ref q50_25, .int 0, .ref (a66_33 0), .ref (a77_38 0), .ref (a88_43 0), .null, .null, .null, .null, .null])), (q50_25, .inl (ct 4, 3, .inr (.inr (.inr (.inr (fun _ => none))))))] O7) H_91_44 := hP
  have hD : va_D AA (wapp [(h0, .inr (9, [.ref (a9_6 0), .ref (a20_11 0), .ref (a31_16 0), .ref (a42_21 0), .ref q50_25, .int 0, .ref (a66_33 0), .ref (a77_38 0), .ref (a88_43 0), .null, .null, .null, .null, .null])), (q50_25, .inl (ct 4, 3, .inr (.inr (.inr (.inr (fun _ => none))))))] O7) := hD
  refine lv_aload_n hx hb dX9_init_94 rfl (lv_at hl 0 rfl) ?_
  refine va_new (D := D) (tys := tyl ct) (ci := 5) (fs := [.null, .int 0, .int 0, .int 0, .int 0, .int 0, .int 0, .int 0, .int 0]) (C := RX5) (T := TX5) (N := 9) hx hb htl inlX5 tyX5 tyX5_ok hown (htl _ wq_2_9) (htl _ wq_2_10) (htl _ wq_2_11) hK hP hD hS hA rfl (def_X5) (Nat.le_of_ble_eq_true rfl) (Nat.le_of_ble_eq_true rfl) dX9_init_95 (fun q95_46 H_95_46 hP hD hS => ?_)
  have hP : va_P D vwCl (wapp (wapp [(h0, .inr (9, [.ref (a9_6 0), .ref (a20_11 0), .ref (a31_16 0), .ref (a42_21 0), .ref q50_25, .int 0, .ref (a66_33 0), .ref (a77_38 0), .ref (a88_43 0), .null, .null, .null, .null, .null])), (q50_25, .inl (ct 4, 3, .inr (.inr (.inr (.inr (fun _ => none))))))] O7) [(q95_46, .inr (5, [.null, .int 0, .int 0, .int 0, .int 0, .int 0, .int 0, .int 0, .int 0]))]) H_95_46 := hP
  have hD : va_D AA (wapp (wapp [(h0, .inr (9, [.ref (a9_6 0), .ref (a20_11 0), .ref (a31_16 0), .ref (a42_21 0), .ref q50_25, .int 0, .ref (a66_33 0), .ref (a77_38 0), .ref (a88_43 0), .null, .null, .null, .null, .null])), (q50_25, .inl (ct 4, 3, .inr (.inr (.inr (.inr (fun _ => none))))))] O7) [(q95_46, .inr (5, [.null, .int 0, .int 0, .int 0, .int 0, .int 0, .int 0, .int 0, .int 0]))]) := hD
  refine lv_dup hx hb dX9_init_98 rfl ?_
  have hPc : va_P D vwCl [(q95_46, .inr (5, [.null, .int 0, .int 0, .int 0, .int 0, .int 0, .int 0, .int 0, .int 0]))] H_95_46 := P_right hP
  have hFc := free2 (c := (q95_46, .inr (5, [.null, .int 0, .int 0, .int 0, .int 0, .int 0, .int 0, .int 0, .int 0]))) hD hS hA
  refine va_callv (va_runIN (As := []) (rest := [.ref q95_46, .ref h0]) ⟨hx, hb, hml, hown, htl⟩ (ci_X5 l D ct G q95_46 H_95_46.size (hGE _ (D_last (c := (q95_46, .inr (5, [.null, .int 0, .int 0, .int 0, .int 0, .int 0, .int 0, .int 0, .int 0]))) hD)) (Nat.le_trans hGs hS.1)) (cwi_X9_X5 htl hN ⟨Nat.le_of_ble_eq_true rfl, Nat.le_of_ble_eq_true rfl⟩) ⟨Bi_blind, Bi_pre hPc hK hN (hX.stay hS hGE)⟩ rfl rfl hl.1 rfl (lv_room (Nat.le_of_ble_eq_true rfl)) dX9_init_99 ⟨Nat.le_of_ble_eq_true rfl, Nat.le_of_ble_eq_true rfl⟩) hS (fun q _ h => hFc q h) hFc (fun a99_48 t H_99_48 locs_99_48 ht hvm hw hB hz1 hk1 hS => ?_)
  obtain ⟨e0_99_48, hP1, hD1⟩ := hB
  rw [ht] at hP1
  obtain ⟨hP, hD⟩ := join2 (c := (q95_46, .inr (5, [.null, .int 0, .int 0, .int 0, .int 0, .int 0, .int 0, .int 0, .int 0]))) hP hD hk1 hFc hP1 hD1
  have hP := P_sw hP
  have hD := D_sw hD
  rw [← e0_99_48]
  have hP : va_P D vwCl (wapp (wapp [(h0, .inr (9, [.ref (a9_6 0), .ref (a20_11 0), .ref (a31_16 0), .ref (a42_21 0), .ref q50_25, .int 0, .ref (a66_33 0), .ref (a77_38 0), .ref (a88_43 0), .null, .null, .null, .null, .null])), (q50_25, .inl (ct 4, 3, .inr (.inr (.inr (.inr (fun _ => none))))))] (cs5 ct a99_48 i_X5)) O7) H_99_48 := hP
  have hD : va_D AA (wapp (wapp [(h0, .inr (9, [.ref (a9_6 0), .ref (a20_11 0), .ref (a31_16 0), .ref (a42_21 0), .ref q50_25, .int 0, .ref (a66_33 0), .ref (a77_38 0), .ref (a88_43 0), .null, .null, .null, .null, .null])), (q50_25, .inl (ct 4, 3, .inr (.inr (.inr (.inr (fun _ => none))))))] (cs5 ct a99_48 i_X5)) O7) := hD
  refine W.eq (g2 := F0 m 102 ls [.ref (a99_48 0), .ref h0]) rfl ?_
  refine va_putF (D := D) (tys := tyl ct) (ci := 9) (v := .ref (a99_48 0)) (ty := (.object "QuotedRiver$Stick")) (C := RX9) (T := TX9) (N := 14) hx hb htl inlX9 tyX9 tyX9_ok nmX9 hown hK hP hD hS 0 rfl rfl 9 (by decide) (htl _ wq_2_13) (fun _ h9 => h9) rfl hin rfl (tyX9_ok 9 (by decide)) rfl rfl (Nat.le_of_ble_eq_true rfl) dX9_init_102 (fun H_102_49 locs_102_49 hP hD hS => ?_)
  have hP : va_P D vwCl (wapp (wapp [(h0, .inr (9, [.ref (a9_6 0), .ref (a20_11 0), .ref (a31_16 0), .ref (a42_21 0), .ref q50_25, .int 0, .ref (a66_33 0), .ref (a77_38 0), .ref (a88_43 0), .ref (a99_48 0), .null, .null, .null, .null])), (q50_25, .inl (ct 4, 3, .inr (.inr (.inr (.inr (fun _ => none))))))] (cs5 ct a99_48 i_X5)) O7) H_102_49 := hP
  have hD : va_D AA (wapp (wapp [(h0, .inr (9, [.ref (a9_6 0), .ref (a20_11 0), .ref (a31_16 0), .ref (a42_21 0), .ref q50_25, .int 0, .ref (a66_33 0), .ref (a77_38 0), .ref (a88_43 0), .ref (a99_48 0), .null, .null, .null, .null])), (q50_25, .inl (ct 4, 3, .inr (.inr (.inr (.inr (fun _ => none))))))] (cs5 ct a99_48 i_X5)) O7) := hD
  have hP := P_mg hP
  have hD := D_mg hD
  obtain ⟨O8, hO8⟩ : ∃ O : va_W, O = O7 ++ cs5 ct a99_48 i_X5 := ⟨_, rfl⟩
  rw [← hO8] at hP hD
  have hP : va_P D vwCl (wapp [(h0, .inr (9, [.ref (a9_6 0), .ref (a20_11 0), .ref (a31_16 0), .ref (a42_21 0), .ref q50_25, .int 0, .ref (a66_33 0), .ref (a77_38 0), .ref (a88_43 0), .ref (a99_48 0), .null, .null, .null, .null])), (q50_25, .inl (ct 4, 3, .inr (.inr (.inr (.inr (fun _ => none))))))] O8) H_102_49 := hP
  have hD : va_D AA (wapp [(h0, .inr (9, [.ref (a9_6 0), .ref (a20_11 0), .ref (a31_16 0), .ref (a42_21 0), .ref q50_25, .int 0, .ref (a66_33 0), .ref (a77_38 0), .ref (a88_43 0), .ref (a99_48 0), .null, .null, .null, .null])), (q50_25, .inl (ct 4, 3, .inr (.inr (.inr (.inr (fun _ => none))))))] O8) := hD
  refine lv_aload_n hx hb dX9_init_105 rfl (lv_at hl 0 rfl) ?_
  refine lv_iconst (v := 4) hx hb dX9_init_106 (by decide) ?_
  refine va_newq (D := D) (tys := tyl ct) (C := "QuotedRiver$Row") (N' := 4) hx hb hown (htl _ wq_2_14) hAO3 hK hP hD hS hA (by decide) (by decide) (by decide) (Nat.le_of_ble_eq_true rfl) (Nat.le_of_ble_eq_true rfl) dX9_init_107 (fun q107_52 cA H_107_52 hK1 hP hD hS => ?_)
  obtain rfl := ct_eq5 hK1
  clear hK1
  have hP := P_sw hP
  have hD := D_sw hD
  have hP : va_P D vwCl (wapp [(h0, .inr (9, [.ref (a9_6 0), .ref (a20_11 0), .ref (a31_16 0), .ref (a42_21 0), .ref q50_25, .int 0, .ref (a66_33 0), .ref (a77_38 0), .ref (a88_43 0), .ref (a99_48 0), .null, .null, .null, .null])), (q50_25, .inl (ct 4, 3, .inr (.inr (.inr (.inr (fun _ => none)))))), (q107_52, .inl (ct 5, 4, .inr (.inr (.inr (.inr (fun _ => none))))))] O8) H_107_52 := hP
  have hD : va_D AA (wapp [(h0, .inr (9, [.ref (a9_6 0), .ref (a20_11 0), .ref (a31_16 0), .ref (a42_21 0), .ref q50_25, .int 0, .ref (a66_33 0), .ref (a77_38 0), .ref (a88_43 0), .ref (a99_48 0), .null, .null, .null, .null])), (q50_25, .inl (ct 4, 3, .inr (.inr (.inr (.inr (fun _ => none)))))), (q107_52, .inl (ct 5, 4, .inr (.inr (.inr (.inr (fun _ => none))))))] O8) := hD
  refine va_putF (D := D) (tys := tyl ct) (ci := 9) (v := .ref q107_52) (ty := (.array (.object "QuotedRiver$Row"))) (C := RX9) (T := TX9) (N := 14) hx hb htl inlX9 tyX9 tyX9_ok nmX9 hown hK hP hD hS 0 rfl rfl 10 (by decide) (htl _ wq_2_15) (fun _ h9 => h9) rfl hin rfl (tyX9_ok 10 (by decide)) rfl rfl (Nat.le_of_ble_eq_true rfl) dX9_init_110 (fun H_110_53 locs_110_53 hP hD hS => ?_)
  have hP : va_P D vwCl (wapp [(h0, .inr (9, [.ref (a9_6 0), .ref (a20_11 0), .ref (a31_16 0), .ref (a42_21 0), .ref q50_25, .int 0, .ref (a66_33 0), .ref (a77_38 0), .ref (a88_43 0), .ref (a99_48 0), .ref q107_52, .null, .null, .null])), (q50_25, .inl (ct 4, 3, .inr (.inr (.inr (.inr (fun _ => none)))))), (q107_52, .inl (ct 5, 4, .inr (.inr (.inr (.inr (fun _ => none))))))] O8) H_110_53 := hP
  have hD : va_D AA (wapp [(h0, .inr (9, [.ref (a9_6 0), .ref (a20_11 0), .ref (a31_16 0), .ref (a42_21 0), .ref q50_25, .int 0, .ref (a66_33 0), .ref (a77_38 0), .ref (a88_43 0), .ref (a99_48 0), .ref q107_52, .null, .null, .null])), (q50_25, .inl (ct 4, 3, .inr (.inr (.inr (.inr (fun _ => none)))))), (q107_52, .inl (ct 5, 4, .inr (.inr (.inr (.inr (fun _ => none))))))] O8) := hD
  refine lv_aload_n hx hb dX9_init_113 rfl (lv_at hl 0 rfl) ?_
  refine va_new (D := D) (tys := tyl ct) (ci := 4) (fs := [.int 0, .int 0, .int 0, .null]) (C := RX4) (T := TX4) (N := 4) hx hb htl inlX4 tyX4 tyX4_ok hown (htl _ wq_2_16) (htl _ wq_2_17) (htl _ wq_2_18) hK hP hD hS hA rfl (def_X4) (Nat.le_of_ble_eq_true rfl) (Nat.le_of_ble_eq_true rfl) dX9_init_114 (fun q114_55 H_114_55 hP hD hS => ?_)
  have hP : va_P D vwCl (wapp (wapp [(h0, .inr (9, [.ref (a9_6 0), .ref (a20_11 0), .ref (a31_16 0), .ref (a42_21 0), .ref q50_25, .int 0, .ref (a66_33 0), .ref (a77_38 0), .ref (a88_43 0), .ref (a99_48 0), .ref q107_52, .null, .null, .null])), (q50_25, .inl (ct 4, 3, .inr (.inr (.inr (.inr (fun _ => none)))))), (q107_52, .inl (ct 5, 4, .inr (.inr (.inr (.inr (fun _ => none))))))] O8) [(q114_55, .inr (4, [.int 0, .int 0, .int 0, .null]))]) H_114_55 := hP
  have hD : va_D AA (wapp (wapp [(h0, .inr (9, [.ref (a9_6 0), .ref (a20_11 0), .ref (a31_16 0), .ref (a42_21 0), .ref q50_25, .int 0, .ref (a66_33 0), .ref (a77_38 0), .ref (a88_43 0), .ref (a99_48 0), .ref q107_52, .null, .null, .null])), (q50_25, .inl (ct 4, 3, .inr (.inr (.inr (.inr (fun _ => none)))))), (q107_52, .inl (ct 5, 4, .inr (.inr (.inr (.inr (fun _ => none))))))] O8) [(q114_55, .inr (4, [.int 0, .int 0, .int 0, .null]))]) := hD
  refine lv_dup hx hb dX9_init_117 rfl ?_
  have hPc : va_P D vwCl [(q114_55, .inr (4, [.int 0, .int 0, .int 0, .null]))] H_114_55 := P_right hP
  have hFc := free2 (c := (q114_55, .inr (4, [.int 0, .int 0, .int 0, .null]))) hD hS hA
  refine va_callv (va_runIN (As := []) (rest := [.ref q114_55, .ref h0]) ⟨hx, hb, hml, hown, htl⟩ (ci_X4 l D ct G q114_55 H_114_55.size (hGE _ (D_last (c := (q114_55, .inr (4, [.int 0, .int 0, .int 0, .null]))) hD)) (Nat.le_trans hGs hS.1)) (cwi_X9_X4 htl hN ⟨Nat.le_of_ble_eq_true rfl, Nat.le_of_ble_eq_true rfl⟩) ⟨Bi_blind, Bi_pre hPc hK hN (hX.stay hS hGE)⟩ rfl rfl hl.1 rfl (lv_room (Nat.le_of_ble_eq_true rfl)) dX9_init_118 ⟨Nat.le_of_ble_eq_true rfl, Nat.le_of_ble_eq_true rfl⟩) hS (fun q _ h => hFc q h) hFc (fun a118_57 t H_118_57 locs_118_57 ht hvm hw hB hz1 hk1 hS => ?_)
  obtain ⟨e0_118_57, hP1, hD1⟩ := hB
  rw [ht] at hP1
  obtain ⟨hP, hD⟩ := join2 (c := (q114_55, .inr (4, [.int 0, .int 0, .int 0, .null]))) hP hD hk1 hFc hP1 hD1
  have hP := P_sw hP
  have hD := D_sw hD
  rw [← e0_118_57]
  have hP : va_P D vwCl (wapp (wapp [(h0, .inr (9, [.ref (a9_6 0), .ref (a20_11 0), .ref (a31_16 0), .ref (a42_21 0), .ref q50_25, .int 0, .ref (a66_33 0), .ref (a77_38 0), .ref (a88_43 0), .ref (a99_48 0), .ref q107_52, .null, .null, .null])), (q50_25, .inl (ct 4, 3, .inr (.inr (.inr (.inr (fun _ => none)))))), (q107_52, .inl (ct 5, 4, .inr (.inr (.inr (.inr (fun _ => none))))))] (cs4 ct a118_57 i_X4)) O8) H_118_57 := hP
  have hD : va_D AA (wapp (wapp [(h0, .inr (9, [.ref (a9_6 0), .ref (a20_11 0), .ref (a31_16 0), .ref (a42_21 0), .ref q50_25, .int 0, .ref (a66_33 0), .ref (a77_38 0), .ref (a88_43 0), .ref (a99_48 0), .ref q107_52, .null, .null, .null])), (q50_25, .inl (ct 4, 3, .inr (.inr (.inr (.inr (fun _ => none)))))), (q107_52, .inl (ct 5, 4, .inr (.inr (.inr (.inr (fun _ => none))))))] (cs4 ct a118_57 i_X4)) O8) := hD
  refine W.eq (g2 := F0 m 121 ls [.ref (a118_57 0), .ref h0]) rfl ?_
  refine va_putF (D := D) (tys := tyl ct) (ci := 9) (v := .ref (a118_57 0)) (ty := (.object "QuotedRiver$Sources")) (C := RX9) (T := TX9) (N := 14) hx hb htl inlX9 tyX9 tyX9_ok nmX9 hown hK hP hD hS 0 rfl rfl 11 (by decide) (htl _ wq_2_19) (fun _ h9 => h9) rfl hin rfl (tyX9_ok 11 (by decide)) rfl rfl (Nat.le_of_ble_eq_true rfl) dX9_init_121 (fun H_121_58 locs_121_58 hP hD hS => ?_)
  have hP : va_P D vwCl (wapp (wapp [(h0, .inr (9, [.ref (a9_6 0), .ref (a20_11 0), .ref (a31_16 0), .ref (a42_21 0), .ref q50_25, .int 0, .ref (a66_33 0), .ref (a77_38 0), .ref (a88_43 0), .ref (a99_48 0), .ref q107_52, .ref (a118_57 0), .null, .null])), (q50_25, .inl (ct 4, 3, .inr (.inr (.inr (.inr (fun _ => none)))))), (q107_52, .inl (ct 5, 4, .inr (.inr (.inr (.inr (fun _ => none))))))] (cs4 ct a118_57 i_X4)) O8) H_121_58 := hP
  have hD : va_D AA (wapp (wapp [(h0, .inr (9, [.ref (a9_6 0), .ref (a20_11 0), .ref (a31_16 0), .ref (a42_21 0), .ref q50_25, .int 0, .ref (a66_33 0), .ref (a77_38 0), .ref (a88_43 0), .ref (a99_48 0), .ref q107_52, .ref (a118_57 0), .null, .null])), (q50_25, .inl (ct 4, 3, .inr (.inr (.inr (.inr (fun _ => none)))))), (q107_52, .inl (ct 5, 4, .inr (.inr (.inr (.inr (fun _ => none))))))] (cs4 ct a118_57 i_X4)) O8) := hD
  have hP := P_mg hP
  have hD := D_mg hD
  obtain ⟨O9, hO9⟩ : ∃ O : va_W, O = O8 ++ cs4 ct a118_57 i_X4 := ⟨_, rfl⟩
  rw [← hO9] at hP hD
  have hP : va_P D vwCl (wapp [(h0, .inr (9, [.ref (a9_6 0), .ref (a20_11 0), .ref (a31_16 0), .ref (a42_21 0), .ref q50_25, .int 0, .ref (a66_33 0), .ref (a77_38 0), .ref (a88_43 0), .ref (a99_48 0), .ref q107_52, .ref (a118_57 0), .null, .null])), (q50_25, .inl (ct 4, 3, .inr (.inr (.inr (.inr (fun _ => none)))))), (q107_52, .inl (ct 5, 4, .inr (.inr (.inr (.inr (fun _ => none))))))] O9) H_121_58 := hP
  have hD : va_D AA (wapp [(h0, .inr (9, [.ref (a9_6 0), .ref (a20_11 0), .ref (a31_16 0), .ref (a42_21 0), .ref q50_25, .int 0, .ref (a66_33 0), .ref (a77_38 0), .ref (a88_43 0), .ref (a99_48 0), .ref q107_52, .ref (a118_57 0), .null, .null])), (q50_25, .inl (ct 4, 3, .inr (.inr (.inr (.inr (fun _ => none)))))), (q107_52, .inl (ct 5, 4, .inr (.inr (.inr (.inr (fun _ => none))))))] O9) := hD
  refine lv_aload_n hx hb dX9_init_124 rfl (lv_at hl 0 rfl) ?_
  refine va_new (D := D) (tys := tyl ct) (ci := 0) (fs := [.null, .null, .int 0, .long 0]) (C := RX0) (T := TX0) (N := 4) hx hb htl inlX0 tyX0 tyX0_ok hown (htl _ wq_2_20) (htl _ wq_2_21) (htl _ wq_2_22) hK hP hD hS hA rfl (def_X0) (Nat.le_of_ble_eq_true rfl) (Nat.le_of_ble_eq_true rfl) dX9_init_125 (fun q125_60 H_125_60 hP hD hS => ?_)
  have hP : va_P D vwCl (wapp (wapp [(h0, .inr (9, [.ref (a9_6 0), .ref (a20_11 0), .ref (a31_16 0), .ref (a42_21 0), .ref q50_25, .int 0, .ref (a66_33 0), .ref (a77_38 0), .ref (a88_43 0), .ref (a99_48 0), .ref q107_52, .ref (a118_57 0), .null, .null])), (q50_25, .inl (ct 4, 3, .inr (.inr (.inr (.inr (fun _ => none)))))), (q107_52, .inl (ct 5, 4, .inr (.inr (.inr (.inr (fun _ => none))))))] O9) [(q125_60, .inr (0, [.null, .null, .int 0, .long 0]))]) H_125_60 := hP
  have hD : va_D AA (wapp (wapp [(h0, .inr (9, [.ref (a9_6 0), .ref (a20_11 0), .ref (a31_16 0), .ref (a42_21 0), .ref q50_25, .int 0, .ref (a66_33 0), .ref (a77_38 0), .ref (a88_43 0), .ref (a99_48 0), .ref q107_52, .ref (a118_57 0), .null, .null])), (q50_25, .inl (ct 4, 3, .inr (.inr (.inr (.inr (fun _ => none)))))), (q107_52, .inl (ct 5, 4, .inr (.inr (.inr (.inr (fun _ => none))))))] O9) [(q125_60, .inr (0, [.null, .null, .int 0, .long 0]))]) := hD
  refine lv_dup hx hb dX9_init_128 rfl ?_
  have hPc : va_P D vwCl [(q125_60, .inr (0, [.null, .null, .int 0, .long 0]))] H_125_60 := P_right hP
  have hFc := free2 (c := (q125_60, .inr (0, [.null, .null, .int 0, .long 0]))) hD hS hA
  refine va_callv (va_runIN (As := []) (rest := [.ref q125_60, .ref h0]) ⟨hx, hb, hml, hown, htl⟩ (ci_X0 l D ct G q125_60 H_125_60.size (hGE _ (D_last (c := (q125_60, .inr (0, [.null, .null, .int 0, .long 0]))) hD)) (Nat.le_trans hGs hS.1)) (cwi_X9_X0 htl hN ⟨Nat.le_of_ble_eq_true rfl, Nat.le_of_ble_eq_true rfl⟩) ⟨Bi_blind, Bi_pre hPc hK hN (hX.stay hS hGE)⟩ rfl rfl hl.1 rfl (lv_room (Nat.le_of_ble_eq_true rfl)) dX9_init_129 ⟨Nat.le_of_ble_eq_true rfl, Nat.le_of_ble_eq_true rfl⟩) hS (fun q _ h => hFc q h) hFc (fun a129_62 t H_129_62 locs_129_62 ht hvm hw hB hz1 hk1 hS => ?_)
  obtain ⟨e0_129_62, hP1, hD1⟩ := hB
  rw [ht] at hP1
  obtain ⟨hP, hD⟩ := join2 (c := (q125_60, .inr (0, [.null, .null, .int 0, .long 0]))) hP hD hk1 hFc hP1 hD1
  have hP := P_sw hP
  have hD := D_sw hD
  rw [← e0_129_62]
  have hP : va_P D vwCl (wapp (wapp [(h0, .inr (9, [.ref (a9_6 0), .ref (a20_11 0), .ref (a31_16 0), .ref (a42_21 0), .ref q50_25, .int 0, .ref (a66_33 0), .ref (a77_38 0), .ref (a88_43 0), .ref (a99_48 0), .ref q107_52, .ref (a118_57 0), .null, .null])), (q50_25, .inl (ct 4, 3, .inr (.inr (.inr (.inr (fun _ => none)))))), (q107_52, .inl (ct 5, 4, .inr (.inr (.inr (.inr (fun _ => none))))))] (cs0 ct a129_62 i_X0)) O9) H_129_62 := hP
  have hD : va_D AA (wapp (wapp [(h0, .inr (9, [.ref (a9_6 0), .ref (a20_11 0), .ref (a31_16 0), .ref (a42_21 0), .ref q50_25, .int 0, .ref (a66_33 0), .ref (a77_38 0), .ref (a88_43 0), .ref (a99_48 0), .ref q107_52, .ref (a118_57 0), .null, .null])), (q50_25, .inl (ct 4, 3, .inr (.inr (.inr (.inr (fun _ => none)))))), (q107_52, .inl (ct 5, 4, .inr (.inr (.inr (.inr (fun _ => none))))))] (cs0 ct a129_62 i_X0)) O9) := hD
  refine W.eq (g2 := F0 m 132 ls [.ref (a129_62 0), .ref h0]) rfl ?_
  refine va_putF (D := D) (tys := tyl ct) (ci := 9) (v := .ref (a129_62 0)) (ty := (.object "QuotedRiver$Chances")) (C := RX9) (T := TX9) (N := 14) hx hb htl inlX9 tyX9 tyX9_ok nmX9 hown hK hP hD hS 0 rfl rfl 12 (by decide) (htl _ wq_2_23) (fun _ h9 => h9) rfl hin rfl (tyX9_ok 12 (by decide)) rfl rfl (Nat.le_of_ble_eq_true rfl) dX9_init_132 (fun H_132_63 locs_132_63 hP hD hS => ?_)
  have hP : va_P D vwCl (wapp (wapp [(h0, .inr (9, [.ref (a9_6 0), .ref (a20_11 0), .ref (a31_16 0), .ref (a42_21 0), .ref q50_25, .int 0, .ref (a66_33 0), .ref (a77_38 0), .ref (a88_43 0), .ref (a99_48 0), .ref q107_52, .ref (a118_57 0), .ref (a129_62 0), .null])), (q50_25, .inl (ct 4, 3, .inr (.inr (.inr (.inr (fun _ => none)))))), (q107_52, .inl (ct 5, 4, .inr (.inr (.inr (.inr (fun _ => none))))))] (cs0 ct a129_62 i_X0)) O9) H_132_63 := hP
  have hD : va_D AA (wapp (wapp [(h0, .inr (9, [.ref (a9_6 0), .ref (a20_11 0), .ref (a31_16 0), .ref (a42_21 0), .ref q50_25, .int 0, .ref (a66_33 0), .ref (a77_38 0), .ref (a88_43 0), .ref (a99_48 0), .ref q107_52, .ref (a118_57 0), .ref (a129_62 0), .null])), (q50_25, .inl (ct 4, 3, .inr (.inr (.inr (.inr (fun _ => none)))))), (q107_52, .inl (ct 5, 4, .inr (.inr (.inr (.inr (fun _ => none))))))] (cs0 ct a129_62 i_X0)) O9) := hD
  have hP := P_mg hP
  have hD := D_mg hD
  obtain ⟨O10, hO10⟩ : ∃ O : va_W, O = O9 ++ cs0 ct a129_62 i_X0 := ⟨_, rfl⟩
  rw [← hO10] at hP hD
  have hP : va_P D vwCl (wapp [(h0, .inr (9, [.ref (a9_6 0), .ref (a20_11 0), .ref (a31_16 0), .ref (a42_21 0), .ref q50_25, .int 0, .ref (a66_33 0), .ref (a77_38 0), .ref (a88_43 0), .ref (a99_48 0), .ref q107_52, .ref (a118_57 0), .ref (a129_62 0), .null])), (q50_25, .inl (ct 4, 3, .inr (.inr (.inr (.inr (fun _ => none)))))), (q107_52, .inl (ct 5, 4, .inr (.inr (.inr (.inr (fun _ => none))))))] O10) H_132_63 := hP
  have hD : va_D AA (wapp [(h0, .inr (9, [.ref (a9_6 0), .ref (a20_11 0), .ref (a31_16 0), .ref (a42_21 0), .ref q50_25, .int 0, .ref (a66_33 0), .ref (a77_38 0), .ref (a88_43 0), .ref (a99_48 0), .ref q107_52, .ref (a118_57 0), .ref (a129_62 0), .null])), (q50_25, .inl (ct 4, 3, .inr (.inr (.inr (.inr (fun _ => none)))))), (q107_52, .inl (ct 5, 4, .inr (.inr (.inr (.inr (fun _ => none))))))] O10) := hD
  refine lv_aload_n hx hb dX9_init_135 rfl (lv_at hl 0 rfl) ?_
  refine lv_bipush (v := 61) hx hb dX9_init_136 (by decide) ?_
  refine va_newa (D := D) (tys := tyl ct) (atype := .int) (ty := .int) (N' := 61) (a0 := (61, .inl (fun _ => 0))) hx hb (htl _ wq_3_0) rfl hK hP hD hS hA (fun _ => rfl) (by decide) (by decide) (by decide) (Nat.le_of_ble_eq_true rfl) (Nat.le_of_ble_eq_true rfl) dX9_init_138 (fun q138_66 cA H_138_66 hK1 hP hD hS => ?_)
  obtain rfl := ct_eq0 hK1
  clear hK1
  have hP := P_sw hP
  have hD := D_sw hD
  have hP : va_P D vwCl (wapp [(h0, .inr (9, [.ref (a9_6 0), .ref (a20_11 0), .ref (a31_16 0), .ref (a42_21 0), .ref q50_25, .int 0, .ref (a66_33 0), .ref (a77_38 0), .ref (a88_43 0), .ref (a99_48 0), .ref q107_52, .ref (a118_57 0), .ref (a129_62 0), .null])), (q50_25, .inl (ct 4, 3, .inr (.inr (.inr (.inr (fun _ => none)))))), (q107_52, .inl (ct 5, 4, .inr (.inr (.inr (.inr (fun _ => none)))))), (q138_66, .inl (ct 0, 61, .inl (fun _ => 0)))] O10) H_138_66 := hP
  have hD : va_D AA (wapp [(h0, .inr (9, [.ref (a9_6 0), .ref (a20_11 0), .ref (a31_16 0), .ref (a42_21 0), .ref q50_25, .int 0, .ref (a66_33 0), .ref (a77_38 0), .ref (a88_43 0), .ref (a99_48 0), .ref q107_52, .ref (a118_57 0), .ref (a129_62 0), .null])), (q50_25, .inl (ct 4, 3, .inr (.inr (.inr (.inr (fun _ => none)))))), (q107_52, .inl (ct 5, 4, .inr (.inr (.inr (.inr (fun _ => none)))))), (q138_66, .inl (ct 0, 61, .inl (fun _ => 0)))] O10) := hD
  refine va_putF (D := D) (tys := tyl ct) (ci := 9) (v := .ref q138_66) (ty := (.array .int)) (C := RX9) (T := TX9) (N := 14) hx hb htl inlX9 tyX9 tyX9_ok nmX9 hown hK hP hD hS 0 rfl rfl 13 (by decide) (htl _ wq_3_1) (fun _ h9 => h9) rfl hin rfl (tyX9_ok 13 (by decide)) rfl rfl (Nat.le_of_ble_eq_true rfl) dX9_init_140 (fun H_140_67 locs_140_67 hP hD hS => ?_)
  have hP : va_P D vwCl (wapp [(h0, .inr (9, [.ref (a9_6 0), .ref (a20_11 0), .ref (a31_16 0), .ref (a42_21 0), .ref q50_25, .int 0, .ref (a66_33 0), .ref (a77_38 0), .ref (a88_43 0), .ref (a99_48 0), .ref q107_52, .ref (a118_57 0), .ref (a129_62 0), .ref q138_66])), (q50_25, .inl (ct 4, 3, .inr (.inr (.inr (.inr (fun _ => none)))))), (q107_52, .inl (ct 5, 4, .inr (.inr (.inr (.inr (fun _ => none)))))), (q138_66, .inl (ct 0, 61, .inl (fun _ => 0)))] O10) H_140_67 := hP
  have hD : va_D AA (wapp [(h0, .inr (9, [.ref (a9_6 0), .ref (a20_11 0), .ref (a31_16 0), .ref (a42_21 0), .ref q50_25, .int 0, .ref (a66_33 0), .ref (a77_38 0), .ref (a88_43 0), .ref (a99_48 0), .ref q107_52, .ref (a118_57 0), .ref (a129_62 0), .ref q138_66])), (q50_25, .inl (ct 4, 3, .inr (.inr (.inr (.inr (fun _ => none)))))), (q107_52, .inl (ct 5, 4, .inr (.inr (.inr (.inr (fun _ => none)))))), (q138_66, .inl (ct 0, 61, .inl (fun _ => 0)))] O10) := hD
  refine lv_iconst (v := 0) hx hb dX9_init_143 (by decide) ?_
  refine lv_istore_n (lv' := [(1, .int 0), (0, .ref h0)]) hx hb dX9_init_144 rfl hl (by decide) rfl (fun ls hl => ?_)
  refine lv_iload_n hx hb dX9_init_145 rfl (lv_at hl 0 rfl) ?_
  refine lv_aload_n hx hb dX9_init_146 rfl (lv_at hl 1 rfl) ?_
  refine va_get (D := D) (tys := tyl ct) (ci := 9) (v := .ref q50_25) (C := RX9) (T := TX9) (N := 14) hx hb htl inlX9 hown hK hP 0 rfl rfl 4 (by decide) (htl _ wq_2_2) (fun _ h9 => h9) rfl dX9_init_147 ?_
  refine va_alen (D := D) (tys := tyl ct) (v := 3) hx hb hK hP 1 4 rfl rfl rfl dX9_init_150 ?_
  refine lv_icmp_ge (tgt := 173) hx hb dX9_init_151 (by decide) (fun c_151_74 => absurd c_151_74 (by decide)) (fun c_151_74 => ?_)
  refine lv_aload_n hx hb dX9_init_154 rfl (lv_at hl 1 rfl) ?_
  refine va_get (D := D) (tys := tyl ct) (ci := 9) (v := .ref q50_25) (C := RX9) (T := TX9) (N := 14) hx hb htl inlX9 hown hK hP 0 rfl rfl 4 (by decide) (htl _ wq_2_2) (fun _ h9 => h9) rfl dX9_init_155 ?_
  refine lv_iload_n hx hb dX9_init_158 rfl (lv_at hl 0 rfl) ?_
  refine va_new (D := D) (tys := tyl ct) (ci := 2) (fs := [.int 0, .int 0, .int 0, .int 0, .int 0, .null, .null, .null, .int 0, .null, .null, .null, .null, .int 0, .null, .null, .int 0, .null, .null, .null]) (C := RX2) (T := TX2) (N := 20) hx hb htl inlX2 tyX2 tyX2_ok hown (htl _ wq_1_21) (htl _ wq_1_22) (htl _ wq_1_23) hK hP hD hS hA rfl (def_X2) (Nat.le_of_ble_eq_true rfl) (Nat.le_of_ble_eq_true rfl) dX9_init_159 (fun q159_78 H_159_78 hP hD hS => ?_)
  have hP : va_P D vwCl (wapp (wapp [(h0, .inr (9, [.ref (a9_6 0), .ref (a20_11 0), .ref (a31_16 0), .ref (a42_21 0), .ref q50_25, .int 0, .ref (a66_33 0), .ref (a77_38 0), .ref (a88_43 0), .ref (a99_48 0), .ref q107_52, .ref (a118_57 0), .ref (a129_62 0), .ref q138_66])), (q50_25, .inl (ct 4, 3, .inr (.inr (.inr (.inr (fun _ => none)))))), (q107_52, .inl (ct 5, 4, .inr (.inr (.inr (.inr (fun _ => none)))))), (q138_66, .inl (ct 0, 61, .inl (fun _ => 0)))] O10) [(q159_78, .inr (2, [.int 0, .int 0, .int 0, .int 0, .int 0, .null, .null, .null, .int 0, .null, .null, .null, .null, .int 0, .null, .null, .int 0, .null, .null, .null]))]) H_159_78 := hP
  have hD : va_D AA (wapp (wapp [(h0, .inr (9, [.ref (a9_6 0), .ref (a20_11 0), .ref (a31_16 0), .ref (a42_21 0), .ref q50_25, .int 0, .ref (a66_33 0), .ref (a77_38 0), .ref (a88_43 0), .ref (a99_48 0), .ref q107_52, .ref (a118_57 0), .ref (a129_62 0), .ref q138_66])), (q50_25, .inl (ct 4, 3, .inr (.inr (.inr (.inr (fun _ => none)))))), (q107_52, .inl (ct 5, 4, .inr (.inr (.inr (.inr (fun _ => none)))))), (q138_66, .inl (ct 0, 61, .inl (fun _ => 0)))] O10) [(q159_78, .inr (2, [.int 0, .int 0, .int 0, .int 0, .int 0, .null, .null, .null, .int 0, .null, .null, .null, .null, .int 0, .null, .null, .int 0, .null, .null, .null]))]) := hD
  refine lv_dup hx hb dX9_init_162 rfl ?_
  have hPc : va_P D vwCl [(q159_78, .inr (2, [.int 0, .int 0, .int 0, .int 0, .int 0, .null, .null, .null, .int 0, .null, .null, .null, .null, .int 0, .null, .null, .int 0, .null, .null, .null]))] H_159_78 := P_right hP
  have hFc := free2 (c := (q159_78, .inr (2, [.int 0, .int 0, .int 0, .int 0, .int 0, .null, .null, .null, .int 0, .null, .null, .null, .null, .int 0, .null, .null, .int 0, .null, .null, .null]))) hD hS hA
  refine va_callv (va_runIN (As := []) (rest := [.ref q159_78, .int 0, .ref q50_25]) ⟨hx, hb, hml, hown, htl⟩ (ci_X2 l D ct G q159_78 H_159_78.size (hGE _ (D_last (c := (q159_78, .inr (2, [.int 0, .int 0, .int 0, .int 0, .int 0, .null, .null, .null, .int 0, .null, .null, .null, .null, .int 0, .null, .null, .int 0, .null, .null, .null]))) hD)) (Nat.le_trans hGs hS.1)) (cwi_X9_X2 htl hN ⟨Nat.le_of_ble_eq_true rfl, Nat.le_of_ble_eq_true rfl⟩) ⟨Bi_blind, Bi_pre hPc hK hN (hX.stay hS hGE)⟩ rfl rfl hl.1 rfl (lv_room (Nat.le_of_ble_eq_true rfl)) dX9_init_163 ⟨Nat.le_of_ble_eq_true rfl, Nat.le_of_ble_eq_true rfl⟩) hS (fun q _ h => hFc q h) hFc (fun a163_80 t H_163_80 locs_163_80 ht hvm hw hB hz1 hk1 hS => ?_)
  obtain ⟨e0_163_80, hP1, hD1⟩ := hB
  rw [ht] at hP1
  obtain ⟨hP, hD⟩ := join2 (c := (q159_78, .inr (2, [.int 0, .int 0, .int 0, .int 0, .int 0, .null, .null, .null, .int 0, .null, .null, .null, .null, .int 0, .null, .null, .int 0, .null, .null, .null]))) hP hD hk1 hFc hP1 hD1
  have hP := P_sw hP
  have hD := D_sw hD
  rw [← e0_163_80]
  have hP : va_P D vwCl (wapp (wapp [(h0, .inr (9, [.ref (a9_6 0), .ref (a20_11 0), .ref (a31_16 0), .ref (a42_21 0), .ref q50_25, .int 0, .ref (a66_33 0), .ref (a77_38 0), .ref (a88_43 0), .ref (a99_48 0), .ref q107_52, .ref (a118_57 0), .ref (a129_62 0), .ref q138_66])), (q50_25, .inl (ct 4, 3, .inr (.inr (.inr (.inr (fun _ => none)))))), (q107_52, .inl (ct 5, 4, .inr (.inr (.inr (.inr (fun _ => none)))))), (q138_66, .inl (ct 0, 61, .inl (fun _ => 0)))] (cs2 ct a163_80 i_X2)) O10) H_163_80 := hP
  have hD : va_D AA (wapp (wapp [(h0, .inr (9, [.ref (a9_6 0), .ref (a20_11 0), .ref (a31_16 0), .ref (a42_21 0), .ref q50_25, .int 0, .ref (a66_33 0), .ref (a77_38 0), .ref (a88_43 0), .ref (a99_48 0), .ref q107_52, .ref (a118_57 0), .ref (a129_62 0), .ref q138_66])), (q50_25, .inl (ct 4, 3, .inr (.inr (.inr (.inr (fun _ => none)))))), (q107_52, .inl (ct 5, 4, .inr (.inr (.inr (.inr (fun _ => none)))))), (q138_66, .inl (ct 0, 61, .inl (fun _ => 0)))] (cs2 ct a163_80 i_X2)) O10) := hD
  refine W.eq (g2 := F0 m 166 ls [.ref (a163_80 0), .int 0, .ref q50_25]) rfl ?_
  refine va_astq (D := D) (tys := tyl ct) (r := (RX2, TX2, 20)) hx hb hK hP hD hS 1 4 4 2 rfl rfl rfl rfl (vp_in_iff.mpr (by decide)) dX9_init_166 (fun H_166_81 locs_166_81 hP hD hS => ?_)
  have hP : va_P D vwCl (wapp (wapp [(h0, .inr (9, [.ref (a9_6 0), .ref (a20_11 0), .ref (a31_16 0), .ref (a42_21 0), .ref q50_25, .int 0, .ref (a66_33 0), .ref (a77_38 0), .ref (a88_43 0), .ref (a99_48 0), .ref q107_52, .ref (a118_57 0), .ref (a129_62 0), .ref q138_66])), (q50_25, .inl (ct 4, 3, .inr (.inr (.inr (.inr (va_up (fun _ => none) 0 (some (a163_80 0)))))))), (q107_52, .inl (ct 5, 4, .inr (.inr (.inr (.inr (fun _ => none)))))), (q138_66, .inl (ct 0, 61, .inl (fun _ => 0)))] (cs2 ct a163_80 i_X2)) O10) H_166_81 := hP
  have hD : va_D AA (wapp (wapp [(h0, .inr (9, [.ref (a9_6 0), .ref (a20_11 0), .ref (a31_16 0), .ref (a42_21 0), .ref q50_25, .int 0, .ref (a66_33 0), .ref (a77_38 0), .ref (a88_43 0), .ref (a99_48 0), .ref q107_52, .ref (a118_57 0), .ref (a129_62 0), .ref q138_66])), (q50_25, .inl (ct 4, 3, .inr (.inr (.inr (.inr (va_up (fun _ => none) 0 (some (a163_80 0)))))))), (q107_52, .inl (ct 5, 4, .inr (.inr (.inr (.inr (fun _ => none)))))), (q138_66, .inl (ct 0, 61, .inl (fun _ => 0)))] (cs2 ct a163_80 i_X2)) O10) := hD
  have hP := P_mg hP
  have hD := D_mg hD
  obtain ⟨O11, hO11⟩ : ∃ O : va_W, O = O10 ++ cs2 ct a163_80 i_X2 := ⟨_, rfl⟩
  rw [← hO11] at hP hD
  have hP : va_P D vwCl (wapp [(h0, .inr (9, [.ref (a9_6 0), .ref (a20_11 0), .ref (a31_16 0), .ref (a42_21 0), .ref q50_25, .int 0, .ref (a66_33 0), .ref (a77_38 0), .ref (a88_43 0), .ref (a99_48 0), .ref q107_52, .ref (a118_57 0), .ref (a129_62 0), .ref q138_66])), (q50_25, .inl (ct 4, 3, .inr (.inr (.inr (.inr (va_up (fun _ => none) 0 (some (a163_80 0)))))))), (q107_52, .inl (ct 5, 4, .inr (.inr (.inr (.inr (fun _ => none)))))), (q138_66, .inl (ct 0, 61, .inl (fun _ => 0)))] O11) H_166_81 := hP
  have hD : va_D AA (wapp [(h0, .inr (9, [.ref (a9_6 0), .ref (a20_11 0), .ref (a31_16 0), .ref (a42_21 0), .ref q50_25, .int 0, .ref (a66_33 0), .ref (a77_38 0), .ref (a88_43 0), .ref (a99_48 0), .ref q107_52, .ref (a118_57 0), .ref (a129_62 0), .ref q138_66])), (q50_25, .inl (ct 4, 3, .inr (.inr (.inr (.inr (va_up (fun _ => none) 0 (some (a163_80 0)))))))), (q107_52, .inl (ct 5, 4, .inr (.inr (.inr (.inr (fun _ => none)))))), (q138_66, .inl (ct 0, 61, .inl (fun _ => 0)))] O11) := hD
  refine lv_iinc (v := 1) (lv' := [(1, .int 1), (0, .ref h0)]) hx hb dX9_init_167 hl (k := 0) rfl (by decide) (by decide) rfl (fun ls hl => ?_)
  refine lv_goto (tgt := 145) hx hb dX9_init_170 (by decide) ?_
  refine lv_iload_n hx hb dX9_init_145 rfl (lv_at hl 0 rfl) ?_
  refine lv_aload_n hx hb dX9_init_146 rfl (lv_at hl 1 rfl) ?_
  refine va_get (D := D) (tys := tyl ct) (ci := 9) (v := .ref q50_25) (C := RX9) (T := TX9) (N := 14) hx hb htl inlX9 hown hK hP 0 rfl rfl 4 (by decide) (htl _ wq_2_2) (fun _ h9 => h9) rfl dX9_init_147 ?_
  refine va_alen (D := D) (tys := tyl ct) (v := 3) hx hb hK hP 1 4 rfl rfl rfl dX9_init_150 ?_
  refine lv_icmp_ge (tgt := 173) hx hb dX9_init_151 (by decide) (fun c_151_88 => absurd c_151_88 (by decide)) (fun c_151_88 => ?_)
  refine lv_aload_n hx hb dX9_init_154 rfl (lv_at hl 1 rfl) ?_
  refine va_get (D := D) (tys := tyl ct) (ci := 9) (v := .ref q50_25) (C := RX9) (T := TX9) (N := 14) hx hb htl inlX9 hown hK hP 0 rfl rfl 4 (by decide) (htl _ wq_2_2) (fun _ h9 => h9) rfl dX9_init_155 ?_
  refine lv_iload_n hx hb dX9_init_158 rfl (lv_at hl 0 rfl) ?_
  refine va_new (D := D) (tys := tyl ct) (ci := 2) (fs := [.int 0, .int 0, .int 0, .int 0, .int 0, .null, .null, .null, .int 0, .null, .null, .null, .null, .int 0, .null, .null, .int 0, .null, .null, .null]) (C := RX2) (T := TX2) (N := 20) hx hb htl inlX2 tyX2 tyX2_ok hown (htl _ wq_1_21) (htl _ wq_1_22) (htl _ wq_1_23) hK hP hD hS hA rfl (def_X2) (Nat.le_of_ble_eq_true rfl) (Nat.le_of_ble_eq_true rfl) dX9_init_159 (fun q159_92 H_159_92 hP hD hS => ?_)
  have hP : va_P D vwCl (wapp (wapp [(h0, .inr (9, [.ref (a9_6 0), .ref (a20_11 0), .ref (a31_16 0), .ref (a42_21 0), .ref q50_25, .int 0, .ref (a66_33 0), .ref (a77_38 0), .ref (a88_43 0), .ref (a99_48 0), .ref q107_52, .ref (a118_57 0), .ref (a129_62 0), .ref q138_66])), (q50_25, .inl (ct 4, 3, .inr (.inr (.inr (.inr (va_up (fun _ => none) 0 (some (a163_80 0)))))))), (q107_52, .inl (ct 5, 4, .inr (.inr (.inr (.inr (fun _ => none)))))), (q138_66, .inl (ct 0, 61, .inl (fun _ => 0)))] O11) [(q159_92, .inr (2, [.int 0, .int 0, .int 0, .int 0, .int 0, .null, .null, .null, .int 0, .null, .null, .null, .null, .int 0, .null, .null, .int 0, .null, .null, .null]))]) H_159_92 := hP
  have hD : va_D AA (wapp (wapp [(h0, .inr (9, [.ref (a9_6 0), .ref (a20_11 0), .ref (a31_16 0), .ref (a42_21 0), .ref q50_25, .int 0, .ref (a66_33 0), .ref (a77_38 0), .ref (a88_43 0), .ref (a99_48 0), .ref q107_52, .ref (a118_57 0), .ref (a129_62 0), .ref q138_66])), (q50_25, .inl (ct 4, 3, .inr (.inr (.inr (.inr (va_up (fun _ => none) 0 (some (a163_80 0)))))))), (q107_52, .inl (ct 5, 4, .inr (.inr (.inr (.inr (fun _ => none)))))), (q138_66, .inl (ct 0, 61, .inl (fun _ => 0)))] O11) [(q159_92, .inr (2, [.int 0, .int 0, .int 0, .int 0, .int 0, .null, .null, .null, .int 0, .null, .null, .null, .null, .int 0, .null, .null, .int 0, .null, .null, .null]))]) := hD
  refine lv_dup hx hb dX9_init_162 rfl ?_
  have hPc : va_P D vwCl [(q159_92, .inr (2, [.int 0, .int 0, .int 0, .int 0, .int 0, .null, .null, .null, .int 0, .null, .null, .null, .null, .int 0, .null, .null, .int 0, .null, .null, .null]))] H_159_92 := P_right hP
  have hFc := free2 (c := (q159_92, .inr (2, [.int 0, .int 0, .int 0, .int 0, .int 0, .null, .null, .null, .int 0, .null, .null, .null, .null, .int 0, .null, .null, .int 0, .null, .null, .null]))) hD hS hA
  refine va_callv (va_runIN (As := []) (rest := [.ref q159_92, .int 1, .ref q50_25]) ⟨hx, hb, hml, hown, htl⟩ (ci_X2 l D ct G q159_92 H_159_92.size (hGE _ (D_last (c := (q159_92, .inr (2, [.int 0, .int 0, .int 0, .int 0, .int 0, .null, .null, .null, .int 0, .null, .null, .null, .null, .int 0, .null, .null, .int 0, .null, .null, .null]))) hD)) (Nat.le_trans hGs hS.1)) (cwi_X9_X2 htl hN ⟨Nat.le_of_ble_eq_true rfl, Nat.le_of_ble_eq_true rfl⟩) ⟨Bi_blind, Bi_pre hPc hK hN (hX.stay hS hGE)⟩ rfl rfl hl.1 rfl (lv_room (Nat.le_of_ble_eq_true rfl)) dX9_init_163 ⟨Nat.le_of_ble_eq_true rfl, Nat.le_of_ble_eq_true rfl⟩) hS (fun q _ h => hFc q h) hFc (fun a163_94 t H_163_94 locs_163_94 ht hvm hw hB hz1 hk1 hS => ?_)
  obtain ⟨e0_163_94, hP1, hD1⟩ := hB
  rw [ht] at hP1
  obtain ⟨hP, hD⟩ := join2 (c := (q159_92, .inr (2, [.int 0, .int 0, .int 0, .int 0, .int 0, .null, .null, .null, .int 0, .null, .null, .null, .null, .int 0, .null, .null, .int 0, .null, .null, .null]))) hP hD hk1 hFc hP1 hD1
  have hP := P_sw hP
  have hD := D_sw hD
  rw [← e0_163_94]
  have hP : va_P D vwCl (wapp (wapp [(h0, .inr (9, [.ref (a9_6 0), .ref (a20_11 0), .ref (a31_16 0), .ref (a42_21 0), .ref q50_25, .int 0, .ref (a66_33 0), .ref (a77_38 0), .ref (a88_43 0), .ref (a99_48 0), .ref q107_52, .ref (a118_57 0), .ref (a129_62 0), .ref q138_66])), (q50_25, .inl (ct 4, 3, .inr (.inr (.inr (.inr (va_up (fun _ => none) 0 (some (a163_80 0)))))))), (q107_52, .inl (ct 5, 4, .inr (.inr (.inr (.inr (fun _ => none)))))), (q138_66, .inl (ct 0, 61, .inl (fun _ => 0)))] (cs2 ct a163_94 i_X2)) O11) H_163_94 := hP
  have hD : va_D AA (wapp (wapp [(h0, .inr (9, [.ref (a9_6 0), .ref (a20_11 0), .ref (a31_16 0), .ref (a42_21 0), .ref q50_25, .int 0, .ref (a66_33 0), .ref (a77_38 0), .ref (a88_43 0), .ref (a99_48 0), .ref q107_52, .ref (a118_57 0), .ref (a129_62 0), .ref q138_66])), (q50_25, .inl (ct 4, 3, .inr (.inr (.inr (.inr (va_up (fun _ => none) 0 (some (a163_80 0)))))))), (q107_52, .inl (ct 5, 4, .inr (.inr (.inr (.inr (fun _ => none)))))), (q138_66, .inl (ct 0, 61, .inl (fun _ => 0)))] (cs2 ct a163_94 i_X2)) O11) := hD
  refine W.eq (g2 := F0 m 166 ls [.ref (a163_94 0), .int 1, .ref q50_25]) rfl ?_
  refine va_astq (D := D) (tys := tyl ct) (r := (RX2, TX2, 20)) hx hb hK hP hD hS 1 4 4 2 rfl rfl rfl rfl (vp_in_iff.mpr (by decide)) dX9_init_166 (fun H_166_95 locs_166_95 hP hD hS => ?_)
  have hP : va_P D vwCl (wapp (wapp [(h0, .inr (9, [.ref (a9_6 0), .ref (a20_11 0), .ref (a31_16 0), .ref (a42_21 0), .ref q50_25, .int 0, .ref (a66_33 0), .ref (a77_38 0), .ref (a88_43 0), .ref (a99_48 0), .ref q107_52, .ref (a118_57 0), .ref (a129_62 0), .ref q138_66])), (q50_25, .inl (ct 4, 3, .inr (.inr (.inr (.inr (va_up (va_up (fun _ => none) 0 (some (a163_80 0))) 1 (some (a163_94 0)))))))), (q107_52, .inl (ct 5, 4, .inr (.inr (.inr (.inr (fun _ => none)))))), (q138_66, .inl (ct 0, 61, .inl (fun _ => 0)))] (cs2 ct a163_94 i_X2)) O11) H_166_95 := hP
  have hD : va_D AA (wapp (wapp [(h0, .inr (9, [.ref (a9_6 0), .ref (a20_11 0), .ref (a31_16 0), .ref (a42_21 0), .ref q50_25, .int 0, .ref (a66_33 0), .ref (a77_38 0), .ref (a88_43 0), .ref (a99_48 0), .ref q107_52, .ref (a118_57 0), .ref (a129_62 0), .ref q138_66])), (q50_25, .inl (ct 4, 3, .inr (.inr (.inr (.inr (va_up (va_up (fun _ => none) 0 (some (a163_80 0))) 1 (some (a163_94 0)))))))), (q107_52, .inl (ct 5, 4, .inr (.inr (.inr (.inr (fun _ => none)))))), (q138_66, .inl (ct 0, 61, .inl (fun _ => 0)))] (cs2 ct a163_94 i_X2)) O11) := hD
  have hP := P_mg hP
  have hD := D_mg hD
  obtain ⟨O12, hO12⟩ : ∃ O : va_W, O = O11 ++ cs2 ct a163_94 i_X2 := ⟨_, rfl⟩
  rw [← hO12] at hP hD
  have hP : va_P D vwCl (wapp [(h0, .inr (9, [.ref (a9_6 0), .ref (a20_11 0), .ref (a31_16 0), .ref (a42_21 0), .ref q50_25, .int 0, .ref (a66_33 0), .ref (a77_38 0), .ref (a88_43 0), .ref (a99_48 0), .ref q107_52, .ref (a118_57 0), .ref (a129_62 0), .ref q138_66])), (q50_25, .inl (ct 4, 3, .inr (.inr (.inr (.inr (va_up (va_up (fun _ => none) 0 (some (a163_80 0))) 1 (some (a163_94 0)))))))), (q107_52, .inl (ct 5, 4, .inr (.inr (.inr (.inr (fun _ => none)))))), (q138_66, .inl (ct 0, 61, .inl (fun _ => 0)))] O12) H_166_95 := hP
  have hD : va_D AA (wapp [(h0, .inr (9, [.ref (a9_6 0), .ref (a20_11 0), .ref (a31_16 0), .ref (a42_21 0), .ref q50_25, .int 0, .ref (a66_33 0), .ref (a77_38 0), .ref (a88_43 0), .ref (a99_48 0), .ref q107_52, .ref (a118_57 0), .ref (a129_62 0), .ref q138_66])), (q50_25, .inl (ct 4, 3, .inr (.inr (.inr (.inr (va_up (va_up (fun _ => none) 0 (some (a163_80 0))) 1 (some (a163_94 0)))))))), (q107_52, .inl (ct 5, 4, .inr (.inr (.inr (.inr (fun _ => none)))))), (q138_66, .inl (ct 0, 61, .inl (fun _ => 0)))] O12) := hD
  refine lv_iinc (v := 2) (lv' := [(1, .int 2), (0, .ref h0)]) hx hb dX9_init_167 hl (k := 0) rfl (by decide) (by decide) rfl (fun ls hl => ?_)
  refine lv_goto (tgt := 145) hx hb dX9_init_170 (by decide) ?_
  refine lv_iload_n hx hb dX9_init_145 rfl (lv_at hl 0 rfl) ?_
  refine lv_aload_n hx hb dX9_init_146 rfl (lv_at hl 1 rfl) ?_
  refine va_get (D := D) (tys := tyl ct) (ci := 9) (v := .ref q50_25) (C := RX9) (T := TX9) (N := 14) hx hb htl inlX9 hown hK hP 0 rfl rfl 4 (by decide) (htl _ wq_2_2) (fun _ h9 => h9) rfl dX9_init_147 ?_
  refine va_alen (D := D) (tys := tyl ct) (v := 3) hx hb hK hP 1 4 rfl rfl rfl dX9_init_150 ?_
  refine lv_icmp_ge (tgt := 173) hx hb dX9_init_151 (by decide) (fun c_151_102 => absurd c_151_102 (by decide)) (fun c_151_102 => ?_)
  refine lv_aload_n hx hb dX9_init_154 rfl (lv_at hl 1 rfl) ?_
  refine va_get (D := D) (tys := tyl ct) (ci := 9) (v := .ref q50_25) (C := RX9) (T := TX9) (N := 14) hx hb htl inlX9 hown hK hP 0 rfl rfl 4 (by decide) (htl _ wq_2_2) (fun _ h9 => h9) rfl dX9_init_155 ?_
  refine lv_iload_n hx hb dX9_init_158 rfl (lv_at hl 0 rfl) ?_
  refine va_new (D := D) (tys := tyl ct) (ci := 2) (fs := [.int 0, .int 0, .int 0, .int 0, .int 0, .null, .null, .null, .int 0, .null, .null, .null, .null, .int 0, .null, .null, .int 0, .null, .null, .null]) (C := RX2) (T := TX2) (N := 20) hx hb htl inlX2 tyX2 tyX2_ok hown (htl _ wq_1_21) (htl _ wq_1_22) (htl _ wq_1_23) hK hP hD hS hA rfl (def_X2) (Nat.le_of_ble_eq_true rfl) (Nat.le_of_ble_eq_true rfl) dX9_init_159 (fun q159_106 H_159_106 hP hD hS => ?_)
  have hP : va_P D vwCl (wapp (wapp [(h0, .inr (9, [.ref (a9_6 0), .ref (a20_11 0), .ref (a31_16 0), .ref (a42_21 0), .ref q50_25, .int 0, .ref (a66_33 0), .ref (a77_38 0), .ref (a88_43 0), .ref (a99_48 0), .ref q107_52, .ref (a118_57 0), .ref (a129_62 0), .ref q138_66])), (q50_25, .inl (ct 4, 3, .inr (.inr (.inr (.inr (va_up (va_up (fun _ => none) 0 (some (a163_80 0))) 1 (some (a163_94 0)))))))), (q107_52, .inl (ct 5, 4, .inr (.inr (.inr (.inr (fun _ => none)))))), (q138_66, .inl (ct 0, 61, .inl (fun _ => 0)))] O12) [(q159_106, .inr (2, [.int 0, .int 0, .int 0, .int 0, .int 0, .null, .null, .null, .int 0, .null, .null, .null, .null, .int 0, .null, .null, .int 0, .null, .null, .null]))]) H_159_106 := hP
  have hD : va_D AA (wapp (wapp [(h0, .inr (9, [.ref (a9_6 0), .ref (a20_11 0), .ref (a31_16 0), .ref (a42_21 0), .ref q50_25, .int 0, .ref (a66_33 0), .ref (a77_38 0), .ref (a88_43 0), .ref (a99_48 0), .ref q107_52, .ref (a118_57 0), .ref (a129_62 0), .ref q138_66])), (q50_25, .inl (ct 4, 3, .inr (.inr (.inr (.inr (va_up (va_up (fun _ => none) 0 (some (a163_80 0))) 1 (some (a163_94 0)))))))), (q107_52, .inl (ct 5, 4, .inr (.inr (.inr (.inr (fun _ => none)))))), (q138_66, .inl (ct 0, 61, .inl (fun _ => 0)))] O12) [(q159_106, .inr (2, [.int 0, .int 0, .int 0, .int 0, .int 0, .null, .null, .null, .int 0, .null, .null, .null, .null, .int 0, .null, .null, .int 0, .null, .null, .null]))]) := hD
  refine lv_dup hx hb dX9_init_162 rfl ?_
  have hPc : va_P D vwCl [(q159_106, .inr (2, [.int 0, .int 0, .int 0, .int 0, .int 0, .null, .null, .null, .int 0, .null, .null, .null, .null, .int 0, .null, .null, .int 0, .null, .null, .null]))] H_159_106 := P_right hP
  have hFc := free2 (c := (q159_106, .inr (2, [.int 0, .int 0, .int 0, .int 0, .int 0, .null, .null, .null, .int 0, .null, .null, .null, .null, .int 0, .null, .null, .int 0, .null, .null, .null]))) hD hS hA
  refine va_callv (va_runIN (As := []) (rest := [.ref q159_106, .int 2, .ref q50_25]) ⟨hx, hb, hml, hown, htl⟩ (ci_X2 l D ct G q159_106 H_159_106.size (hGE _ (D_last (c := (q159_106, .inr (2, [.int 0, .int 0, .int 0, .int 0, .int 0, .null, .null, .null, .int 0, .null, .null, .null, .null, .int 0, .null, .null, .int 0, .null, .null, .null]))) hD)) (Nat.le_trans hGs hS.1)) (cwi_X9_X2 htl hN ⟨Nat.le_of_ble_eq_true rfl, Nat.le_of_ble_eq_true rfl⟩) ⟨Bi_blind, Bi_pre hPc hK hN (hX.stay hS hGE)⟩ rfl rfl hl.1 rfl (lv_room (Nat.le_of_ble_eq_true rfl)) dX9_init_163 ⟨Nat.le_of_ble_eq_true rfl, Nat.le_of_ble_eq_true rfl⟩) hS (fun q _ h => hFc q h) hFc (fun a163_108 t H_163_108 locs_163_108 ht hvm hw hB hz1 hk1 hS => ?_)
  obtain ⟨e0_163_108, hP1, hD1⟩ := hB
  rw [ht] at hP1
  obtain ⟨hP, hD⟩ := join2 (c := (q159_106, .inr (2, [.int 0, .int 0, .int 0, .int 0, .int 0, .null, .null, .null, .int 0, .null, .null, .null, .null, .int 0, .null, .null, .int 0, .null, .null, .null]))) hP hD hk1 hFc hP1 hD1
  have hP := P_sw hP
  have hD := D_sw hD
  rw [← e0_163_108]
  have hP : va_P D vwCl (wapp (wapp [(h0, .inr (9, [.ref (a9_6 0), .ref (a20_11 0), .ref (a31_16 0), .ref (a42_21 0), .ref q50_25, .int 0, .ref (a66_33 0), .ref (a77_38 0), .ref (a88_43 0), .ref (a99_48 0), .ref q107_52, .ref (a118_57 0), .ref (a129_62 0), .ref q138_66])), (q50_25, .inl (ct 4, 3, .inr (.inr (.inr (.inr (va_up (va_up (fun _ => none) 0 (some (a163_80 0))) 1 (some (a163_94 0)))))))), (q107_52, .inl (ct 5, 4, .inr (.inr (.inr (.inr (fun _ => none)))))), (q138_66, .inl (ct 0, 61, .inl (fun _ => 0)))] (cs2 ct a163_108 i_X2)) O12) H_163_108 := hP
  have hD : va_D AA (wapp (wapp [(h0, .inr (9, [.ref (a9_6 0), .ref (a20_11 0), .ref (a31_16 0), .ref (a42_21 0), .ref q50_25, .int 0, .ref (a66_33 0), .ref (a77_38 0), .ref (a88_43 0), .ref (a99_48 0), .ref q107_52, .ref (a118_57 0), .ref (a129_62 0), .ref q138_66])), (q50_25, .inl (ct 4, 3, .inr (.inr (.inr (.inr (va_up (va_up (fun _ => none) 0 (some (a163_80 0))) 1 (some (a163_94 0)))))))), (q107_52, .inl (ct 5, 4, .inr (.inr (.inr (.inr (fun _ => none)))))), (q138_66, .inl (ct 0, 61, .inl (fun _ => 0)))] (cs2 ct a163_108 i_X2)) O12) := hD
  refine W.eq (g2 := F0 m 166 ls [.ref (a163_108 0), .int 2, .ref q50_25]) rfl ?_
  refine va_astq (D := D) (tys := tyl ct) (r := (RX2, TX2, 20)) hx hb hK hP hD hS 1 4 4 2 rfl rfl rfl rfl (vp_in_iff.mpr (by decide)) dX9_init_166 (fun H_166_109 locs_166_109 hP hD hS => ?_)
  have hP : va_P D vwCl (wapp (wapp [(h0, .inr (9, [.ref (a9_6 0), .ref (a20_11 0), .ref (a31_16 0), .ref (a42_21 0), .ref q50_25, .int 0, .ref (a66_33 0), .ref (a77_38 0), .ref (a88_43 0), .ref (a99_48 0), .ref q107_52, .ref (a118_57 0), .ref (a129_62 0), .ref q138_66])), (q50_25, .inl (ct 4, 3, .inr (.inr (.inr (.inr (va_up (va_up (va_up (fun _ => none) 0 (some (a163_80 0))) 1 (some (a163_94 0))) 2 (some (a163_108 0)))))))), (q107_52, .inl (ct 5, 4, .inr (.inr (.inr (.inr (fun _ => none)))))), (q138_66, .inl (ct 0, 61, .inl (fun _ => 0)))] (cs2 ct a163_108 i_X2)) O12) H_166_109 := hP
  have hD : va_D AA (wapp (wapp [(h0, .inr (9, [.ref (a9_6 0), .ref (a20_11 0), .ref (a31_16 0), .ref (a42_21 0), .ref q50_25, .int 0, .ref (a66_33 0), .ref (a77_38 0), .ref (a88_43 0), .ref (a99_48 0), .ref q107_52, .ref (a118_57 0), .ref (a129_62 0), .ref q138_66])), (q50_25, .inl (ct 4, 3, .inr (.inr (.inr (.inr (va_up (va_up (va_up (fun _ => none) 0 (some (a163_80 0))) 1 (some (a163_94 0))) 2 (some (a163_108 0)))))))), (q107_52, .inl (ct 5, 4, .inr (.inr (.inr (.inr (fun _ => none)))))), (q138_66, .inl (ct 0, 61, .inl (fun _ => 0)))] (cs2 ct a163_108 i_X2)) O12) := hD
  have hP := P_mg hP
  have hD := D_mg hD
  obtain ⟨O13, hO13⟩ : ∃ O : va_W, O = O12 ++ cs2 ct a163_108 i_X2 := ⟨_, rfl⟩
  rw [← hO13] at hP hD
  have hP : va_P D vwCl (wapp [(h0, .inr (9, [.ref (a9_6 0), .ref (a20_11 0), .ref (a31_16 0), .ref (a42_21 0), .ref q50_25, .int 0, .ref (a66_33 0), .ref (a77_38 0), .ref (a88_43 0), .ref (a99_48 0), .ref q107_52, .ref (a118_57 0), .ref (a129_62 0), .ref q138_66])), (q50_25, .inl (ct 4, 3, .inr (.inr (.inr (.inr (va_up (va_up (va_up (fun _ => none) 0 (some (a163_80 0))) 1 (some (a163_94 0))) 2 (some (a163_108 0)))))))), (q107_52, .inl (ct 5, 4, .inr (.inr (.inr (.inr (fun _ => none)))))), (q138_66, .inl (ct 0, 61, .inl (fun _ => 0)))] O13) H_166_109 := hP
  have hD : va_D AA (wapp [(h0, .inr (9, [.ref (a9_6 0), .ref (a20_11 0), .ref (a31_16 0), .ref (a42_21 0), .ref q50_25, .int 0, .ref (a66_33 0), .ref (a77_38 0), .ref (a88_43 0), .ref (a99_48 0), .ref q107_52, .ref (a118_57 0), .ref (a129_62 0), .ref q138_66])), (q50_25, .inl (ct 4, 3, .inr (.inr (.inr (.inr (va_up (va_up (va_up (fun _ => none) 0 (some (a163_80 0))) 1 (some (a163_94 0))) 2 (some (a163_108 0)))))))), (q107_52, .inl (ct 5, 4, .inr (.inr (.inr (.inr (fun _ => none)))))), (q138_66, .inl (ct 0, 61, .inl (fun _ => 0)))] O13) := hD
  refine lv_iinc (v := 3) (lv' := [(1, .int 3), (0, .ref h0)]) hx hb dX9_init_167 hl (k := 0) rfl (by decide) (by decide) rfl (fun ls hl => ?_)
  refine lv_goto (tgt := 145) hx hb dX9_init_170 (by decide) ?_
  refine lv_iload_n hx hb dX9_init_145 rfl (lv_at hl 0 rfl) ?_
  refine lv_aload_n hx hb dX9_init_146 rfl (lv_at hl 1 rfl) ?_
  refine va_get (D := D) (tys := tyl ct) (ci := 9) (v := .ref q50_25) (C := RX9) (T := TX9) (N := 14) hx hb htl inlX9 hown hK hP 0 rfl rfl 4 (by decide) (htl _ wq_2_2) (fun _ h9 => h9) rfl dX9_init_147 ?_
  refine va_alen (D := D) (tys := tyl ct) (v := 3) hx hb hK hP 1 4 rfl rfl rfl dX9_init_150 ?_
  refine lv_icmp_ge (tgt := 173) hx hb dX9_init_151 (by decide) (fun c_151_116 => ?_) (fun c_151_116 => absurd (by decide) c_151_116)
  refine lv_iconst (v := 0) hx hb dX9_init_173 (by decide) ?_
  refine lv_istore_n (lv' := [(1, .int 0), (0, .ref h0)]) hx hb dX9_init_174 rfl hl (by decide) rfl (fun ls hl => ?_)
  refine lv_iload_n hx hb dX9_init_175 rfl (lv_at hl 0 rfl) ?_
  refine lv_aload_n hx hb dX9_init_176 rfl (lv_at hl 1 rfl) ?_
  refine va_get (D := D) (tys := tyl ct) (ci := 9) (v := .ref q107_52) (C := RX9) (T := TX9) (N := 14) hx hb htl inlX9 hown hK hP 0 rfl rfl 10 (by decide) (htl _ wq_2_15) (fun _ h9 => h9) rfl dX9_init_177 ?_
  refine va_alen (D := D) (tys := tyl ct) (v := 4) hx hb hK hP 2 5 rfl rfl rfl dX9_init_180 ?_
  refine lv_icmp_ge (tgt := 203) hx hb dX9_init_181 (by decide) (fun c_181_123 => absurd c_181_123 (by decide)) (fun c_181_123 => ?_)
  refine lv_aload_n hx hb dX9_init_184 rfl (lv_at hl 1 rfl) ?_
  refine va_get (D := D) (tys := tyl ct) (ci := 9) (v := .ref q107_52) (C := RX9) (T := TX9) (N := 14) hx hb htl inlX9 hown hK hP 0 rfl rfl 10 (by decide) (htl _ wq_2_15) (fun _ h9 => h9) rfl dX9_init_185 ?_
  refine lv_iload_n hx hb dX9_init_188 rfl (lv_at hl 0 rfl) ?_
  refine va_new (D := D) (tys := tyl ct) (ci := 3) (fs := [.int 0, .int 0, .int 0, .null]) (C := RX3) (T := TX3) (N := 4) hx hb htl inlX3 tyX3 tyX3_ok hown (htl _ wq_2_14) (htl _ wq_3_2) (htl _ wq_3_3) hK hP hD hS hA rfl (def_X3) (Nat.le_of_ble_eq_true rfl) (Nat.le_of_ble_eq_true rfl) dX9_init_189 (fun q189_127 H_189_127 hP hD hS => ?_)
  have hP : va_P D vwCl (wapp (wapp [(h0, .inr (9, [.ref (a9_6 0), .ref (a20_11 0), .ref (a31_16 0), .ref (a42_21 0), .ref q50_25, .int 0, .ref (a66_33 0), .ref (a77_38 0), .ref (a88_43 0), .ref (a99_48 0), .ref q107_52, .ref (a118_57 0), .ref (a129_62 0), .ref q138_66])), (q50_25, .inl (ct 4, 3, .inr (.inr (.inr (.inr (va_up (va_up (va_up (fun _ => none) 0 (some (a163_80 0))) 1 (some (a163_94 0))) 2 (some (a163_108 0)))))))), (q107_52, .inl (ct 5, 4, .inr (.inr (.inr (.inr (fun _ => none)))))), (q138_66, .inl (ct 0, 61, .inl (fun _ => 0)))] O13) [(q189_127, .inr (3, [.int 0, .int 0, .int 0, .null]))]) H_189_127 := hP
  have hD : va_D AA (wapp (wapp [(h0, .inr (9, [.ref (a9_6 0), .ref (a20_11 0), .ref (a31_16 0), .ref (a42_21 0), .ref q50_25, .int 0, .ref (a66_33 0), .ref (a77_38 0), .ref (a88_43 0), .ref (a99_48 0), .ref q107_52, .ref (a118_57 0), .ref (a129_62 0), .ref q138_66])), (q50_25, .inl (ct 4, 3, .inr (.inr (.inr (.inr (va_up (va_up (va_up (fun _ => none) 0 (some (a163_80 0))) 1 (some (a163_94 0))) 2 (some (a163_108 0)))))))), (q107_52, .inl (ct 5, 4, .inr (.inr (.inr (.inr (fun _ => none)))))), (q138_66, .inl (ct 0, 61, .inl (fun _ => 0)))] O13) [(q189_127, .inr (3, [.int 0, .int 0, .int 0, .null]))]) := hD
  refine lv_dup hx hb dX9_init_192 rfl ?_
  have hPc : va_P D vwCl [(q189_127, .inr (3, [.int 0, .int 0, .int 0, .null]))] H_189_127 := P_right hP
  have hFc := free2 (c := (q189_127, .inr (3, [.int 0, .int 0, .int 0, .null]))) hD hS hA
  refine va_callv (va_runIN (As := []) (rest := [.ref q189_127, .int 0, .ref q107_52]) ⟨hx, hb, hml, hown, htl⟩ (ci_X3 l D ct G q189_127 H_189_127.size (hGE _ (D_last (c := (q189_127, .inr (3, [.int 0, .int 0, .int 0, .null]))) hD)) (Nat.le_trans hGs hS.1)) (cwi_X9_X3 htl hN ⟨Nat.le_of_ble_eq_true rfl, Nat.le_of_ble_eq_true rfl⟩) ⟨Bi_blind, Bi_pre hPc hK hN (hX.stay hS hGE)⟩ rfl rfl hl.1 rfl (lv_room (Nat.le_of_ble_eq_true rfl)) dX9_init_193 ⟨Nat.le_of_ble_eq_true rfl, Nat.le_of_ble_eq_true rfl⟩) hS (fun q _ h => hFc q h) hFc (fun a193_129 t H_193_129 locs_193_129 ht hvm hw hB hz1 hk1 hS => ?_)
  obtain ⟨e0_193_129, hP1, hD1⟩ := hB
  rw [ht] at hP1
  obtain ⟨hP, hD⟩ := join2 (c := (q189_127, .inr (3, [.int 0, .int 0, .int 0, .null]))) hP hD hk1 hFc hP1 hD1
  have hP := P_sw hP
  have hD := D_sw hD
  rw [← e0_193_129]
  have hP : va_P D vwCl (wapp (wapp [(h0, .inr (9, [.ref (a9_6 0), .ref (a20_11 0), .ref (a31_16 0), .ref (a42_21 0), .ref q50_25, .int 0, .ref (a66_33 0), .ref (a77_38 0), .ref (a88_43 0), .ref (a99_48 0), .ref q107_52, .ref (a118_57 0), .ref (a129_62 0), .ref q138_66])), (q50_25, .inl (ct 4, 3, .inr (.inr (.inr (.inr (va_up (va_up (va_up (fun _ => none) 0 (some (a163_80 0))) 1 (some (a163_94 0))) 2 (some (a163_108 0)))))))), (q107_52, .inl (ct 5, 4, .inr (.inr (.inr (.inr (fun _ => none)))))), (q138_66, .inl (ct 0, 61, .inl (fun _ => 0)))] (cs3 ct a193_129 i_X3)) O13) H_193_129 := hP
  have hD : va_D AA (wapp (wapp [(h0, .inr (9, [.ref (a9_6 0), .ref (a20_11 0), .ref (a31_16 0), .ref (a42_21 0), .ref q50_25, .int 0, .ref (a66_33 0), .ref (a77_38 0), .ref (a88_43 0), .ref (a99_48 0), .ref q107_52, .ref (a118_57 0), .ref (a129_62 0), .ref q138_66])), (q50_25, .inl (ct 4, 3, .inr (.inr (.inr (.inr (va_up (va_up (va_up (fun _ => none) 0 (some (a163_80 0))) 1 (some (a163_94 0))) 2 (some (a163_108 0)))))))), (q107_52, .inl (ct 5, 4, .inr (.inr (.inr (.inr (fun _ => none)))))), (q138_66, .inl (ct 0, 61, .inl (fun _ => 0)))] (cs3 ct a193_129 i_X3)) O13) := hD
  refine W.eq (g2 := F0 m 196 ls [.ref (a193_129 0), .int 0, .ref q107_52]) rfl ?_
  refine va_astq (D := D) (tys := tyl ct) (r := (RX3, TX3, 4)) hx hb hK hP hD hS 2 5 4 3 rfl rfl rfl rfl (vp_in_iff.mpr (by decide)) dX9_init_196 (fun H_196_130 locs_196_130 hP hD hS => ?_)
  have hP : va_P D vwCl (wapp (wapp [(h0, .inr (9, [.ref (a9_6 0), .ref (a20_11 0), .ref (a31_16 0), .ref (a42_21 0), .ref q50_25, .int 0, .ref (a66_33 0), .ref (a77_38 0), .ref (a88_43 0), .ref (a99_48 0), .ref q107_52, .ref (a118_57 0), .ref (a129_62 0), .ref q138_66])), (q50_25, .inl (ct 4, 3, .inr (.inr (.inr (.inr (va_up (va_up (va_up (fun _ => none) 0 (some (a163_80 0))) 1 (some (a163_94 0))) 2 (some (a163_108 0)))))))), (q107_52, .inl (ct 5, 4, .inr (.inr (.inr (.inr (va_up (fun _ => none) 0 (some (a193_129 0)))))))), (q138_66, .inl (ct 0, 61, .inl (fun _ => 0)))] (cs3 ct a193_129 i_X3)) O13) H_196_130 := hP
  have hD : va_D AA (wapp (wapp [(h0, .inr (9, [.ref (a9_6 0), .ref (a20_11 0), .ref (a31_16 0), .ref (a42_21 0), .ref q50_25, .int 0, .ref (a66_33 0), .ref (a77_38 0), .ref (a88_43 0), .ref (a99_48 0), .ref q107_52, .ref (a118_57 0), .ref (a129_62 0), .ref q138_66])), (q50_25, .inl (ct 4, 3, .inr (.inr (.inr (.inr (va_up (va_up (va_up (fun _ => none) 0 (some (a163_80 0))) 1 (some (a163_94 0))) 2 (some (a163_108 0)))))))), (q107_52, .inl (ct 5, 4, .inr (.inr (.inr (.inr (va_up (fun _ => none) 0 (some (a193_129 0)))))))), (q138_66, .inl (ct 0, 61, .inl (fun _ => 0)))] (cs3 ct a193_129 i_X3)) O13) := hD
  have hP := P_mg hP
  have hD := D_mg hD
  obtain ⟨O14, hO14⟩ : ∃ O : va_W, O = O13 ++ cs3 ct a193_129 i_X3 := ⟨_, rfl⟩
  rw [← hO14] at hP hD
  have hP : va_P D vwCl (wapp [(h0, .inr (9, [.ref (a9_6 0), .ref (a20_11 0), .ref (a31_16 0), .ref (a42_21 0), .ref q50_25, .int 0, .ref (a66_33 0), .ref (a77_38 0), .ref (a88_43 0), .ref (a99_48 0), .ref q107_52, .ref (a118_57 0), .ref (a129_62 0), .ref q138_66])), (q50_25, .inl (ct 4, 3, .inr (.inr (.inr (.inr (va_up (va_up (va_up (fun _ => none) 0 (some (a163_80 0))) 1 (some (a163_94 0))) 2 (some (a163_108 0)))))))), (q107_52, .inl (ct 5, 4, .inr (.inr (.inr (.inr (va_up (fun _ => none) 0 (some (a193_129 0)))))))), (q138_66, .inl (ct 0, 61, .inl (fun _ => 0)))] O14) H_196_130 := hP
  have hD : va_D AA (wapp [(h0, .inr (9, [.ref (a9_6 0), .ref (a20_11 0), .ref (a31_16 0), .ref (a42_21 0), .ref q50_25, .int 0, .ref (a66_33 0), .ref (a77_38 0), .ref (a88_43 0), .ref (a99_48 0), .ref q107_52, .ref (a118_57 0), .ref (a129_62 0), .ref q138_66])), (q50_25, .inl (ct 4, 3, .inr (.inr (.inr (.inr (va_up (va_up (va_up (fun _ => none) 0 (some (a163_80 0))) 1 (some (a163_94 0))) 2 (some (a163_108 0)))))))), (q107_52, .inl (ct 5, 4, .inr (.inr (.inr (.inr (va_up (fun _ => none) 0 (some (a193_129 0)))))))), (q138_66, .inl (ct 0, 61, .inl (fun _ => 0)))] O14) := hD
  refine lv_iinc (v := 1) (lv' := [(1, .int 1), (0, .ref h0)]) hx hb dX9_init_197 hl (k := 0) rfl (by decide) (by decide) rfl (fun ls hl => ?_)
  refine lv_goto (tgt := 175) hx hb dX9_init_200 (by decide) ?_
  refine lv_iload_n hx hb dX9_init_175 rfl (lv_at hl 0 rfl) ?_
  refine lv_aload_n hx hb dX9_init_176 rfl (lv_at hl 1 rfl) ?_
  refine va_get (D := D) (tys := tyl ct) (ci := 9) (v := .ref q107_52) (C := RX9) (T := TX9) (N := 14) hx hb htl inlX9 hown hK hP 0 rfl rfl 10 (by decide) (htl _ wq_2_15) (fun _ h9 => h9) rfl dX9_init_177 ?_
  refine va_alen (D := D) (tys := tyl ct) (v := 4) hx hb hK hP 2 5 rfl rfl rfl dX9_init_180 ?_
  refine lv_icmp_ge (tgt := 203) hx hb dX9_init_181 (by decide) (fun c_181_137 => absurd c_181_137 (by decide)) (fun c_181_137 => ?_)
  refine lv_aload_n hx hb dX9_init_184 rfl (lv_at hl 1 rfl) ?_
  refine va_get (D := D) (tys := tyl ct) (ci := 9) (v := .ref q107_52) (C := RX9) (T := TX9) (N := 14) hx hb htl inlX9 hown hK hP 0 rfl rfl 10 (by decide) (htl _ wq_2_15) (fun _ h9 => h9) rfl dX9_init_185 ?_
  refine lv_iload_n hx hb dX9_init_188 rfl (lv_at hl 0 rfl) ?_
  refine va_new (D := D) (tys := tyl ct) (ci := 3) (fs := [.int 0, .int 0, .int 0, .null]) (C := RX3) (T := TX3) (N := 4) hx hb htl inlX3 tyX3 tyX3_ok hown (htl _ wq_2_14) (htl _ wq_3_2) (htl _ wq_3_3) hK hP hD hS hA rfl (def_X3) (Nat.le_of_ble_eq_true rfl) (Nat.le_of_ble_eq_true rfl) dX9_init_189 (fun q189_141 H_189_141 hP hD hS => ?_)
  have hP : va_P D vwCl (wapp (wapp [(h0, .inr (9, [.ref (a9_6 0), .ref (a20_11 0), .ref (a31_16 0), .ref (a42_21 0), .ref q50_25, .int 0, .ref (a66_33 0), .ref (a77_38 0), .ref (a88_43 0), .ref (a99_48 0), .ref q107_52, .ref (a118_57 0), .ref (a129_62 0), .ref q138_66])), (q50_25, .inl (ct 4, 3, .inr (.inr (.inr (.inr (va_up (va_up (va_up (fun _ => none) 0 (some (a163_80 0))) 1 (some (a163_94 0))) 2 (some (a163_108 0)))))))), (q107_52, .inl (ct 5, 4, .inr (.inr (.inr (.inr (va_up (fun _ => none) 0 (some (a193_129 0)))))))), (q138_66, .inl (ct 0, 61, .inl (fun _ => 0)))] O14) [(q189_141, .inr (3, [.int 0, .int 0, .int 0, .null]))]) H_189_141 := hP
  have hD : va_D AA (wapp (wapp [(h0, .inr (9, [.ref (a9_6 0), .ref (a20_11 0), .ref (a31_16 0), .ref (a42_21 0), .ref q50_25, .int 0, .ref (a66_33 0), .ref (a77_38 0), .ref (a88_43 0), .ref (a99_48 0), .ref q107_52, .ref (a118_57 0), .ref (a129_62 0), .ref q138_66])), (q50_25, .inl (ct 4, 3, .inr (.inr (.inr (.inr (va_up (va_up (va_up (fun _ => none) 0 (some (a163_80 0))) 1 (some (a163_94 0))) 2 (some (a163_108 0)))))))), (q107_52, .inl (ct 5, 4, .inr (.inr (.inr (.inr (va_up (fun _ => none) 0 (some (a193_129 0)))))))), (q138_66, .inl (ct 0, 61, .inl (fun _ => 0)))] O14) [(q189_141, .inr (3, [.int 0, .int 0, .int 0, .null]))]) := hD
  refine lv_dup hx hb dX9_init_192 rfl ?_
  have hPc : va_P D vwCl [(q189_141, .inr (3, [.int 0, .int 0, .int 0, .null]))] H_189_141 := P_right hP
  have hFc := free2 (c := (q189_141, .inr (3, [.int 0, .int 0, .int 0, .null]))) hD hS hA
  refine va_callv (va_runIN (As := []) (rest := [.ref q189_141, .int 1, .ref q107_52]) ⟨hx, hb, hml, hown, htl⟩ (ci_X3 l D ct G q189_141 H_189_141.size (hGE _ (D_last (c := (q189_141, .inr (3, [.int 0, .int 0, .int 0, .null]))) hD)) (Nat.le_trans hGs hS.1)) (cwi_X9_X3 htl hN ⟨Nat.le_of_ble_eq_true rfl, Nat.le_of_ble_eq_true rfl⟩) ⟨Bi_blind, Bi_pre hPc hK hN (hX.stay hS hGE)⟩ rfl rfl hl.1 rfl (lv_room (Nat.le_of_ble_eq_true rfl)) dX9_init_193 ⟨Nat.le_of_ble_eq_true rfl, Nat.le_of_ble_eq_true rfl⟩) hS (fun q _ h => hFc q h) hFc (fun a193_143 t H_193_143 locs_193_143 ht hvm hw hB hz1 hk1 hS => ?_)
  obtain ⟨e0_193_143, hP1, hD1⟩ := hB
  rw [ht] at hP1
  obtain ⟨hP, hD⟩ := join2 (c := (q189_141, .inr (3, [.int 0, .int 0, .int 0, .null]))) hP hD hk1 hFc hP1 hD1
  have hP := P_sw hP
  have hD := D_sw hD
  rw [← e0_193_143]
  have hP : va_P D vwCl (wapp (wapp [(h0, .inr (9, [.ref (a9_6 0), .ref (a20_11 0), .ref (a31_16 0), .ref (a42_21 0), .ref q50_25, .int 0, .ref (a66_33 0), .ref (a77_38 0), .ref (a88_43 0), .ref (a99_48 0), .ref q107_52, .ref (a118_57 0), .ref (a129_62 0), .ref q138_66])), (q50_25, .inl (ct 4, 3, .inr (.inr (.inr (.inr (va_up (va_up (va_up (fun _ => none) 0 (some (a163_80 0))) 1 (some (a163_94 0))) 2 (some (a163_108 0)))))))), (q107_52, .inl (ct 5, 4, .inr (.inr (.inr (.inr (va_up (fun _ => none) 0 (some (a193_129 0)))))))), (q138_66, .inl (ct 0, 61, .inl (fun _ => 0)))] (cs3 ct a193_143 i_X3)) O14) H_193_143 := hP
  have hD : va_D AA (wapp (wapp [(h0, .inr (9, [.ref (a9_6 0), .ref (a20_11 0), .ref (a31_16 0), .ref (a42_21 0), .ref q50_25, .int 0, .ref (a66_33 0), .ref (a77_38 0), .ref (a88_43 0), .ref (a99_48 0), .ref q107_52, .ref (a118_57 0), .ref (a129_62 0), .ref q138_66])), (q50_25, .inl (ct 4, 3, .inr (.inr (.inr (.inr (va_up (va_up (va_up (fun _ => none) 0 (some (a163_80 0))) 1 (some (a163_94 0))) 2 (some (a163_108 0)))))))), (q107_52, .inl (ct 5, 4, .inr (.inr (.inr (.inr (va_up (fun _ => none) 0 (some (a193_129 0)))))))), (q138_66, .inl (ct 0, 61, .inl (fun _ => 0)))] (cs3 ct a193_143 i_X3)) O14) := hD
  refine W.eq (g2 := F0 m 196 ls [.ref (a193_143 0), .int 1, .ref q107_52]) rfl ?_
  refine va_astq (D := D) (tys := tyl ct) (r := (RX3, TX3, 4)) hx hb hK hP hD hS 2 5 4 3 rfl rfl rfl rfl (vp_in_iff.mpr (by decide)) dX9_init_196 (fun H_196_144 locs_196_144 hP hD hS => ?_)
  have hP : va_P D vwCl (wapp (wapp [(h0, .inr (9, [.ref (a9_6 0), .ref (a20_11 0), .ref (a31_16 0), .ref (a42_21 0), .ref q50_25, .int 0, .ref (a66_33 0), .ref (a77_38 0), .ref (a88_43 0), .ref (a99_48 0), .ref q107_52, .ref (a118_57 0), .ref (a129_62 0), .ref q138_66])), (q50_25, .inl (ct 4, 3, .inr (.inr (.inr (.inr (va_up (va_up (va_up (fun _ => none) 0 (some (a163_80 0))) 1 (some (a163_94 0))) 2 (some (a163_108 0)))))))), (q107_52, .inl (ct 5, 4, .inr (.inr (.inr (.inr (va_up (va_up (fun _ => none) 0 (some (a193_129 0))) 1 (some (a193_143 0)))))))), (q138_66, .inl (ct 0, 61, .inl (fun _ => 0)))] (cs3 ct a193_143 i_X3)) O14) H_196_144 := hP
  have hD : va_D AA (wapp (wapp [(h0, .inr (9, [.ref (a9_6 0), .ref (a20_11 0), .ref (a31_16 0), .ref (a42_21 0), .ref q50_25, .int 0, .ref (a66_33 0), .ref (a77_38 0), .ref (a88_43 0), .ref (a99_48 0), .ref q107_52, .ref (a118_57 0), .ref (a129_62 0), .ref q138_66])), (q50_25, .inl (ct 4, 3, .inr (.inr (.inr (.inr (va_up (va_up (va_up (fun _ => none) 0 (some (a163_80 0))) 1 (some (a163_94 0))) 2 (some (a163_108 0)))))))), (q107_52, .inl (ct 5, 4, .inr (.inr (.inr (.inr (va_up (va_up (fun _ => none) 0 (some (a193_129 0))) 1 (some (a193_143 0)))))))), (q138_66, .inl (ct 0, 61, .inl (fun _ => 0)))] (cs3 ct a193_143 i_X3)) O14) := hD
  have hP := P_mg hP
  have hD := D_mg hD
  obtain ⟨O15, hO15⟩ : ∃ O : va_W, O = O14 ++ cs3 ct a193_143 i_X3 := ⟨_, rfl⟩
  rw [← hO15] at hP hD
  have hP : va_P D vwCl (wapp [(h0, .inr (9, [.ref (a9_6 0), .ref (a20_11 0), .ref (a31_16 0), .ref (a42_21 0), .ref q50_25, .int 0, .ref (a66_33 0), .ref (a77_38 0), .ref (a88_43 0), .ref (a99_48 0), .ref q107_52, .ref (a118_57 0), .ref (a129_62 0), .ref q138_66])), (q50_25, .inl (ct 4, 3, .inr (.inr (.inr (.inr (va_up (va_up (va_up (fun _ => none) 0 (some (a163_80 0))) 1 (some (a163_94 0))) 2 (some (a163_108 0)))))))), (q107_52, .inl (ct 5, 4, .inr (.inr (.inr (.inr (va_up (va_up (fun _ => none) 0 (some (a193_129 0))) 1 (some (a193_143 0)))))))), (q138_66, .inl (ct 0, 61, .inl (fun _ => 0)))] O15) H_196_144 := hP
  have hD : va_D AA (wapp [(h0, .inr (9, [.ref (a9_6 0), .ref (a20_11 0), .ref (a31_16 0), .ref (a42_21 0), .ref q50_25, .int 0, .ref (a66_33 0), .ref (a77_38 0), .ref (a88_43 0), .ref (a99_48 0), .ref q107_52, .ref (a118_57 0), .ref (a129_62 0), .ref q138_66])), (q50_25, .inl (ct 4, 3, .inr (.inr (.inr (.inr (va_up (va_up (va_up (fun _ => none) 0 (some (a163_80 0))) 1 (some (a163_94 0))) 2 (some (a163_108 0)))))))), (q107_52, .inl (ct 5, 4, .inr (.inr (.inr (.inr (va_up (va_up (fun _ => none) 0 (some (a193_129 0))) 1 (some (a193_143 0)))))))), (q138_66, .inl (ct 0, 61, .inl (fun _ => 0)))] O15) := hD
  refine lv_iinc (v := 2) (lv' := [(1, .int 2), (0, .ref h0)]) hx hb dX9_init_197 hl (k := 0) rfl (by decide) (by decide) rfl (fun ls hl => ?_)
  refine lv_goto (tgt := 175) hx hb dX9_init_200 (by decide) ?_
  refine lv_iload_n hx hb dX9_init_175 rfl (lv_at hl 0 rfl) ?_
  refine lv_aload_n hx hb dX9_init_176 rfl (lv_at hl 1 rfl) ?_
  refine va_get (D := D) (tys := tyl ct) (ci := 9) (v := .ref q107_52) (C := RX9) (T := TX9) (N := 14) hx hb htl inlX9 hown hK hP 0 rfl rfl 10 (by decide) (htl _ wq_2_15) (fun _ h9 => h9) rfl dX9_init_177 ?_
  refine va_alen (D := D) (tys := tyl ct) (v := 4) hx hb hK hP 2 5 rfl rfl rfl dX9_init_180 ?_
  refine lv_icmp_ge (tgt := 203) hx hb dX9_init_181 (by decide) (fun c_181_151 => absurd c_181_151 (by decide)) (fun c_181_151 => ?_)
  refine lv_aload_n hx hb dX9_init_184 rfl (lv_at hl 1 rfl) ?_
  refine va_get (D := D) (tys := tyl ct) (ci := 9) (v := .ref q107_52) (C := RX9) (T := TX9) (N := 14) hx hb htl inlX9 hown hK hP 0 rfl rfl 10 (by decide) (htl _ wq_2_15) (fun _ h9 => h9) rfl dX9_init_185 ?_
  refine lv_iload_n hx hb dX9_init_188 rfl (lv_at hl 0 rfl) ?_
  refine va_new (D := D) (tys := tyl ct) (ci := 3) (fs := [.int 0, .int 0, .int 0, .null]) (C := RX3) (T := TX3) (N := 4) hx hb htl inlX3 tyX3 tyX3_ok hown (htl _ wq_2_14) (htl _ wq_3_2) (htl _ wq_3_3) hK hP hD hS hA rfl (def_X3) (Nat.le_of_ble_eq_true rfl) (Nat.le_of_ble_eq_true rfl) dX9_init_189 (fun q189_155 H_189_155 hP hD hS => ?_)
  have hP : va_P D vwCl (wapp (wapp [(h0, .inr (9, [.ref (a9_6 0), .ref (a20_11 0), .ref (a31_16 0), .ref (a42_21 0), .ref q50_25, .int 0, .ref (a66_33 0), .ref (a77_38 0), .ref (a88_43 0), .ref (a99_48 0), .ref q107_52, .ref (a118_57 0), .ref (a129_62 0), .ref q138_66])), (q50_25, .inl (ct 4, 3, .inr (.inr (.inr (.inr (va_up (va_up (va_up (fun _ => none) 0 (some (a163_80 0))) 1 (some (a163_94 0))) 2 (some (a163_108 0)))))))), (q107_52, .inl (ct 5, 4, .inr (.inr (.inr (.inr (va_up (va_up (fun _ => none) 0 (some (a193_129 0))) 1 (some (a193_143 0)))))))), (q138_66, .inl (ct 0, 61, .inl (fun _ => 0)))] O15) [(q189_155, .inr (3, [.int 0, .int 0, .int 0, .null]))]) H_189_155 := hP
  have hD : va_D AA (wapp (wapp [(h0, .inr (9, [.ref (a9_6 0), .ref (a20_11 0), .ref (a31_16 0), .ref (a42_21 0), .ref q50_25, .int 0, .ref (a66_33 0), .ref (a77_38 0), .ref (a88_43 0), .ref (a99_48 0), .ref q107_52, .ref (a118_57 0), .ref (a129_62 0), .ref q138_66])), (q50_25, .inl (ct 4, 3, .inr (.inr (.inr (.inr (va_up (va_up (va_up (fun _ => none) 0 (some (a163_80 0))) 1 (some (a163_94 0))) 2 (some (a163_108 0)))))))), (q107_52, .inl (ct 5, 4, .inr (.inr (.inr (.inr (va_up (va_up (fun _ => none) 0 (some (a193_129 0))) 1 (some (a193_143 0)))))))), (q138_66, .inl (ct 0, 61, .inl (fun _ => 0)))] O15) [(q189_155, .inr (3, [.int 0, .int 0, .int 0, .null]))]) := hD
  refine lv_dup hx hb dX9_init_192 rfl ?_
  have hPc : va_P D vwCl [(q189_155, .inr (3, [.int 0, .int 0, .int 0, .null]))] H_189_155 := P_right hP
  have hFc := free2 (c := (q189_155, .inr (3, [.int 0, .int 0, .int 0, .null]))) hD hS hA
  refine va_callv (va_runIN (As := []) (rest := [.ref q189_155, .int 2, .ref q107_52]) ⟨hx, hb, hml, hown, htl⟩ (ci_X3 l D ct G q189_155 H_189_155.size (hGE _ (D_last (c := (q189_155, .inr (3, [.int 0, .int 0, .int 0, .null]))) hD)) (Nat.le_trans hGs hS.1)) (cwi_X9_X3 htl hN ⟨Nat.le_of_ble_eq_true rfl, Nat.le_of_ble_eq_true rfl⟩) ⟨Bi_blind, Bi_pre hPc hK hN (hX.stay hS hGE)⟩ rfl rfl hl.1 rfl (lv_room (Nat.le_of_ble_eq_true rfl)) dX9_init_193 ⟨Nat.le_of_ble_eq_true rfl, Nat.le_of_ble_eq_true rfl⟩) hS (fun q _ h => hFc q h) hFc (fun a193_157 t H_193_157 locs_193_157 ht hvm hw hB hz1 hk1 hS => ?_)
  obtain ⟨e0_193_157, hP1, hD1⟩ := hB
  rw [ht] at hP1
  obtain ⟨hP, hD⟩ := join2 (c := (q189_155, .inr (3, [.int 0, .int 0, .int 0, .null]))) hP hD hk1 hFc hP1 hD1
  have hP := P_sw hP
  have hD := D_sw hD
  rw [← e0_193_157]
  have hP : va_P D vwCl (wapp (wapp [(h0, .inr (9, [.ref (a9_6 0), .ref (a20_11 0), .ref (a31_16 0), .ref (a42_21 0), .ref q50_25, .int 0, .ref (a66_33 0), .ref (a77_38 0), .ref (a88_43 0), .ref (a99_48 0), .ref q107_52, .ref (a118_57 0), .ref (a129_62 0), .ref q138_66])), (q50_25, .inl (ct 4, 3, .inr (.inr (.inr (.inr (va_up (va_up (va_up (fun _ => none) 0 (some (a163_80 0))) 1 (some (a163_94 0))) 2 (some (a163_108 0)))))))), (q107_52, .inl (ct 5, 4, .inr (.inr (.inr (.inr (va_up (va_up (fun _ => none) 0 (some (a193_129 0))) 1 (some (a193_143 0)))))))), (q138_66, .inl (ct 0, 61, .inl (fun _ => 0)))] (cs3 ct a193_157 i_X3)) O15) H_193_157 := hP
  have hD : va_D AA (wapp (wapp [(h0, .inr (9, [.ref (a9_6 0), .ref (a20_11 0), .ref (a31_16 0), .ref (a42_21 0), .ref q50_25, .int 0, .ref (a66_33 0), .ref (a77_38 0), .ref (a88_43 0), .ref (a99_48 0), .ref q107_52, .ref (a118_57 0), .ref (a129_62 0), .ref q138_66])), (q50_25, .inl (ct 4, 3, .inr (.inr (.inr (.inr (va_up (va_up (va_up (fun _ => none) 0 (some (a163_80 0))) 1 (some (a163_94 0))) 2 (some (a163_108 0)))))))), (q107_52, .inl (ct 5, 4, .inr (.inr (.inr (.inr (va_up (va_up (fun _ => none) 0 (some (a193_129 0))) 1 (some (a193_143 0)))))))), (q138_66, .inl (ct 0, 61, .inl (fun _ => 0)))] (cs3 ct a193_157 i_X3)) O15) := hD
  refine W.eq (g2 := F0 m 196 ls [.ref (a193_157 0), .int 2, .ref q107_52]) rfl ?_
  refine va_astq (D := D) (tys := tyl ct) (r := (RX3, TX3, 4)) hx hb hK hP hD hS 2 5 4 3 rfl rfl rfl rfl (vp_in_iff.mpr (by decide)) dX9_init_196 (fun H_196_158 locs_196_158 hP hD hS => ?_)
  have hP : va_P D vwCl (wapp (wapp [(h0, .inr (9, [.ref (a9_6 0), .ref (a20_11 0), .ref (a31_16 0), .ref (a42_21 0), .ref q50_25, .int 0, .ref (a66_33 0), .ref (a77_38 0), .ref (a88_43 0), .ref (a99_48 0), .ref q107_52, .ref (a118_57 0), .ref (a129_62 0), .ref q138_66])), (q50_25, .inl (ct 4, 3, .inr (.inr (.inr (.inr (va_up (va_up (va_up (fun _ => none) 0 (some (a163_80 0))) 1 (some (a163_94 0))) 2 (some (a163_108 0)))))))), (q107_52, .inl (ct 5, 4, .inr (.inr (.inr (.inr (va_up (va_up (va_up (fun _ => none) 0 (some (a193_129 0))) 1 (some (a193_143 0))) 2 (some (a193_157 0)))))))), (q138_66, .inl (ct 0, 61, .inl (fun _ => 0)))] (cs3 ct a193_157 i_X3)) O15) H_196_158 := hP
  have hD : va_D AA (wapp (wapp [(h0, .inr (9, [.ref (a9_6 0), .ref (a20_11 0), .ref (a31_16 0), .ref (a42_21 0), .ref q50_25, .int 0, .ref (a66_33 0), .ref (a77_38 0), .ref (a88_43 0), .ref (a99_48 0), .ref q107_52, .ref (a118_57 0), .ref (a129_62 0), .ref q138_66])), (q50_25, .inl (ct 4, 3, .inr (.inr (.inr (.inr (va_up (va_up (va_up (fun _ => none) 0 (some (a163_80 0))) 1 (some (a163_94 0))) 2 (some (a163_108 0)))))))), (q107_52, .inl (ct 5, 4, .inr (.inr (.inr (.inr (va_up (va_up (va_up (fun _ => none) 0 (some (a193_129 0))) 1 (some (a193_143 0))) 2 (some (a193_157 0)))))))), (q138_66, .inl (ct 0, 61, .inl (fun _ => 0)))] (cs3 ct a193_157 i_X3)) O15) := hD
  have hP := P_mg hP
  have hD := D_mg hD
  obtain ⟨O16, hO16⟩ : ∃ O : va_W, O = O15 ++ cs3 ct a193_157 i_X3 := ⟨_, rfl⟩
  rw [← hO16] at hP hD
  have hP : va_P D vwCl (wapp [(h0, .inr (9, [.ref (a9_6 0), .ref (a20_11 0), .ref (a31_16 0), .ref (a42_21 0), .ref q50_25, .int 0, .ref (a66_33 0), .ref (a77_38 0), .ref (a88_43 0), .ref (a99_48 0), .ref q107_52, .ref (a118_57 0), .ref (a129_62 0), .ref q138_66])), (q50_25, .inl (ct 4, 3, .inr (.inr (.inr (.inr (va_up (va_up (va_up (fun _ => none) 0 (some (a163_80 0))) 1 (some (a163_94 0))) 2 (some (a163_108 0)))))))), (q107_52, .inl (ct 5, 4, .inr (.inr (.inr (.inr (va_up (va_up (va_up (fun _ => none) 0 (some (a193_129 0))) 1 (some (a193_143 0))) 2 (some (a193_157 0)))))))), (q138_66, .inl (ct 0, 61, .inl (fun _ => 0)))] O16) H_196_158 := hP
  have hD : va_D AA (wapp [(h0, .inr (9, [.ref (a9_6 0), .ref (a20_11 0), .ref (a31_16 0), .ref (a42_21 0), .ref q50_25, .int 0, .ref (a66_33 0), .ref (a77_38 0), .ref (a88_43 0), .ref (a99_48 0), .ref q107_52, .ref (a118_57 0), .ref (a129_62 0), .ref q138_66])), (q50_25, .inl (ct 4, 3, .inr (.inr (.inr (.inr (va_up (va_up (va_up (fun _ => none) 0 (some (a163_80 0))) 1 (some (a163_94 0))) 2 (some (a163_108 0)))))))), (q107_52, .inl (ct 5, 4, .inr (.inr (.inr (.inr (va_up (va_up (va_up (fun _ => none) 0 (some (a193_129 0))) 1 (some (a193_143 0))) 2 (some (a193_157 0)))))))), (q138_66, .inl (ct 0, 61, .inl (fun _ => 0)))] O16) := hD
  refine lv_iinc (v := 3) (lv' := [(1, .int 3), (0, .ref h0)]) hx hb dX9_init_197 hl (k := 0) rfl (by decide) (by decide) rfl (fun ls hl => ?_)
  refine lv_goto (tgt := 175) hx hb dX9_init_200 (by decide) ?_
  refine lv_iload_n hx hb dX9_init_175 rfl (lv_at hl 0 rfl) ?_
  refine lv_aload_n hx hb dX9_init_176 rfl (lv_at hl 1 rfl) ?_
  refine va_get (D := D) (tys := tyl ct) (ci := 9) (v := .ref q107_52) (C := RX9) (T := TX9) (N := 14) hx hb htl inlX9 hown hK hP 0 rfl rfl 10 (by decide) (htl _ wq_2_15) (fun _ h9 => h9) rfl dX9_init_177 ?_
  refine va_alen (D := D) (tys := tyl ct) (v := 4) hx hb hK hP 2 5 rfl rfl rfl dX9_init_180 ?_
  refine lv_icmp_ge (tgt := 203) hx hb dX9_init_181 (by decide) (fun c_181_165 => absurd c_181_165 (by decide)) (fun c_181_165 => ?_)
  refine lv_aload_n hx hb dX9_init_184 rfl (lv_at hl 1 rfl) ?_
  refine va_get (D := D) (tys := tyl ct) (ci := 9) (v := .ref q107_52) (C := RX9) (T := TX9) (N := 14) hx hb htl inlX9 hown hK hP 0 rfl rfl 10 (by decide) (htl _ wq_2_15) (fun _ h9 => h9) rfl dX9_init_185 ?_
  refine lv_iload_n hx hb dX9_init_188 rfl (lv_at hl 0 rfl) ?_
  refine va_new (D := D) (tys := tyl ct) (ci := 3) (fs := [.int 0, .int 0, .int 0, .null]) (C := RX3) (T := TX3) (N := 4) hx hb htl inlX3 tyX3 tyX3_ok hown (htl _ wq_2_14) (htl _ wq_3_2) (htl _ wq_3_3) hK hP hD hS hA rfl (def_X3) (Nat.le_of_ble_eq_true rfl) (Nat.le_of_ble_eq_true rfl) dX9_init_189 (fun q189_169 H_189_169 hP hD hS => ?_)
  have hP : va_P D vwCl (wapp (wapp [(h0, .inr (9, [.ref (a9_6 0), .ref (a20_11 0), .ref (a31_16 0), .ref (a42_21 0), .ref q50_25, .int 0, .ref (a66_33 0), .ref (a77_38 0), .ref (a88_43 0), .ref (a99_48 0), .ref q107_52, .ref (a118_57 0), .ref (a129_62 0), .ref q138_66])), (q50_25, .inl (ct 4, 3, .inr (.inr (.inr (.inr (va_up (va_up (va_up (fun _ => none) 0 (some (a163_80 0))) 1 (some (a163_94 0))) 2 (some (a163_108 0)))))))), (q107_52, .inl (ct 5, 4, .inr (.inr (.inr (.inr (va_up (va_up (va_up (fun _ => none) 0 (some (a193_129 0))) 1 (some (a193_143 0))) 2 (some (a193_157 0)))))))), (q138_66, .inl (ct 0, 61, .inl (fun _ => 0)))] O16) [(q189_169, .inr (3, [.int 0, .int 0, .int 0, .null]))]) H_189_169 := hP
  have hD : va_D AA (wapp (wapp [(h0, .inr (9, [.ref (a9_6 0), .ref (a20_11 0), .ref (a31_16 0), .ref (a42_21 0), .ref q50_25, .int 0, .ref (a66_33 0), .ref (a77_38 0), .ref (a88_43 0), .ref (a99_48 0), .ref q107_52, .ref (a118_57 0), .ref (a129_62 0), .ref q138_66])), (q50_25, .inl (ct 4, 3, .inr (.inr (.inr (.inr (va_up (va_up (va_up (fun _ => none) 0 (some (a163_80 0))) 1 (some (a163_94 0))) 2 (some (a163_108 0)))))))), (q107_52, .inl (ct 5, 4, .inr (.inr (.inr (.inr (va_up (va_up (va_up (fun _ => none) 0 (some (a193_129 0))) 1 (some (a193_143 0))) 2 (some (a193_157 0)))))))), (q138_66, .inl (ct 0, 61, .inl (fun _ => 0)))] O16) [(q189_169, .inr (3, [.int 0, .int 0, .int 0, .null]))]) := hD
  refine lv_dup hx hb dX9_init_192 rfl ?_
  have hPc : va_P D vwCl [(q189_169, .inr (3, [.int 0, .int 0, .int 0, .null]))] H_189_169 := P_right hP
  have hFc := free2 (c := (q189_169, .inr (3, [.int 0, .int 0, .int 0, .null]))) hD hS hA
  refine va_callv (va_runIN (As := []) (rest := [.ref q189_169, .int 3, .ref q107_52]) ⟨hx, hb, hml, hown, htl⟩ (ci_X3 l D ct G q189_169 H_189_169.size (hGE _ (D_last (c := (q189_169, .inr (3, [.int 0, .int 0, .int 0, .null]))) hD)) (Nat.le_trans hGs hS.1)) (cwi_X9_X3 htl hN ⟨Nat.le_of_ble_eq_true rfl, Nat.le_of_ble_eq_true rfl⟩) ⟨Bi_blind, Bi_pre hPc hK hN (hX.stay hS hGE)⟩ rfl rfl hl.1 rfl (lv_room (Nat.le_of_ble_eq_true rfl)) dX9_init_193 ⟨Nat.le_of_ble_eq_true rfl, Nat.le_of_ble_eq_true rfl⟩) hS (fun q _ h => hFc q h) hFc (fun a193_171 t H_193_171 locs_193_171 ht hvm hw hB hz1 hk1 hS => ?_)
  obtain ⟨e0_193_171, hP1, hD1⟩ := hB
  rw [ht] at hP1
  obtain ⟨hP, hD⟩ := join2 (c := (q189_169, .inr (3, [.int 0, .int 0, .int 0, .null]))) hP hD hk1 hFc hP1 hD1
  have hP := P_sw hP
  have hD := D_sw hD
  rw [← e0_193_171]
  have hP : va_P D vwCl (wapp (wapp [(h0, .inr (9, [.ref (a9_6 0), .ref (a20_11 0), .ref (a31_16 0), .ref (a42_21 0), .ref q50_25, .int 0, .ref (a66_33 0), .ref (a77_38 0), .ref (a88_43 0), .ref (a99_48 0), .ref q107_52, .ref (a118_57 0), .ref (a129_62 0), .ref q138_66])), (q50_25, .inl (ct 4, 3, .inr (.inr (.inr (.inr (va_up (va_up (va_up (fun _ => none) 0 (some (a163_80 0))) 1 (some (a163_94 0))) 2 (some (a163_108 0)))))))), (q107_52, .inl (ct 5, 4, .inr (.inr (.inr (.inr (va_up (va_up (va_up (fun _ => none) 0 (some (a193_129 0))) 1 (some (a193_143 0))) 2 (some (a193_157 0)))))))), (q138_66, .inl (ct 0, 61, .inl (fun _ => 0)))] (cs3 ct a193_171 i_X3)) O16) H_193_171 := hP
  have hD : va_D AA (wapp (wapp [(h0, .inr (9, [.ref (a9_6 0), .ref (a20_11 0), .ref (a31_16 0), .ref (a42_21 0), .ref q50_25, .int 0, .ref (a66_33 0), .ref (a77_38 0), .ref (a88_43 0), .ref (a99_48 0), .ref q107_52, .ref (a118_57 0), .ref (a129_62 0), .ref q138_66])), (q50_25, .inl (ct 4, 3, .inr (.inr (.inr (.inr (va_up (va_up (va_up (fun _ => none) 0 (some (a163_80 0))) 1 (some (a163_94 0))) 2 (some (a163_108 0)))))))), (q107_52, .inl (ct 5, 4, .inr (.inr (.inr (.inr (va_up (va_up (va_up (fun _ => none) 0 (some (a193_129 0))) 1 (some (a193_143 0))) 2 (some (a193_157 0)))))))), (q138_66, .inl (ct 0, 61, .inl (fun _ => 0)))] (cs3 ct a193_171 i_X3)) O16) := hD
  refine W.eq (g2 := F0 m 196 ls [.ref (a193_171 0), .int 3, .ref q107_52]) rfl ?_
  refine va_astq (D := D) (tys := tyl ct) (r := (RX3, TX3, 4)) hx hb hK hP hD hS 2 5 4 3 rfl rfl rfl rfl (vp_in_iff.mpr (by decide)) dX9_init_196 (fun H_196_172 locs_196_172 hP hD hS => ?_)
  have hP : va_P D vwCl (wapp (wapp [(h0, .inr (9, [.ref (a9_6 0), .ref (a20_11 0), .ref (a31_16 0), .ref (a42_21 0), .ref q50_25, .int 0, .ref (a66_33 0), .ref (a77_38 0), .ref (a88_43 0), .ref (a99_48 0), .ref q107_52, .ref (a118_57 0), .ref (a129_62 0), .ref q138_66])), (q50_25, .inl (ct 4, 3, .inr (.inr (.inr (.inr (va_up (va_up (va_up (fun _ => none) 0 (some (a163_80 0))) 1 (some (a163_94 0))) 2 (some (a163_108 0)))))))), (q107_52, .inl (ct 5, 4, .inr (.inr (.inr (.inr (va_up (va_up (va_up (va_up (fun _ => none) 0 (some (a193_129 0))) 1 (some (a193_143 0))) 2 (some (a193_157 0))) 3 (some (a193_171 0)))))))), (q138_66, .inl (ct 0, 61, .inl (fun _ => 0)))] (cs3 ct a193_171 i_X3)) O16) H_196_172 := hP
  have hD : va_D AA (wapp (wapp [(h0, .inr (9, [.ref (a9_6 0), .ref (a20_11 0), .ref (a31_16 0), .ref (a42_21 0), .ref q50_25, .int 0, .ref (a66_33 0), .ref (a77_38 0), .ref (a88_43 0), .ref (a99_48 0), .ref q107_52, .ref (a118_57 0), .ref (a129_62 0), .ref q138_66])), (q50_25, .inl (ct 4, 3, .inr (.inr (.inr (.inr (va_up (va_up (va_up (fun _ => none) 0 (some (a163_80 0))) 1 (some (a163_94 0))) 2 (some (a163_108 0)))))))), (q107_52, .inl (ct 5, 4, .inr (.inr (.inr (.inr (va_up (va_up (va_up (va_up (fun _ => none) 0 (some (a193_129 0))) 1 (some (a193_143 0))) 2 (some (a193_157 0))) 3 (some (a193_171 0)))))))), (q138_66, .inl (ct 0, 61, .inl (fun _ => 0)))] (cs3 ct a193_171 i_X3)) O16) := hD
  have hP := P_mg hP
  have hD := D_mg hD
  obtain ⟨O17, hO17⟩ : ∃ O : va_W, O = O16 ++ cs3 ct a193_171 i_X3 := ⟨_, rfl⟩
  rw [← hO17] at hP hD
  have hP : va_P D vwCl (wapp [(h0, .inr (9, [.ref (a9_6 0), .ref (a20_11 0), .ref (a31_16 0), .ref (a42_21 0), .ref q50_25, .int 0, .ref (a66_33 0), .ref (a77_38 0), .ref (a88_43 0), .ref (a99_48 0), .ref q107_52, .ref (a118_57 0), .ref (a129_62 0), .ref q138_66])), (q50_25, .inl (ct 4, 3, .inr (.inr (.inr (.inr (va_up (va_up (va_up (fun _ => none) 0 (some (a163_80 0))) 1 (some (a163_94 0))) 2 (some (a163_108 0)))))))), (q107_52, .inl (ct 5, 4, .inr (.inr (.inr (.inr (va_up (va_up (va_up (va_up (fun _ => none) 0 (some (a193_129 0))) 1 (some (a193_143 0))) 2 (some (a193_157 0))) 3 (some (a193_171 0)))))))), (q138_66, .inl (ct 0, 61, .inl (fun _ => 0)))] O17) H_196_172 := hP
  have hD : va_D AA (wapp [(h0, .inr (9, [.ref (a9_6 0), .ref (a20_11 0), .ref (a31_16 0), .ref (a42_21 0), .ref q50_25, .int 0, .ref (a66_33 0), .ref (a77_38 0), .ref (a88_43 0), .ref (a99_48 0), .ref q107_52, .ref (a118_57 0), .ref (a129_62 0), .ref q138_66])), (q50_25, .inl (ct 4, 3, .inr (.inr (.inr (.inr (va_up (va_up (va_up (fun _ => none) 0 (some (a163_80 0))) 1 (some (a163_94 0))) 2 (some (a163_108 0)))))))), (q107_52, .inl (ct 5, 4, .inr (.inr (.inr (.inr (va_up (va_up (va_up (va_up (fun _ => none) 0 (some (a193_129 0))) 1 (some (a193_143 0))) 2 (some (a193_157 0))) 3 (some (a193_171 0)))))))), (q138_66, .inl (ct 0, 61, .inl (fun _ => 0)))] O17) := hD
  refine lv_iinc (v := 4) (lv' := [(1, .int 4), (0, .ref h0)]) hx hb dX9_init_197 hl (k := 0) rfl (by decide) (by decide) rfl (fun ls hl => ?_)
  refine lv_goto (tgt := 175) hx hb dX9_init_200 (by decide) ?_
  refine lv_iload_n hx hb dX9_init_175 rfl (lv_at hl 0 rfl) ?_
  refine lv_aload_n hx hb dX9_init_176 rfl (lv_at hl 1 rfl) ?_
  refine va_get (D := D) (tys := tyl ct) (ci := 9) (v := .ref q107_52) (C := RX9) (T := TX9) (N := 14) hx hb htl inlX9 hown hK hP 0 rfl rfl 10 (by decide) (htl _ wq_2_15) (fun _ h9 => h9) rfl dX9_init_177 ?_
  refine va_alen (D := D) (tys := tyl ct) (v := 4) hx hb hK hP 2 5 rfl rfl rfl dX9_init_180 ?_
  refine lv_icmp_ge (tgt := 203) hx hb dX9_init_181 (by decide) (fun c_181_179 => ?_) (fun c_181_179 => absurd (by decide) c_181_179)
  obtain ⟨A, hAd⟩ : ∃ A : Nat → Nat, A = fun i => ([h0, a9_6 0, a9_6 1, a20_11 0, a20_11 1, a20_11 2, a20_11 3, a20_11 4, a20_11 5, a20_11 6, a20_11 7, a20_11 8, a20_11 9, a20_11 10, a20_11 11, a20_11 12, a20_11 13, a20_11 14, a20_11 15, a20_11 16, a20_11 17, a31_16 0, a31_16 1, a31_16 2, a31_16 3, a31_16 4, a31_16 5, a31_16 6, a31_16 7, a31_16 8, a31_16 9, a31_16 10, a31_16 11, a31_16 12, a42_21 0, a42_21 1, a42_21 2, a42_21 3, a42_21 4, a42_21 5, a42_21 6, a42_21 7, a42_21 8, a42_21 9, a42_21 10, a42_21 11, a42_21 12, q50_25, a163_80 0, a163_80 1, a163_80 2, a163_80 3, a163_80 4, a163_80 5, a163_80 6, a163_80 7, a163_80 8, a163_80 9, a163_80 10, a163_80 11, a163_80 12, a163_94 0, a163_94 1, a163_94 2, a163_94 3, a163_94 4, a163_94 5, a163_94 6, a163_94 7, a163_94 8, a163_94 9, a163_94 10, a163_94 11, a163_94 12, a163_108 0, a163_108 1, a163_108 2, a163_108 3, a163_108 4, a163_108 5, a163_108 6, a163_108 7, a163_108 8, a163_108 9, a163_108 10, a163_108 11, a163_108 12, a66_33 0, a66_33 1, a66_33 2, a77_38 0, a77_38 1, a77_38 2, a88_43 0, a88_43 1, a99_48 0, a99_48 1, q107_52, a193_129 0, a193_129 1, a193_143 0, a193_143 1, a193_157 0, a193_157 1, a193_171 0, a193_171 1, a118_57 0, a118_57 1, a129_62 0, a129_62 1, a129_62 2, q138_66] : List Nat).getD i 0 := ⟨_, rfl⟩
  have hP := P_arrq (g := fun j => some (A (48 + 13 * j))) hP 1 rfl (fun j hj => by
    rw [hAd]
    match j, hj with
    | 0, _ => rfl
    | 1, _ => rfl
    | 2, _ => rfl
    | j + 3, h => exact absurd h (by omega))
  have hP : va_P D vwCl (wapp [(h0, .inr (9, [.ref (a9_6 0), .ref (a20_11 0), .ref (a31_16 0), .ref (a42_21 0), .ref q50_25, .int 0, .ref (a66_33 0), .ref (a77_38 0), .ref (a88_43 0), .ref (a99_48 0), .ref q107_52, .ref (a118_57 0), .ref (a129_62 0), .ref q138_66])), (q50_25, .inl (ct 4, 3, .inr (.inr (.inr (.inr (fun j => some (A (48 + 13 * j)))))))), (q107_52, .inl (ct 5, 4, .inr (.inr (.inr (.inr (va_up (va_up (va_up (va_up (fun _ => none) 0 (some (a193_129 0))) 1 (some (a193_143 0))) 2 (some (a193_157 0))) 3 (some (a193_171 0)))))))), (q138_66, .inl (ct 0, 61, .inl (fun _ => 0)))] O17) H_196_172 := hP
  have hD : va_D AA (wapp [(h0, .inr (9, [.ref (a9_6 0), .ref (a20_11 0), .ref (a31_16 0), .ref (a42_21 0), .ref q50_25, .int 0, .ref (a66_33 0), .ref (a77_38 0), .ref (a88_43 0), .ref (a99_48 0), .ref q107_52, .ref (a118_57 0), .ref (a129_62 0), .ref q138_66])), (q50_25, .inl (ct 4, 3, .inr (.inr (.inr (.inr (fun j => some (A (48 + 13 * j)))))))), (q107_52, .inl (ct 5, 4, .inr (.inr (.inr (.inr (va_up (va_up (va_up (va_up (fun _ => none) 0 (some (a193_129 0))) 1 (some (a193_143 0))) 2 (some (a193_157 0))) 3 (some (a193_171 0)))))))), (q138_66, .inl (ct 0, 61, .inl (fun _ => 0)))] O17) := D_cr hD rfl
  have hP := P_arrq (g := fun j => some (A (98 + 2 * j))) hP 2 rfl (fun j hj => by
    rw [hAd]
    match j, hj with
    | 0, _ => rfl
    | 1, _ => rfl
    | 2, _ => rfl
    | 3, _ => rfl
    | j + 4, h => exact absurd h (by omega))
  have hP : va_P D vwCl (wapp [(h0, .inr (9, [.ref (a9_6 0), .ref (a20_11 0), .ref (a31_16 0), .ref (a42_21 0), .ref q50_25, .int 0, .ref (a66_33 0), .ref (a77_38 0), .ref (a88_43 0), .ref (a99_48 0), .ref q107_52, .ref (a118_57 0), .ref (a129_62 0), .ref q138_66])), (q50_25, .inl (ct 4, 3, .inr (.inr (.inr (.inr (fun j => some (A (48 + 13 * j)))))))), (q107_52, .inl (ct 5, 4, .inr (.inr (.inr (.inr (fun j => some (A (98 + 2 * j)))))))), (q138_66, .inl (ct 0, 61, .inl (fun _ => 0)))] O17) H_196_172 := hP
  have hD : va_D AA (wapp [(h0, .inr (9, [.ref (a9_6 0), .ref (a20_11 0), .ref (a31_16 0), .ref (a42_21 0), .ref q50_25, .int 0, .ref (a66_33 0), .ref (a77_38 0), .ref (a88_43 0), .ref (a99_48 0), .ref q107_52, .ref (a118_57 0), .ref (a129_62 0), .ref q138_66])), (q50_25, .inl (ct 4, 3, .inr (.inr (.inr (.inr (fun j => some (A (48 + 13 * j)))))))), (q107_52, .inl (ct 5, 4, .inr (.inr (.inr (.inr (fun j => some (A (98 + 2 * j)))))))), (q138_66, .inl (ct 0, 61, .inl (fun _ => 0)))] O17) := D_cr hD rfl
  subst hO17
  subst hO16
  subst hO15
  subst hO14
  subst hO13
  subst hO12
  subst hO11
  subst hO10
  subst hO9
  subst hO8
  subst hO7
  subst hO6
  subst hO5
  subst hO4
  subst hO3
  subst hO2
  subst hO1
  subst hO0
  have hb0 : cs6 ct (fun i => A (1 + i)) (i_Q 1) = cs6 ct a9_6 i_X6 := by
    rw [hAd]
    rfl
  have hb1 : cs1 ct (fun i => A (3 + i)) (i_Q 2) (i_Q 3) (i_Q 4) = cs1 ct a20_11 i_X1o i_X7 i_X2 := by
    rw [hAd]
    rfl
  have hb2 : cs2 ct (fun i => A (21 + i)) (i_Q 5) = cs2 ct a31_16 i_X2 := by
    rw [hAd]
    rfl
  have hb3 : cs2 ct (fun i => A (34 + i)) (i_Q 6) = cs2 ct a42_21 i_X2 := by
    rw [hAd]
    rfl
  have hb5 : cs2 ct (fun i => A (48 + i)) (i_Q 7) = cs2 ct a163_80 i_X2 := by
    rw [hAd]
    rfl
  have hb6 : cs2 ct (fun i => A (61 + i)) (i_Q 8) = cs2 ct a163_94 i_X2 := by
    rw [hAd]
    rfl
  have hb7 : cs2 ct (fun i => A (74 + i)) (i_Q 9) = cs2 ct a163_108 i_X2 := by
    rw [hAd]
    rfl
  have hb8 : cs8 ct (fun i => A (87 + i)) (i_Q 10) = cs8 ct a66_33 i_X8 := by
    rw [hAd]
    rfl
  have hb9 : cs8 ct (fun i => A (90 + i)) (i_Q 11) = cs8 ct a77_38 i_X8 := by
    rw [hAd]
    rfl
  have hb10 : cs5 ct (fun i => A (93 + i)) (i_Q 12) = cs5 ct a88_43 i_X5 := by
    rw [hAd]
    rfl
  have hb11 : cs5 ct (fun i => A (95 + i)) (i_Q 13) = cs5 ct a99_48 i_X5 := by
    rw [hAd]
    rfl
  have hb13 : cs3 ct (fun i => A (98 + i)) (i_Q 14) = cs3 ct a193_129 i_X3 := by
    rw [hAd]
    rfl
  have hb14 : cs3 ct (fun i => A (100 + i)) (i_Q 15) = cs3 ct a193_143 i_X3 := by
    rw [hAd]
    rfl
  have hb15 : cs3 ct (fun i => A (102 + i)) (i_Q 16) = cs3 ct a193_157 i_X3 := by
    rw [hAd]
    rfl
  have hb16 : cs3 ct (fun i => A (104 + i)) (i_Q 17) = cs3 ct a193_171 i_X3 := by
    rw [hAd]
    rfl
  have hb17 : cs4 ct (fun i => A (106 + i)) (i_Q 18) = cs4 ct a118_57 i_X4 := by
    rw [hAd]
    rfl
  have hb18 : cs0 ct (fun i => A (chp (i_Q 19) i)) (i_Q 19) = cs0 ct a129_62 i_X0 := by
    rw [hAd]
    rfl
  have hpm := permQ (h0, .inr (9, [.ref (a9_6 0), .ref (a20_11 0), .ref (a31_16 0), .ref (a42_21 0), .ref q50_25, .int 0, .ref (a66_33 0), .ref (a77_38 0), .ref (a88_43 0), .ref (a99_48 0), .ref q107_52, .ref (a118_57 0), .ref (a129_62 0), .ref q138_66])) (q50_25, .inl (ct 4, 3, .inr (.inr (.inr (.inr (fun j => some (A (48 + 13 * j)))))))) (q107_52, .inl (ct 5, 4, .inr (.inr (.inr (.inr (fun j => some (A (98 + 2 * j)))))))) (q138_66, .inl (ct 0, 61, .inl (fun _ => 0))) (cs6 ct a9_6 i_X6) (cs1 ct a20_11 i_X1o i_X7 i_X2) (cs2 ct a31_16 i_X2) (cs2 ct a42_21 i_X2) (cs8 ct a66_33 i_X8) (cs8 ct a77_38 i_X8) (cs5 ct a88_43 i_X5) (cs5 ct a99_48 i_X5) (cs4 ct a118_57 i_X4) (cs0 ct a129_62 i_X0) (cs2 ct a163_80 i_X2) (cs2 ct a163_94 i_X2) (cs2 ct a163_108 i_X2) (cs3 ct a193_129 i_X3) (cs3 ct a193_143 i_X3) (cs3 ct a193_157 i_X3) (cs3 ct a193_171 i_X3)
  have hpm2 := P_pm hP hpm
  have hdm2 := D_pm hD hpm
  have hP : va_P D vwCl (csQ ct A i_Q) H_196_172 := by
    unfold csQ
    rw [hb0, hb1, hb2, hb3, hb5, hb6, hb7, hb8, hb9, hb10, hb11, hb13, hb14, hb15, hb16, hb17, hb18]
    subst hAd
    exact hpm2
  have hD : va_D AA (csQ ct A i_Q) := by
    unfold csQ
    rw [hb0, hb1, hb2, hb3, hb5, hb6, hb7, hb8, hb9, hb10, hb11, hb13, hb14, hb15, hb16, hb17, hb18]
    subst hAd
    exact hdm2
  refine W.widen (k := 111) (n := 7769) (Nat.le_of_ble_eq_true rfl) (Nat.le_of_ble_eq_true rfl) ?_
  exact W.vret hx hb hr (fun t ht hW => ⟨⟨A, rfl, trivial, by rw [hAd]; rfl, by rw [ht]; exact hP, D_Q hD rfl⟩, hS.F ht⟩) hS.2.2 dX9_init_203
