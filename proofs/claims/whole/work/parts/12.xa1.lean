/-! ===== sums; rains as numbers; how likely a level is ===== -/
def sm (f : Nat → Nat) : Nat → Nat
  | 0 => 0
  | n + 1 => sm f n + f n
theorem sm_cg {f g : Nat → Nat} : ∀ n, (∀ k, k < n → f k = g k) → sm f n = sm g n
  | 0, _ => rfl
  | n + 1, h => by rw [sm, sm, sm_cg n (fun k hk => h k (by omega)), h n (by omega)]
theorem sm_le {f g : Nat → Nat} : ∀ n, (∀ k, k < n → f k ≤ g k) → sm f n ≤ sm g n
  | 0, _ => Nat.le_refl _
  | n + 1, h => by
    rw [sm, sm]
    exact Nat.add_le_add (sm_le n (fun k hk => h k (by omega))) (h n (by omega))
theorem sm_mono (f : Nat → Nat) {a : Nat} : ∀ b, a ≤ b → sm f a ≤ sm f b
  | 0, h => by rw [show a = 0 by omega]; exact Nat.le_refl _
  | b + 1, h => by
    by_cases e : a = b + 1
    · rw [e]; exact Nat.le_refl _
    · rw [sm]
      exact Nat.le_trans (sm_mono f b (by omega)) (Nat.le_add_right _ _)
theorem sm_z : ∀ n, sm (fun _ => 0) n = 0
  | 0 => rfl
  | n + 1 => by rw [sm, sm_z n]
theorem sm_add (f g : Nat → Nat) : ∀ n, sm (fun k => f k + g k) n = sm f n + sm g n
  | 0 => rfl
  | n + 1 => by rw [sm, sm, sm, sm_add f g n]; omega
theorem sm_mul (f : Nat → Nat) (c : Nat) : ∀ n, sm (fun k => c * f k) n = c * sm f n
  | 0 => rfl
  | n + 1 => by rw [sm, sm, sm_mul f c n, Nat.mul_add]
theorem sm_one (a c : Nat) : ∀ n, sm (fun k => if a = k then c else 0) n = if a < n then c else 0
  | 0 => rfl
  | n + 1 => by
    rw [sm, sm_one a c n]
    by_cases e : a = n
    · rw [if_pos e, if_neg (by omega), if_pos (by omega), Nat.zero_add]
    · rw [if_neg e, Nat.add_zero]
      by_cases q : a < n
      · rw [if_pos q, if_pos (by omega)]
      · rw [if_neg q, if_neg (by omega)]
theorem sm_flat (f : Nat → Nat) {a : Nat} : ∀ b, a ≤ b → (∀ k, a ≤ k → k < b → f k = 0) → sm f b = sm f a
  | 0, h, _ => by rw [show a = 0 by omega]
  | b + 1, h, z => by
    by_cases e : a = b + 1
    · rw [e]
    · rw [sm, sm_flat f b (by omega) (fun k h1 h2 => z k h1 (by omega)), z b (by omega) (by omega), Nat.add_zero]
theorem sm_upd (g : Nat → Nat) (s m : Nat) : ∀ n, sm (fun k => if k = s then g s + m else g k) n = sm g n + (if s < n then m else 0)
  | 0 => rfl
  | n + 1 => by
    rw [sm, sm, sm_upd g s m n]
    by_cases e : n = s
    · subst e
      rw [if_pos rfl, if_neg (by omega), if_pos (by omega)]
      omega
    · rw [if_neg e]
      by_cases q : s < n
      · rw [if_pos q, if_pos (by omega)]; omega
      · rw [if_neg q, if_neg (by omega)]; omega
/-! rains -/
def RNn (f : Nat → Int32) (b : Nat) : Prop := ∃ g : Nat → Nat, (∀ k, f k = nI (g k)) ∧ sm g 61 ≤ b
theorem RNn.up {f : Nat → Int32} {b : Nat} (h : RNn f b) {s : Nat} (hs : s < 61) (m : Nat) : RNn (upd f s (f s + nI m)) (b + m) := by
  obtain ⟨g, hg, hb⟩ := h
  refine ⟨fun k => if k = s then g s + m else g k, fun k => ?_, ?_⟩
  · rw [upd_v]
    by_cases e : k = s
    · rw [if_pos e, hg s, nI_add]
      show _ = nI (if k = s then g s + m else g k)
      rw [if_pos e]
    · rw [if_neg e, hg k]
      show _ = nI (if k = s then g s + m else g k)
      rw [if_neg e]
  · rw [sm_upd, if_pos hs]; omega
theorem RNn.mono {f : Nat → Int32} {b c : Nat} (h : RNn f b) (hc : b ≤ c) : RNn f c := by
  obtain ⟨g, hg, hb⟩ := h
  exact ⟨g, hg, Nat.le_trans hb hc⟩
theorem rn0_n {w : Nat → Int32} (h : OKW w) : ∀ k, k ≤ nN w → RNn (rn0 w k) (30 * k)
  | 0, _ => ⟨fun _ => 0, fun _ => rfl, by rw [sm_z]; omega⟩
  | k + 1, hk => by
    have ih := rn0_n h k (by omega)
    obtain ⟨⟨m, h1, hm, em⟩, s, hs, es⟩ := h.2.2.2.2.2.1 k (by omega)
    show RNn (upd (rn0 w k) (wS w k).toNatClampNeg (rn0 w k (wS w k).toNatClampNeg + wM w k)) _
    rw [es, em, cl_nI (by omega)]
    exact (ih.up (by omega) m).mono (by omega)
theorem raA_n {w : Nat → Int32} (h : OKW w) : ∀ k, k ≤ nA w → RNn (raA w k).1 (30 * nN w + 30 * k)
  | 0, _ => (rn0_n h (nN w) (Nat.le_refl _)).mono (by omega)
  | k + 1, hk => by
    have ih := raA_n h k (by omega)
    have hJ := h.2.1.2.1
    show RNn (actF (wC w k).toNatClampNeg (raA w k)).1 _
    unfold actF
    rcases h.2.2.2.2.2.2 k (by omega) with ⟨j, b, hj, hb, e⟩ | ⟨s, n, hs, h1, hn, e⟩
    · rw [e, cl_nI (by omega), if_neg (by omega)]
      split <;> exact ih.mono (by omega)
    · rw [e, cl_nI (by omega), if_pos (by omega)]
      have e1 : (100 * (s + 1) + n) / 100 - 1 = s := by omega
      have e2 : (100 * (s + 1) + n) % 100 = n := by omega
      rw [e1, e2]
      exact (ih.up (by omega) n).mono (by omega)
theorem rain_n {w : Nat → Int32} (h : OKW w) : ∃ g : Nat → Nat, (∀ k, rnW w k = nI (g k)) ∧ sm g 61 ≤ 1050 := by
  have h1 := h.2.1.2.2.1
  have h2 := h.2.1.2.2.2.1
  exact (raA_n h (nA w) (Nat.le_refl _)).mono (by omega)
/-! weights -/
def acc (w : Nat → Nat) (r od sw : Nat) : Nat → Nat → Nat
  | 0, _ => 0
  | K + 1, j => acc w r od sw K j + (if (K - 1) + r = j then w K * (10 - od) else 0) + (if (K - 1) + r + sw = j then w K * od else 0)
theorem acc_z (w : Nat → Nat) (r od sw : Nat) {j : Nat} : ∀ K, (∀ k, k < K → (k - 1) + r + sw < j) → acc w r od sw K j = 0
  | 0, _ => rfl
  | K + 1, h => by
    have := h K (by omega)
    rw [acc, acc_z w r od sw K (fun k hk => h k (by omega)), if_neg (by omega), if_neg (by omega)]
theorem acc_sm (w : Nat → Nat) (r od sw : Nat) (hod : od ≤ 10) {M : Nat} : ∀ K, (∀ k, k < K → (k - 1) + r + sw < M) → sm (acc w r od sw K) M = 10 * sm w K
  | 0, _ => (sm_cg (g := fun _ => 0) M (fun _ _ => rfl)).trans ((sm_z M).trans rfl)
  | K + 1, h => by
    have hK := h K (by omega)
    have e : sm (acc w r od sw (K + 1)) M = sm (acc w r od sw K) M + (if (K - 1) + r < M then w K * (10 - od) else 0) + (if (K - 1) + r + sw < M then w K * od else 0) := by
      rw [← sm_one ((K - 1) + r) (w K * (10 - od)) M, ← sm_one ((K - 1) + r + sw) (w K * od) M, ← sm_add, ← sm_add]
      rfl
    rw [e, acc_sm w r od sw hod K (fun k hk => h k (by omega)), if_pos (by omega), if_pos (by omega), sm, Nat.mul_add, Nat.add_assoc, ← Nat.mul_add, Nat.sub_add_cancel hod, Nat.mul_comm (w K)]
theorem acc_ext (w : Nat → Nat) (r od sw j : Nat) {K : Nat} : ∀ K', K ≤ K' → (∀ k, K ≤ k → k < K' → w k = 0) → acc w r od sw K' j = acc w r od sw K j
  | 0, h, _ => by rw [show K = 0 by omega]
  | K' + 1, h, z => by
    by_cases e : K = K' + 1
    · rw [e]
    · rw [acc, acc_ext w r od sw j K' (by omega) (fun k h1 h2 => z k h1 (by omega)), z K' (by omega) (by omega), Nat.zero_mul, Nat.zero_mul, ite_self, ite_self]; rfl
def Tq (l sw : Nat) (g : Nat → Nat) : Nat → Nat
  | 0 => l + g 0
  | n + 1 => (Tq l sw g n - 1) + g (n + 1) + sw
def wq (l od sw : Nat) (g : Nat → Nat) : Nat → Nat → Nat
  | 0 => fun k => if l + g 0 = k then 1 else 0
  | n + 1 => acc (wq l od sw g n) (g (n + 1)) od sw (Tq l sw g n + 1)
theorem Tq_le (l sw : Nat) (g : Nat → Nat) : ∀ n, Tq l sw g n ≤ l + sm g (n + 1) + sw * n
  | 0 => by rw [Tq, sm, sm]; omega
  | n + 1 => by
    have ih := Tq_le l sw g n
    rw [Tq, sm, Nat.mul_add]
    omega
theorem Tq_b {l sw : Nat} {g : Nat → Nat} (hl : l ≤ 60) (hs : sw ≤ 9) (hg : sm g 61 ≤ 1050) {n : Nat} (hn : n ≤ 14) : Tq l sw g n ≤ 1236 := by
  have h1 := Tq_le l sw g n
  have h2 := sm_mono g (a := n + 1) 61 (by omega)
  have h3 : sw * n ≤ 9 * 14 := Nat.mul_le_mul hs hn
  omega
theorem wq_z (l od sw : Nat) (g : Nat → Nat) : ∀ n k, Tq l sw g n < k → wq l od sw g n k = 0
  | 0, k, h => by
    rw [Tq] at h
    show (if l + g 0 = k then 1 else 0) = 0
    rw [if_neg (by omega)]
  | n + 1, k, h => by
    rw [Tq] at h
    show acc (wq l od sw g n) (g (n + 1)) od sw (Tq l sw g n + 1) k = 0
    exact acc_z _ _ _ _ _ (fun q hq => by omega)
theorem wq_sm (l : Nat) {od : Nat} (sw : Nat) (g : Nat → Nat) (hod : od ≤ 10) : ∀ n M, Tq l sw g n < M → sm (wq l od sw g n) M = 10 ^ n
  | 0, M, h => by
    rw [Tq] at h
    show sm (fun k => if l + g 0 = k then 1 else 0) M = 1
    rw [sm_one, if_pos h]
  | n + 1, M, h => by
    rw [Tq] at h
    show sm (acc (wq l od sw g n) (g (n + 1)) od sw (Tq l sw g n + 1)) M = 10 ^ (n + 1)
    rw [acc_sm _ _ _ _ hod _ (fun q hq => by omega), wq_sm l sw g hod n _ (Nat.lt_succ_self _), Nat.pow_succ, Nat.mul_comm]
theorem mx_n {T : Nat} (h : T < 2147483648) : (if (0 : Int32) < nI T - 1 then nI T - 1 else (0 : Int32)) = nI (T - 1) := by
  rcases Nat.eq_zero_or_pos T with rfl | h0
  · decide
  · rw [show (1 : Int32) = nI 1 from rfl, pk_sub (by omega)]
    have e : ((0 : Int32) < nI (T - 1)) = (0 < T - 1) := lt_nn (a := 0) (by omega) (by omega)
    simp only [e]
    by_cases c : 0 < T - 1
    · rw [if_pos c]
    · rw [if_neg c, show T - 1 = 0 by omega]; rfl
theorem up2_n (f : Nat → Int64) (A : Nat → Nat) (a b x y j : Nat) (h : f j = lN (A j)) : vp_updL (vp_updL f a (f a + lN x)) b (vp_updL f a (f a + lN x) b + lN y) j = lN (A j + (if a = j then x else 0) + (if b = j then y else 0)) := by
  simp only [updL_v]
  by_cases hb : b = j
  · subst hb
    rw [if_pos rfl, if_pos rfl]
    by_cases ha : a = b
    · subst ha
      rw [if_pos rfl, if_pos rfl, h, lN_add, lN_add]
    · rw [if_neg (fun z => ha z.symm), if_neg ha, h, lN_add, Nat.add_zero]
  · rw [if_neg (fun z => hb z.symm), if_neg hb, Nat.add_zero]
    by_cases ha : a = j
    · subst ha
      rw [if_pos rfl, if_pos rfl, h, lN_add]
    · rw [if_neg (fun z => ha z.symm), if_neg ha, h, Nat.add_zero]
