/-! a slot, part by part: the class's cells in A, the reference's in B -/
def T_lin (p cap o : Int) (A B : xm_Mem) : Prop :=
  (A 17 6 = B 50 24 - o ∧ 0 ≤ A 17 6 ∧ A 17 6 ≤ 40 ∧ A 17 6 ≤ cap) ∧ (0 ≤ A 17 5 ∧ A 17 5 < 40) ∧ (∀ i : Int, 0 ≤ i → i < A 17 6 → A 18 ((A 17 5 + i) % 40) = B 62 (o + i) ∧ A 19 ((A 17 5 + i) % 40) = B 63 (o + i) ∧ 0 ≤ B 62 (o + i) ∧ B 62 (o + i) ≤ 4 ∧ 0 ≤ B 63 (o + i) ∧ B 63 (o + i) ≤ p) ∧
  (∀ s : Int, 0 ≤ s → s ≤ 4 → A 20 s = B 64 s ∧ A 21 s = B 65 s ∧ A 22 s = B 66 s ∧ A 20 s - A 21 s - A 22 s = x_of (fun i => B 62 (o + i)) s (A 17 6).toNat) ∧ A 17 7 = B 50 30 ∧ (A 17 8 = B 50 31 ∧ 0 ≤ A 17 8 ∧ A 17 8 ≤ 2000)
theorem of_congr {f g : Int → Int} {s : Int} : ∀ n : Nat, (∀ i : Int, 0 ≤ i → i < n → f i = g i) → x_of f s n = x_of g s n
  | 0, _ => rfl
  | n + 1, h => by
    rw [x_of, x_of, of_congr n (fun i a b => h i a (by omega)), h n (by omega) (by omega)]
theorem T_lin_in {p cap s : Int} {A B : xm_Mem} (h : T_lin p cap 0 A B) (hs : 0 ≤ s ∧ s ≤ 4) (hp : 0 ≤ p) (hc : cap ≤ 40) (hlt : A 17 6 < cap) : T_lin p cap 0 (x_in A s p) (y_in B s p) := by
  obtain ⟨l1, l2, l3, l4, l5, l6⟩ := h
  unfold T_lin x_in y_in
  simp only [xu_c, xu_s, xu_k, ne_eq, Nat.reduceEqDiff, Int.reduceEq, not_false_eq_true]
  refine ⟨by omega, l2, fun i h0 h1 => ?_, fun j h0 h1 => ?_, l5, l6⟩
  · by_cases e : i = A 17 6
    · subst e
      rw [show (0 : Int) + A 17 6 = B 50 24 by omega]
      simp only [xu_s, true_and]
      omega
    · have g := l3 i h0 (by omega)
      rw [xu_k (by omega), xu_k (by omega), xu_k (by omega), xu_k (by omega)]
      exact g
  · have g := l4 j h0 h1
    have e1 : (A 17 6 + 1).toNat = (A 17 6).toNat + 1 := by omega
    have e2 : x_of (fun i => xm_up (xm_up B 64 s (B 64 s + 1)) 62 (B 50 24) s 62 (0 + i)) j (A 17 6).toNat = x_of (fun i => B 62 (0 + i)) j (A 17 6).toNat := of_congr _ (fun i a b => by
      rw [xu_k (by omega), xu_c (by omega)])
    rw [e1, x_of, e2, show (0 : Int) + ((A 17 6).toNat : Int) = B 50 24 by omega, xu_s]
    by_cases e : j = s
    · subst e
      rw [xu_s, xu_s, if_pos rfl]
      omega
    · rw [xu_k e, xu_k e, if_neg (by omega)]
      omega
theorem T_lin_no {p cap s : Int} {A B : xm_Mem} (h : T_lin p cap 0 A B) : T_lin p cap 0 (x_np A s p) (y_np B s p) := by
  obtain ⟨l1, l2, l3, l4, l5, l6⟩ := h
  unfold T_lin x_np x_no y_np
  simp only [xu_c, xu_s, xu_k, ne_eq, Nat.reduceEqDiff, Int.reduceEq, not_false_eq_true]
  refine ⟨l1, l2, l3, fun j h0 h1 => ?_, l5, l6⟩
  have g := l4 j h0 h1
  by_cases e : j = s
  · subst e
    rw [xu_s, xu_s, xu_s, xu_s]
    omega
  · rw [xu_k e, xu_k e, xu_k e, xu_k e]
    exact g
/-- the records in the midst of slot p: at most t packets, u sights in it -/
def T_rec (p t u : Int) (A B : xm_Mem) : Prop :=
  (A 29 2 = p ∧ B 50 20 = p ∧ 0 ≤ p ∧ p < 2000) ∧ (∀ s : Int, 0 ≤ s → s < p → A 30 s = B 61 s ∧ A 31 s = B 60 s ∧ 0 ≤ A 30 s ∧ A 30 s ≤ 1000 ∧ 0 ≤ A 31 s ∧ A 31 s ≤ 100) ∧ (A 30 p = B 61 p ∧ 0 ≤ A 30 p ∧ A 30 p ≤ t) ∧ (A 31 p = B 60 p ∧ 0 ≤ A 31 p ∧ A 31 p ≤ u) ∧
  (∀ s : Int, p < s → s < 2000 → A 30 s = 0 ∧ A 31 s = 0) ∧ A 29 3 = x_cnt (A 30) p.toNat ∧ A 29 4 = x_epN (A 30) p.toNat ∧ ∀ k : Int, 0 ≤ k → k < A 29 4 → A 32 k = x_epF (A 30) p.toNat k ∧ A 33 k = x_epL (A 30) p.toNat k
theorem T_rec_in {p t u s : Int} {A B : xm_Mem} (h : T_rec p t u A B) : T_rec p (t + 1) u (x_in A s p) (y_in B s p) := by
  obtain ⟨r1, r2, r3, r4, r5, r6⟩ := h
  unfold T_rec x_in y_in
  simp only [xu_c, xu_s, xu_k, ne_eq, Nat.reduceEqDiff, Int.reduceEq, not_false_eq_true]
  exact ⟨r1, r2, by omega, r4, r5, r6⟩
theorem T_rec_no {p t u s : Int} {A B : xm_Mem} (h : T_rec p t u A B) : T_rec p (t + 1) u (x_np A s p) (y_np B s p) := by
  obtain ⟨r1, r2, r3, r4, r5, r6, r7, r8⟩ := h
  have ec : ∀ f : Int → Int, (∀ j : Int, 0 ≤ j → j < p → f j = A 30 j) → x_cnt f p.toNat = x_cnt (A 30) p.toNat ∧ x_epN f p.toNat = x_epN (A 30) p.toNat ∧ x_epF f p.toNat = x_epF (A 30) p.toNat ∧ x_epL f p.toNat = x_epL (A 30) p.toNat := fun f hf =>
    ⟨x_cnt_congr _ (fun j a b => hf j a (by omega)), x_ep_congr _ (fun j a b => hf j a (by omega))⟩
  have e0 := ec (xm_up (x_no A s) 30 p (A 30 p + 1) 30) (fun j a b => by
    rw [xu_k (by omega)]
    unfold x_no
    simp only [xu_c, xu_s, xu_k, ne_eq, Nat.reduceEqDiff, Int.reduceEq, not_false_eq_true])
  unfold T_rec x_np y_np
  rw [e0.1, e0.2.1, e0.2.2.1, e0.2.2.2]
  unfold x_no
  simp only [xu_c, xu_s, xu_k, ne_eq, Nat.reduceEqDiff, Int.reduceEq, not_false_eq_true]
  refine ⟨r1, fun j a b => ?_, by omega, r4, fun j a b => ?_, r6, r7, r8⟩
  · have g := r2 j a b
    rw [xu_k (by omega), xu_k (by omega)]
    exact g
  · rw [xu_k (by omega)]
    exact r5 j a b
def x_p2 (z : Int) : Int := if z ≤ 0 then 1 else if z = 1 then 2 else if z = 2 then 4 else 8
def T_rt (A B : xm_Mem) : Prop := (A 1 3 = 11 ∧ A 1 4 = 14 ∧ R_rtA (A 11) (A 12) (A 13) (B 50) (B 51) (B 52)) ∨ (A 1 3 = 14 ∧ A 1 4 = 11 ∧ R_rtA (A 14) (A 15) (A 16) (B 50) (B 51) (B 52))
def T_fix (A B : xm_Mem) : Prop := R_txt (A 2 1) (B 50 9) (A 3) (B 53) ∧ T_rt A B ∧ R_tol (A 37) (B 72) ∧ R_chn (A 38 0) (B 50 48) (A 39) (B 75) (A 40) (B 76)
/-- the experiments in the midst of slot p: the first i have sent their probe -/
def T_exp (p i : Int) (A B : xm_Mem) : Prop :=
  A 23 3 = B 50 32 ∧ (0 ≤ A 23 3 ∧ A 23 3 ≤ 20) ∧ (∀ k : Int, 0 ≤ k → k < A 23 3 → A 24 k = B 67 k ∧ A 25 k = B 68 k ∧ A 26 k = B 69 k ∧ (A 24 k = 2 ∨ A 24 k = 3) ∧ 0 ≤ A 25 k ∧ A 25 k ≤ p ∧ p < A 25 k + A 24 k ∧ 0 ≤ A 26 k ∧ A 26 k < x_p2 (p - A 25 k + if k < i then 1 else 0)) ∧
  (∀ s : Int, 0 ≤ s → s < p → A 28 s = B 59 s) ∧ B 59 p = i ∧ (∀ s : Int, 0 ≤ s → s < 2003 → 0 ≤ A 28 s ∧ A 28 s ≤ 20) ∧ (∀ s : Int, p ≤ s → s < 2003 → A 28 s = x_due (A 25) (A 24) s (A 23 3).toNat) ∧
  (∀ a : Int, 0 ≤ a → a + B 50 4 ≤ 2003 → x_sum (A 28) a (B 50 4).toNat ≤ B 50 3)
def T_all (p t u i : Int) (A B : xm_Mem) : Prop := T_fix A B ∧ R_ask (A 23) (B 50) (A 27) (B 70) ∧ T_exp p i A B ∧ T_lin p (B 50 0) 0 A B ∧ T_rec p t u A B ∧ R_pat p (A 35) (A 36) (B 71)
theorem T_cap {A B : xm_Mem} (h : T_fix A B) : (1 ≤ B 50 0 ∧ B 50 0 ≤ 40) ∧ (1 ≤ B 50 1 ∧ B 50 1 ≤ 9) ∧ (0 ≤ B 50 2 ∧ B 50 2 ≤ 40) ∧ (0 ≤ B 50 3 ∧ B 50 3 ≤ 20) ∧ (1 ≤ B 50 4 ∧ B 50 4 ≤ 16) ∧ (0 ≤ B 50 5 ∧ B 50 5 ≤ 4) := by
  obtain ⟨-, h, -⟩ := h
  rcases h with ⟨-, -, a, b, c, e, f, g, -⟩ | ⟨-, -, a, b, c, e, f, g, -⟩ <;> omega
theorem T_of1 {p t u i s cap : Int} {A B : xm_Mem} (h : T_all p t u i A B) (hs : 0 ≤ s ∧ s ≤ 4) (hc : cap = B 50 0) : T_all p (t + 1) u i (x_of1 cap A s p) (y_of1 B s p) := by
  obtain ⟨h1, h2, h3, h4, h5, h6⟩ := h
  have c := T_cap h1
  have a1 := T_lin_in (s := s) h4 hs h5.1.2.2.1 c.1.2
  have a2 := T_lin_no (s := s) h4
  have b1 := T_rec_in (s := s) h5
  have b2 := T_rec_no (s := s) h5
  have l1 := h4.1.1
  unfold x_of1 y_of1
  subst hc
  by_cases g : A 17 6 < B 50 0
  · have a1 := a1 g
    rw [if_pos g, if_pos (by omega)]
    refine ⟨?_, ?_, ?_, ?_, b1, ?_⟩
    · unfold x_in y_in T_fix T_rt R_rtA
      simp only [xu_c, xu_s, xu_k, ne_eq, Nat.reduceEqDiff, Int.reduceEq, not_false_eq_true]
      exact h1
    · unfold x_in y_in R_ask
      simp only [xu_c, xu_s, xu_k, ne_eq, Nat.reduceEqDiff, Int.reduceEq, not_false_eq_true]
      exact h2
    · unfold x_in y_in T_exp
      simp only [xu_c, xu_s, xu_k, ne_eq, Nat.reduceEqDiff, Int.reduceEq, not_false_eq_true]
      exact h3
    · have e : y_in B s p 50 0 = B 50 0 := by
        unfold y_in
        simp only [xu_c, xu_s, xu_k, ne_eq, Nat.reduceEqDiff, Int.reduceEq, not_false_eq_true]
      rw [e]
      exact a1
    · unfold x_in y_in
      simp only [xu_c, xu_s, xu_k, ne_eq, Nat.reduceEqDiff, Int.reduceEq, not_false_eq_true]
      exact h6
  · rw [if_neg g, if_neg (by omega)]
    refine ⟨?_, ?_, ?_, ?_, b2, ?_⟩
    · unfold x_np x_no y_np T_fix T_rt R_rtA
      simp only [xu_c, xu_s, xu_k, ne_eq, Nat.reduceEqDiff, Int.reduceEq, not_false_eq_true]
      exact h1
    · unfold x_np x_no y_np R_ask
      simp only [xu_c, xu_s, xu_k, ne_eq, Nat.reduceEqDiff, Int.reduceEq, not_false_eq_true]
      exact h2
    · unfold x_np x_no y_np T_exp
      simp only [xu_c, xu_s, xu_k, ne_eq, Nat.reduceEqDiff, Int.reduceEq, not_false_eq_true]
      exact h3
    · have e : y_np B s p 50 0 = B 50 0 := by
        unfold y_np
        simp only [xu_c, xu_s, xu_k, ne_eq, Nat.reduceEqDiff, Int.reduceEq, not_false_eq_true]
      rw [e]
      exact a2
    · unfold x_np x_no y_np
      simp only [xu_c, xu_s, xu_k, ne_eq, Nat.reduceEqDiff, Int.reduceEq, not_false_eq_true]
      exact h6
theorem y_of1_0 {B : xm_Mem} {s p : Int} : y_of1 B s p 50 0 = B 50 0 := by
  unfold y_of1 y_in y_np
  split <;> simp only [xu_c, xu_s, xu_k, ne_eq, Nat.reduceEqDiff, Int.reduceEq, not_false_eq_true]
theorem T_ofn {p u i s cap : Int} {A B : xm_Mem} (hs : 0 ≤ s ∧ s ≤ 4) (hc : cap = B 50 0) : ∀ (n : Nat) (t : Int), T_all p t u i A B → T_all p (t + n) u i (x_ofn cap A s p n) (y_ofn B s p n) ∧ y_ofn B s p n 50 0 = B 50 0
  | 0, t, h => by
    rw [show t + ((0 : Nat) : Int) = t by omega]
    exact ⟨h, rfl⟩
  | n + 1, t, h => by
    have ih := T_ofn hs hc n t h
    have := T_of1 (s := s) (cap := cap) ih.1 hs (by rw [ih.2]; exact hc)
    rw [show t + ((n + 1 : Nat) : Int) = t + n + 1 by omega]
    rw [x_ofn, y_ofn]
    exact ⟨this, by rw [y_of1_0, ih.2]⟩
