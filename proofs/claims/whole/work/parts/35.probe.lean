/-! a slot: probes are sent -/
def x_bit (w mark cap : Int) : Int := if w < mark ∧ w < cap then 0 else 1
def x_pr1 (cap mark p : Int) (A : xm_Mem) (k : Int) : xm_Mem := if A 17 6 < mark ∧ A 17 6 < cap then xm_up (x_of1 cap A 4 p) 26 k (2 * A 26 k + 0) else xm_up (xm_up (x_of1 cap A 4 p) 31 p (A 31 p + 1)) 26 k (2 * A 26 k + 1)
def y_pr1 (p : Int) (B : xm_Mem) (k : Int) : xm_Mem := xm_up (xm_up (xm_up (y_of1 B 4 p) 69 k (2 * B 69 k + x_bit (B 50 24) (B 50 2) (B 50 0))) 59 p (B 59 p + 1)) 60 p (B 60 p + x_bit (B 50 24) (B 50 2) (B 50 0))
def x_prn (cap mark p : Int) (A : xm_Mem) : Nat → xm_Mem
  | 0 => A
  | k + 1 => x_pr1 cap mark p (x_prn cap mark p A k) k
def y_prn (p : Int) (B : xm_Mem) : Nat → xm_Mem
  | 0 => B
  | k + 1 => y_pr1 p (y_prn p B k) k
theorem xo1_c {A : xm_Mem} {cap s p : Int} {c : Nat} (h : c ≠ 17 ∧ c ≠ 18 ∧ c ≠ 19 ∧ c ≠ 20 ∧ c ≠ 21 ∧ c ≠ 30) : x_of1 cap A s p c = A c := by
  unfold x_of1 x_in x_np x_no
  split
  · rw [xu_c (by omega), xu_c (by omega), xu_c (by omega), xu_c (by omega)]
  · rw [xu_c (by omega), xu_c (by omega), xu_c (by omega)]
theorem T_pr1 {p t u i cap mark : Int} {A B : xm_Mem} (h : T_all p t u i A B) (hi : 0 ≤ i ∧ i < A 23 3) (hc : cap = B 50 0) (hm : mark = B 50 2) : T_all p (t + 1) (u + 1) (i + 1) (x_pr1 cap mark p A i) (y_pr1 p B i) := by
  have hw := h.2.2.2.1.1
  have z := T_of1 (s := 4) h (by omega) hc
  have k26 : x_of1 cap A 4 p 26 = A 26 := xo1_c (by omega)
  have k31 : x_of1 cap A 4 p 31 = A 31 := xo1_c (by omega)
  have k69 : y_of1 B 4 p 69 = B 69 := yo_c (by omega)
  have k59 : y_of1 B 4 p 59 = B 59 := yo_c (by omega)
  have k60 : y_of1 B 4 p 60 = B 60 := by
    unfold y_of1 y_in y_np
    split
    · simp only [xu_c, xu_s, xu_k, ne_eq, Nat.reduceEqDiff, Int.reduceEq, not_false_eq_true]
    · simp only [xu_c, xu_s, xu_k, ne_eq, Nat.reduceEqDiff, Int.reduceEq, not_false_eq_true]
  have k23 : x_of1 cap A 4 p 23 = A 23 := xo1_c (by omega)
  have eb : x_bit (B 50 24) (B 50 2) (B 50 0) = if A 17 6 < mark ∧ A 17 6 < cap then 0 else 1 := by
    unfold x_bit
    rw [← hc, ← hm, show B 50 24 = A 17 6 by omega]
  unfold x_pr1 y_pr1
  rw [eb, ← k26, ← k31, ← k69, ← k59, ← k60]
  rw [← k23] at hi
  generalize x_of1 cap A 4 p = X at *
  generalize y_of1 B 4 p = Y at *
  clear eb k26 k31 k69 k59 k60 h hw k23
  obtain ⟨h1, h2, h3, h4, h5, h6⟩ := z
  obtain ⟨e1, e2, e3, e4, e5, e6, e7, e8⟩ := h3
  obtain ⟨r1, r2, r3, r4, r5, r6⟩ := h5
  have exp : ∀ (b : Int) (X' : xm_Mem), (b = 0 ∨ b = 1) → (∀ c : Nat, c = 23 ∨ c = 24 ∨ c = 25 ∨ c = 28 → X' c = X c) → (∀ k : Int, X' 26 k = if k = i then 2 * X 26 i + b else X 26 k) → T_exp p (i + 1) X' (xm_up (xm_up (xm_up Y 69 i (2 * Y 69 i + b)) 59 p (Y 59 p + 1)) 60 p (Y 60 p + b)) := by
    intro b X' hb hX h26
    unfold T_exp
    rw [hX 23 (by omega), hX 24 (by omega), hX 25 (by omega), hX 28 (by omega)]
    simp only [xu_c, xu_s, xu_k, ne_eq, Nat.reduceEqDiff, Int.reduceEq, not_false_eq_true]
    refine ⟨e1, e2, fun k a c => ?_, fun s a c => ?_, by omega, e6, e7, e8⟩
    · have g := e3 k a c
      rw [h26]
      by_cases e : k = i
      · subst e
        rw [if_pos rfl, xu_s, if_pos (by omega)]
        rw [if_neg (by omega)] at g
        simp only [x_p2] at g ⊢
        omega
      · rw [if_neg e, xu_k e]
        have e' : (if k < i + 1 then (1 : Int) else 0) = if k < i then 1 else 0 := by
          by_cases q : k < i
          · rw [if_pos q, if_pos (by omega)]
          · rw [if_neg q, if_neg (by omega)]
        rw [e']
        exact g
    · rw [xu_k (by omega)]
      exact e4 s a c
  by_cases g : A 17 6 < mark ∧ A 17 6 < cap
  · rw [if_pos g, if_pos g]
    refine ⟨?_, ?_, exp 0 _ (Or.inl rfl) (fun c hh => by rw [xu_c (by omega)]) (fun k => by simp only [xm_up, if_true]), ?_, ?_, ?_⟩
    · unfold T_fix T_rt R_rtA at *
      simp only [xu_c, xu_s, xu_k, ne_eq, Nat.reduceEqDiff, Int.reduceEq, not_false_eq_true]
      exact h1
    · unfold R_ask at *
      simp only [xu_c, xu_s, xu_k, ne_eq, Nat.reduceEqDiff, Int.reduceEq, not_false_eq_true]
      exact h2
    · unfold T_lin at *
      simp only [xu_c, xu_s, xu_k, ne_eq, Nat.reduceEqDiff, Int.reduceEq, not_false_eq_true]
      exact h4
    · unfold T_rec
      simp only [xu_c, xu_s, xu_k, ne_eq, Nat.reduceEqDiff, Int.reduceEq, not_false_eq_true]
      refine ⟨r1, fun s a b => ?_, r3, by omega, r5, r6⟩
      rw [xu_k (by omega)]
      exact r2 s a b
    · simp only [xu_c, xu_s, xu_k, ne_eq, Nat.reduceEqDiff, Int.reduceEq, not_false_eq_true]
      exact h6
  · rw [if_neg g, if_neg g]
    refine ⟨?_, ?_, exp 1 _ (Or.inr rfl) (fun c hh => by rw [xu_c (by omega), xu_c (by omega)]) (fun k => by simp only [xm_up, if_true, Nat.reduceEqDiff, if_false]), ?_, ?_, ?_⟩
    · unfold T_fix T_rt R_rtA at *
      simp only [xu_c, xu_s, xu_k, ne_eq, Nat.reduceEqDiff, Int.reduceEq, not_false_eq_true]
      exact h1
    · unfold R_ask at *
      simp only [xu_c, xu_s, xu_k, ne_eq, Nat.reduceEqDiff, Int.reduceEq, not_false_eq_true]
      exact h2
    · unfold T_lin at *
      simp only [xu_c, xu_s, xu_k, ne_eq, Nat.reduceEqDiff, Int.reduceEq, not_false_eq_true]
      exact h4
    · unfold T_rec
      simp only [xu_c, xu_s, xu_k, ne_eq, Nat.reduceEqDiff, Int.reduceEq, not_false_eq_true]
      refine ⟨r1, fun s a b => ?_, r3, by omega, fun s a b => ?_, r6⟩
      · rw [xu_k (by omega), xu_k (by omega)]
        exact r2 s a b
      · rw [xu_k (by omega)]
        exact r5 s a b
    · simp only [xu_c, xu_s, xu_k, ne_eq, Nat.reduceEqDiff, Int.reduceEq, not_false_eq_true]
      exact h6
