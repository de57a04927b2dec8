/-! fills; pairs of calls that write arrays -/
def x_fill (M : xm_Mem) (c : Nat) (n v : Int) : xm_Mem := fun c' k => if c' = c ∧ 0 ≤ k ∧ k < n then v else M c' k
theorem xf_c {M : xm_Mem} {c c' : Nat} {n v : Int} (h : c' ≠ c) : x_fill M c n v c' = M c' := by
  funext k
  unfold x_fill
  rw [if_neg (fun h' => h h'.1)]
theorem xf_s {M : xm_Mem} {c : Nat} {n v k : Int} (h : 0 ≤ k ∧ k < n) : x_fill M c n v c k = v := by
  unfold x_fill
  rw [if_pos ⟨rfl, h⟩]
theorem xf_k {M : xm_Mem} {c : Nat} {n v k : Int} (h : ¬ (0 ≤ k ∧ k < n)) : x_fill M c n v c k = M c k := by
  unfold x_fill
  rw [if_neg (fun h' => h h'.2)]
theorem xf_0 {M : xm_Mem} {c : Nat} {v : Int} : x_fill M c 0 v = M := by
  funext c' k
  unfold x_fill
  rw [if_neg (by omega)]
theorem xf_up {M : xm_Mem} {c : Nat} {n v : Int} (h : 0 ≤ n) : xm_up (x_fill M c n v) c n v = x_fill M c (n + 1) v := by
  funext c' k
  simp only [xm_up, x_fill]
  repeat' split
  all_goals first | rfl | omega | (exfalso; omega)
section PF
variable {d : Nat} {Q : xm_K} {M : xm_Mem}
theorem lo278_9 {cs : xm_C} {v : Int} (h : Q [] (x_fill M 9 6 v)) : ∀ (n : Nat) (i : Int), 0 ≤ i → i + n = 6 → wp278r9_5 cs Q v i 6 (x_fill M 9 i v)
  | 0, i, h0, h1 => by
    have e : i = 6 := by omega
    subst e
    refine rg278r9_5 ?_
    (repeat' (first | (with_reducible exact True.intro) | (with_reducible refine And.intro ?_ ?_) | (with_reducible intro) | (with_reducible refine xq_ki ?_) | (with_reducible refine xq_kl ?_) | (with_reducible refine xq_kv ?_) | (with_reducible refine xq_kq ?_)))
    all_goals first | omega | exact h
  | n + 1, i, h0, h1 => by
    refine rg278r9_5 ?_
    rw [xf_up h0]
    (repeat' (first | (with_reducible exact True.intro) | (with_reducible refine And.intro ?_ ?_) | (with_reducible intro) | (with_reducible refine xq_ki ?_) | (with_reducible refine xq_kl ?_) | (with_reducible refine xq_kv ?_) | (with_reducible refine xq_kq ?_)))
    all_goals first | omega | exact lo278_9 h n (i + 1) (by omega) (by omega)
theorem sp278_9 {v : Int} (h : Q [] (x_fill M 9 6 v)) : xm_call true (d + 1) 278 [.inr (.inr 9), .inl v] M Q := by
  refine en278r9 (rg278r9_0 ?_)
  have := lo278_9 (cs := xm_call true d) h 6 0 (by omega) (by omega)
  rw [xf_0] at this
  exact this
theorem lo278_13 {cs : xm_C} {v : Int} (h : Q [] (x_fill M 13 5 v)) : ∀ (n : Nat) (i : Int), 0 ≤ i → i + n = 5 → wp278r13_5 cs Q v i 5 (x_fill M 13 i v)
  | 0, i, h0, h1 => by
    have e : i = 5 := by omega
    subst e
    refine rg278r13_5 ?_
    (repeat' (first | (with_reducible exact True.intro) | (with_reducible refine And.intro ?_ ?_) | (with_reducible intro) | (with_reducible refine xq_ki ?_) | (with_reducible refine xq_kl ?_) | (with_reducible refine xq_kv ?_) | (with_reducible refine xq_kq ?_)))
    all_goals first | omega | exact h
  | n + 1, i, h0, h1 => by
    refine rg278r13_5 ?_
    rw [xf_up h0]
    (repeat' (first | (with_reducible exact True.intro) | (with_reducible refine And.intro ?_ ?_) | (with_reducible intro) | (with_reducible refine xq_ki ?_) | (with_reducible refine xq_kl ?_) | (with_reducible refine xq_kv ?_) | (with_reducible refine xq_kq ?_)))
    all_goals first | omega | exact lo278_13 h n (i + 1) (by omega) (by omega)
theorem sp278_13 {v : Int} (h : Q [] (x_fill M 13 5 v)) : xm_call true (d + 1) 278 [.inr (.inr 13), .inl v] M Q := by
  refine en278r13 (rg278r13_0 ?_)
  have := lo278_13 (cs := xm_call true d) h 5 0 (by omega) (by omega)
  rw [xf_0] at this
  exact this
theorem lo278_16 {cs : xm_C} {v : Int} (h : Q [] (x_fill M 16 5 v)) : ∀ (n : Nat) (i : Int), 0 ≤ i → i + n = 5 → wp278r16_5 cs Q v i 5 (x_fill M 16 i v)
  | 0, i, h0, h1 => by
    have e : i = 5 := by omega
    subst e
    refine rg278r16_5 ?_
    (repeat' (first | (with_reducible exact True.intro) | (with_reducible refine And.intro ?_ ?_) | (with_reducible intro) | (with_reducible refine xq_ki ?_) | (with_reducible refine xq_kl ?_) | (with_reducible refine xq_kv ?_) | (with_reducible refine xq_kq ?_)))
    all_goals first | omega | exact h
  | n + 1, i, h0, h1 => by
    refine rg278r16_5 ?_
    rw [xf_up h0]
    (repeat' (first | (with_reducible exact True.intro) | (with_reducible refine And.intro ?_ ?_) | (with_reducible intro) | (with_reducible refine xq_ki ?_) | (with_reducible refine xq_kl ?_) | (with_reducible refine xq_kv ?_) | (with_reducible refine xq_kq ?_)))
    all_goals first | omega | exact lo278_16 h n (i + 1) (by omega) (by omega)
theorem sp278_16 {v : Int} (h : Q [] (x_fill M 16 5 v)) : xm_call true (d + 1) 278 [.inr (.inr 16), .inl v] M Q := by
  refine en278r16 (rg278r16_0 ?_)
  have := lo278_16 (cs := xm_call true d) h 5 0 (by omega) (by omega)
  rw [xf_0] at this
  exact this
theorem lo278_20 {cs : xm_C} {v : Int} (h : Q [] (x_fill M 20 5 v)) : ∀ (n : Nat) (i : Int), 0 ≤ i → i + n = 5 → wp278r20_5 cs Q v i 5 (x_fill M 20 i v)
  | 0, i, h0, h1 => by
    have e : i = 5 := by omega
    subst e
    refine rg278r20_5 ?_
    (repeat' (first | (with_reducible exact True.intro) | (with_reducible refine And.intro ?_ ?_) | (with_reducible intro) | (with_reducible refine xq_ki ?_) | (with_reducible refine xq_kl ?_) | (with_reducible refine xq_kv ?_) | (with_reducible refine xq_kq ?_)))
    all_goals first | omega | exact h
  | n + 1, i, h0, h1 => by
    refine rg278r20_5 ?_
    rw [xf_up h0]
    (repeat' (first | (with_reducible exact True.intro) | (with_reducible refine And.intro ?_ ?_) | (with_reducible intro) | (with_reducible refine xq_ki ?_) | (with_reducible refine xq_kl ?_) | (with_reducible refine xq_kv ?_) | (with_reducible refine xq_kq ?_)))
    all_goals first | omega | exact lo278_20 h n (i + 1) (by omega) (by omega)
theorem sp278_20 {v : Int} (h : Q [] (x_fill M 20 5 v)) : xm_call true (d + 1) 278 [.inr (.inr 20), .inl v] M Q := by
  refine en278r20 (rg278r20_0 ?_)
  have := lo278_20 (cs := xm_call true d) h 5 0 (by omega) (by omega)
  rw [xf_0] at this
  exact this
theorem lo278_21 {cs : xm_C} {v : Int} (h : Q [] (x_fill M 21 5 v)) : ∀ (n : Nat) (i : Int), 0 ≤ i → i + n = 5 → wp278r21_5 cs Q v i 5 (x_fill M 21 i v)
  | 0, i, h0, h1 => by
    have e : i = 5 := by omega
    subst e
    refine rg278r21_5 ?_
    (repeat' (first | (with_reducible exact True.intro) | (with_reducible refine And.intro ?_ ?_) | (with_reducible intro) | (with_reducible refine xq_ki ?_) | (with_reducible refine xq_kl ?_) | (with_reducible refine xq_kv ?_) | (with_reducible refine xq_kq ?_)))
    all_goals first | omega | exact h
  | n + 1, i, h0, h1 => by
    refine rg278r21_5 ?_
    rw [xf_up h0]
    (repeat' (first | (with_reducible exact True.intro) | (with_reducible refine And.intro ?_ ?_) | (with_reducible intro) | (with_reducible refine xq_ki ?_) | (with_reducible refine xq_kl ?_) | (with_reducible refine xq_kv ?_) | (with_reducible refine xq_kq ?_)))
    all_goals first | omega | exact lo278_21 h n (i + 1) (by omega) (by omega)
theorem sp278_21 {v : Int} (h : Q [] (x_fill M 21 5 v)) : xm_call true (d + 1) 278 [.inr (.inr 21), .inl v] M Q := by
  refine en278r21 (rg278r21_0 ?_)
  have := lo278_21 (cs := xm_call true d) h 5 0 (by omega) (by omega)
  rw [xf_0] at this
  exact this
theorem lo278_22 {cs : xm_C} {v : Int} (h : Q [] (x_fill M 22 5 v)) : ∀ (n : Nat) (i : Int), 0 ≤ i → i + n = 5 → wp278r22_5 cs Q v i 5 (x_fill M 22 i v)
  | 0, i, h0, h1 => by
    have e : i = 5 := by omega
    subst e
    refine rg278r22_5 ?_
    (repeat' (first | (with_reducible exact True.intro) | (with_reducible refine And.intro ?_ ?_) | (with_reducible intro) | (with_reducible refine xq_ki ?_) | (with_reducible refine xq_kl ?_) | (with_reducible refine xq_kv ?_) | (with_reducible refine xq_kq ?_)))
    all_goals first | omega | exact h
  | n + 1, i, h0, h1 => by
    refine rg278r22_5 ?_
    rw [xf_up h0]
    (repeat' (first | (with_reducible exact True.intro) | (with_reducible refine And.intro ?_ ?_) | (with_reducible intro) | (with_reducible refine xq_ki ?_) | (with_reducible refine xq_kl ?_) | (with_reducible refine xq_kv ?_) | (with_reducible refine xq_kq ?_)))
    all_goals first | omega | exact lo278_22 h n (i + 1) (by omega) (by omega)
theorem sp278_22 {v : Int} (h : Q [] (x_fill M 22 5 v)) : xm_call true (d + 1) 278 [.inr (.inr 22), .inl v] M Q := by
  refine en278r22 (rg278r22_0 ?_)
  have := lo278_22 (cs := xm_call true d) h 5 0 (by omega) (by omega)
  rw [xf_0] at this
  exact this
theorem lo278_28 {cs : xm_C} {v : Int} (h : Q [] (x_fill M 28 2003 v)) : ∀ (n : Nat) (i : Int), 0 ≤ i → i + n = 2003 → wp278r28_5 cs Q v i 2003 (x_fill M 28 i v)
  | 0, i, h0, h1 => by
    have e : i = 2003 := by omega
    subst e
    refine rg278r28_5 ?_
    (repeat' (first | (with_reducible exact True.intro) | (with_reducible refine And.intro ?_ ?_) | (with_reducible intro) | (with_reducible refine xq_ki ?_) | (with_reducible refine xq_kl ?_) | (with_reducible refine xq_kv ?_) | (with_reducible refine xq_kq ?_)))
    all_goals first | omega | exact h
  | n + 1, i, h0, h1 => by
    refine rg278r28_5 ?_
    rw [xf_up h0]
    (repeat' (first | (with_reducible exact True.intro) | (with_reducible refine And.intro ?_ ?_) | (with_reducible intro) | (with_reducible refine xq_ki ?_) | (with_reducible refine xq_kl ?_) | (with_reducible refine xq_kv ?_) | (with_reducible refine xq_kq ?_)))
    all_goals first | omega | exact lo278_28 h n (i + 1) (by omega) (by omega)
theorem sp278_28 {v : Int} (h : Q [] (x_fill M 28 2003 v)) : xm_call true (d + 1) 278 [.inr (.inr 28), .inl v] M Q := by
  refine en278r28 (rg278r28_0 ?_)
  have := lo278_28 (cs := xm_call true d) h 2003 0 (by omega) (by omega)
  rw [xf_0] at this
  exact this
theorem lo278_30 {cs : xm_C} {v : Int} (h : Q [] (x_fill M 30 2000 v)) : ∀ (n : Nat) (i : Int), 0 ≤ i → i + n = 2000 → wp278r30_5 cs Q v i 2000 (x_fill M 30 i v)
  | 0, i, h0, h1 => by
    have e : i = 2000 := by omega
    subst e
    refine rg278r30_5 ?_
    (repeat' (first | (with_reducible exact True.intro) | (with_reducible refine And.intro ?_ ?_) | (with_reducible intro) | (with_reducible refine xq_ki ?_) | (with_reducible refine xq_kl ?_) | (with_reducible refine xq_kv ?_) | (with_reducible refine xq_kq ?_)))
    all_goals first | omega | exact h
  | n + 1, i, h0, h1 => by
    refine rg278r30_5 ?_
    rw [xf_up h0]
    (repeat' (first | (with_reducible exact True.intro) | (with_reducible refine And.intro ?_ ?_) | (with_reducible intro) | (with_reducible refine xq_ki ?_) | (with_reducible refine xq_kl ?_) | (with_reducible refine xq_kv ?_) | (with_reducible refine xq_kq ?_)))
    all_goals first | omega | exact lo278_30 h n (i + 1) (by omega) (by omega)
theorem sp278_30 {v : Int} (h : Q [] (x_fill M 30 2000 v)) : xm_call true (d + 1) 278 [.inr (.inr 30), .inl v] M Q := by
  refine en278r30 (rg278r30_0 ?_)
  have := lo278_30 (cs := xm_call true d) h 2000 0 (by omega) (by omega)
  rw [xf_0] at this
  exact this
theorem lo278_31 {cs : xm_C} {v : Int} (h : Q [] (x_fill M 31 2000 v)) : ∀ (n : Nat) (i : Int), 0 ≤ i → i + n = 2000 → wp278r31_5 cs Q v i 2000 (x_fill M 31 i v)
  | 0, i, h0, h1 => by
    have e : i = 2000 := by omega
    subst e
    refine rg278r31_5 ?_
    (repeat' (first | (with_reducible exact True.intro) | (with_reducible refine And.intro ?_ ?_) | (with_reducible intro) | (with_reducible refine xq_ki ?_) | (with_reducible refine xq_kl ?_) | (with_reducible refine xq_kv ?_) | (with_reducible refine xq_kq ?_)))
    all_goals first | omega | exact h
  | n + 1, i, h0, h1 => by
    refine rg278r31_5 ?_
    rw [xf_up h0]
    (repeat' (first | (with_reducible exact True.intro) | (with_reducible refine And.intro ?_ ?_) | (with_reducible intro) | (with_reducible refine xq_ki ?_) | (with_reducible refine xq_kl ?_) | (with_reducible refine xq_kv ?_) | (with_reducible refine xq_kq ?_)))
    all_goals first | omega | exact lo278_31 h n (i + 1) (by omega) (by omega)
theorem sp278_31 {v : Int} (h : Q [] (x_fill M 31 2000 v)) : xm_call true (d + 1) 278 [.inr (.inr 31), .inl v] M Q := by
  refine en278r31 (rg278r31_0 ?_)
  have := lo278_31 (cs := xm_call true d) h 2000 0 (by omega) (by omega)
  rw [xf_0] at this
  exact this
theorem lo278_37 {cs : xm_C} {v : Int} (h : Q [] (x_fill M 37 4 v)) : ∀ (n : Nat) (i : Int), 0 ≤ i → i + n = 4 → wp278r37_5 cs Q v i 4 (x_fill M 37 i v)
  | 0, i, h0, h1 => by
    have e : i = 4 := by omega
    subst e
    refine rg278r37_5 ?_
    (repeat' (first | (with_reducible exact True.intro) | (with_reducible refine And.intro ?_ ?_) | (with_reducible intro) | (with_reducible refine xq_ki ?_) | (with_reducible refine xq_kl ?_) | (with_reducible refine xq_kv ?_) | (with_reducible refine xq_kq ?_)))
    all_goals first | omega | exact h
  | n + 1, i, h0, h1 => by
    refine rg278r37_5 ?_
    rw [xf_up h0]
    (repeat' (first | (with_reducible exact True.intro) | (with_reducible refine And.intro ?_ ?_) | (with_reducible intro) | (with_reducible refine xq_ki ?_) | (with_reducible refine xq_kl ?_) | (with_reducible refine xq_kv ?_) | (with_reducible refine xq_kq ?_)))
    all_goals first | omega | exact lo278_37 h n (i + 1) (by omega) (by omega)
theorem sp278_37 {v : Int} (h : Q [] (x_fill M 37 4 v)) : xm_call true (d + 1) 278 [.inr (.inr 37), .inl v] M Q := by
  refine en278r37 (rg278r37_0 ?_)
  have := lo278_37 (cs := xm_call true d) h 4 0 (by omega) (by omega)
  rw [xf_0] at this
  exact this
theorem lo278_40 {cs : xm_C} {v : Int} (h : Q [] (x_fill M 40 25 v)) : ∀ (n : Nat) (i : Int), 0 ≤ i → i + n = 25 → wp278r40_5 cs Q v i 25 (x_fill M 40 i v)
  | 0, i, h0, h1 => by
    have e : i = 25 := by omega
    subst e
    refine rg278r40_5 ?_
    (repeat' (first | (with_reducible exact True.intro) | (with_reducible refine And.intro ?_ ?_) | (with_reducible intro) | (with_reducible refine xq_ki ?_) | (with_reducible refine xq_kl ?_) | (with_reducible refine xq_kv ?_) | (with_reducible refine xq_kq ?_)))
    all_goals first | omega | exact h
  | n + 1, i, h0, h1 => by
    refine rg278r40_5 ?_
    rw [xf_up h0]
    (repeat' (first | (with_reducible exact True.intro) | (with_reducible refine And.intro ?_ ?_) | (with_reducible intro) | (with_reducible refine xq_ki ?_) | (with_reducible refine xq_kl ?_) | (with_reducible refine xq_kv ?_) | (with_reducible refine xq_kq ?_)))
    all_goals first | omega | exact lo278_40 h n (i + 1) (by omega) (by omega)
theorem sp278_40 {v : Int} (h : Q [] (x_fill M 40 25 v)) : xm_call true (d + 1) 278 [.inr (.inr 40), .inl v] M Q := by
  refine en278r40 (rg278r40_0 ?_)
  have := lo278_40 (cs := xm_call true d) h 25 0 (by omega) (by omega)
  rw [xf_0] at this
  exact this
theorem lo279_35 {cs : xm_C} {v : Int} (h : Q [] (x_fill M 35 4 v)) : ∀ (n : Nat) (i : Int), 0 ≤ i → i + n = 4 → wp279r35_6 cs Q v i 4 (x_fill M 35 i v)
  | 0, i, h0, h1 => by
    have e : i = 4 := by omega
    subst e
    refine rg279r35_6 ?_
    (repeat' (first | (with_reducible exact True.intro) | (with_reducible refine And.intro ?_ ?_) | (with_reducible intro) | (with_reducible refine xq_ki ?_) | (with_reducible refine xq_kl ?_) | (with_reducible refine xq_kv ?_) | (with_reducible refine xq_kq ?_)))
    all_goals first | omega | exact h
  | n + 1, i, h0, h1 => by
    refine rg279r35_6 ?_
    rw [xf_up h0]
    (repeat' (first | (with_reducible exact True.intro) | (with_reducible refine And.intro ?_ ?_) | (with_reducible intro) | (with_reducible refine xq_ki ?_) | (with_reducible refine xq_kl ?_) | (with_reducible refine xq_kv ?_) | (with_reducible refine xq_kq ?_)))
    all_goals first | omega | exact lo279_35 h n (i + 1) (by omega) (by omega)
theorem sp279_35 {v : Int} (h : Q [] (x_fill M 35 4 v)) : xm_call true (d + 1) 279 [.inr (.inr 35), .inr (.inl v)] M Q := by
  refine en279r35 (rg279r35_0 ?_)
  have := lo279_35 (cs := xm_call true d) h 4 0 (by omega) (by omega)
  rw [xf_0] at this
  exact this
theorem lo279_36 {cs : xm_C} {v : Int} (h : Q [] (x_fill M 36 8 v)) : ∀ (n : Nat) (i : Int), 0 ≤ i → i + n = 8 → wp279r36_6 cs Q v i 8 (x_fill M 36 i v)
  | 0, i, h0, h1 => by
    have e : i = 8 := by omega
    subst e
    refine rg279r36_6 ?_
    (repeat' (first | (with_reducible exact True.intro) | (with_reducible refine And.intro ?_ ?_) | (with_reducible intro) | (with_reducible refine xq_ki ?_) | (with_reducible refine xq_kl ?_) | (with_reducible refine xq_kv ?_) | (with_reducible refine xq_kq ?_)))
    all_goals first | omega | exact h
  | n + 1, i, h0, h1 => by
    refine rg279r36_6 ?_
    rw [xf_up h0]
    (repeat' (first | (with_reducible exact True.intro) | (with_reducible refine And.intro ?_ ?_) | (with_reducible intro) | (with_reducible refine xq_ki ?_) | (with_reducible refine xq_kl ?_) | (with_reducible refine xq_kv ?_) | (with_reducible refine xq_kq ?_)))
    all_goals first | omega | exact lo279_36 h n (i + 1) (by omega) (by omega)
theorem sp279_36 {v : Int} (h : Q [] (x_fill M 36 8 v)) : xm_call true (d + 1) 279 [.inr (.inr 36), .inr (.inl v)] M Q := by
  refine en279r36 (rg279r36_0 ?_)
  have := lo279_36 (cs := xm_call true d) h 8 0 (by omega) (by omega)
  rw [xf_0] at this
  exact this
theorem lo279_46 {cs : xm_C} {v : Int} (h : Q [] (x_fill M 46 4 v)) : ∀ (n : Nat) (i : Int), 0 ≤ i → i + n = 4 → wp279r46_6 cs Q v i 4 (x_fill M 46 i v)
  | 0, i, h0, h1 => by
    have e : i = 4 := by omega
    subst e
    refine rg279r46_6 ?_
    (repeat' (first | (with_reducible exact True.intro) | (with_reducible refine And.intro ?_ ?_) | (with_reducible intro) | (with_reducible refine xq_ki ?_) | (with_reducible refine xq_kl ?_) | (with_reducible refine xq_kv ?_) | (with_reducible refine xq_kq ?_)))
    all_goals first | omega | exact h
  | n + 1, i, h0, h1 => by
    refine rg279r46_6 ?_
    rw [xf_up h0]
    (repeat' (first | (with_reducible exact True.intro) | (with_reducible refine And.intro ?_ ?_) | (with_reducible intro) | (with_reducible refine xq_ki ?_) | (with_reducible refine xq_kl ?_) | (with_reducible refine xq_kv ?_) | (with_reducible refine xq_kq ?_)))
    all_goals first | omega | exact lo279_46 h n (i + 1) (by omega) (by omega)
theorem sp279_46 {v : Int} (h : Q [] (x_fill M 46 4 v)) : xm_call true (d + 1) 279 [.inr (.inr 46), .inr (.inl v)] M Q := by
  refine en279r46 (rg279r46_0 ?_)
  have := lo279_46 (cs := xm_call true d) h 4 0 (by omega) (by omega)
  rw [xf_0] at this
  exact this
theorem lo279_47 {cs : xm_C} {v : Int} (h : Q [] (x_fill M 47 8 v)) : ∀ (n : Nat) (i : Int), 0 ≤ i → i + n = 8 → wp279r47_6 cs Q v i 8 (x_fill M 47 i v)
  | 0, i, h0, h1 => by
    have e : i = 8 := by omega
    subst e
    refine rg279r47_6 ?_
    (repeat' (first | (with_reducible exact True.intro) | (with_reducible refine And.intro ?_ ?_) | (with_reducible intro) | (with_reducible refine xq_ki ?_) | (with_reducible refine xq_kl ?_) | (with_reducible refine xq_kv ?_) | (with_reducible refine xq_kq ?_)))
    all_goals first | omega | exact h
  | n + 1, i, h0, h1 => by
    refine rg279r47_6 ?_
    rw [xf_up h0]
    (repeat' (first | (with_reducible exact True.intro) | (with_reducible refine And.intro ?_ ?_) | (with_reducible intro) | (with_reducible refine xq_ki ?_) | (with_reducible refine xq_kl ?_) | (with_reducible refine xq_kv ?_) | (with_reducible refine xq_kq ?_)))
    all_goals first | omega | exact lo279_47 h n (i + 1) (by omega) (by omega)
theorem sp279_47 {v : Int} (h : Q [] (x_fill M 47 8 v)) : xm_call true (d + 1) 279 [.inr (.inr 47), .inr (.inl v)] M Q := by
  refine en279r47 (rg279r47_0 ?_)
  have := lo279_47 (cs := xm_call true d) h 8 0 (by omega) (by omega)
  rw [xf_0] at this
  exact this
theorem pr_trust {x y : Int} (hx : xm_in x) (hy : xm_in y) : R_pair 22 240 [.inl x, .inl y] := by
  intro M hR
  obtain ⟨c1, c2, c3, c4, c5, c6, c7, hT, c9⟩ := id hR
  have t1 := hT x
  refine en22r1 (rg22r1_0 ?_)
  (repeat' (first | (with_reducible exact True.intro) | (with_reducible refine And.intro ?_ ?_) | (with_reducible intro) | (with_reducible refine xq_ki ?_) | (with_reducible refine xq_kl ?_) | (with_reducible refine xq_kv ?_) | (with_reducible refine xq_kq ?_) | (with_reducible refine en23 (rg23_0 ?_))))
  all_goals try omega
  all_goals refine en240r50 (rg240r50_0 ?_)
  all_goals (repeat' (first | (with_reducible exact True.intro) | (with_reducible refine And.intro ?_ ?_) | (with_reducible intro) | (with_reducible refine xq_ki ?_) | (with_reducible refine xq_kl ?_) | (with_reducible refine xq_kv ?_) | (with_reducible refine xq_kq ?_) | (with_reducible apply sp193)))
  all_goals (try omega)
  all_goals (try simp only [xu_c, xu_s, xu_k, ne_eq, Nat.reduceEqDiff, Int.reduceEq, not_false_eq_true] at *)
  all_goals try omega
  all_goals first | exact xq_I rfl hR | skip
  refine xq_I (by omega) ?_
  unfold R_all R_rt
  simp only [xu_c, xu_s, xu_k, ne_eq, Nat.reduceEqDiff, Int.reduceEq, not_false_eq_true]
  refine ⟨c1, c2, c3, c4, c5, c6, c7, fun k h0 h1 => ?_, c9⟩
  have hk := hT k h0 h1
  simp only [xm_up, if_true]
  by_cases e : k = x
  · rw [if_pos e, if_pos e]; omega
  · rw [if_neg e, if_neg e]; exact hk
/-- what a test compares -/
def x_ap (a b : Int) : Int := if b ≤ a then a - b else b - a
def x_by (c : Int → Int) (x : Int) : Int := if x = 0 then x_ap (c 1) (c 2) else if x = 1 then c 6 + c 9 else if x = 2 then x_ap (c 5) (c 8) else x_ap (c 7) (c 10)
theorem sp241 {a b : Int} (ha : xm_in a) (hb : xm_in b) (h : Q [.inl (x_ap a b)] M) : xm_call true (d + 1) 241 [.inl a, .inl b] M Q := by
  refine en241 (rg241_0 ?_)
  (repeat' (first | (with_reducible exact True.intro) | (with_reducible refine And.intro ?_ ?_) | (with_reducible intro) | (with_reducible refine xq_ki ?_) | (with_reducible refine xq_kl ?_) | (with_reducible refine xq_kv ?_) | (with_reducible refine xq_kq ?_)))
  all_goals try omega
  · rw [x_ap, if_pos (by assumption)] at h; exact h
  · rw [x_ap, if_neg (by omega)] at h; exact h
theorem R_pat_all {p : Int} {pa tr ct : Int → Int} (h : R_pat p pa tr ct) (hp : 0 ≤ p ∧ p ≤ 2000) : ∀ k : Int, 0 ≤ k → k < 12 → 0 ≤ ct k ∧ ct k ≤ 40000 := by
  intro k h0 h1
  by_cases hk : k < 4
  · have := h.1 k h0 hk
    omega
  · have := h.2 (k - 4) (by omega) (by omega)
    rw [show 4 + (k - 4) = k by omega] at this
    omega
theorem sp242 {x : Int} (hx : 0 ≤ x ∧ x < 4) (hc : ∀ k : Int, 0 ≤ k → k < 12 → 0 ≤ M 71 k ∧ M 71 k ≤ 40000) (ht : xm_in (M 72 x)) (h1 : x_by (M 71) x ≤ M 72 x → Q [.inl 1] M) (h0 : M 72 x < x_by (M 71) x → Q [.inl 0] M) : xm_call true (d + 2) 242 [.inr (.inr 50), .inl x] M Q := by
  have c1 := hc 1 (by omega) (by omega)
  have c2 := hc 2 (by omega) (by omega)
  have c5 := hc 5 (by omega) (by omega)
  have c6 := hc 6 (by omega) (by omega)
  have c7 := hc 7 (by omega) (by omega)
  have c8 := hc 8 (by omega) (by omega)
  have c9 := hc 9 (by omega) (by omega)
  have c10 := hc 10 (by omega) (by omega)
  clear hc
  refine en242r50 (rg242r50_0 ?_)
  simp only [x_by] at h0 h1
  (repeat' (first | (with_reducible exact True.intro) | (with_reducible refine And.intro ?_ ?_) | (with_reducible intro) | (with_reducible refine xq_ki ?_) | (with_reducible refine xq_kl ?_) | (with_reducible refine xq_kv ?_) | (with_reducible refine xq_kq ?_) | (with_reducible apply sp241)))
  all_goals (try omega)
  all_goals (try simp only [x_ap] at *)
  all_goals first | omega | (refine h0 ?_; omega) | (refine h1 ?_; omega)
theorem sp24 {p x : Int} (hx : 0 ≤ x ∧ x < 4) (hp : 0 ≤ p ∧ p ≤ 2000) (hP : R_pat p (M 35) (M 36) (M 71)) (ht : M 37 x = M 72 x ∧ 0 ≤ M 37 x ∧ M 37 x ≤ 9999) (h1 : x_by (M 71) x ≤ M 72 x → Q [.inl 1] M) (h0 : M 72 x < x_by (M 71) x → Q [.inl 0] M) : xm_call true (d + 3) 24 [.inr (.inr 1), .inl x] M Q := by
  have c1 := hP.1 1 (by omega) (by omega)
  have c2 := hP.1 2 (by omega) (by omega)
  have c5 := hP.2 1 (by omega) (by omega)
  have c6 := hP.2 2 (by omega) (by omega)
  have c7 := hP.2 3 (by omega) (by omega)
  have c8 := hP.2 4 (by omega) (by omega)
  have c9 := hP.2 5 (by omega) (by omega)
  have c10 := hP.2 6 (by omega) (by omega)
  simp only [Int.reduceAdd] at c5 c6 c7 c8 c9 c10
  simp only [x_by, x_ap] at h0 h1
  refine en24r1 (rg24r1_0 ?_)
  (repeat' (first | (with_reducible exact True.intro) | (with_reducible refine And.intro ?_ ?_) | (with_reducible intro) | (with_reducible refine xq_ki ?_) | (with_reducible refine xq_kl ?_) | (with_reducible refine xq_kv ?_) | (with_reducible refine xq_kq ?_) | (with_reducible refine en23 (rg23_0 ?_)) | (with_reducible refine en118r34 (rg118r34_0 ?_)) | (with_reducible apply sp114r34) | (with_reducible apply sp115r34)))
  all_goals (try omega)
  all_goals (try simp only [xm_lc] at *)
  all_goals first | omega | (refine h0 ?_; omega) | (refine h1 ?_; omega)
theorem pr_agrees {x : Int} (hx : xm_in x) : R_pair 24 243 [.inl x] := by
  intro M hR
  obtain ⟨-, -, hRec, -, -, -, hP, hT, -⟩ := id hR
  obtain ⟨-, r2, r3, -⟩ := hRec
  have t1 := hT x
  have hc := R_pat_all hP ⟨r2, r3⟩
  by_cases h : 0 ≤ x ∧ x < 4
  · refine sp24 h ⟨r2, r3⟩ hP (by omega) (fun g => ?_) (fun g => ?_)
    all_goals refine en243r50 (rg243r50_0 ?_)
    all_goals (repeat' (first | (with_reducible exact True.intro) | (with_reducible refine And.intro ?_ ?_) | (with_reducible intro) | (with_reducible refine xq_ki ?_) | (with_reducible refine xq_kl ?_) | (with_reducible refine xq_kv ?_) | (with_reducible refine xq_kq ?_) | (with_reducible apply sp193) | (with_reducible apply sp242 (hc := hc))))
    all_goals first | omega | exact xq_I rfl hR
  · refine en24r1 (rg24r1_0 ?_)
    (repeat' (first | (with_reducible exact True.intro) | (with_reducible refine And.intro ?_ ?_) | (with_reducible intro) | (with_reducible refine xq_ki ?_) | (with_reducible refine xq_kl ?_) | (with_reducible refine xq_kv ?_) | (with_reducible refine xq_kq ?_) | (with_reducible refine en23 (rg23_0 ?_))))
    all_goals try omega
    all_goals refine en243r50 (rg243r50_0 ?_)
    all_goals (repeat' (first | (with_reducible exact True.intro) | (with_reducible refine And.intro ?_ ?_) | (with_reducible intro) | (with_reducible refine xq_ki ?_) | (with_reducible refine xq_kl ?_) | (with_reducible refine xq_kv ?_) | (with_reducible refine xq_kq ?_) | (with_reducible apply sp193)))
    all_goals first | omega | exact xq_I rfl hR
theorem lo239 (hc : ∀ k : Int, 0 ≤ k → k < 12 → 0 ≤ M 71 k ∧ M 71 k ≤ 40000) {cs : xm_C} : ∀ (n : Nat) (k acc : Int), 0 ≤ k → k + n = 12 → Q [.inr (.inl (acc + x_sum (M 71) k n))] (x_fill M 71 12 0) → wp239r50_4 cs Q acc k (x_fill M 71 k 0)
  | 0, k, acc, h0, h1, h => by
    have e : k = 12 := by omega
    subst e
    simp only [x_sum, Int.add_zero] at h
    refine rg239r50_4 ?_
    (repeat' (first | (with_reducible exact True.intro) | (with_reducible refine And.intro ?_ ?_) | (with_reducible intro) | (with_reducible refine xq_ki ?_) | (with_reducible refine xq_kl ?_) | (with_reducible refine xq_kv ?_) | (with_reducible refine xq_kq ?_)))
    all_goals first | omega | exact h
  | n + 1, k, acc, h0, h1, h => by
    have hk := hc k h0 (by omega)
    rw [x_sum_head, ← Int.add_assoc] at h
    refine rg239r50_4 ?_
    rw [xf_up h0, xf_k (by omega)]
    (repeat' (first | (with_reducible exact True.intro) | (with_reducible refine And.intro ?_ ?_) | (with_reducible intro) | (with_reducible refine xq_ki ?_) | (with_reducible refine xq_kl ?_) | (with_reducible refine xq_kv ?_) | (with_reducible refine xq_kq ?_)))
    all_goals first | omega | exact lo239 hc n (k + 1) _ (by omega) (by omega) h
theorem sp116 (h : Q [.inr (.inl (M 35 0 + M 36 0 + M 36 1 + (M 35 1 + M 36 2 + M 36 3) + (M 35 2 + M 36 4 + M 36 5) + (M 35 3 + M 36 6 + M 36 7)))] M) : xm_call true (d + 3) 116 [.inr (.inr 34)] M Q := by
  refine en116r34 (rg116r34_0 ?_)
  (repeat' (first | (with_reducible exact True.intro) | (with_reducible refine And.intro ?_ ?_) | (with_reducible intro) | (with_reducible refine xq_ki ?_) | (with_reducible refine xq_kl ?_) | (with_reducible refine xq_kv ?_) | (with_reducible refine xq_kq ?_) | (with_reducible refine en117r34 (rg117r34_0 ?_)) | (with_reducible apply sp114r34) | (with_reducible apply sp115r34)))
  all_goals first | omega | exact h
theorem pr_forget : R_pair 21 239 [] := by
  intro M hR
  obtain ⟨c1, c2, hRec, c4, c5, c6, hP, c8⟩ := id hR
  obtain ⟨-, r2, r3, -⟩ := id hRec
  have hc := R_pat_all hP ⟨r2, r3⟩
  have c0 := hP.1 0 (by omega) (by omega)
  have c1' := hP.1 1 (by omega) (by omega)
  have c2' := hP.1 2 (by omega) (by omega)
  have c3' := hP.1 3 (by omega) (by omega)
  have d0 := hP.2 0 (by omega) (by omega)
  have d1 := hP.2 1 (by omega) (by omega)
  have d2 := hP.2 2 (by omega) (by omega)
  have d3 := hP.2 3 (by omega) (by omega)
  have d4 := hP.2 4 (by omega) (by omega)
  have d5 := hP.2 5 (by omega) (by omega)
  have d6 := hP.2 6 (by omega) (by omega)
  have d7 := hP.2 7 (by omega) (by omega)
  simp only [Int.reduceAdd] at d0 d1 d2 d3 d4 d5 d6 d7
  refine en21r1 (rg21r1_0 ?_)
  (repeat' (first | (with_reducible exact True.intro) | (with_reducible refine And.intro ?_ ?_) | (with_reducible intro) | (with_reducible refine xq_ki ?_) | (with_reducible refine xq_kl ?_) | (with_reducible refine xq_kv ?_) | (with_reducible refine xq_kq ?_) | (with_reducible apply sp116) | (with_reducible refine en111r34 (rg111r34_0 ?_)) | (with_reducible apply sp279_35) | (with_reducible apply sp279_36)))
  refine en239r50 (rg239r50_0 ?_)
  have e : ∀ N : xm_Mem, N = x_fill N 71 0 0 := fun N => xf_0.symm
  rw [e (x_fill _ 36 8 0)]
  refine lo239 ?_ 12 0 0 (by omega) (by omega) ?_
  · simp only [xf_c, ne_eq, Nat.reduceEqDiff, not_false_eq_true]; exact hc
  · simp only [xf_c, ne_eq, Nat.reduceEqDiff, not_false_eq_true, x_sum]
    refine xq_L ?_ ?_
    · simp only [Int.zero_add, Int.natCast_zero, Int.cast_ofNat_Int, Int.natCast_add, Int.reduceAdd]
      omega
    · unfold R_all R_rt
      simp only [xf_c, ne_eq, Nat.reduceEqDiff, not_false_eq_true]
      refine ⟨c1, c2, hRec, c4, c5, c6, ?_, c8⟩
      constructor
      · intro k h0 h1
        rw [xf_s (by omega), xf_s (by omega)]
        omega
      · intro k h0 h1
        rw [xf_s (by omega), xf_s (by omega)]
        omega
end PF
