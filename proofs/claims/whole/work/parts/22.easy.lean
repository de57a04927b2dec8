/-! pairs of calls that read or write single places -/
section PT
variable {d : Nat} {Q : xm_K} {M : xm_Mem}
theorem xq_I {a b : Int} (h : a = b) (hP : R_all M) : R_end [Sum.inl a] [Sum.inl b] M := ⟨by rw [h], hP⟩
theorem xq_L {a b : Int} (h : a = b) (hP : R_all M) : R_end [Sum.inr (Sum.inl a)] [Sum.inr (Sum.inl b)] M := ⟨by rw [h], hP⟩
theorem sp177 {x : Int} (hn : 0 ≤ M 2 1 ∧ M 2 1 ≤ 200) (hx : 0 ≤ x ∧ x ≤ 255) (h1 : M 2 1 < 200 → Q [.inl (M 2 1 + 1)] (xm_up (xm_up M 3 (M 2 1) x) 2 1 (M 2 1 + 1))) (h0 : M 2 1 = 200 → Q [.inl (-2)] M) : xm_call true (d + 1) 177 [.inr (.inr 2), .inl x] M Q := by
  have e : x % 65536 = x := Int.emod_eq_of_lt (by omega) (by omega)
  refine en177r2 (rg177r2_0 ?_)
  (repeat' (first | (with_reducible exact True.intro) | (with_reducible refine And.intro ?_ ?_) | (with_reducible intro) | (with_reducible refine xq_ki ?_) | (with_reducible refine xq_kl ?_) | (with_reducible refine xq_kv ?_) | (with_reducible refine xq_kq ?_)))
  all_goals first | omega | (refine h0 ?_; omega) | (rw [e]; refine h1 ?_; omega)
theorem R_txt_push {n m x : Int} {t u t2 u2 : Int → Int} (h : R_txt n m t u) (hn : n < 200) (hx : 0 ≤ x ∧ x ≤ 255) (ht : ∀ i, t2 i = if i = n then x else t i) (hu : ∀ i, u2 i = if i = m then x else u i) : R_txt (n + 1) (m + 1) t2 u2 := by
  obtain ⟨t1, t2', t3, t4⟩ := h
  refine ⟨by omega, by omega, by omega, fun i h0 h1 => ?_⟩
  rw [ht, hu, ← t1]
  by_cases hi : i = n
  · rw [if_pos hi, if_pos hi]; omega
  · rw [if_neg hi, if_neg hi]; exact t4 i h0 (by omega)
theorem pr_type {x : Int} (hx : xm_in x) : R_pair 1 194 [.inl x] := by
  intro M hR
  obtain ⟨hT, hRest⟩ := id hR
  obtain ⟨t1, t2, t3, t4⟩ := id hT
  refine en1r1 (rg1r1_0 ?_)
  (repeat' (first | (with_reducible exact True.intro) | (with_reducible refine And.intro ?_ ?_) | (with_reducible intro) | (with_reducible refine xq_ki ?_) | (with_reducible refine xq_kl ?_) | (with_reducible refine xq_kv ?_) | (with_reducible refine xq_kq ?_) | (with_reducible apply sp177)))
  all_goals try omega
  all_goals refine en194r50 (rg194r50_0 ?_)
  all_goals (repeat' (first | (with_reducible exact True.intro) | (with_reducible refine And.intro ?_ ?_) | (with_reducible intro) | (with_reducible refine xq_ki ?_) | (with_reducible refine xq_kl ?_) | (with_reducible refine xq_kv ?_) | (with_reducible refine xq_kq ?_) | (with_reducible apply sp193)))
  all_goals (try omega)
  all_goals (try simp only [xu_c, xu_s, xu_k, ne_eq, Nat.reduceEqDiff, Int.reduceEq, not_false_eq_true] at *)
  all_goals try omega
  all_goals first | exact xq_I rfl hR | skip
  refine xq_I (by omega) ?_
  unfold R_all R_rt
  simp only [xu_c, xu_s, xu_k, ne_eq, Nat.reduceEqDiff, Int.reduceEq, not_false_eq_true]
  refine ⟨R_txt_push (x := x) hT (by omega) (by omega) (fun i => ?_) (fun i => ?_), hRest⟩
  · simp [xm_up]
  · simp [xm_up]
theorem pr_clear : R_pair 2 195 [] := by
  intro M hR
  obtain ⟨hT, hRest⟩ := id hR
  obtain ⟨t1, t2, t3, t4⟩ := id hT
  refine en2r1 (rg2r1_0 ?_)
  refine en178r2 (rg178r2_0 ?_)
  (repeat' (first | (with_reducible exact True.intro) | (with_reducible refine And.intro ?_ ?_) | (with_reducible intro) | (with_reducible refine xq_ki ?_) | (with_reducible refine xq_kl ?_) | (with_reducible refine xq_kv ?_) | (with_reducible refine xq_kq ?_)))
  refine en195r50 (rg195r50_0 ?_)
  simp only [xu_c, xu_s, xu_k, ne_eq, Nat.reduceEqDiff, Int.reduceEq, not_false_eq_true]
  refine xq_I (by omega) ?_
  unfold R_all R_rt
  simp only [xu_c, xu_s, xu_k, ne_eq, Nat.reduceEqDiff, Int.reduceEq, not_false_eq_true]
  exact ⟨⟨rfl, by omega, by omega, fun i h0 h1 => by omega⟩, hRest⟩
theorem sp147 {x : Int} (hx : xm_in x) (h1 : 0 ≤ x → x < 2000 → Q [.inl 1] M) (h0 : x < 0 ∨ 2000 ≤ x → Q [.inl 0] M) : xm_call true (d + 1) 147 [.inl x] M Q := by
  refine en147 (rg147_0 ?_)
  (repeat' (first | (with_reducible exact True.intro) | (with_reducible refine And.intro ?_ ?_) | (with_reducible intro) | (with_reducible refine xq_ki ?_) | (with_reducible refine xq_kl ?_) | (with_reducible refine xq_kv ?_) | (with_reducible refine xq_kq ?_)))
  all_goals first | omega | (refine h0 ?_; omega) | (refine h1 ?_ ?_ <;> omega)
theorem sp148 {x : Int} (h0 : 0 ≤ x ∧ x < 2000) (h : Q [.inl (M 30 x)] M) : xm_call true (d + 2) 148 [.inr (.inr 29), .inl x] M Q := by
  refine en148r29 (rg148r29_0 ?_)
  (repeat' (first | (with_reducible exact True.intro) | (with_reducible refine And.intro ?_ ?_) | (with_reducible intro) | (with_reducible refine xq_ki ?_) | (with_reducible refine xq_kl ?_) | (with_reducible refine xq_kv ?_) | (with_reducible refine xq_kq ?_) | (with_reducible apply sp147)))
  all_goals first | omega | exact h
theorem sp149 {x : Int} (h0 : 0 ≤ x ∧ x < 2000) (h : Q [.inl (M 31 x)] M) : xm_call true (d + 2) 149 [.inr (.inr 29), .inl x] M Q := by
  refine en149r29 (rg149r29_0 ?_)
  (repeat' (first | (with_reducible exact True.intro) | (with_reducible refine And.intro ?_ ?_) | (with_reducible intro) | (with_reducible refine xq_ki ?_) | (with_reducible refine xq_kl ?_) | (with_reducible refine xq_kv ?_) | (with_reducible refine xq_kq ?_) | (with_reducible apply sp147)))
  all_goals first | omega | exact h
theorem pr_lossy {x : Int} (hx : xm_in x) : R_pair 13 228 [.inl x] := by
  intro M hR
  obtain ⟨-, -, hRec, -⟩ := id hR
  obtain ⟨r1, r2, r3, r4, r5, -⟩ := hRec
  have r4 := r4 x
  refine en13r1 (rg13r1_0 ?_)
  (repeat' (first | (with_reducible exact True.intro) | (with_reducible refine And.intro ?_ ?_) | (with_reducible intro) | (with_reducible refine xq_ki ?_) | (with_reducible refine xq_kl ?_) | (with_reducible refine xq_kv ?_) | (with_reducible refine xq_kq ?_) | (with_reducible apply sp140r29) | (with_reducible apply sp148)))
  all_goals try omega
  all_goals refine en228r50 (rg228r50_0 ?_)
  all_goals (repeat' (first | (with_reducible exact True.intro) | (with_reducible refine And.intro ?_ ?_) | (with_reducible intro) | (with_reducible refine xq_ki ?_) | (with_reducible refine xq_kl ?_) | (with_reducible refine xq_kv ?_) | (with_reducible refine xq_kq ?_) | (with_reducible apply sp193)))
  all_goals first | omega | exact xq_I rfl hR
theorem sp76 {x : Int} (hn : 0 ≤ M 23 5 ∧ M 23 5 ≤ 4) (h1 : M 23 5 < 4 → Q [.inl (M 23 5 + 1)] (xm_up (xm_up M 27 (M 23 5) x) 23 5 (M 23 5 + 1))) (h0 : M 23 5 = 4 → Q [.inl (-2)] M) : xm_call true (d + 1) 76 [.inr (.inr 23), .inl x] M Q := by
  refine en76r23 (rg76r23_0 ?_)
  (repeat' (first | (with_reducible exact True.intro) | (with_reducible refine And.intro ?_ ?_) | (with_reducible intro) | (with_reducible refine xq_ki ?_) | (with_reducible refine xq_kl ?_) | (with_reducible refine xq_kv ?_) | (with_reducible refine xq_kq ?_)))
  all_goals first | omega | (refine h0 ?_; omega) | (refine h1 ?_; omega)
theorem pr_asks {x : Int} (hx : xm_in x) : R_pair 10 225 [.inl x] := by
  intro M hR
  obtain ⟨c1, c2, c3, c4, hA, c6⟩ := id hR
  obtain ⟨a1, a2, a3, a4, a5, a6, a7⟩ := id hA
  refine en10r1 (rg10r1_0 ?_)
  (repeat' (first | (with_reducible exact True.intro) | (with_reducible refine And.intro ?_ ?_) | (with_reducible intro) | (with_reducible refine xq_ki ?_) | (with_reducible refine xq_kl ?_) | (with_reducible refine xq_kv ?_) | (with_reducible refine xq_kq ?_) | (with_reducible apply sp76)))
  all_goals try omega
  all_goals refine en225r50 (rg225r50_0 ?_)
  all_goals (repeat' (first | (with_reducible exact True.intro) | (with_reducible refine And.intro ?_ ?_) | (with_reducible intro) | (with_reducible refine xq_ki ?_) | (with_reducible refine xq_kl ?_) | (with_reducible refine xq_kv ?_) | (with_reducible refine xq_kq ?_) | (with_reducible apply sp193)))
  all_goals (try omega)
  all_goals (try simp only [xu_c, xu_s, xu_k, ne_eq, Nat.reduceEqDiff, Int.reduceEq, not_false_eq_true] at *)
  all_goals try omega
  all_goals first | exact xq_I rfl hR | skip
  all_goals
    refine xq_I (by omega) ?_
    unfold R_all R_rt
    simp only [xu_c, xu_s, xu_k, ne_eq, Nat.reduceEqDiff, Int.reduceEq, not_false_eq_true]
    refine ⟨c1, c2, c3, c4, ?_, ?_⟩
    · unfold R_ask
      simp only [xu_c, xu_s, xu_k, ne_eq, Nat.reduceEqDiff, Int.reduceEq, not_false_eq_true]
      refine ⟨by omega, fun k h0 h1 => ?_, a3, a4, a5, a6, a7⟩
      have a2 := a2 k h0
      simp only [xm_up, if_true]
      rw [← a1.1]
      by_cases hk : k = M 23 5
      · rw [if_pos hk, if_pos hk]; omega
      · rw [if_neg hk, if_neg hk]; exact a2 (by omega)
    · exact c6
theorem pr_draws {x y : Int} (hx : xm_in x) : R_pair 11 226 [.inl x, .inl y] := by
  intro M hR
  obtain ⟨c1, c2, c3, c4, hA, c6⟩ := id hR
  obtain ⟨a1, a2, a3, a4, a5, a6, a7⟩ := id hA
  refine en11r1 (rg11r1_0 ?_)
  (repeat' (first | (with_reducible exact True.intro) | (with_reducible refine And.intro ?_ ?_) | (with_reducible intro) | (with_reducible refine xq_ki ?_) | (with_reducible refine xq_kl ?_) | (with_reducible refine xq_kv ?_) | (with_reducible refine xq_kq ?_)))
  all_goals try omega
  all_goals try refine en77r23 (rg77r23_0 ?_)
  all_goals (repeat' (first | (with_reducible exact True.intro) | (with_reducible refine And.intro ?_ ?_) | (with_reducible intro) | (with_reducible refine xq_ki ?_) | (with_reducible refine xq_kl ?_) | (with_reducible refine xq_kv ?_) | (with_reducible refine xq_kq ?_)))
  all_goals refine en226r50 (rg226r50_0 ?_)
  all_goals (repeat' (first | (with_reducible exact True.intro) | (with_reducible refine And.intro ?_ ?_) | (with_reducible intro) | (with_reducible refine xq_ki ?_) | (with_reducible refine xq_kl ?_) | (with_reducible refine xq_kv ?_) | (with_reducible refine xq_kq ?_) | (with_reducible apply sp193)))
  all_goals (try omega)
  all_goals (try simp only [xu_c, xu_s, xu_k, ne_eq, Nat.reduceEqDiff, Int.reduceEq, not_false_eq_true] at *)
  all_goals try omega
  all_goals first | exact xq_I rfl hR | skip
  refine xq_I (by omega) ?_
  unfold R_all R_rt
  simp only [xu_c, xu_s, xu_k, ne_eq, Nat.reduceEqDiff, Int.reduceEq, not_false_eq_true]
  refine ⟨c1, c2, c3, c4, ?_, c6⟩
  unfold R_ask
  simp only [xu_c, xu_s, xu_k, ne_eq, Nat.reduceEqDiff, Int.reduceEq, not_false_eq_true]
  exact ⟨a1, a2, ⟨trivial, by omega⟩, trivial, a5, a6, a7⟩
theorem x_sum_head (f : Int → Int) : ∀ (n : Nat) (a : Int), x_sum f a (n + 1) = f a + x_sum f (a + 1) n
  | 0, a => by simp [x_sum]
  | n + 1, a => by
    rw [x_sum, x_sum_head f n a, x_sum]
    have : a + ((n + 1 : Nat) : Int) = a + 1 + (n : Int) := by omega
    rw [this]
    omega
theorem lo27_10 {cs : xm_C} {x1 x2 : Int} (h2 : xm_in x2) : ∀ (n : Nat) (i acc : Int), 0 ≤ i → i ≤ 5 → (n = 0 → x2 < i ∨ 5 ≤ i) → (0 < n → i + n = x2 + 1 ∧ i + n ≤ 5 ∨ i + n = 5 ∧ 5 ≤ x2 + 1) → Q [.inl (acc + x_sum (M 10) i n)] M → wp27r10_13 cs Q x1 x2 acc i M
  | 0, i, acc, h0, h3, h4, h5, h => by
    have h4 := h4 rfl
    simp only [x_sum, Int.add_zero] at h
    refine rg27r10_13 ?_
    (repeat' (first | (with_reducible exact True.intro) | (with_reducible refine And.intro ?_ ?_) | (with_reducible intro) | (with_reducible refine xq_ki ?_) | (with_reducible refine xq_kl ?_) | (with_reducible refine xq_kv ?_) | (with_reducible refine xq_kq ?_)))
    all_goals first | omega | exact h
  | n + 1, i, acc, h0, h3, h4, h5, h => by
    have h5 := h5 (by omega)
    rw [x_sum_head, ← Int.add_assoc] at h
    refine rg27r10_13 ?_
    (repeat' (first | (with_reducible exact True.intro) | (with_reducible refine And.intro ?_ ?_) | (with_reducible intro) | (with_reducible refine xq_ki ?_) | (with_reducible refine xq_kl ?_) | (with_reducible refine xq_kv ?_) | (with_reducible refine xq_kq ?_)))
    all_goals first | omega | exact lo27_10 h2 n (i + 1) _ (by omega) (by omega) (by omega) (by omega) h
theorem sp27_10 {x1 x2 : Int} (h1 : xm_in x1) (h2 : xm_in x2) (h : ∀ (a : Int) (n : Nat), a = (if x1 < 0 then 0 else x1) → (n : Int) = (if x2 < a then 0 else if 5 ≤ a then 0 else if x2 < 5 then x2 + 1 - a else 5 - a) → Q [.inl (x_sum (M 10) a n)] M) : xm_call true (d + 1) 27 [.inr (.inr 10), .inl x1, .inl x2] M Q := by
  have key : ∀ a : Int, a = (if x1 < 0 then 0 else x1) → wp27r10_13 (xm_call true d) Q x1 x2 0 a M := by
    intro a ha
    have h := h a (if x2 < a then 0 else if 5 ≤ a then 0 else if x2 < 5 then x2 + 1 - a else 5 - a).toNat ha (by omega)
    rw [← Int.zero_add (x_sum _ _ _)] at h
    by_cases hl : a ≤ 5
    · exact lo27_10 h2 _ a 0 (by omega) hl (by omega) (by omega) h
    · have e : (if x2 < a then 0 else if 5 ≤ a then 0 else if x2 < 5 then x2 + 1 - a else 5 - a).toNat = 0 := by omega
      rw [e] at h
      simp only [x_sum, Int.add_zero] at h
      refine rg27r10_13 ?_
      (repeat' (first | (with_reducible exact True.intro) | (with_reducible refine And.intro ?_ ?_) | (with_reducible intro) | (with_reducible refine xq_ki ?_) | (with_reducible refine xq_kl ?_) | (with_reducible refine xq_kv ?_) | (with_reducible refine xq_kq ?_)))
      all_goals first | omega | exact h
  refine en27r10 (rg27r10_0 ?_)
  (repeat' (first | (with_reducible exact True.intro) | (with_reducible refine And.intro ?_ ?_) | (with_reducible intro) | (with_reducible refine xq_ki ?_) | (with_reducible refine xq_kl ?_) | (with_reducible refine xq_kv ?_) | (with_reducible refine xq_kq ?_)))
  all_goals first | omega | (refine key _ ?_; omega)
theorem lo27_28 {cs : xm_C} {x1 x2 : Int} (h2 : xm_in x2) : ∀ (n : Nat) (i acc : Int), 0 ≤ i → i ≤ 2003 → (n = 0 → x2 < i ∨ 2003 ≤ i) → (0 < n → i + n = x2 + 1 ∧ i + n ≤ 2003 ∨ i + n = 2003 ∧ 2003 ≤ x2 + 1) → Q [.inl (acc + x_sum (M 28) i n)] M → wp27r28_13 cs Q x1 x2 acc i M
  | 0, i, acc, h0, h3, h4, h5, h => by
    have h4 := h4 rfl
    simp only [x_sum, Int.add_zero] at h
    refine rg27r28_13 ?_
    (repeat' (first | (with_reducible exact True.intro) | (with_reducible refine And.intro ?_ ?_) | (with_reducible intro) | (with_reducible refine xq_ki ?_) | (with_reducible refine xq_kl ?_) | (with_reducible refine xq_kv ?_) | (with_reducible refine xq_kq ?_)))
    all_goals first | omega | exact h
  | n + 1, i, acc, h0, h3, h4, h5, h => by
    have h5 := h5 (by omega)
    rw [x_sum_head, ← Int.add_assoc] at h
    refine rg27r28_13 ?_
    (repeat' (first | (with_reducible exact True.intro) | (with_reducible refine And.intro ?_ ?_) | (with_reducible intro) | (with_reducible refine xq_ki ?_) | (with_reducible refine xq_kl ?_) | (with_reducible refine xq_kv ?_) | (with_reducible refine xq_kq ?_)))
    all_goals first | omega | exact lo27_28 h2 n (i + 1) _ (by omega) (by omega) (by omega) (by omega) h
theorem sp27_28 {x1 x2 : Int} (h1 : xm_in x1) (h2 : xm_in x2) (h : ∀ (a : Int) (n : Nat), a = (if x1 < 0 then 0 else x1) → (n : Int) = (if x2 < a then 0 else if 2003 ≤ a then 0 else if x2 < 2003 then x2 + 1 - a else 2003 - a) → Q [.inl (x_sum (M 28) a n)] M) : xm_call true (d + 1) 27 [.inr (.inr 28), .inl x1, .inl x2] M Q := by
  have key : ∀ a : Int, a = (if x1 < 0 then 0 else x1) → wp27r28_13 (xm_call true d) Q x1 x2 0 a M := by
    intro a ha
    have h := h a (if x2 < a then 0 else if 2003 ≤ a then 0 else if x2 < 2003 then x2 + 1 - a else 2003 - a).toNat ha (by omega)
    rw [← Int.zero_add (x_sum _ _ _)] at h
    by_cases hl : a ≤ 2003
    · exact lo27_28 h2 _ a 0 (by omega) hl (by omega) (by omega) h
    · have e : (if x2 < a then 0 else if 2003 ≤ a then 0 else if x2 < 2003 then x2 + 1 - a else 2003 - a).toNat = 0 := by omega
      rw [e] at h
      simp only [x_sum, Int.add_zero] at h
      refine rg27r28_13 ?_
      (repeat' (first | (with_reducible exact True.intro) | (with_reducible refine And.intro ?_ ?_) | (with_reducible intro) | (with_reducible refine xq_ki ?_) | (with_reducible refine xq_kl ?_) | (with_reducible refine xq_kv ?_) | (with_reducible refine xq_kq ?_)))
      all_goals first | omega | exact h
  refine en27r28 (rg27r28_0 ?_)
  (repeat' (first | (with_reducible exact True.intro) | (with_reducible refine And.intro ?_ ?_) | (with_reducible intro) | (with_reducible refine xq_ki ?_) | (with_reducible refine xq_kl ?_) | (with_reducible refine xq_kv ?_) | (with_reducible refine xq_kq ?_)))
  all_goals first | omega | (refine key _ ?_; omega)
theorem lo27_30 {cs : xm_C} {x1 x2 : Int} (h2 : xm_in x2) : ∀ (n : Nat) (i acc : Int), 0 ≤ i → i ≤ 2000 → (n = 0 → x2 < i ∨ 2000 ≤ i) → (0 < n → i + n = x2 + 1 ∧ i + n ≤ 2000 ∨ i + n = 2000 ∧ 2000 ≤ x2 + 1) → Q [.inl (acc + x_sum (M 30) i n)] M → wp27r30_13 cs Q x1 x2 acc i M
  | 0, i, acc, h0, h3, h4, h5, h => by
    have h4 := h4 rfl
    simp only [x_sum, Int.add_zero] at h
    refine rg27r30_13 ?_
    (repeat' (first | (with_reducible exact True.intro) | (with_reducible refine And.intro ?_ ?_) | (with_reducible intro) | (with_reducible refine xq_ki ?_) | (with_reducible refine xq_kl ?_) | (with_reducible refine xq_kv ?_) | (with_reducible refine xq_kq ?_)))
    all_goals first | omega | exact h
  | n + 1, i, acc, h0, h3, h4, h5, h => by
    have h5 := h5 (by omega)
    rw [x_sum_head, ← Int.add_assoc] at h
    refine rg27r30_13 ?_
    (repeat' (first | (with_reducible exact True.intro) | (with_reducible refine And.intro ?_ ?_) | (with_reducible intro) | (with_reducible refine xq_ki ?_) | (with_reducible refine xq_kl ?_) | (with_reducible refine xq_kv ?_) | (with_reducible refine xq_kq ?_)))
    all_goals first | omega | exact lo27_30 h2 n (i + 1) _ (by omega) (by omega) (by omega) (by omega) h
theorem sp27_30 {x1 x2 : Int} (h1 : xm_in x1) (h2 : xm_in x2) (h : ∀ (a : Int) (n : Nat), a = (if x1 < 0 then 0 else x1) → (n : Int) = (if x2 < a then 0 else if 2000 ≤ a then 0 else if x2 < 2000 then x2 + 1 - a else 2000 - a) → Q [.inl (x_sum (M 30) a n)] M) : xm_call true (d + 1) 27 [.inr (.inr 30), .inl x1, .inl x2] M Q := by
  have key : ∀ a : Int, a = (if x1 < 0 then 0 else x1) → wp27r30_13 (xm_call true d) Q x1 x2 0 a M := by
    intro a ha
    have h := h a (if x2 < a then 0 else if 2000 ≤ a then 0 else if x2 < 2000 then x2 + 1 - a else 2000 - a).toNat ha (by omega)
    rw [← Int.zero_add (x_sum _ _ _)] at h
    by_cases hl : a ≤ 2000
    · exact lo27_30 h2 _ a 0 (by omega) hl (by omega) (by omega) h
    · have e : (if x2 < a then 0 else if 2000 ≤ a then 0 else if x2 < 2000 then x2 + 1 - a else 2000 - a).toNat = 0 := by omega
      rw [e] at h
      simp only [x_sum, Int.add_zero] at h
      refine rg27r30_13 ?_
      (repeat' (first | (with_reducible exact True.intro) | (with_reducible refine And.intro ?_ ?_) | (with_reducible intro) | (with_reducible refine xq_ki ?_) | (with_reducible refine xq_kl ?_) | (with_reducible refine xq_kv ?_) | (with_reducible refine xq_kq ?_)))
      all_goals first | omega | exact h
  refine en27r30 (rg27r30_0 ?_)
  (repeat' (first | (with_reducible exact True.intro) | (with_reducible refine And.intro ?_ ?_) | (with_reducible intro) | (with_reducible refine xq_ki ?_) | (with_reducible refine xq_kl ?_) | (with_reducible refine xq_kv ?_) | (with_reducible refine xq_kq ?_)))
  all_goals first | omega | (refine key _ ?_; omega)
theorem lo27_31 {cs : xm_C} {x1 x2 : Int} (h2 : xm_in x2) : ∀ (n : Nat) (i acc : Int), 0 ≤ i → i ≤ 2000 → (n = 0 → x2 < i ∨ 2000 ≤ i) → (0 < n → i + n = x2 + 1 ∧ i + n ≤ 2000 ∨ i + n = 2000 ∧ 2000 ≤ x2 + 1) → Q [.inl (acc + x_sum (M 31) i n)] M → wp27r31_13 cs Q x1 x2 acc i M
  | 0, i, acc, h0, h3, h4, h5, h => by
    have h4 := h4 rfl
    simp only [x_sum, Int.add_zero] at h
    refine rg27r31_13 ?_
    (repeat' (first | (with_reducible exact True.intro) | (with_reducible refine And.intro ?_ ?_) | (with_reducible intro) | (with_reducible refine xq_ki ?_) | (with_reducible refine xq_kl ?_) | (with_reducible refine xq_kv ?_) | (with_reducible refine xq_kq ?_)))
    all_goals first | omega | exact h
  | n + 1, i, acc, h0, h3, h4, h5, h => by
    have h5 := h5 (by omega)
    rw [x_sum_head, ← Int.add_assoc] at h
    refine rg27r31_13 ?_
    (repeat' (first | (with_reducible exact True.intro) | (with_reducible refine And.intro ?_ ?_) | (with_reducible intro) | (with_reducible refine xq_ki ?_) | (with_reducible refine xq_kl ?_) | (with_reducible refine xq_kv ?_) | (with_reducible refine xq_kq ?_)))
    all_goals first | omega | exact lo27_31 h2 n (i + 1) _ (by omega) (by omega) (by omega) (by omega) h
theorem sp27_31 {x1 x2 : Int} (h1 : xm_in x1) (h2 : xm_in x2) (h : ∀ (a : Int) (n : Nat), a = (if x1 < 0 then 0 else x1) → (n : Int) = (if x2 < a then 0 else if 2000 ≤ a then 0 else if x2 < 2000 then x2 + 1 - a else 2000 - a) → Q [.inl (x_sum (M 31) a n)] M) : xm_call true (d + 1) 27 [.inr (.inr 31), .inl x1, .inl x2] M Q := by
  have key : ∀ a : Int, a = (if x1 < 0 then 0 else x1) → wp27r31_13 (xm_call true d) Q x1 x2 0 a M := by
    intro a ha
    have h := h a (if x2 < a then 0 else if 2000 ≤ a then 0 else if x2 < 2000 then x2 + 1 - a else 2000 - a).toNat ha (by omega)
    rw [← Int.zero_add (x_sum _ _ _)] at h
    by_cases hl : a ≤ 2000
    · exact lo27_31 h2 _ a 0 (by omega) hl (by omega) (by omega) h
    · have e : (if x2 < a then 0 else if 2000 ≤ a then 0 else if x2 < 2000 then x2 + 1 - a else 2000 - a).toNat = 0 := by omega
      rw [e] at h
      simp only [x_sum, Int.add_zero] at h
      refine rg27r31_13 ?_
      (repeat' (first | (with_reducible exact True.intro) | (with_reducible refine And.intro ?_ ?_) | (with_reducible intro) | (with_reducible refine xq_ki ?_) | (with_reducible refine xq_kl ?_) | (with_reducible refine xq_kv ?_) | (with_reducible refine xq_kq ?_)))
      all_goals first | omega | exact h
  refine en27r31 (rg27r31_0 ?_)
  (repeat' (first | (with_reducible exact True.intro) | (with_reducible refine And.intro ?_ ?_) | (with_reducible intro) | (with_reducible refine xq_ki ?_) | (with_reducible refine xq_kl ?_) | (with_reducible refine xq_kv ?_) | (with_reducible refine xq_kq ?_)))
  all_goals first | omega | (refine key _ ?_; omega)
theorem sp82 {x : Int} (h0 : 0 ≤ x ∧ x < 2003) (h : Q [.inl (M 28 x)] M) : xm_call true (d + 3) 82 [.inr (.inr 23), .inl x] M Q := by
  refine en82r23 (rg82r23_0 ?_)
  refine en83r23 (rg83r23_0 ?_)
  refine sp27_28 (by omega) (by omega) (fun a n ha hn => ?_)
  have e1 : n = 1 := by omega
  have e2 : a = x := by omega
  subst e1; subst e2
  (repeat' (first | (with_reducible exact True.intro) | (with_reducible refine And.intro ?_ ?_) | (with_reducible intro) | (with_reducible refine xq_ki ?_) | (with_reducible refine xq_kl ?_) | (with_reducible refine xq_kv ?_) | (with_reducible refine xq_kq ?_)))
  simp only [x_sum, Int.zero_add, Int.add_zero, Int.natCast_zero, Int.ofNat_zero, Int.cast_ofNat_Int] at *
  exact h
theorem pr_slot {x y : Int} (hx : xm_in x) (hy : xm_in y) : R_pair 14 229 [.inl x, .inl y] := by
  intro M hR
  obtain ⟨-, -, hRec, hExp, -⟩ := id hR
  obtain ⟨r1, r2, r3, r4, r5, -⟩ := hRec
  obtain ⟨-, -, -, -, e5, -⟩ := hExp
  have r4 := r4 x
  have e5 := e5 x
  refine en14r1 (rg14r1_0 ?_)
  (repeat' (first | (with_reducible exact True.intro) | (with_reducible refine And.intro ?_ ?_) | (with_reducible intro) | (with_reducible refine xq_ki ?_) | (with_reducible refine xq_kl ?_) | (with_reducible refine xq_kv ?_) | (with_reducible refine xq_kq ?_) | (with_reducible apply sp140r29) | (with_reducible apply sp148) | (with_reducible apply sp149) | (with_reducible apply sp82)))
  all_goals try omega
  all_goals refine en229r50 (rg229r50_0 ?_)
  all_goals (repeat' (first | (with_reducible exact True.intro) | (with_reducible refine And.intro ?_ ?_) | (with_reducible intro) | (with_reducible refine xq_ki ?_) | (with_reducible refine xq_kl ?_) | (with_reducible refine xq_kv ?_) | (with_reducible refine xq_kq ?_) | (with_reducible apply sp193)))
  all_goals first | omega | exact xq_I (by omega) hR
end PT
