/-! pairs of calls on the chain's states -/
/-- the reference's weights, those from and to n laid to 0 up to i -/
def x_zr (M : xm_Mem) (n i : Int) : xm_Mem := fun c k => if c = 76 ∧ ((5 * n ≤ k ∧ k < 5 * n + i) ∨ (k % 5 = n ∧ 0 ≤ k ∧ k < 5 * i)) then 0 else M c k
theorem xz_c {M : xm_Mem} {c : Nat} {n i : Int} (h : c ≠ 76) : x_zr M n i c = M c := by
  funext k
  unfold x_zr
  rw [if_neg (fun h' => h h'.1)]
theorem xz_up {M : xm_Mem} {n i : Int} (h : 0 ≤ i ∧ i < 5) (hn : 0 ≤ n ∧ n < 5) : xm_up (xm_up (x_zr M n i) 76 (5 * n + i) 0) 76 (5 * i + n) 0 = x_zr M n (i + 1) := by
  funext c k
  simp only [xm_up, x_zr]
  repeat' split
  all_goals first | rfl | (exfalso; omega)
theorem xz_0 {M : xm_Mem} {n : Int} : x_zr M n 0 = M := by
  funext c k
  unfold x_zr
  rw [if_neg (by omega)]
section PC
variable {d : Nat} {Q : xm_K} {M : xm_Mem}
theorem lo252 {cs : xm_C} {x : Int} (hn : 0 ≤ M 50 48 ∧ M 50 48 < 5) (h : Q [.inl (M 50 48)] (xm_up (x_zr M (M 50 48) 5) 50 48 (M 50 48 + 1))) : ∀ (n : Nat) (i : Int), 0 ≤ i → i + n = 5 → wp252r50_43 cs Q x i (x_zr M (M 50 48) i)
  | 0, i, h0, h1 => by
    have e : i = 5 := by omega
    subst e
    refine rg252r50_43 ?_
    simp only [xz_c, ne_eq, Nat.reduceEqDiff, not_false_eq_true]
    rw [Int.add_sub_cancel]
    (repeat' (first | (with_reducible exact True.intro) | (with_reducible refine And.intro ?_ ?_) | (with_reducible intro) | (with_reducible refine xq_ki ?_) | (with_reducible refine xq_kl ?_) | (with_reducible refine xq_kv ?_) | (with_reducible refine xq_kq ?_)))
    all_goals first | omega | exact h
  | n + 1, i, h0, h1 => by
    refine rg252r50_43 ?_
    simp only [xz_c, ne_eq, Nat.reduceEqDiff, not_false_eq_true]
    (repeat' (first | (with_reducible exact True.intro) | (with_reducible refine And.intro ?_ ?_) | (with_reducible intro) | (with_reducible refine xq_ki ?_) | (with_reducible refine xq_kl ?_) | (with_reducible refine xq_kv ?_) | (with_reducible refine xq_kq ?_)))
    all_goals try omega
    rw [xz_up (by omega) hn]
    exact lo252 hn h n (i + 1) (by omega) (by omega)
theorem pr_state {x : Int} (hx : xm_in x) : R_pair 31 252 [.inl x] := by
  intro M hR
  obtain ⟨c1, c2, c3, c4, c5, c6, c7, c8, hC⟩ := id hR
  obtain ⟨s1, s2, s3, s4, s5, s6, s7⟩ := id hC
  refine en31r1 (rg31r1_0 ?_)
  (repeat' (first | (with_reducible exact True.intro) | (with_reducible refine And.intro ?_ ?_) | (with_reducible intro) | (with_reducible refine xq_ki ?_) | (with_reducible refine xq_kl ?_) | (with_reducible refine xq_kv ?_) | (with_reducible refine xq_kq ?_) | (with_reducible refine en46r38 (rg46r38_0 ?_))))
  all_goals try omega
  all_goals refine en252r50 (rg252r50_0 ?_)
  all_goals (repeat' (first | (with_reducible exact True.intro) | (with_reducible refine And.intro ?_ ?_) | (with_reducible intro) | (with_reducible refine xq_ki ?_) | (with_reducible refine xq_kl ?_) | (with_reducible refine xq_kv ?_) | (with_reducible refine xq_kq ?_) | (with_reducible apply sp193)))
  all_goals try omega
  all_goals (try simp only [xu_c, xu_s, xu_k, ne_eq, Nat.reduceEqDiff, Int.reduceEq, not_false_eq_true] at *)
  all_goals try omega
  all_goals first | exact xq_I rfl hR | skip
  all_goals
    have e : ∀ N : xm_Mem, N = x_zr N (N 50 48) 0 := fun N => xz_0.symm
    rw [e (xm_up _ 75 _ _)]
    refine lo252 ?_ ?_ 5 0 (by omega) (by omega)
    · simp only [xu_c, xu_s, xu_k, ne_eq, Nat.reduceEqDiff, Int.reduceEq, not_false_eq_true]; omega
    simp only [xu_c, xu_s, xu_k, ne_eq, Nat.reduceEqDiff, Int.reduceEq, not_false_eq_true]
    refine xq_I (by omega) ?_
    unfold R_all R_rt
    simp only [xu_c, xu_s, xu_k, ne_eq, Nat.reduceEqDiff, Int.reduceEq, not_false_eq_true, xz_c, or_self]
    refine ⟨c1, c2, c3, c4, c5, c6, c7, c8, by omega, by omega, by omega, fun s h0 h1 => ?_, fun a b h0 h1 h2 h3 => ?_, fun a b h0 h1 h2 h3 h4 => ?_, fun s h0 h1 => ?_⟩
    · have := s4 s h0
      simp only [xm_up, if_true]
      repeat' split
      all_goals omega
    · have g5 := s5 a b h0
      have g6 := s6 a b h0 (by omega) h2 (by omega)
      unfold x_zr
      simp only [xu_c, xu_s, xu_k, ne_eq, Nat.reduceEqDiff, Int.reduceEq, not_false_eq_true, true_and]
      split
      · omega
      · exact g5 (by omega) h2 (by omega)
    · exact s6 a b h0 h1 h2 h3 (by omega)
    · have := s7 s h0 h1
      simp only [xm_up, if_true]
      split
      all_goals omega
theorem sp253 {x : Int} (hx : xm_in x) (hn : 0 ≤ M 50 48 ∧ M 50 48 ≤ 5) (h1 : 0 ≤ x ∧ x < M 50 48 → Q [.inl 1] M) (h0 : ¬ (0 ≤ x ∧ x < M 50 48) → Q [.inl 0] M) : xm_call true (d + 2) 253 [.inr (.inr 50), .inl x] M Q := by
  refine en253r50 (rg253r50_0 ?_)
  (repeat' (first | (with_reducible exact True.intro) | (with_reducible refine And.intro ?_ ?_) | (with_reducible intro) | (with_reducible refine xq_ki ?_) | (with_reducible refine xq_kl ?_) | (with_reducible refine xq_kv ?_) | (with_reducible refine xq_kq ?_) | (with_reducible apply sp193)))
  all_goals first | omega | (refine h0 ?_; omega) | (refine h1 ?_; omega)
theorem sp45 {x : Int} (hx : xm_in x) (hn : 0 ≤ M 38 0 ∧ M 38 0 ≤ 5) (h1 : 0 ≤ x ∧ x < M 38 0 → Q [.inl 1] M) (h0 : ¬ (0 ≤ x ∧ x < M 38 0) → Q [.inl 0] M) : xm_call true (d + 1) 45 [.inr (.inr 38), .inl x] M Q := by
  refine en45r38 (rg45r38_0 ?_)
  (repeat' (first | (with_reducible exact True.intro) | (with_reducible refine And.intro ?_ ?_) | (with_reducible intro) | (with_reducible refine xq_ki ?_) | (with_reducible refine xq_kl ?_) | (with_reducible refine xq_kv ?_) | (with_reducible refine xq_kq ?_)))
  all_goals first | omega | (refine h0 ?_; omega) | (refine h1 ?_; omega)
theorem sp49 {x y : Int} (hx : xm_in x) (hy : xm_in y) (hn : 0 ≤ M 38 0 ∧ M 38 0 ≤ 5) (h1 : (0 ≤ x ∧ x < M 38 0) ∧ 0 ≤ y ∧ y < M 38 0 → Q [.inl (M 40 (x * 5 + y))] M) (h0 : ¬ ((0 ≤ x ∧ x < M 38 0) ∧ 0 ≤ y ∧ y < M 38 0) → Q [.inl 0] M) : xm_call true (d + 2) 49 [.inr (.inr 38), .inl x, .inl y] M Q := by
  refine en49r38 (rg49r38_0 ?_)
  (repeat' (first | (with_reducible exact True.intro) | (with_reducible refine And.intro ?_ ?_) | (with_reducible intro) | (with_reducible refine xq_ki ?_) | (with_reducible refine xq_kl ?_) | (with_reducible refine xq_kv ?_) | (with_reducible refine xq_kq ?_) | (with_reducible apply sp45)))
  all_goals first | omega | (refine h0 ?_; omega) | (refine h1 ?_; omega)
theorem pr_weight {x y z : Int} (hx : xm_in x) (hy : xm_in y) (hz : xm_in z) : R_pair 32 254 [.inl x, .inl y, .inl z] := by
  intro M hR
  obtain ⟨c1, c2, c3, c4, c5, c6, c7, c8, hC⟩ := id hR
  obtain ⟨s1, s2, s3, s4, s5, s6, s7⟩ := id hC
  have g5 := s5 x y
  refine en32r1 (rg32r1_0 ?_)
  (repeat' (first | (with_reducible exact True.intro) | (with_reducible refine And.intro ?_ ?_) | (with_reducible intro) | (with_reducible refine xq_ki ?_) | (with_reducible refine xq_kl ?_) | (with_reducible refine xq_kv ?_) | (with_reducible refine xq_kq ?_) | (with_reducible apply sp45)))
  all_goals try omega
  all_goals try refine en48r38 (rg48r38_0 ?_)
  all_goals (repeat' (first | (with_reducible exact True.intro) | (with_reducible refine And.intro ?_ ?_) | (with_reducible intro) | (with_reducible refine xq_ki ?_) | (with_reducible refine xq_kl ?_) | (with_reducible refine xq_kv ?_) | (with_reducible refine xq_kq ?_) | (with_reducible apply sp45) | (with_reducible apply sp49)))
  all_goals try omega
  all_goals refine en254r50 (rg254r50_0 ?_)
  all_goals (repeat' (first | (with_reducible exact True.intro) | (with_reducible refine And.intro ?_ ?_) | (with_reducible intro) | (with_reducible refine xq_ki ?_) | (with_reducible refine xq_kl ?_) | (with_reducible refine xq_kv ?_) | (with_reducible refine xq_kq ?_) | (with_reducible apply sp253) | (with_reducible apply sp193)))
  all_goals (try omega)
  all_goals (try simp only [xu_c, xu_s, xu_k, ne_eq, Nat.reduceEqDiff, Int.reduceEq, not_false_eq_true] at *)
  all_goals try omega
  all_goals first | exact xq_I rfl hR | skip
  refine xq_I (g5 (by omega) (by omega) (by omega) (by omega)).1 ?_
  unfold R_all R_rt
  simp only [xu_c, xu_s, xu_k, ne_eq, Nat.reduceEqDiff, Int.reduceEq, not_false_eq_true]
  refine ⟨c1, c2, c3, c4, c5, c6, c7, c8, s1, s2, s3, s4, fun a b h0 h1 h2 h3 => ?_, fun a b h0 h1 h2 h3 h4 => ?_, s7⟩
  · have g5 := s5 a b h0 h1 h2 h3
    simp only [xm_up, if_true]
    by_cases e : a = x ∧ b = y
    · rw [if_pos (by omega), if_pos (by omega)]; omega
    · rw [if_neg (by omega), if_neg (by omega)]; exact g5
  · rw [xu_k (by omega)]
    exact s6 a b h0 h1 h2 h3 h4
theorem pr_empty : R_pair 33 255 [] := by
  intro M hR
  obtain ⟨c1, c2, c3, c4, c5, c6, c7, c8, hC⟩ := id hR
  obtain ⟨s1, s2, s3, s4, s5, s6, s7⟩ := id hC
  refine en33r1 (rg33r1_0 ?_)
  refine en47r38 (rg47r38_0 ?_)
  (repeat' (first | (with_reducible exact True.intro) | (with_reducible refine And.intro ?_ ?_) | (with_reducible intro) | (with_reducible refine xq_ki ?_) | (with_reducible refine xq_kl ?_) | (with_reducible refine xq_kv ?_) | (with_reducible refine xq_kq ?_) | (with_reducible apply sp278_40)))
  refine en255r50 (rg255r50_0 ?_)
  simp only [xf_c, xu_c, xu_s, xu_k, ne_eq, Nat.reduceEqDiff, Int.reduceEq, not_false_eq_true]
  refine xq_I s1 ?_
  unfold R_all R_rt
  simp only [xf_c, xu_c, xu_s, xu_k, ne_eq, Nat.reduceEqDiff, Int.reduceEq, not_false_eq_true]
  refine ⟨c1, c2, c3, c4, c5, c6, c7, c8, rfl, by omega, by omega, fun s h0 h1 => by omega, fun a b h0 h1 => by omega, fun a b h0 h1 h2 h3 h4 => ?_, s7⟩
  rw [xf_s (by omega)]
theorem lo109 : ∀ (n : Nat) (k acc : Int), 0 ≤ k → k + n = 5 → Q [.inl (acc + x_sum (M 21) k n)] M → wp109r17_4 (xm_call true (d + 2)) Q acc k M
  | 0, k, acc, h0, h1, h => by
    simp only [x_sum, Int.add_zero] at h
    refine rg109r17_4 ?_
    (repeat' (first | (with_reducible exact True.intro) | (with_reducible refine And.intro ?_ ?_) | (with_reducible intro) | (with_reducible refine xq_ki ?_) | (with_reducible refine xq_kl ?_) | (with_reducible refine xq_kv ?_) | (with_reducible refine xq_kq ?_)))
    all_goals first | omega | exact h
  | n + 1, k, acc, h0, h1, h => by
    rw [x_sum_head, ← Int.add_assoc] at h
    refine rg109r17_4 ?_
    (repeat' (first | (with_reducible exact True.intro) | (with_reducible refine And.intro ?_ ?_) | (with_reducible intro) | (with_reducible refine xq_ki ?_) | (with_reducible refine xq_kl ?_) | (with_reducible refine xq_kv ?_) | (with_reducible refine xq_kq ?_) | (with_reducible apply sp106r17)))
    all_goals first | omega | exact lo109 n (k + 1) _ (by omega) (by omega) h
theorem sp109 (h : Q [.inl (x_sum (M 21) 0 5)] M) : xm_call true (d + 3) 109 [.inr (.inr 17)] M Q := by
  refine en109r17 (rg109r17_0 ?_)
  exact lo109 5 0 0 (by omega) (by omega) (by rw [Int.zero_add]; exact h)
theorem lo250 {cs : xm_C} (hp : 0 ≤ M 50 20 ∧ M 50 20 ≤ 2000) (hv : ∀ s : Int, 0 ≤ s → s < M 50 20 → xm_in (M 61 s)) : ∀ (n k : Nat) (acc : Int), (k : Int) + n = M 50 20 → acc = x_cnt (M 61) k → Q [.inl (x_cnt (M 61) (k + n))] M → wp250r50_4 cs Q acc k M
  | 0, k, acc, h1, h2, h => by
    refine rg250r50_4 ?_
    (repeat' (first | (with_reducible exact True.intro) | (with_reducible refine And.intro ?_ ?_) | (with_reducible intro) | (with_reducible refine xq_ki ?_) | (with_reducible refine xq_kl ?_) | (with_reducible refine xq_kv ?_) | (with_reducible refine xq_kq ?_)))
    all_goals first | omega | skip
    rw [h2]; exact h
  | n + 1, k, acc, h1, h2, h => by
    have hv' := hv k (by omega) (by omega)
    have e : ∀ b : Int, b = (if 0 < M 61 k then 1 else 0) → acc + b = x_cnt (M 61) (k + 1) := fun b hb => by rw [x_cnt, h2, hb]
    have h' : Q [.inl (x_cnt (M 61) (k + 1 + n))] M := by rw [Nat.add_right_comm k 1 n]; exact h
    refine rg250r50_4 ?_
    (repeat' (first | (with_reducible exact True.intro) | (with_reducible refine And.intro ?_ ?_) | (with_reducible intro) | (with_reducible refine xq_ki ?_) | (with_reducible refine xq_kl ?_) | (with_reducible refine xq_kv ?_) | (with_reducible refine xq_kq ?_)))
    all_goals try omega
    · exact lo250 hp hv n (k + 1) _ (by omega) (e 0 (by rw [if_neg (by omega)])) h'
    · exact lo250 hp hv n (k + 1) _ (by omega) (e 1 (by rw [if_pos (by assumption)])) h'
theorem sp250 (hp : 0 ≤ M 50 20 ∧ M 50 20 ≤ 2000) (hv : ∀ s : Int, 0 ≤ s → s < M 50 20 → xm_in (M 61 s)) (h : Q [.inl (x_cnt (M 61) (M 50 20).toNat)] M) : xm_call true (d + 1) 250 [.inr (.inr 50)] M Q := by
  refine en250r50 (rg250r50_0 ?_)
  exact lo250 hp hv (M 50 20).toNat 0 0 (by omega) rfl (by rw [Nat.zero_add]; exact h)
theorem x_cnt_congr {f g : Int → Int} : ∀ n : Nat, (∀ s : Int, 0 ≤ s → s < n → f s = g s) → x_cnt f n = x_cnt g n
  | 0, _ => rfl
  | n + 1, h => by
    rw [x_cnt, x_cnt, x_cnt_congr n (fun s h0 h1 => h s h0 (by omega)), h n (by omega) (by omega)]
end PC
