/-! pairs of calls that read arrays -/
section PM
variable {d : Nat} {Q : xm_K} {M : xm_Mem}
theorem sp169r11 {x : Int} (hx : xm_in x) (hl : 0 ≤ x → x ≤ 4 → 0 ≤ M 13 x ∧ M 13 x ≤ 400) (h1 : 0 ≤ x ∧ x ≤ 4 → 0 < M 13 x → Q [.inl 1] M) (h0 : ¬ (0 ≤ x ∧ x ≤ 4) ∨ M 13 x = 0 → Q [.inl 0] M) : xm_call true (d + 2) 169 [.inr (.inr 11), .inl x] M Q := by
  refine en169r11 (rg169r11_0 ?_)
  (repeat' (first | (with_reducible exact True.intro) | (with_reducible refine And.intro ?_ ?_) | (with_reducible intro) | (with_reducible refine xq_ki ?_) | (with_reducible refine xq_kl ?_) | (with_reducible refine xq_kv ?_) | (with_reducible refine xq_kq ?_) | (with_reducible refine en168r11 (rg168r11_0 ?_))))
  all_goals first | omega | (refine h0 ?_; omega) | (refine h1 ?_ ?_ <;> omega)
theorem sp173r11 {s x : Int} (hs : 0 ≤ s ∧ s ≤ 4) (hx : 0 ≤ x ∧ x ≤ 99999) (hl : 0 ≤ M 13 s ∧ M 13 s ≤ 400) (h0 : M 13 s = 0 → Q [.inl 0] M) (h1 : 0 < M 13 s → 0 ≤ Int.tmod x (M 13 s) → Int.tmod x (M 13 s) < M 13 s → Q [.inl (M 12 (s * 400 + Int.tmod x (M 13 s)))] M) : xm_call true (d + 2) 173 [.inr (.inr 11), .inl s, .inl x] M Q := by
  refine en173r11 (rg173r11_0 ?_)
  (repeat' (first | (with_reducible exact True.intro) | (with_reducible refine And.intro ?_ ?_) | (with_reducible intro) | (with_reducible refine xq_ki ?_) | (with_reducible refine xq_kl ?_) | (with_reducible refine xq_kv ?_) | (with_reducible refine xq_kq ?_) | (with_reducible refine en168r11 (rg168r11_0 ?_))))
  all_goals try omega
  all_goals first | (refine h0 ?_; omega) | skip
  all_goals
    have t1 := Int.tmod_nonneg (M 13 s) hx.1
    have t2 := Int.tmod_lt_of_pos x (b := M 13 s) (by omega)
    (repeat' (first | (with_reducible exact True.intro) | (with_reducible refine And.intro ?_ ?_) | (with_reducible intro) | (with_reducible refine xq_ki ?_) | (with_reducible refine xq_kl ?_) | (with_reducible refine xq_kv ?_) | (with_reducible refine xq_kq ?_) | (with_reducible refine en172r11 (rg172r11_0 ?_))))
    all_goals first | omega | (refine h1 ?_ ?_ ?_ <;> omega)
theorem sp170r11 {x : Int} (hx : xm_in x) (hl : 0 ≤ x → x ≤ 4 → 0 ≤ M 13 x ∧ M 13 x ≤ 400) (h1 : 0 ≤ x ∧ x < 4 → 0 < M 13 x → Q [.inl 1] M) (h0 : ¬ (0 ≤ x ∧ x < 4) ∨ M 13 x = 0 → Q [.inl 0] M) : xm_call true (d + 3) 170 [.inr (.inr 11), .inl x] M Q := by
  refine en170r11 (rg170r11_0 ?_)
  (repeat' (first | (with_reducible exact True.intro) | (with_reducible refine And.intro ?_ ?_) | (with_reducible intro) | (with_reducible refine xq_ki ?_) | (with_reducible refine xq_kl ?_) | (with_reducible refine xq_kv ?_) | (with_reducible refine xq_kq ?_) | (with_reducible apply sp169r11)))
  all_goals first | omega | exact hl | (refine h0 ?_; omega) | (refine h1 ?_ ?_ <;> omega)
theorem sp169r14 {x : Int} (hx : xm_in x) (hl : 0 ≤ x → x ≤ 4 → 0 ≤ M 16 x ∧ M 16 x ≤ 400) (h1 : 0 ≤ x ∧ x ≤ 4 → 0 < M 16 x → Q [.inl 1] M) (h0 : ¬ (0 ≤ x ∧ x ≤ 4) ∨ M 16 x = 0 → Q [.inl 0] M) : xm_call true (d + 2) 169 [.inr (.inr 14), .inl x] M Q := by
  refine en169r14 (rg169r14_0 ?_)
  (repeat' (first | (with_reducible exact True.intro) | (with_reducible refine And.intro ?_ ?_) | (with_reducible intro) | (with_reducible refine xq_ki ?_) | (with_reducible refine xq_kl ?_) | (with_reducible refine xq_kv ?_) | (with_reducible refine xq_kq ?_) | (with_reducible refine en168r14 (rg168r14_0 ?_))))
  all_goals first | omega | (refine h0 ?_; omega) | (refine h1 ?_ ?_ <;> omega)
theorem sp173r14 {s x : Int} (hs : 0 ≤ s ∧ s ≤ 4) (hx : 0 ≤ x ∧ x ≤ 99999) (hl : 0 ≤ M 16 s ∧ M 16 s ≤ 400) (h0 : M 16 s = 0 → Q [.inl 0] M) (h1 : 0 < M 16 s → 0 ≤ Int.tmod x (M 16 s) → Int.tmod x (M 16 s) < M 16 s → Q [.inl (M 15 (s * 400 + Int.tmod x (M 16 s)))] M) : xm_call true (d + 2) 173 [.inr (.inr 14), .inl s, .inl x] M Q := by
  refine en173r14 (rg173r14_0 ?_)
  (repeat' (first | (with_reducible exact True.intro) | (with_reducible refine And.intro ?_ ?_) | (with_reducible intro) | (with_reducible refine xq_ki ?_) | (with_reducible refine xq_kl ?_) | (with_reducible refine xq_kv ?_) | (with_reducible refine xq_kq ?_) | (with_reducible refine en168r14 (rg168r14_0 ?_))))
  all_goals try omega
  all_goals first | (refine h0 ?_; omega) | skip
  all_goals
    have t1 := Int.tmod_nonneg (M 16 s) hx.1
    have t2 := Int.tmod_lt_of_pos x (b := M 16 s) (by omega)
    (repeat' (first | (with_reducible exact True.intro) | (with_reducible refine And.intro ?_ ?_) | (with_reducible intro) | (with_reducible refine xq_ki ?_) | (with_reducible refine xq_kl ?_) | (with_reducible refine xq_kv ?_) | (with_reducible refine xq_kq ?_) | (with_reducible refine en172r14 (rg172r14_0 ?_))))
    all_goals first | omega | (refine h1 ?_ ?_ ?_ <;> omega)
theorem sp170r14 {x : Int} (hx : xm_in x) (hl : 0 ≤ x → x ≤ 4 → 0 ≤ M 16 x ∧ M 16 x ≤ 400) (h1 : 0 ≤ x ∧ x < 4 → 0 < M 16 x → Q [.inl 1] M) (h0 : ¬ (0 ≤ x ∧ x < 4) ∨ M 16 x = 0 → Q [.inl 0] M) : xm_call true (d + 3) 170 [.inr (.inr 14), .inl x] M Q := by
  refine en170r14 (rg170r14_0 ?_)
  (repeat' (first | (with_reducible exact True.intro) | (with_reducible refine And.intro ?_ ?_) | (with_reducible intro) | (with_reducible refine xq_ki ?_) | (with_reducible refine xq_kl ?_) | (with_reducible refine xq_kv ?_) | (with_reducible refine xq_kq ?_) | (with_reducible apply sp169r14)))
  all_goals first | omega | exact hl | (refine h0 ?_; omega) | (refine h1 ?_ ?_ <;> omega)
theorem pr_row {x y : Int} (hx : xm_in x) (hy : xm_in y) : R_pair 5 212 [.inl x, .inl y] := by
  intro M hR
  obtain ⟨-, hRt, -⟩ := id hR
  rcases hRt with ⟨m1, m2, -, -, -, -, -, -, q1, q2, q3, -⟩ | ⟨m1, m2, -, -, -, -, -, -, q1, q2, q3, -⟩
  all_goals
    have q1 := q1 x
    have q3 := fun a b => q3 x (Int.tmod y (M 52 x)) a b
    refine en5r1 (rg5r1_0 ?_)
    (repeat' (first | (with_reducible exact True.intro) | (with_reducible refine And.intro ?_ ?_) | (with_reducible intro) | (with_reducible refine xq_ki ?_) | (with_reducible refine xq_kl ?_) | (with_reducible refine xq_kv ?_) | (with_reducible refine xq_kq ?_) | (with_reducible apply sp169r11) | (with_reducible apply sp173r11) | (with_reducible apply sp169r14) | (with_reducible apply sp173r14)))
    all_goals try omega
    all_goals refine en212r50 (rg212r50_0 ?_)
    all_goals (repeat' (first | (with_reducible exact True.intro) | (with_reducible refine And.intro ?_ ?_) | (with_reducible intro) | (with_reducible refine xq_ki ?_) | (with_reducible refine xq_kl ?_) | (with_reducible refine xq_kv ?_) | (with_reducible refine xq_kq ?_) | (with_reducible apply sp193) | (with_reducible refine en211r50 (rg211r50_0 ?_))))
    all_goals try omega
    all_goals first | exact xq_I (by omega) hR | skip
    all_goals
      have e := (q1 (by omega) (by omega)).1
      simp only [← e] at *
      first | omega | exact xq_I (by omega) hR
theorem sp105r17 {x : Int} (hx : 0 ≤ x ∧ x ≤ 4) (h : Q [.inl (M 20 x)] M) : xm_call true (d + 2) 105 [.inr (.inr 17), .inl x] M Q := by
  refine en105r17 (rg105r17_0 ?_)
  (repeat' (first | (with_reducible exact True.intro) | (with_reducible refine And.intro ?_ ?_) | (with_reducible intro) | (with_reducible refine xq_ki ?_) | (with_reducible refine xq_kl ?_) | (with_reducible refine xq_kv ?_) | (with_reducible refine xq_kq ?_) | (with_reducible refine en101 (rg101_0 ?_))))
  all_goals first | omega | exact h
theorem sp106r17 {x : Int} (hx : 0 ≤ x ∧ x ≤ 4) (h : Q [.inl (M 21 x)] M) : xm_call true (d + 2) 106 [.inr (.inr 17), .inl x] M Q := by
  refine en106r17 (rg106r17_0 ?_)
  (repeat' (first | (with_reducible exact True.intro) | (with_reducible refine And.intro ?_ ?_) | (with_reducible intro) | (with_reducible refine xq_ki ?_) | (with_reducible refine xq_kl ?_) | (with_reducible refine xq_kv ?_) | (with_reducible refine xq_kq ?_) | (with_reducible refine en101 (rg101_0 ?_))))
  all_goals first | omega | exact h
theorem sp107r17 {x : Int} (hx : 0 ≤ x ∧ x ≤ 4) (h : Q [.inl (M 22 x)] M) : xm_call true (d + 2) 107 [.inr (.inr 17), .inl x] M Q := by
  refine en107r17 (rg107r17_0 ?_)
  (repeat' (first | (with_reducible exact True.intro) | (with_reducible refine And.intro ?_ ?_) | (with_reducible intro) | (with_reducible refine xq_ki ?_) | (with_reducible refine xq_kl ?_) | (with_reducible refine xq_kv ?_) | (with_reducible refine xq_kq ?_) | (with_reducible refine en101 (rg101_0 ?_))))
  all_goals first | omega | exact h
theorem sp108r17 {x : Int} (hx : 0 ≤ x ∧ x ≤ 4) (h : Q [.inl (M 20 x - M 21 x - M 22 x)] M) : xm_call true (d + 3) 108 [.inr (.inr 17), .inl x] M Q := by
  refine en108r17 (rg108r17_0 ?_)
  (repeat' (first | (with_reducible exact True.intro) | (with_reducible refine And.intro ?_ ?_) | (with_reducible intro) | (with_reducible refine xq_ki ?_) | (with_reducible refine xq_kl ?_) | (with_reducible refine xq_kv ?_) | (with_reducible refine xq_kq ?_) | (with_reducible apply sp105r17) | (with_reducible apply sp106r17) | (with_reducible apply sp107r17)))
  all_goals first | omega | exact h
theorem lo233 {cs : xm_C} {x : Int} (hx : xm_in x) (hw : ∀ i : Int, 0 ≤ i → i < 40 → i < M 50 24 → xm_in (M 62 i)) (hn : M 50 24 ≤ 40) : ∀ (n k : Nat) (acc : Int), (k : Int) + n = M 50 24 → acc = x_of (M 62) x k → Q [.inl (x_of (M 62) x (k + n))] M → wp233r50_4 cs Q x acc k M
  | 0, k, acc, h1, h2, h => by
    refine rg233r50_4 ?_
    (repeat' (first | (with_reducible exact True.intro) | (with_reducible refine And.intro ?_ ?_) | (with_reducible intro) | (with_reducible refine xq_ki ?_) | (with_reducible refine xq_kl ?_) | (with_reducible refine xq_kv ?_) | (with_reducible refine xq_kq ?_)))
    all_goals first | omega | skip
    rw [h2]; exact h
  | n + 1, k, acc, h1, h2, h => by
    have hw' := hw k (by omega) (by omega) (by omega)
    have e : ∀ b : Int, b = (if M 62 k = x then 1 else 0) → acc + b = x_of (M 62) x (k + 1) := fun b hb => by rw [x_of, h2, hb]
    have h' : Q [.inl (x_of (M 62) x (k + 1 + n))] M := by rw [Nat.add_right_comm k 1 n]; exact h
    refine rg233r50_4 ?_
    (repeat' (first | (with_reducible exact True.intro) | (with_reducible refine And.intro ?_ ?_) | (with_reducible intro) | (with_reducible refine xq_ki ?_) | (with_reducible refine xq_kl ?_) | (with_reducible refine xq_kv ?_) | (with_reducible refine xq_kq ?_)))
    all_goals try omega
    · exact lo233 hx hw hn n (k + 1) _ (by omega) (e 0 (by rw [if_neg (by assumption)])) h'
    · exact lo233 hx hw hn n (k + 1) _ (by omega) (e 1 (by rw [if_pos (by assumption)])) h'
theorem sp233 {x : Int} (hx : xm_in x) (hw : ∀ i : Int, 0 ≤ i → i < 40 → i < M 50 24 → xm_in (M 62 i)) (hn : 0 ≤ M 50 24 ∧ M 50 24 ≤ 40) (h : Q [.inl (x_of (M 62) x (M 50 24).toNat)] M) : xm_call true (d + 1) 233 [.inr (.inr 50), .inl x] M Q := by
  refine en233r50 (rg233r50_0 ?_)
  exact lo233 hx hw hn.2 (M 50 24).toNat 0 0 (by omega) rfl (by rw [Nat.zero_add]; exact h)
theorem pr_packets {x y : Int} (hx : xm_in x) (hy : xm_in y) : R_pair 16 234 [.inl x, .inl y] := by
  intro M hR
  obtain ⟨-, hRt, -, -, -, hL, -⟩ := id hR
  obtain ⟨l1, l2, l3, l4, -⟩ := hL
  have l4 := l4 x
  have hw : ∀ i : Int, 0 ≤ i → i < 40 → i < M 50 24 → xm_in (M 62 i) := fun i h0 h1 h2 => by
    have := l3 i h0 (by omega)
    omega
  rcases hRt with ⟨m1, m2, -, -, -, -, -, g5, q1, q2, -⟩ | ⟨m1, m2, -, -, -, -, -, g5, q1, q2, -⟩
  all_goals
    have q1 := q1 x
    have q2 := q2 x
    refine en16r1 (rg16r1_0 ?_)
    (repeat' (first | (with_reducible exact True.intro) | (with_reducible refine And.intro ?_ ?_) | (with_reducible intro) | (with_reducible refine xq_ki ?_) | (with_reducible refine xq_kl ?_) | (with_reducible refine xq_kv ?_) | (with_reducible refine xq_kq ?_) | (with_reducible apply sp170r11) | (with_reducible apply sp170r14) | (with_reducible apply sp105r17) | (with_reducible apply sp106r17) | (with_reducible apply sp107r17) | (with_reducible apply sp108r17)))
    all_goals try omega
    all_goals refine en234r50 (rg234r50_0 ?_)
    all_goals (repeat' (first | (with_reducible exact True.intro) | (with_reducible refine And.intro ?_ ?_) | (with_reducible intro) | (with_reducible refine xq_ki ?_) | (with_reducible refine xq_kl ?_) | (with_reducible refine xq_kv ?_) | (with_reducible refine xq_kq ?_) | (with_reducible apply sp193) | (with_reducible apply sp233 (hw := hw))))
    all_goals try omega
    all_goals first | exact xq_I (by omega) hR | skip
    all_goals
      refine xq_I ?_ hR
      rw [← l1.1]
      omega
theorem pr_delay {x : Int} (hx : xm_in x) : R_pair 17 235 [.inl x] := by
  intro M hR
  obtain ⟨-, -, -, -, -, hL, -⟩ := id hR
  obtain ⟨-, -, -, l4, l5, l6⟩ := hL
  have l4 := l4 4
  refine en17r1 (rg17r1_0 ?_)
  (repeat' (first | (with_reducible exact True.intro) | (with_reducible refine And.intro ?_ ?_) | (with_reducible intro) | (with_reducible refine xq_ki ?_) | (with_reducible refine xq_kl ?_) | (with_reducible refine xq_kv ?_) | (with_reducible refine xq_kq ?_) | (with_reducible apply sp107r17) | (with_reducible apply sp103r17) | (with_reducible apply sp104r17)))
  all_goals try omega
  all_goals refine en235r50 (rg235r50_0 ?_)
  all_goals (repeat' (first | (with_reducible exact True.intro) | (with_reducible refine And.intro ?_ ?_) | (with_reducible intro) | (with_reducible refine xq_ki ?_) | (with_reducible refine xq_kl ?_) | (with_reducible refine xq_kv ?_) | (with_reducible refine xq_kq ?_)))
  all_goals first | omega | exact xq_I (by omega) hR
theorem sp84 {x : Int} (hx : xm_in x) (hn : 0 ≤ M 23 3 ∧ M 23 3 ≤ 20) (h1 : 0 ≤ x ∧ x < M 23 3 → Q [.inl 1] M) (h0 : ¬ (0 ≤ x ∧ x < M 23 3) → Q [.inl 0] M) : xm_call true (d + 1) 84 [.inr (.inr 23), .inl x] M Q := by
  refine en84r23 (rg84r23_0 ?_)
  (repeat' (first | (with_reducible exact True.intro) | (with_reducible refine And.intro ?_ ?_) | (with_reducible intro) | (with_reducible refine xq_ki ?_) | (with_reducible refine xq_kl ?_) | (with_reducible refine xq_kv ?_) | (with_reducible refine xq_kq ?_)))
  all_goals first | omega | (refine h0 ?_; omega) | (refine h1 ?_; omega)
theorem sp86 {x : Int} (hn : 0 ≤ M 23 3 ∧ M 23 3 ≤ 20) (hx : 0 ≤ x ∧ x < M 23 3) (h : Q [.inl (M 24 x)] M) : xm_call true (d + 2) 86 [.inr (.inr 23), .inl x] M Q := by
  refine en86r23 (rg86r23_0 ?_)
  (repeat' (first | (with_reducible exact True.intro) | (with_reducible refine And.intro ?_ ?_) | (with_reducible intro) | (with_reducible refine xq_ki ?_) | (with_reducible refine xq_kl ?_) | (with_reducible refine xq_kv ?_) | (with_reducible refine xq_kq ?_) | (with_reducible apply sp84)))
  all_goals first | omega | exact h
theorem sp87 {x : Int} (hn : 0 ≤ M 23 3 ∧ M 23 3 ≤ 20) (hx : 0 ≤ x ∧ x < M 23 3) (h : Q [.inl (M 25 x)] M) : xm_call true (d + 2) 87 [.inr (.inr 23), .inl x] M Q := by
  refine en87r23 (rg87r23_0 ?_)
  (repeat' (first | (with_reducible exact True.intro) | (with_reducible refine And.intro ?_ ?_) | (with_reducible intro) | (with_reducible refine xq_ki ?_) | (with_reducible refine xq_kl ?_) | (with_reducible refine xq_kv ?_) | (with_reducible refine xq_kq ?_) | (with_reducible apply sp84)))
  all_goals first | omega | exact h
theorem sp88 {x : Int} (hn : 0 ≤ M 23 3 ∧ M 23 3 ≤ 20) (hx : 0 ≤ x ∧ x < M 23 3) (h : Q [.inl (M 26 x)] M) : xm_call true (d + 2) 88 [.inr (.inr 23), .inl x] M Q := by
  refine en88r23 (rg88r23_0 ?_)
  (repeat' (first | (with_reducible exact True.intro) | (with_reducible refine And.intro ?_ ?_) | (with_reducible intro) | (with_reducible refine xq_ki ?_) | (with_reducible refine xq_kl ?_) | (with_reducible refine xq_kv ?_) | (with_reducible refine xq_kq ?_) | (with_reducible apply sp84)))
  all_goals first | omega | exact h
theorem pr_under {x y : Int} (hx : xm_in x) (hy : xm_in y) : R_pair 18 236 [.inl x, .inl y] := by
  intro M hR
  obtain ⟨-, -, -, hE, -⟩ := id hR
  obtain ⟨e1, e2, e3, e4, -⟩ := hE
  have e4 := e4 x
  refine en18r1 (rg18r1_0 ?_)
  (repeat' (first | (with_reducible exact True.intro) | (with_reducible refine And.intro ?_ ?_) | (with_reducible intro) | (with_reducible refine xq_ki ?_) | (with_reducible refine xq_kl ?_) | (with_reducible refine xq_kv ?_) | (with_reducible refine xq_kq ?_) | (with_reducible apply sp84) | (with_reducible apply sp86) | (with_reducible apply sp87) | (with_reducible apply sp88)))
  all_goals try omega
  all_goals refine en236r50 (rg236r50_0 ?_)
  all_goals (repeat' (first | (with_reducible exact True.intro) | (with_reducible refine And.intro ?_ ?_) | (with_reducible intro) | (with_reducible refine xq_ki ?_) | (with_reducible refine xq_kl ?_) | (with_reducible refine xq_kv ?_) | (with_reducible refine xq_kq ?_) | (with_reducible apply sp193)))
  all_goals first | omega | exact xq_I (by omega) hR
theorem sp20 {x y : Int} (hx : xm_in x) (hy : xm_in y) (h1 : x = 2 ∧ 0 ≤ y ∧ y < 4 ∨ x = 3 ∧ 0 ≤ y ∧ y < 8 → Q [.inl 1] M) (h0 : ¬ (x = 2 ∧ 0 ≤ y ∧ y < 4 ∨ x = 3 ∧ 0 ≤ y ∧ y < 8) → Q [.inl 0] M) : xm_call true (d + 1) 20 [.inl x, .inl y] M Q := by
  refine en20 (rg20_0 ?_)
  have e2 : x = 2 → 1 * 2 ^ (x : Int).toNat = (4 : Int) := fun h => by subst h; decide
  have e3 : x = 3 → 1 * 2 ^ (x : Int).toNat = (8 : Int) := fun h => by subst h; decide
  generalize (1 * 2 ^ (x : Int).toNat : Int) = z at *
  (repeat' (first | (with_reducible exact True.intro) | (with_reducible refine And.intro ?_ ?_) | (with_reducible intro) | (with_reducible refine xq_ki ?_) | (with_reducible refine xq_kl ?_) | (with_reducible refine xq_kv ?_) | (with_reducible refine xq_kq ?_)))
  all_goals first | omega | (refine h0 ?_; omega) | (refine h1 ?_; omega)
theorem sp237 {x y : Int} (hx : xm_in x) (hy : xm_in y) (h1 : x = 2 ∧ 0 ≤ y ∧ y < 4 ∨ x = 3 ∧ 0 ≤ y ∧ y < 8 → Q [.inl 1] M) (h0 : ¬ (x = 2 ∧ 0 ≤ y ∧ y < 4 ∨ x = 3 ∧ 0 ≤ y ∧ y < 8) → Q [.inl 0] M) : xm_call true (d + 2) 237 [.inl x, .inl y] M Q := by
  refine en237 (rg237_0 ?_)
  (repeat' (first | (with_reducible exact True.intro) | (with_reducible refine And.intro ?_ ?_) | (with_reducible intro) | (with_reducible refine xq_ki ?_) | (with_reducible refine xq_kl ?_) | (with_reducible refine xq_kv ?_) | (with_reducible refine xq_kq ?_) | (with_reducible apply sp193)))
  all_goals first | omega | (refine h0 ?_; omega) | (refine h1 ?_; omega)
theorem sp114r34 {x : Int} (hx : 0 ≤ x ∧ x < 4) (h : Q [.inr (.inl (M 35 x))] M) : xm_call true (d + 1) 114 [.inr (.inr 34), .inl x] M Q := by
  refine en114r34 (rg114r34_0 ?_)
  (repeat' (first | (with_reducible exact True.intro) | (with_reducible refine And.intro ?_ ?_) | (with_reducible intro) | (with_reducible refine xq_ki ?_) | (with_reducible refine xq_kl ?_) | (with_reducible refine xq_kv ?_) | (with_reducible refine xq_kq ?_)))
  all_goals first | omega | exact h
theorem sp115r34 {x : Int} (hx : 0 ≤ x ∧ x < 8) (h : Q [.inr (.inl (M 36 x))] M) : xm_call true (d + 1) 115 [.inr (.inr 34), .inl x] M Q := by
  refine en115r34 (rg115r34_0 ?_)
  (repeat' (first | (with_reducible exact True.intro) | (with_reducible refine And.intro ?_ ?_) | (with_reducible intro) | (with_reducible refine xq_ki ?_) | (with_reducible refine xq_kl ?_) | (with_reducible refine xq_kv ?_) | (with_reducible refine xq_kq ?_)))
  all_goals first | omega | exact h
theorem sp114r45 {x : Int} (hx : 0 ≤ x ∧ x < 4) (h : Q [.inr (.inl (M 46 x))] M) : xm_call true (d + 1) 114 [.inr (.inr 45), .inl x] M Q := by
  refine en114r45 (rg114r45_0 ?_)
  (repeat' (first | (with_reducible exact True.intro) | (with_reducible refine And.intro ?_ ?_) | (with_reducible intro) | (with_reducible refine xq_ki ?_) | (with_reducible refine xq_kl ?_) | (with_reducible refine xq_kv ?_) | (with_reducible refine xq_kq ?_)))
  all_goals first | omega | exact h
theorem sp115r45 {x : Int} (hx : 0 ≤ x ∧ x < 8) (h : Q [.inr (.inl (M 47 x))] M) : xm_call true (d + 1) 115 [.inr (.inr 45), .inl x] M Q := by
  refine en115r45 (rg115r45_0 ?_)
  (repeat' (first | (with_reducible exact True.intro) | (with_reducible refine And.intro ?_ ?_) | (with_reducible intro) | (with_reducible refine xq_ki ?_) | (with_reducible refine xq_kl ?_) | (with_reducible refine xq_kv ?_) | (with_reducible refine xq_kq ?_)))
  all_goals first | omega | exact h
theorem sp113 {x y : Int} (hx : x = 2 ∧ 0 ≤ y ∧ y < 4 ∨ x = 3 ∧ 0 ≤ y ∧ y < 8) (h2 : x = 2 → Q [.inr (.inl (M 35 y))] M) (h3 : x = 3 → Q [.inr (.inl (M 36 y))] M) : xm_call true (d + 2) 113 [.inr (.inr 34), .inl x, .inl y] M Q := by
  refine en113r34 (rg113r34_0 ?_)
  (repeat' (first | (with_reducible exact True.intro) | (with_reducible refine And.intro ?_ ?_) | (with_reducible intro) | (with_reducible refine xq_ki ?_) | (with_reducible refine xq_kl ?_) | (with_reducible refine xq_kv ?_) | (with_reducible refine xq_kq ?_) | (with_reducible apply sp114r34) | (with_reducible apply sp115r34)))
  all_goals first | omega | exact h2 (by omega) | exact h3 (by omega)
theorem pr_pattern {x y : Int} (hx : xm_in x) (hy : xm_in y) : R_pair 19 238 [.inl x, .inl y] := by
  intro M hR
  obtain ⟨-, -, hRec, -, -, -, hP, -⟩ := id hR
  obtain ⟨-, r2, r3, -⟩ := hRec
  obtain ⟨p1, p2⟩ := hP
  have p1 := p1 y
  have p2 := p2 y
  refine en19r1 (rg19r1_0 ?_)
  (repeat' (first | (with_reducible exact True.intro) | (with_reducible refine And.intro ?_ ?_) | (with_reducible intro) | (with_reducible refine xq_ki ?_) | (with_reducible refine xq_kl ?_) | (with_reducible refine xq_kv ?_) | (with_reducible refine xq_kq ?_) | (with_reducible apply sp20) | (with_reducible apply sp113)))
  all_goals try omega
  all_goals refine en238r50 (rg238r50_0 ?_)
  all_goals (repeat' (first | (with_reducible exact True.intro) | (with_reducible refine And.intro ?_ ?_) | (with_reducible intro) | (with_reducible refine xq_ki ?_) | (with_reducible refine xq_kl ?_) | (with_reducible refine xq_kv ?_) | (with_reducible refine xq_kq ?_) | (with_reducible apply sp237)))
  all_goals try rw [Int.zero_add] at *
  all_goals first | omega | exact xq_L (by omega) hR
end PM
