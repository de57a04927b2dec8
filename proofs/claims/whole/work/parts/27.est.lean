/-! estimates -/
def x_bg (p t : Int → Int) (k : Int) : Int := p k + t (2 * k) + t (2 * k + 1)
def x_den (w n r f b u : Int) : Int := if w = 0 then n + ((r + f) + b) else if w = 1 then r + f else u * (r + f)
def x_num (w r f b u v : Int) : Int := if w = 0 then f + b else if w = 1 then 2 * ((r + f) + b) - (r + f) else 2 * v * (((r + f) + b) - (r + f)) + u * (r + f)
theorem x_den_bd {w n r f b u : Int} (h1 : 0 ≤ n ∧ n ≤ 1073741824) (h2 : 0 ≤ r ∧ r ≤ 1073741824) (h3 : 0 ≤ f ∧ f ≤ 1073741824) (h4 : 0 ≤ b ∧ b ≤ 1073741824) (h5 : 0 ≤ u ∧ u ≤ 1073741824) : 0 ≤ x_den w n r f b u ∧ x_den w n r f b u < 9223372036854775808 := by
  unfold x_den
  have e1 : 0 ≤ u * (r + f) := Int.mul_nonneg h5.1 (by omega)
  have e2 : u * (r + f) ≤ 1073741824 * 2147483648 := Int.mul_le_mul h5.2 (by omega) (by omega) (by omega)
  split
  · omega
  · split <;> omega
theorem x_num_bd {w r f b u v : Int} (h2 : 0 ≤ r ∧ r ≤ 1073741824) (h3 : 0 ≤ f ∧ f ≤ 1073741824) (h4 : 0 ≤ b ∧ b ≤ 1073741824) (h5 : 0 ≤ u ∧ u ≤ 1073741824) (h6 : 0 ≤ v ∧ v ≤ 1073741824) : 0 ≤ x_num w r f b u v ∧ x_num w r f b u v < 9223372036854775808 := by
  unfold x_num
  have e1 : 0 ≤ u * (r + f) := Int.mul_nonneg h5.1 (by omega)
  have e2 : u * (r + f) ≤ 1073741824 * 2147483648 := Int.mul_le_mul h5.2 (by omega) (by omega) (by omega)
  have e3 : ((r + f) + b) - (r + f) = b := by omega
  rw [e3]
  have e4 : 0 ≤ 2 * v * b := Int.mul_nonneg (by omega) h4.1
  have e5 : 2 * v * b ≤ 2147483648 * 1073741824 := Int.mul_le_mul (by omega) h4.2 h4.1 (by omega)
  split
  · omega
  · split <;> omega
theorem xq_e {Q : xm_K} {M : xm_Mem} {a b : Int} (h : Q [.inr (.inl a)] M) (e : a = b) : Q [.inr (.inl b)] M := e ▸ h
theorem xq_b1 {F G : Prop} (h : F) : xm_in 1 ∧ (((1 : Int) = 0 → G) ∧ ((1 : Int) ≠ 0 → F)) := ⟨by omega, fun e => absurd e (by omega), fun _ => h⟩
theorem xq_b2 {F G : Prop} (h : F) : xm_in 1 ∧ (((1 : Int) ≠ 0 → F) ∧ ((1 : Int) = 0 → G)) := ⟨by omega, fun _ => h, fun e => absurd e (by omega)⟩
theorem xq_b3 {F G : Prop} (h : F) : xm_in 0 ∧ (((0 : Int) = 0 → F) ∧ ((0 : Int) ≠ 0 → G)) := ⟨by omega, fun _ => h, fun e => absurd rfl e⟩
theorem xq_b4 {F G : Prop} (h : F) : xm_in 0 ∧ (((0 : Int) ≠ 0 → G) ∧ ((0 : Int) = 0 → F)) := ⟨by omega, fun e => absurd rfl e, fun _ => h⟩
section PE
variable {d : Nat} {Q : xm_K} {M : xm_Mem}
theorem sp117_34 {k : Int} (hk : 0 ≤ k ∧ k < 4) (h : Q [.inr (.inl (x_bg (M 35) (M 36) k))] M) : xm_call true (d + 2) 117 [.inr (.inr 34), .inl k] M Q := by
  refine en117r34 (rg117r34_0 ?_)
  (repeat' (first | (with_reducible exact True.intro) | (with_reducible refine And.intro ?_ ?_) | (with_reducible intro) | (with_reducible refine xq_ki ?_) | (with_reducible refine xq_kl ?_) | (with_reducible refine xq_kv ?_) | (with_reducible refine xq_kq ?_) | (with_reducible apply sp114r34) | (with_reducible apply sp115r34)))
  all_goals first | omega | exact h
theorem sp116_34 (h : Q [.inr (.inl (x_bg (M 35) (M 36) 0 + x_bg (M 35) (M 36) 1 + x_bg (M 35) (M 36) 2 + x_bg (M 35) (M 36) 3))] M) : xm_call true (d + 3) 116 [.inr (.inr 34)] M Q := by
  refine en116r34 (rg116r34_0 ?_)
  (repeat' (first | (with_reducible exact True.intro) | (with_reducible refine And.intro ?_ ?_) | (with_reducible intro) | (with_reducible refine xq_ki ?_) | (with_reducible refine xq_kl ?_) | (with_reducible refine xq_kv ?_) | (with_reducible refine xq_kq ?_) | (with_reducible apply sp117_34)))
  all_goals first | omega | exact h
theorem sp119_34 (h : Q [.inr (.inl (x_bg (M 35) (M 36) 1 + x_bg (M 35) (M 36) 2))] M) : xm_call true (d + 3) 119 [.inr (.inr 34)] M Q := by
  refine en119r34 (rg119r34_0 ?_)
  (repeat' (first | (with_reducible exact True.intro) | (with_reducible refine And.intro ?_ ?_) | (with_reducible intro) | (with_reducible refine xq_ki ?_) | (with_reducible refine xq_kl ?_) | (with_reducible refine xq_kv ?_) | (with_reducible refine xq_kq ?_) | (with_reducible apply sp117_34)))
  all_goals first | omega | exact h
theorem sp120_34 (h : Q [.inr (.inl (M 36 3 + M 36 6))] M) : xm_call true (d + 2) 120 [.inr (.inr 34)] M Q := by
  refine en120r34 (rg120r34_0 ?_)
  (repeat' (first | (with_reducible exact True.intro) | (with_reducible refine And.intro ?_ ?_) | (with_reducible intro) | (with_reducible refine xq_ki ?_) | (with_reducible refine xq_kl ?_) | (with_reducible refine xq_kv ?_) | (with_reducible refine xq_kq ?_) | (with_reducible apply sp115r34)))
  all_goals first | omega | exact h
theorem sp121_34 (h : Q [.inr (.inl (M 36 1 + M 36 4))] M) : xm_call true (d + 2) 121 [.inr (.inr 34)] M Q := by
  refine en121r34 (rg121r34_0 ?_)
  (repeat' (first | (with_reducible exact True.intro) | (with_reducible refine And.intro ?_ ?_) | (with_reducible intro) | (with_reducible refine xq_ki ?_) | (with_reducible refine xq_kl ?_) | (with_reducible refine xq_kv ?_) | (with_reducible refine xq_kq ?_) | (with_reducible apply sp115r34)))
  all_goals first | omega | exact h
theorem sp123_34 {w : Int} (hw : 0 ≤ w ∧ w ≤ 2) (h : Q [.inr (.inl (x_den w (x_bg (M 35) (M 36) 0) (x_bg (M 35) (M 36) 1) (x_bg (M 35) (M 36) 2) (x_bg (M 35) (M 36) 3) (M 36 3 + M 36 6)))] M) : xm_call true (d + 4) 123 [.inr (.inr 34), .inl w] M Q := by
  refine en123r34 (rg123r34_0 ?_)
  (repeat' (first | (with_reducible exact True.intro) | (with_reducible refine And.intro ?_ ?_) | (with_reducible intro) | (with_reducible refine xq_ki ?_) | (with_reducible refine xq_kl ?_) | (with_reducible refine xq_kv ?_) | (with_reducible refine xq_kq ?_) | (with_reducible apply sp116_34) | (with_reducible apply sp119_34) | (with_reducible apply sp120_34)))
  all_goals first | omega | skip
  all_goals
    refine xq_e h ?_
    unfold x_den
  · rw [if_pos (by omega)]; omega
  · rw [if_neg (by omega), if_pos (by omega)]
  · rw [if_neg (by omega), if_neg (by omega)]
theorem sp122_34 {w : Int} (hw : 0 ≤ w ∧ w ≤ 2) (h : Q [.inr (.inl (x_num w (x_bg (M 35) (M 36) 1) (x_bg (M 35) (M 36) 2) (x_bg (M 35) (M 36) 3) (M 36 3 + M 36 6) (M 36 1 + M 36 4)))] M) : xm_call true (d + 4) 122 [.inr (.inr 34), .inl w] M Q := by
  refine en122r34 (rg122r34_0 ?_)
  (repeat' (first | (with_reducible exact True.intro) | (with_reducible refine And.intro ?_ ?_) | (with_reducible intro) | (with_reducible refine xq_ki ?_) | (with_reducible refine xq_kl ?_) | (with_reducible refine xq_kv ?_) | (with_reducible refine xq_kq ?_) | (with_reducible apply sp117_34) | (with_reducible apply sp119_34) | (with_reducible apply sp120_34) | (with_reducible apply sp121_34)))
  all_goals first | omega | skip
  all_goals
    refine xq_e h ?_
    unfold x_num
  · rw [if_pos (by omega)]
  · rw [if_neg (by omega), if_pos (by omega)]
  · rw [if_neg (by omega), if_neg (by omega)]
theorem sp117_45 {k : Int} (hk : 0 ≤ k ∧ k < 4) (h : Q [.inr (.inl (x_bg (M 46) (M 47) k))] M) : xm_call true (d + 2) 117 [.inr (.inr 45), .inl k] M Q := by
  refine en117r45 (rg117r45_0 ?_)
  (repeat' (first | (with_reducible exact True.intro) | (with_reducible refine And.intro ?_ ?_) | (with_reducible intro) | (with_reducible refine xq_ki ?_) | (with_reducible refine xq_kl ?_) | (with_reducible refine xq_kv ?_) | (with_reducible refine xq_kq ?_) | (with_reducible apply sp114r45) | (with_reducible apply sp115r45)))
  all_goals first | omega | exact h
theorem sp116_45 (h : Q [.inr (.inl (x_bg (M 46) (M 47) 0 + x_bg (M 46) (M 47) 1 + x_bg (M 46) (M 47) 2 + x_bg (M 46) (M 47) 3))] M) : xm_call true (d + 3) 116 [.inr (.inr 45)] M Q := by
  refine en116r45 (rg116r45_0 ?_)
  (repeat' (first | (with_reducible exact True.intro) | (with_reducible refine And.intro ?_ ?_) | (with_reducible intro) | (with_reducible refine xq_ki ?_) | (with_reducible refine xq_kl ?_) | (with_reducible refine xq_kv ?_) | (with_reducible refine xq_kq ?_) | (with_reducible apply sp117_45)))
  all_goals first | omega | exact h
theorem sp119_45 (h : Q [.inr (.inl (x_bg (M 46) (M 47) 1 + x_bg (M 46) (M 47) 2))] M) : xm_call true (d + 3) 119 [.inr (.inr 45)] M Q := by
  refine en119r45 (rg119r45_0 ?_)
  (repeat' (first | (with_reducible exact True.intro) | (with_reducible refine And.intro ?_ ?_) | (with_reducible intro) | (with_reducible refine xq_ki ?_) | (with_reducible refine xq_kl ?_) | (with_reducible refine xq_kv ?_) | (with_reducible refine xq_kq ?_) | (with_reducible apply sp117_45)))
  all_goals first | omega | exact h
theorem sp120_45 (h : Q [.inr (.inl (M 47 3 + M 47 6))] M) : xm_call true (d + 2) 120 [.inr (.inr 45)] M Q := by
  refine en120r45 (rg120r45_0 ?_)
  (repeat' (first | (with_reducible exact True.intro) | (with_reducible refine And.intro ?_ ?_) | (with_reducible intro) | (with_reducible refine xq_ki ?_) | (with_reducible refine xq_kl ?_) | (with_reducible refine xq_kv ?_) | (with_reducible refine xq_kq ?_) | (with_reducible apply sp115r45)))
  all_goals first | omega | exact h
theorem sp121_45 (h : Q [.inr (.inl (M 47 1 + M 47 4))] M) : xm_call true (d + 2) 121 [.inr (.inr 45)] M Q := by
  refine en121r45 (rg121r45_0 ?_)
  (repeat' (first | (with_reducible exact True.intro) | (with_reducible refine And.intro ?_ ?_) | (with_reducible intro) | (with_reducible refine xq_ki ?_) | (with_reducible refine xq_kl ?_) | (with_reducible refine xq_kv ?_) | (with_reducible refine xq_kq ?_) | (with_reducible apply sp115r45)))
  all_goals first | omega | exact h
theorem sp123_45 {w : Int} (hw : 0 ≤ w ∧ w ≤ 2) (h : Q [.inr (.inl (x_den w (x_bg (M 46) (M 47) 0) (x_bg (M 46) (M 47) 1) (x_bg (M 46) (M 47) 2) (x_bg (M 46) (M 47) 3) (M 47 3 + M 47 6)))] M) : xm_call true (d + 4) 123 [.inr (.inr 45), .inl w] M Q := by
  refine en123r45 (rg123r45_0 ?_)
  (repeat' (first | (with_reducible exact True.intro) | (with_reducible refine And.intro ?_ ?_) | (with_reducible intro) | (with_reducible refine xq_ki ?_) | (with_reducible refine xq_kl ?_) | (with_reducible refine xq_kv ?_) | (with_reducible refine xq_kq ?_) | (with_reducible apply sp116_45) | (with_reducible apply sp119_45) | (with_reducible apply sp120_45)))
  all_goals first | omega | skip
  all_goals
    refine xq_e h ?_
    unfold x_den
  · rw [if_pos (by omega)]; omega
  · rw [if_neg (by omega), if_pos (by omega)]
  · rw [if_neg (by omega), if_neg (by omega)]
theorem sp122_45 {w : Int} (hw : 0 ≤ w ∧ w ≤ 2) (h : Q [.inr (.inl (x_num w (x_bg (M 46) (M 47) 1) (x_bg (M 46) (M 47) 2) (x_bg (M 46) (M 47) 3) (M 47 3 + M 47 6) (M 47 1 + M 47 4)))] M) : xm_call true (d + 4) 122 [.inr (.inr 45), .inl w] M Q := by
  refine en122r45 (rg122r45_0 ?_)
  (repeat' (first | (with_reducible exact True.intro) | (with_reducible refine And.intro ?_ ?_) | (with_reducible intro) | (with_reducible refine xq_ki ?_) | (with_reducible refine xq_kl ?_) | (with_reducible refine xq_kv ?_) | (with_reducible refine xq_kq ?_) | (with_reducible apply sp117_45) | (with_reducible apply sp119_45) | (with_reducible apply sp120_45) | (with_reducible apply sp121_45)))
  all_goals first | omega | skip
  all_goals
    refine xq_e h ?_
    unfold x_num
  · rw [if_pos (by omega)]
  · rw [if_neg (by omega), if_pos (by omega)]
  · rw [if_neg (by omega), if_neg (by omega)]
theorem sp247 {w q n r f b u v : Int} (hw : 0 ≤ w ∧ w ≤ 2) (hq : q = 0 ∨ q = 1) (h0 : q = 0 → Q [.inr (.inl (x_num w r f b u v))] M) (h1 : q = 1 → Q [.inr (.inl (x_den w n r f b u))] M) : xm_call true (d + 1) 247 [.inl w, .inl q, .inr (.inl n), .inr (.inl r), .inr (.inl f), .inr (.inl b), .inr (.inl u), .inr (.inl v)] M Q := by
  refine en247 (rg247_0 ?_)
  unfold x_num at h0
  unfold x_den at h1
  (repeat' (first | (with_reducible exact True.intro) | (with_reducible refine And.intro ?_ ?_) | (with_reducible intro) | (with_reducible refine xq_ki ?_) | (with_reducible refine xq_kl ?_) | (with_reducible refine xq_kv ?_) | (with_reducible refine xq_kq ?_)))
  all_goals try omega
  · rw [if_neg (by omega), if_neg (by omega)] at h1; exact h1 (by omega)
  · rw [if_neg (by omega), if_neg (by omega)] at h0; exact h0 (by omega)
  · rw [if_neg (by omega), if_pos (by omega)] at h1; exact h1 (by omega)
  · rw [if_neg (by omega), if_pos (by omega)] at h0; exact h0 (by omega)
  · rw [if_pos (by omega)] at h1; exact h1 (by omega)
  · rw [if_pos (by omega)] at h0; exact h0 (by omega)
theorem sp246 {k : Int} (hk : 0 ≤ k ∧ k < 4) (hc : ∀ k : Int, 0 ≤ k → k < 12 → 0 ≤ M 71 k ∧ M 71 k ≤ 40000) (h : Q [.inr (.inl (M 71 k + M 71 (4 + 2 * k) + M 71 (5 + 2 * k)))] M) : xm_call true (d + 1) 246 [.inr (.inr 50), .inl k] M Q := by
  have c1 := hc k (by omega) (by omega)
  have c2 := hc (4 + 2 * k) (by omega) (by omega)
  have c3 := hc (5 + 2 * k) (by omega) (by omega)
  refine en246r50 (rg246r50_0 ?_)
  (repeat' (first | (with_reducible exact True.intro) | (with_reducible refine And.intro ?_ ?_) | (with_reducible intro) | (with_reducible refine xq_ki ?_) | (with_reducible refine xq_kl ?_) | (with_reducible refine xq_kv ?_) | (with_reducible refine xq_kq ?_)))
  all_goals first | omega | exact h
theorem sp248 {w q p : Int} (hw : 0 ≤ w ∧ w ≤ 2) (hq : q = 0 ∨ q = 1) (hp : 0 ≤ p ∧ p ≤ 2000) (hP : R_pat p (M 35) (M 36) (M 71)) (h0 : q = 0 → Q [.inr (.inl (x_num w (x_bg (M 35) (M 36) 1) (x_bg (M 35) (M 36) 2) (x_bg (M 35) (M 36) 3) (M 36 3 + M 36 6) (M 36 1 + M 36 4)))] M) (h1 : q = 1 → Q [.inr (.inl (x_den w (x_bg (M 35) (M 36) 0) (x_bg (M 35) (M 36) 1) (x_bg (M 35) (M 36) 2) (x_bg (M 35) (M 36) 3) (M 36 3 + M 36 6)))] M) : xm_call true (d + 2) 248 [.inr (.inr 50), .inl w, .inl q] M Q := by
  have hc := R_pat_all hP hp
  have g : ∀ k : Int, 0 ≤ k → k < 4 → x_bg (M 35) (M 36) k = M 71 k + M 71 (4 + 2 * k) + M 71 (5 + 2 * k) := fun k a b => by
    unfold x_bg
    have i1 := hP.1 k a b
    have i2 := hP.2 (2 * k) (by omega) (by omega)
    have i3 := hP.2 (2 * k + 1) (by omega) (by omega)
    rw [show 4 + (2 * k + 1) = 5 + 2 * k by omega] at i3
    omega
  have i1 := hP.2 1 (by omega) (by omega)
  have i3 := hP.2 3 (by omega) (by omega)
  have i4 := hP.2 4 (by omega) (by omega)
  have i6 := hP.2 6 (by omega) (by omega)
  simp only [Int.reduceAdd] at i1 i3 i4 i6
  have c5 := hc 5 (by omega) (by omega)
  have c7 := hc 7 (by omega) (by omega)
  have c8 := hc 8 (by omega) (by omega)
  have c10 := hc 10 (by omega) (by omega)
  have j1 : M 36 3 + M 36 6 = M 71 7 + M 71 10 := by omega
  have j2 : M 36 1 + M 36 4 = M 71 5 + M 71 8 := by omega
  rw [j1, j2, g 1 (by omega) (by omega), g 2 (by omega) (by omega), g 3 (by omega) (by omega)] at h0
  rw [j1, g 0 (by omega) (by omega), g 1 (by omega) (by omega), g 2 (by omega) (by omega), g 3 (by omega) (by omega)] at h1
  refine en248r50 (rg248r50_0 ?_)
  (repeat' (first | (with_reducible exact True.intro) | (with_reducible refine And.intro ?_ ?_) | (with_reducible intro) | (with_reducible refine xq_ki ?_) | (with_reducible refine xq_kl ?_) | (with_reducible refine xq_kv ?_) | (with_reducible refine xq_kq ?_) | (with_reducible apply sp246 (hc := hc)) | (with_reducible apply sp247)))
  all_goals first | omega | exact h0 (by omega) | exact h1 (by omega)
theorem lo25_1 {p w q den num : Int} (hp : 0 ≤ p ∧ p ≤ 2000) (hP : R_pat p (M 35) (M 36) (M 71)) (hT : R_tol (M 37) (M 72)) (hm : ∀ j : Int, 0 ≤ j → j < 4 → x_by (M 71) j ≤ M 72 j) (hw : 0 ≤ w ∧ w ≤ 2) (hq : xm_in q) (en : num = x_num w (x_bg (M 35) (M 36) 1) (x_bg (M 35) (M 36) 2) (x_bg (M 35) (M 36) 3) (M 36 3 + M 36 6) (M 36 1 + M 36 4)) (hn : 0 ≤ num ∧ num < 9223372036854775808) (hd : 0 < den ∧ den < 9223372036854775808) (h : Q [.inr (.inl (x_part num den q))] M) : ∀ (n : Nat) (k : Int), 0 ≤ k → k + n = 4 → wp25r1_42 (xm_call true (d + 4)) Q w q den k M
  | 0, k, h0, h1 => by
    refine rg25r1_42 ⟨⟨by omega, by omega⟩, fun _ => ?_, fun _ => by omega⟩
    refine sp122_34 hw ?_
    rw [← en]
    (repeat' (first | (with_reducible exact True.intro) | (with_reducible refine And.intro ?_ ?_) | (with_reducible intro) | (with_reducible refine xq_ki ?_) | (with_reducible refine xq_kl ?_) | (with_reducible refine xq_kv ?_) | (with_reducible refine xq_kq ?_) | (with_reducible apply sp29)))
    all_goals first | omega | exact h
  | n + 1, k, h0, h1 => by
    have t := hT k h0 (by omega)
    have m := hm k h0 (by omega)
    have ih := lo25_1 hp hP hT hm hw hq en hn hd h n (k + 1) (by omega) (by omega)
    refine rg25r1_42 ⟨⟨by omega, by omega⟩, fun _ => by omega, fun _ => ?_⟩
    refine sp24 ⟨h0, by omega⟩ hp hP t (fun _ => ?_) (fun _ => by omega)
    exact ⟨⟨by omega, by omega⟩, fun _ => ih, fun e => absurd rfl e⟩
theorem lo25_0 {p w q den : Int} (hp : 0 ≤ p ∧ p ≤ 2000) (hP : R_pat p (M 35) (M 36) (M 71)) (hT : R_tol (M 37) (M 72)) (h : Q [.inr (.inl (-5))] M) : ∀ (n : Nat) (k : Int), 0 ≤ k → k + n = 4 → ¬ (∀ j : Int, k ≤ j → j < 4 → x_by (M 71) j ≤ M 72 j) → wp25r1_42 (xm_call true (d + 4)) Q w q den k M
  | 0, k, h0, h1, hm => absurd (fun j a b => by omega) hm
  | n + 1, k, h0, h1, hm => by
    have t := hT k h0 (by omega)
    refine rg25r1_42 ⟨⟨by omega, by omega⟩, fun _ => by omega, fun _ => ?_⟩
    refine sp24 ⟨h0, by omega⟩ hp hP t (fun m => ?_) (fun _ => ?_)
    · refine ⟨⟨by omega, by omega⟩, fun _ => lo25_0 hp hP hT h n (k + 1) (by omega) (by omega) (fun g => hm (fun j a b => ?_)), fun e => absurd rfl e⟩
      by_cases e : j = k
      · rw [e]; exact m
      · exact g j (by omega) b
    · exact ⟨⟨by omega, by omega⟩, fun e => absurd e (by omega), fun _ => h⟩
theorem pr_estimate {x y : Int} (hx : xm_in x) (hy : xm_in y) : R_pair 25 249 [.inl x, .inl y] := by
  intro M hR
  obtain ⟨-, -, hRec, -, -, -, hP, hT, -⟩ := id hR
  obtain ⟨-, r2, r3, -⟩ := hRec
  have hp : 0 ≤ M 29 2 ∧ M 29 2 ≤ 2000 := ⟨r2, r3⟩
  have hc := R_pat_all hP hp
  have ht : ∀ k : Int, 0 ≤ k → k < 4 → xm_in (M 72 k) := fun k a b => by
    have := hT k a b
    omega
  have t0 := ht 0 (by omega) (by omega)
  have t1 := ht 1 (by omega) (by omega)
  have t2 := ht 2 (by omega) (by omega)
  have t3 := ht 3 (by omega) (by omega)
  by_cases hxy : (0 ≤ x ∧ x ≤ 2) ∧ (y = 0 ∨ y = 1)
  · have g : ∀ k : Int, 0 ≤ k → k < 4 → 0 ≤ x_bg (M 35) (M 36) k ∧ x_bg (M 35) (M 36) k ≤ 1073741824 := fun k a b => by
      unfold x_bg
      have i1 := hP.1 k a b
      have i2 := hP.2 (2 * k) (by omega) (by omega)
      have i3 := hP.2 (2 * k + 1) (by omega) (by omega)
      omega
    have i1 := hP.2 1 (by omega) (by omega)
    have i3 := hP.2 3 (by omega) (by omega)
    have i4 := hP.2 4 (by omega) (by omega)
    have i6 := hP.2 6 (by omega) (by omega)
    have bd := x_den_bd (w := x) (g 0 (by omega) (by omega)) (g 1 (by omega) (by omega)) (g 2 (by omega) (by omega)) (g 3 (by omega) (by omega)) (u := M 36 3 + M 36 6) (by omega)
    have bn := x_num_bd (w := x) (g 1 (by omega) (by omega)) (g 2 (by omega) (by omega)) (g 3 (by omega) (by omega)) (u := M 36 3 + M 36 6) (v := M 36 1 + M 36 4) (by omega) (by omega)
    have ld := lc_z bd.1
    by_cases hm : ∀ j : Int, 0 ≤ j → j < 4 → x_by (M 71) j ≤ M 72 j
    · have m0 := hm 0 (by omega) (by omega)
      have m1 := hm 1 (by omega) (by omega)
      have m2 := hm 2 (by omega) (by omega)
      have m3 := hm 3 (by omega) (by omega)
      refine en25r1 (rg25r1_0 ?_)
      (repeat' (first | (with_reducible exact True.intro) | (with_reducible refine xq_b1 ?_) | (with_reducible refine xq_b2 ?_) | (with_reducible refine xq_b3 ?_) | (with_reducible refine xq_b4 ?_) | (with_reducible refine And.intro ?_ ?_) | (with_reducible intro) | (with_reducible refine xq_ki ?_) | (with_reducible refine xq_kl ?_) | (with_reducible refine xq_kv ?_) | (with_reducible refine xq_kq ?_) | (with_reducible apply sp28) | (with_reducible apply sp123_34)))
      all_goals try omega
      all_goals try refine lo25_1 hp hP hT hm hxy.1 hy rfl bn (by omega) ?_ 4 0 (by omega) (by omega)
      all_goals refine en249r50 (rg249r50_0 ?_)
      all_goals (repeat' (first | (with_reducible exact True.intro) | (with_reducible refine xq_b1 ?_) | (with_reducible refine xq_b2 ?_) | (with_reducible refine xq_b3 ?_) | (with_reducible refine xq_b4 ?_) | (with_reducible refine And.intro ?_ ?_) | (with_reducible intro) | (with_reducible refine xq_ki ?_) | (with_reducible refine xq_kl ?_) | (with_reducible refine xq_kv ?_) | (with_reducible refine xq_kq ?_) | (with_reducible apply sp193) | (with_reducible apply sp248 (hp := hp) (hP := hP)) | (with_reducible apply sp242 (hc := hc)) | (with_reducible apply sp245)))
      all_goals (try omega)
      all_goals exact xq_L rfl hR
    · have hm' : ¬ (x_by (M 71) 0 ≤ M 72 0 ∧ x_by (M 71) 1 ≤ M 72 1 ∧ x_by (M 71) 2 ≤ M 72 2 ∧ x_by (M 71) 3 ≤ M 72 3) := fun e => hm (fun j a b => by
        rcases (show j = 0 ∨ j = 1 ∨ j = 2 ∨ j = 3 by omega) with e' | e' | e' | e'
        · rw [e']; exact e.1
        · rw [e']; exact e.2.1
        · rw [e']; exact e.2.2.1
        · rw [e']; exact e.2.2.2)
      refine en25r1 (rg25r1_0 ?_)
      (repeat' (first | (with_reducible exact True.intro) | (with_reducible refine xq_b1 ?_) | (with_reducible refine xq_b2 ?_) | (with_reducible refine xq_b3 ?_) | (with_reducible refine xq_b4 ?_) | (with_reducible refine And.intro ?_ ?_) | (with_reducible intro) | (with_reducible refine xq_ki ?_) | (with_reducible refine xq_kl ?_) | (with_reducible refine xq_kv ?_) | (with_reducible refine xq_kq ?_) | (with_reducible apply sp28) | (with_reducible apply sp123_34)))
      all_goals try omega
      all_goals try refine lo25_0 hp hP hT ?_ 4 0 (by omega) (by omega) hm
      all_goals refine en249r50 (rg249r50_0 ?_)
      all_goals (repeat' (first | (with_reducible exact True.intro) | (with_reducible refine xq_b1 ?_) | (with_reducible refine xq_b2 ?_) | (with_reducible refine xq_b3 ?_) | (with_reducible refine xq_b4 ?_) | (with_reducible refine And.intro ?_ ?_) | (with_reducible intro) | (with_reducible refine xq_ki ?_) | (with_reducible refine xq_kl ?_) | (with_reducible refine xq_kv ?_) | (with_reducible refine xq_kq ?_) | (with_reducible apply sp193) | (with_reducible apply sp248 (hp := hp) (hP := hP)) | (with_reducible apply sp242 (hc := hc)) | (with_reducible apply sp245)))
      all_goals (try omega)
      all_goals exact xq_L rfl hR
  · refine en25r1 (rg25r1_0 ?_)
    (repeat' (first | (with_reducible exact True.intro) | (with_reducible refine xq_b1 ?_) | (with_reducible refine xq_b2 ?_) | (with_reducible refine xq_b3 ?_) | (with_reducible refine xq_b4 ?_) | (with_reducible refine And.intro ?_ ?_) | (with_reducible intro) | (with_reducible refine xq_ki ?_) | (with_reducible refine xq_kl ?_) | (with_reducible refine xq_kv ?_) | (with_reducible refine xq_kq ?_) | (with_reducible apply sp28)))
    all_goals try omega
    all_goals refine en249r50 (rg249r50_0 ?_)
    all_goals (repeat' (first | (with_reducible exact True.intro) | (with_reducible refine xq_b1 ?_) | (with_reducible refine xq_b2 ?_) | (with_reducible refine xq_b3 ?_) | (with_reducible refine xq_b4 ?_) | (with_reducible refine And.intro ?_ ?_) | (with_reducible intro) | (with_reducible refine xq_ki ?_) | (with_reducible refine xq_kl ?_) | (with_reducible refine xq_kv ?_) | (with_reducible refine xq_kq ?_) | (with_reducible apply sp193)))
    all_goals first | omega | exact xq_L rfl hR
end PE
