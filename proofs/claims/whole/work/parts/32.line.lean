/-! a slot: the queue -/
/-- a packet of s comes in; is lost (and noted in slot p) -/
def x_in (M : xm_Mem) (s p : Int) : xm_Mem := xm_up (xm_up (xm_up (xm_up M 20 s (M 20 s + 1)) 18 ((M 17 5 + M 17 6) % 40) s) 19 ((M 17 5 + M 17 6) % 40) p) 17 6 (M 17 6 + 1)
def x_no (M : xm_Mem) (s : Int) : xm_Mem := xm_up (xm_up M 20 s (M 20 s + 1)) 21 s (M 21 s + 1)
def x_np (M : xm_Mem) (s p : Int) : xm_Mem := xm_up (x_no M s) 30 p (M 30 p + 1)
def y_in (M : xm_Mem) (s p : Int) : xm_Mem := xm_up (xm_up (xm_up (xm_up M 64 s (M 64 s + 1)) 62 (M 50 24) s) 63 (M 50 24) p) 50 24 (M 50 24 + 1)
def y_np (M : xm_Mem) (s p : Int) : xm_Mem := xm_up (xm_up (xm_up M 64 s (M 64 s + 1)) 65 s (M 65 s + 1)) 61 p (M 61 p + 1)
/-- one packet, many packets -/
def x_of1 (cap : Int) (M : xm_Mem) (s p : Int) : xm_Mem := if M 17 6 < cap then x_in M s p else x_np M s p
def y_of1 (M : xm_Mem) (s p : Int) : xm_Mem := if M 50 24 < M 50 0 then y_in M s p else y_np M s p
def x_ofn (cap : Int) (M : xm_Mem) (s p : Int) : Nat → xm_Mem
  | 0 => M
  | n + 1 => x_of1 cap (x_ofn cap M s p n) s p
def y_ofn (M : xm_Mem) (s p : Int) : Nat → xm_Mem
  | 0 => M
  | n + 1 => y_of1 (y_ofn M s p n) s p
section LI
variable {d : Nat} {Q : xm_K} {M : xm_Mem}
theorem sp98 {s p cap : Int} (hs : 0 ≤ s ∧ s ≤ 4) (hf : 0 ≤ M 17 5 ∧ M 17 5 < 40) (hw : 0 ≤ M 17 6 ∧ M 17 6 ≤ 40) (hc : 1 ≤ cap ∧ cap ≤ 40) (h1 : M 17 6 < cap → Q [.inl 1] (x_in M s p)) (h0 : cap ≤ M 17 6 → Q [.inl 0] (x_no M s)) : xm_call true (d + 2) 98 [.inr (.inr 17), .inl s, .inl p, .inl cap] M Q := by
  have e : Int.tmod (M 17 5 + M 17 6) 40 = (M 17 5 + M 17 6) % 40 := Int.tmod_eq_emod_of_nonneg (by omega)
  unfold x_in at h1
  unfold x_no at h0
  refine en98r17 (rg98r17_0 ?_)
  (repeat' (first | (with_reducible exact True.intro) | (with_reducible refine And.intro ?_ ?_) | (with_reducible intro) | (with_reducible refine xq_ki ?_) | (with_reducible refine xq_kl ?_) | (with_reducible refine xq_kv ?_) | (with_reducible refine xq_kq ?_) | (with_reducible refine en101 (rg101_0 ?_))))
  all_goals try omega
  all_goals first | (refine h0 ?_; omega) | (rw [e]; refine h1 ?_; omega)
theorem sp143 (hp : 0 ≤ M 29 2 ∧ M 29 2 < 2000) (h : Q [] (xm_up M 30 (M 29 2) (M 30 (M 29 2) + 1))) : xm_call true (d + 2) 143 [.inr (.inr 29)] M Q := by
  refine en143r29 (rg143r29_0 ?_)
  (repeat' (first | (with_reducible exact True.intro) | (with_reducible refine And.intro ?_ ?_) | (with_reducible intro) | (with_reducible refine xq_ki ?_) | (with_reducible refine xq_kl ?_) | (with_reducible refine xq_kv ?_) | (with_reducible refine xq_kq ?_) | (with_reducible apply sp147)))
  all_goals first | omega | exact h
theorem sp144 (hp : 0 ≤ M 29 2 ∧ M 29 2 < 2000) (h : Q [] (xm_up M 31 (M 29 2) (M 31 (M 29 2) + 1))) : xm_call true (d + 2) 144 [.inr (.inr 29)] M Q := by
  refine en144r29 (rg144r29_0 ?_)
  (repeat' (first | (with_reducible exact True.intro) | (with_reducible refine And.intro ?_ ?_) | (with_reducible intro) | (with_reducible refine xq_ki ?_) | (with_reducible refine xq_kl ?_) | (with_reducible refine xq_kv ?_) | (with_reducible refine xq_kq ?_) | (with_reducible apply sp147)))
  all_goals first | omega | exact h
theorem sp85 {k b : Int} (hn : 0 ≤ M 23 3 ∧ M 23 3 ≤ 20) (hk : 0 ≤ k ∧ k < M 23 3) (h : Q [] (xm_up M 26 k (2 * M 26 k + b))) : xm_call true (d + 2) 85 [.inr (.inr 23), .inl k, .inl b] M Q := by
  refine en85r23 (rg85r23_0 ?_)
  (repeat' (first | (with_reducible exact True.intro) | (with_reducible refine And.intro ?_ ?_) | (with_reducible intro) | (with_reducible refine xq_ki ?_) | (with_reducible refine xq_kl ?_) | (with_reducible refine xq_kv ?_) | (with_reducible refine xq_kq ?_) | (with_reducible apply sp84)))
  all_goals first | omega | exact h
theorem sp218 {s : Int} (hs : 0 ≤ s ∧ s ≤ 4) (hp : 0 ≤ M 50 20 ∧ M 50 20 < 2000) (hw : 0 ≤ M 50 24 ∧ M 50 24 ≤ 40) (hc : 1 ≤ M 50 0 ∧ M 50 0 ≤ 40) (h1 : M 50 24 < M 50 0 → Q [.inl 0] (y_in M s (M 50 20))) (h0 : M 50 0 ≤ M 50 24 → Q [.inl 1] (y_np M s (M 50 20))) : xm_call true (d + 1) 218 [.inr (.inr 50), .inl s] M Q := by
  unfold y_in at h1
  unfold y_np at h0
  refine en218r50 (rg218r50_0 ?_)
  (repeat' (first | (with_reducible exact True.intro) | (with_reducible refine And.intro ?_ ?_) | (with_reducible intro) | (with_reducible refine xq_ki ?_) | (with_reducible refine xq_kl ?_) | (with_reducible refine xq_kv ?_) | (with_reducible refine xq_kq ?_)))
  all_goals try omega
  all_goals first | (refine h0 ?_; omega) | (refine h1 ?_; omega)
end LI
