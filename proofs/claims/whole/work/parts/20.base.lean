/-! first specifications: what small methods answer -/
theorem xq_ki {F : Int → Prop} {r : Int} (h : F r) : xm_ki F [.inl r] := h
theorem xq_kl {F : Int → Prop} {r : Int} (h : F r) : xm_kl F [.inr (.inl r)] := h
theorem xq_kv {F : Prop} (h : F) : xm_kv F [] := h
theorem xq_kq {F : Prop} (h : F) : xm_kq F [.inr (.inr 45)] := ⟨rfl, h⟩
theorem xu_c {M : xm_Mem} {c c' : Nat} {k v : Int} (h : c' ≠ c) : xm_up M c k v c' = M c' := xs_up_ne h
theorem xu_s {M : xm_Mem} {c : Nat} {k v : Int} : xm_up M c k v c k = v := by unfold xm_up; rw [if_pos rfl, if_pos rfl]
theorem xu_k {M : xm_Mem} {c : Nat} {k k' v : Int} (h : k' ≠ k) : xm_up M c k v c k' = M c k' := by unfold xm_up; rw [if_pos rfl, if_neg h]
section SP
variable {d : Nat} {Q : xm_K} {M : xm_Mem}
theorem sp193 {v a b : Int} (hv : xm_in v) (ha : xm_in a) (hb : xm_in b) (h1 : a ≤ v ∧ v ≤ b → Q [.inl 1] M) (h0 : ¬ (a ≤ v ∧ v ≤ b) → Q [.inl 0] M) : xm_call true (d + 1) 193 [.inl v, .inl a, .inl b] M Q := by
  refine en193 (rg193_0 ?_)
  (repeat' (first | (with_reducible exact True.intro) | (with_reducible refine And.intro ?_ ?_) | (with_reducible intro) | (with_reducible refine xq_ki ?_) | (with_reducible refine xq_kl ?_) | (with_reducible refine xq_kv ?_) | (with_reducible refine xq_kq ?_)))
  all_goals first | omega | (refine h0 ?_; omega) | (refine h1 ?_; omega)
-- getters
theorem sp71r23 (h : Q [.inl (M 23 3)] M) : xm_call true (d + 1) 71 [.inr (.inr 23)] M Q := en71r23 (rg71r23_0 h)
theorem sp72r23 (h : Q [.inl (M 23 5)] M) : xm_call true (d + 1) 72 [.inr (.inr 23)] M Q := en72r23 (rg72r23_0 h)
theorem sp73r23 (h : Q [.inl (M 23 8)] M) : xm_call true (d + 1) 73 [.inr (.inr 23)] M Q := en73r23 (rg73r23_0 h)
theorem sp74r23 (h : Q [.inl (M 23 9)] M) : xm_call true (d + 1) 74 [.inr (.inr 23)] M Q := en74r23 (rg74r23_0 h)
theorem sp75r23 (h : Q [.inl (M 23 10)] M) : xm_call true (d + 1) 75 [.inr (.inr 23)] M Q := en75r23 (rg75r23_0 h)
theorem sp102r17 (h : Q [.inl (M 17 6)] M) : xm_call true (d + 1) 102 [.inr (.inr 17)] M Q := en102r17 (rg102r17_0 h)
theorem sp103r17 (h : Q [.inl (M 17 7)] M) : xm_call true (d + 1) 103 [.inr (.inr 17)] M Q := en103r17 (rg103r17_0 h)
theorem sp104r17 (h : Q [.inl (M 17 8)] M) : xm_call true (d + 1) 104 [.inr (.inr 17)] M Q := en104r17 (rg104r17_0 h)
theorem sp140r29 (h : Q [.inl (M 29 2)] M) : xm_call true (d + 1) 140 [.inr (.inr 29)] M Q := en140r29 (rg140r29_0 h)
theorem sp141r29 (h : Q [.inl (M 29 3)] M) : xm_call true (d + 1) 141 [.inr (.inr 29)] M Q := en141r29 (rg141r29_0 h)
theorem sp142r29 (h : Q [.inl (M 29 4)] M) : xm_call true (d + 1) 142 [.inr (.inr 29)] M Q := en142r29 (rg142r29_0 h)
theorem sp156r11 (h : Q [.inl (M 11 0)] M) : xm_call true (d + 1) 156 [.inr (.inr 11)] M Q := en156r11 (rg156r11_0 h)
theorem sp157r11 (h : Q [.inl (M 11 1)] M) : xm_call true (d + 1) 157 [.inr (.inr 11)] M Q := en157r11 (rg157r11_0 h)
theorem sp158r11 (h : Q [.inl (M 11 2)] M) : xm_call true (d + 1) 158 [.inr (.inr 11)] M Q := en158r11 (rg158r11_0 h)
theorem sp159r11 (h : Q [.inl (M 11 3)] M) : xm_call true (d + 1) 159 [.inr (.inr 11)] M Q := en159r11 (rg159r11_0 h)
theorem sp160r11 (h : Q [.inl (M 11 4)] M) : xm_call true (d + 1) 160 [.inr (.inr 11)] M Q := en160r11 (rg160r11_0 h)
theorem sp161r11 (h : Q [.inl (M 11 5)] M) : xm_call true (d + 1) 161 [.inr (.inr 11)] M Q := en161r11 (rg161r11_0 h)
theorem sp156r14 (h : Q [.inl (M 14 0)] M) : xm_call true (d + 1) 156 [.inr (.inr 14)] M Q := en156r14 (rg156r14_0 h)
theorem sp157r14 (h : Q [.inl (M 14 1)] M) : xm_call true (d + 1) 157 [.inr (.inr 14)] M Q := en157r14 (rg157r14_0 h)
theorem sp158r14 (h : Q [.inl (M 14 2)] M) : xm_call true (d + 1) 158 [.inr (.inr 14)] M Q := en158r14 (rg158r14_0 h)
theorem sp159r14 (h : Q [.inl (M 14 3)] M) : xm_call true (d + 1) 159 [.inr (.inr 14)] M Q := en159r14 (rg159r14_0 h)
theorem sp160r14 (h : Q [.inl (M 14 4)] M) : xm_call true (d + 1) 160 [.inr (.inr 14)] M Q := en160r14 (rg160r14_0 h)
theorem sp161r14 (h : Q [.inl (M 14 5)] M) : xm_call true (d + 1) 161 [.inr (.inr 14)] M Q := en161r14 (rg161r14_0 h)
theorem sp176r2 (h : Q [.inl (M 2 1)] M) : xm_call true (d + 1) 176 [.inr (.inr 2)] M Q := en176r2 (rg176r2_0 h)
theorem sp44r38 (h : Q [.inl (M 38 0)] M) : xm_call true (d + 1) 44 [.inr (.inr 38)] M Q := en44r38 (rg44r38_0 h)
end SP
