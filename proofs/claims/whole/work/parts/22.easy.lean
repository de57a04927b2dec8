/-! pairs of calls: text -/
section PT
theorem sp177 {d : Nat} {Q : xm_K} {M : xm_Mem} {x : Int} (hn : 0 ≤ M 2 1 ∧ M 2 1 ≤ 200) (hx : 0 ≤ x ∧ x ≤ 255) (h1 : M 2 1 < 200 → Q [.inl (M 2 1 + 1)] (xm_up (xm_up M 3 (M 2 1) x) 2 1 (M 2 1 + 1))) (h0 : M 2 1 = 200 → Q [.inl (-2)] M) : xm_call true (d + 1) 177 [.inr (.inr 2), .inl x] M Q := by
  have e : x % 65536 = x := Int.emod_eq_of_lt (by omega) (by omega)
  refine en177r2 (rg177r2_0 ?_)
  (repeat' (first | (with_reducible refine And.intro ?_ ?_) | (with_reducible intro) | (with_reducible refine xq_ki ?_) | (with_reducible refine xq_kl ?_) | (with_reducible refine xq_kv ?_) | (with_reducible refine xq_kq ?_)))
  all_goals first | omega | (refine h0 ?_; omega) | (rw [e]; refine h1 ?_; omega)
theorem pr_type {x : Int} (hx : xm_in x) : R_pair 1 194 [.inl x] := by
  intro M hR
  obtain ⟨hT, hRest⟩ := id hR
  obtain ⟨t1, t2, t3, t4⟩ := id hT
  refine en1r1 (rg1r1_0 ?_)
  (repeat' (first | (with_reducible refine And.intro ?_ ?_) | (with_reducible intro) | (with_reducible refine xq_ki ?_) | (with_reducible refine xq_kl ?_) | (with_reducible refine xq_kv ?_) | (with_reducible refine xq_kq ?_) | (with_reducible apply sp177)))
  all_goals try omega
  all_goals sorry
end PT
