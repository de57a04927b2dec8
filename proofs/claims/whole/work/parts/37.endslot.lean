/-! a slot ends: the records -/
def x_es (A : xm_Mem) (p : Int) : xm_Mem := xm_up (if 0 < A 30 p then (if p = 0 ∨ ¬ 0 < A 30 (p - 1) then xm_up (xm_up (xm_up (xm_up A 29 3 (A 29 3 + 1)) 32 (A 29 4) p) 29 4 (A 29 4 + 1)) 33 (A 29 4 + 1 - 1) p else xm_up (xm_up A 29 3 (A 29 3 + 1)) 33 (A 29 4 - 1) p) else A) 29 2 (p + 1)
theorem xe_c {A : xm_Mem} {p : Int} {c : Nat} (h : c ≠ 29 ∧ c ≠ 32 ∧ c ≠ 33) : x_es A p c = A c := by
  unfold x_es
  rw [xu_c (by omega)]
  split
  · split
    · rw [xu_c (by omega), xu_c (by omega), xu_c (by omega), xu_c (by omega)]
    · rw [xu_c (by omega), xu_c (by omega)]
  · rfl
theorem T_es {p t u : Int} {A B : xm_Mem} (h : T_rec p t u A B) (ht : t ≤ 1000 ∧ u ≤ 100) : R_rec (x_es A p 29 2) (p + 1) (x_es A p 30) (x_es A p 31) (B 61) (B 60) (x_es A p 29 3) (x_es A p 29 4) (x_es A p 32) (x_es A p 33) := by
  obtain ⟨⟨r1, r2, r3, r3'⟩, r4, r5, r6, r7, r8, r9, r10⟩ := h
  have b := ep_le (A 30) p.toNat
  have e2 : x_es A p 29 2 = p + 1 := by unfold x_es; rw [xu_s]
  have ep : (p + 1).toNat = p.toNat + 1 := by omega
  have ec : ((p.toNat : Nat) : Int) = p := by omega
  have en : (p.toNat = 0 ∨ ¬ 0 < A 30 (((p.toNat : Nat) : Int) - 1)) ↔ (p = 0 ∨ ¬ 0 < A 30 (p - 1)) := by
    rw [ec]
    constructor
    · rintro (g | g)
      · left; omega
      · right; exact g
    · rintro (g | g)
      · left; omega
      · right; exact g
  unfold R_rec
  rw [e2, xe_c (c := 30) (by omega), xe_c (c := 31) (by omega), ep]
  refine ⟨rfl, by omega, by omega, fun s a c => ?_, fun s a c => r7 s (by omega) c, ?_, ?_, fun k a c => ?_⟩
  · by_cases e : s = p
    · subst e
      omega
    · exact r4 s a (by omega)
  · rw [x_cnt, ec, ← r8]
    unfold x_es
    rw [xu_k (by omega)]
    split
    · split
      · rw [xu_c (by omega), xu_k (by omega), xu_c (by omega), xu_s]
      · rw [xu_c (by omega), xu_s]
    · omega
  · rw [x_epN, ec, ← r9]
    unfold x_es
    rw [xu_k (by omega)]
    by_cases g : 0 < A 30 p
    · rw [if_pos g]
      by_cases g2 : p = 0 ∨ ¬ 0 < A 30 (p - 1)
      · rw [if_pos g2, if_pos ⟨g, by omega⟩, xu_c (by omega), xu_s]
      · rw [if_neg g2, if_neg (by omega), xu_c (by omega), xu_k (by omega)]
    · rw [if_neg g, if_neg (by omega)]
  · simp only [x_epF, x_epL]
    rw [ec]
    have eN : x_es A p 29 4 = x_epN (A 30) (p.toNat + 1) := by
      rw [x_epN, ec, ← r9]
      unfold x_es
      rw [xu_k (by omega)]
      by_cases g : 0 < A 30 p
      · rw [if_pos g]
        by_cases g2 : p = 0 ∨ ¬ 0 < A 30 (p - 1)
        · rw [if_pos g2, if_pos ⟨g, by omega⟩, xu_c (by omega), xu_s]
        · rw [if_neg g2, if_neg (by omega), xu_c (by omega), xu_k (by omega)]
      · rw [if_neg g, if_neg (by omega)]
    rw [eN] at c
    by_cases g : 0 < A 30 p
    · by_cases g2 : p = 0 ∨ ¬ 0 < A 30 (p - 1)
      · have E : x_epN (A 30) (p.toNat + 1) = A 29 4 + 1 := by
          rw [x_epN, ec, ← r9, if_pos ⟨g, by omega⟩]
        rw [E] at c ⊢
        unfold x_es
        rw [if_pos g, if_pos g2, xu_c (by omega), xu_c (c' := 33) (by omega), xu_c (c' := 32) (by omega), xu_c (c' := 32) (by omega)]
        by_cases e : k = A 29 4
        · subst e
          rw [xu_s, if_pos ⟨⟨g, by omega⟩, r9⟩, Int.add_sub_cancel, xu_s, if_pos ⟨g, rfl⟩]
          exact ⟨rfl, rfl⟩
        · have q := r10 k a (by omega)
          rw [xu_k e, xu_c (by omega), if_neg (by omega), Int.add_sub_cancel, xu_k e, xu_c (by omega), xu_c (by omega), xu_c (by omega), if_neg (by omega)]
          exact q
      · have E : x_epN (A 30) (p.toNat + 1) = A 29 4 := by
          rw [x_epN, ec, ← r9, if_neg (by omega)]
        rw [E] at c ⊢
        have q := r10 k a c
        unfold x_es
        rw [if_pos g, if_neg g2, xu_c (by omega), xu_c (c' := 33) (by omega), xu_c (c' := 32) (by omega), xu_c (c' := 32) (by omega), if_neg (by omega)]
        by_cases e : k = A 29 4 - 1
        · subst e
          rw [xu_s, if_pos ⟨g, rfl⟩]
          exact ⟨q.1, rfl⟩
        · rw [xu_k e, xu_c (by omega), if_neg (by omega)]
          exact q
    · have E : x_epN (A 30) (p.toNat + 1) = A 29 4 := by
        rw [x_epN, ec, ← r9, if_neg (by omega)]
      rw [E] at c ⊢
      have q := r10 k a c
      unfold x_es
      rw [if_neg g, xu_c (by omega), xu_c (by omega), if_neg (by omega), if_neg (by omega)]
      exact q
section EN
variable {d : Nat} {Q : xm_K}
theorem sp148b {A : xm_Mem} {x : Int} (hx : xm_in x) (h : Q [.inl (if 0 ≤ x ∧ x < 2000 then A 30 x else 0)] A) : xm_call true (d + 2) 148 [.inr (.inr 29), .inl x] A Q := by
  refine en148r29 (rg148r29_0 ?_)
  (repeat' (first | (with_reducible exact True.intro) | (with_reducible refine And.intro ?_ ?_) | (with_reducible intro) | (with_reducible refine xq_ki ?_) | (with_reducible refine xq_kl ?_) | (with_reducible refine xq_kv ?_) | (with_reducible refine xq_kq ?_) | (with_reducible apply sp147)))
  all_goals try omega
  · rw [if_pos (by omega)] at h; exact h
  · rw [if_neg (by omega)] at h; exact h
theorem sp145 {p t u : Int} {A B : xm_Mem} (hT : T_rec p t u A B) (ht : t ≤ 1000 ∧ u ≤ 100) (h : Q [] (x_es A p)) : xm_call true (d + 4) 145 [.inr (.inr 29)] A Q := by
  obtain ⟨⟨r1, r2, r3, r3'⟩, r4, r5, r6, r7, r8, r9, r10⟩ := hT
  have b := ep_le (A 30) p.toNat
  have ec : ((p.toNat : Nat) : Int) = p := by omega
  rw [ec] at b
  have q := r4 (p - 1)
  unfold x_es at h
  refine en145r29 (rg145r29_0 ?_)
  rw [r1]
  refine sp147 (by omega) (fun _ _ => xq_ki (xq_b2 ?_)) (fun _ => by omega)
  rw [r1]
  refine sp148 (by omega) (xq_ki ⟨by omega, fun g => ?_, fun g => ?_⟩)
  · rw [if_neg (by omega)] at h
    rw [r1]
    exact h
  rw [if_pos g] at h
  refine en146r29 (rg146r29_0 ?_)
  rw [r1]
  refine sp148b (by omega) (xq_ki ?_)
  rw [xu_c (c' := 30) (by omega)]
  simp only [xu_c, xu_s, xu_k, ne_eq, Nat.reduceEqDiff, Int.reduceEq, not_false_eq_true, r1]
  refine ⟨by split <;> omega, fun g2 => ⟨by omega, fun e => absurd True.intro e, fun _ => ⟨⟨by omega, by omega⟩, fun _ => by omega, fun _ => ⟨by omega, by omega, fun _ => by omega, fun _ => ⟨⟨by omega, by omega⟩, fun _ => by omega, fun _ => ⟨by omega, xq_kv ?_⟩⟩⟩⟩⟩, fun g2 => ⟨by omega, fun _ => ⟨by omega, fun _ => by omega, fun _ => ⟨⟨by omega, by omega⟩, fun _ => by omega, fun _ => ⟨by omega, xq_kv ?_⟩⟩⟩, fun e => (by first | exact e.elim | exact absurd True.intro e)⟩⟩
  · rw [if_pos (by omega)] at h
    exact h
  · rw [if_neg (by omega)] at h
    exact h
end EN
