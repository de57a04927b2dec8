/-! a slot: packets are sent -/
theorem T_mono {p t t' u i : Int} {A B : xm_Mem} (h : T_all p t u i A B) (ht : t ≤ t') : T_all p t' u i A B := by
  obtain ⟨h1, h2, h3, h4, ⟨r1, r2, r3, r4⟩, h6⟩ := h
  exact ⟨h1, h2, h3, h4, ⟨r1, r2, by omega, r4⟩, h6⟩
def x_srs (cap p : Int) (N : Int → Int) (A : xm_Mem) : Nat → xm_Mem
  | 0 => A
  | k + 1 => x_ofn cap (x_srs cap p N A k) k p (N k).toNat
def y_srs (p : Int) (N : Int → Int) (B : xm_Mem) : Nat → xm_Mem
  | 0 => B
  | k + 1 => y_ofn (y_srs p N B k) k p (N k).toNat
theorem T_srs {p t u i cap : Int} {N : Int → Int} {A B : xm_Mem} (hc : cap = B 50 0) (hN : ∀ k : Int, 0 ≤ k → k < 4 → 0 ≤ N k ∧ N k ≤ 20) (h : T_all p t u i A B) : ∀ k : Nat, k ≤ 4 → T_all p (t + 20 * k) u i (x_srs cap p N A k) (y_srs p N B k) ∧ y_srs p N B k 50 0 = B 50 0
  | 0, _ => by
    rw [show t + 20 * ((0 : Nat) : Int) = t by omega]
    exact ⟨h, rfl⟩
  | k + 1, hk => by
    have ih := T_srs hc hN h k (by omega)
    have n := hN k (by omega) (by omega)
    have := T_ofn (p := p) (u := u) (i := i) (s := k) (cap := cap) (by omega) (by rw [ih.2]; exact hc) (N k).toNat _ ih.1
    rw [x_srs, y_srs]
    exact ⟨T_mono this.1 (by omega), by rw [this.2, ih.2]⟩
theorem y_srs_end {p : Int} {N : Int → Int} {B : xm_Mem} {m : Nat} (h0 : ∀ k : Nat, m ≤ k → k < 4 → N k = 0) : ∀ k : Nat, m ≤ k → k ≤ 4 → y_srs p N B k = y_srs p N B m
  | 0, h1, _ => by rw [show m = 0 by omega]
  | k + 1, h1, h2 => by
    by_cases e : m = k + 1
    · rw [e]
    · rw [y_srs, h0 k (by omega) (by omega), ← y_srs_end h0 k (by omega) (by omega)]
      rfl
section SE
variable {d : Nat} {Q : xm_K}
theorem lo8_20 {p t u i s cap : Int} {N : Nat} {A B : xm_Mem} (hT : T_all p t u i A B) (hs : 0 ≤ s ∧ s ≤ 3) (hc : cap = B 50 0) (hN : N ≤ 20) (h : ∀ o3 o4, wp8r1_2 (xm_call true (d + 3)) Q p (s + 1) o3 o4 (x_ofn cap A s p N)) : ∀ (n k : Nat), k + n = N → wp8r1_20 (xm_call true (d + 3)) Q p s N k (x_ofn cap A s p k)
  | 0, k, h0 => by
    have e : k = N := by omega
    subst e
    refine rg8r1_20 ⟨⟨by omega, by omega⟩, fun _ => h _ _, fun _ => by omega⟩
  | n + 1, k, h0 => by
    have ih := lo8_20 hT hs hc hN h n (k + 1) (by omega)
    have z := T_ofn (cap := cap) (s := s) (by omega) hc k t hT
    have cp := T_cap z.1.1
    obtain ⟨⟨-, f2, -⟩, -, -, ⟨l1, l2, -⟩, ⟨r1, -⟩, -⟩ := z.1
    rw [z.2] at l1 cp
    have step : ∀ X : xm_Mem, X = x_ofn cap A s p k → X 29 2 = p ∧ 0 ≤ p ∧ p < 2000 → (X 17 6 < cap → wp8r1_20 (xm_call true (d + 3)) Q p s N (k + 1) (x_in X s p)) ∧ (cap ≤ X 17 6 → wp8r1_20 (xm_call true (d + 3)) Q p s N (k + 1) (x_np X s p)) := by
      intro X hX hp
      rw [x_ofn, ← hX] at ih
      unfold x_of1 at ih
      refine ⟨fun g => ?_, fun g => ?_⟩
      · rw [if_pos g] at ih; exact ih
      · rw [if_neg (by omega)] at ih; exact ih
    generalize hX : x_ofn cap A s p k = X at *
    have st := step X rfl ⟨r1.1, r1.2.2⟩
    have blk : xm_call true (d + 3) 98 [.inr (.inr 17), .inl s, .inl p, .inl cap] X (fun v4 M5 => xm_ki (fun r6 => (xm_in r6) ∧ ((r6 ≠ 0 → wp8r1_20 (xm_call true (d + 3)) Q p s N (k + 1) M5) ∧ (r6 = 0 → xm_call true (d + 3) 143 [.inr (.inr 29)] M5 (fun v7 M8 => xm_kv (wp8r1_20 (xm_call true (d + 3)) Q p s N (k + 1) M8) v7)))) v4) := by
      refine sp98 (by omega) l2 (by omega) (by omega) (fun g => xq_ki (xq_b2 (st.1 g))) (fun g => xq_ki (xq_b4 ?_))
      have e : x_no X s 29 2 = p := by
        unfold x_no
        simp only [xu_c, xu_s, xu_k, ne_eq, Nat.reduceEqDiff, Int.reduceEq, not_false_eq_true]
        exact r1.1
      refine sp143 (by omega) (xq_kv ?_)
      rw [e]
      have e2 : x_no X s 30 p = X 30 p := by
        unfold x_no
        simp only [xu_c, xu_s, xu_k, ne_eq, Nat.reduceEqDiff, Int.reduceEq, not_false_eq_true]
      rw [e2]
      exact st.2 g
    rcases f2 with ⟨m1, -, t1, -⟩ | ⟨m1, -, t1, -⟩
    · refine rg8r1_20 ⟨⟨by omega, by omega⟩, fun _ => by omega, fun _ => ⟨Or.inl m1, fun _ => sp156r11 (xq_ki ?_), fun e => by omega⟩⟩
      rw [show X 11 0 = cap by omega]
      exact blk
    · refine rg8r1_20 ⟨⟨by omega, by omega⟩, fun _ => by omega, fun _ => ⟨Or.inr m1, fun e => by omega, fun _ => sp156r14 (xq_ki ?_)⟩⟩
      rw [show X 14 0 = cap by omega]
      exact blk
end SE
