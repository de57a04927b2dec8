/-! fewest probes: the class goes forward, the reference lays out all from the last episode down -/
/-- the first place from j on, of n, that lies behind c -/
def x_sk (F : Int → Int) (c : Int) : Nat → Int → Int
  | 0, j => j
  | n + 1, j => if F j ≤ c then x_sk F c n (j + 1) else j
theorem sk_spec {F : Int → Int} {c : Int} : ∀ (n : Nat) (j : Int), j ≤ x_sk F c n j ∧ x_sk F c n j ≤ j + n ∧ (∀ i : Int, j ≤ i → i < x_sk F c n j → F i ≤ c) ∧ (x_sk F c n j < j + n → c < F (x_sk F c n j))
  | 0, j => by
    simp only [x_sk]
    refine ⟨by omega, by omega, fun i a b => by omega, fun a => by omega⟩
  | n + 1, j => by
    have ih := sk_spec (F := F) (c := c) n (j + 1)
    rw [x_sk]
    split
    · rename_i h
      refine ⟨by omega, by omega, fun i a b => ?_, fun a => ih.2.2.2 (by omega)⟩
      by_cases e : i = j
      · rw [e]; exact h
      · exact ih.2.2.1 i (by omega) b
    · rename_i h
      exact ⟨by omega, by omega, fun i a b => by omega, fun _ => by omega⟩
theorem sk_uniq {F : Int → Int} {c r : Int} {n : Nat} {j : Int} (h1 : j ≤ r) (h2 : r ≤ j + n) (h3 : ∀ i : Int, j ≤ i → i < r → F i ≤ c) (h4 : r < j + n → c < F r) : x_sk F c n j = r := by
  obtain ⟨s1, s2, s3, s4⟩ := sk_spec (F := F) (c := c) n j
  by_cases g : x_sk F c n j < r
  · have a := h3 _ s1 g
    have b := s4 (by omega)
    omega
  · by_cases g2 : r < x_sk F c n j
    · have a := s3 r h1 g2
      have b := h4 (by omega)
      omega
    · omega
def x_nx (F L : Int → Int) (w N e : Int) : Int := x_sk F (L e + w - 1) (N - (e + 1)).toNat (e + 1)
def x_g (F L : Int → Int) (w N : Int) : Nat → Int → Int
  | 0, _ => 0
  | n + 1, e => if e < N then 1 + x_g F L w N n (x_nx F L w N e) else 0
def x_at (F L : Int → Int) (w N : Int) : Nat → Int → Int
  | 0, e => e
  | n + 1, e => if e < N then x_at F L w N n (x_nx F L w N e) else e
def x_G (F L : Int → Int) (w N e : Int) : Int := x_g F L w N (N - e).toNat e
section ST
variable {F L : Int → Int} {w N : Int}
theorem nx_in {e : Int} (h : e < N) : e + 1 ≤ x_nx F L w N e ∧ x_nx F L w N e ≤ N := by
  have := sk_spec (F := F) (c := L e + w - 1) (N - (e + 1)).toNat (e + 1)
  unfold x_nx
  omega
theorem g_fuel : ∀ (n m : Nat) (e : Int), N - e ≤ n → N - e ≤ m → x_g F L w N n e = x_g F L w N m e
  | 0, 0, _, _, _ => rfl
  | 0, m + 1, e, h1, _ => by rw [x_g, x_g, if_neg (by omega)]
  | n + 1, 0, e, _, h2 => by rw [x_g, x_g, if_neg (by omega)]
  | n + 1, m + 1, e, h1, h2 => by
    rw [x_g, x_g]
    by_cases h : e < N
    · have := nx_in (F := F) (L := L) (w := w) h
      rw [if_pos h, if_pos h, g_fuel n m _ (by omega) (by omega)]
    · rw [if_neg h, if_neg h]
theorem g_step {e : Int} (h : e < N) : x_G F L w N e = 1 + x_G F L w N (x_nx F L w N e) := by
  have := nx_in (F := F) (L := L) (w := w) h
  unfold x_G
  obtain ⟨m, hm⟩ : ∃ m : Nat, (N - e).toNat = m + 1 := ⟨(N - e).toNat - 1, by omega⟩
  rw [hm, x_g, if_pos h, g_fuel m (N - x_nx F L w N e).toNat _ (by omega) (by omega)]
theorem g_end {e : Int} (h : N ≤ e) : x_G F L w N e = 0 := by
  unfold x_G
  rw [show (N - e).toNat = 0 by omega]
  rfl
theorem g_in : ∀ (n : Nat) (e : Int), 0 ≤ x_g F L w N n e ∧ x_g F L w N n e ≤ n
  | 0, _ => by rw [x_g]; omega
  | n + 1, e => by
    have := g_in n (x_nx F L w N e)
    rw [x_g]
    split <;> omega
theorem at_end {e : Int} (h : N ≤ e) : ∀ n : Nat, x_at F L w N n e = e
  | 0 => rfl
  | n + 1 => by rw [x_at, if_neg (by omega)]
theorem nx_le (hs : ∀ i j : Int, 0 ≤ i → i < j → j < N → L i < F j) (ho : ∀ i : Int, 0 ≤ i → i < N → F i ≤ L i) {e : Int} (h0 : 0 ≤ e) (h1 : e + 1 < N) : x_nx F L w N e ≤ x_nx F L w N (e + 1) := by
  have a := sk_spec (F := F) (c := L e + w - 1) (N - (e + 1)).toNat (e + 1)
  have b := sk_spec (F := F) (c := L (e + 1) + w - 1) (N - (e + 1 + 1)).toNat (e + 1 + 1)
  have c := hs e (e + 1) h0 (by omega) h1
  have d := ho (e + 1) (by omega) h1
  change x_sk F (L e + w - 1) (N - (e + 1)).toNat (e + 1) ≤ x_sk F (L (e + 1) + w - 1) (N - (e + 1 + 1)).toNat (e + 1 + 1)
  generalize x_sk F (L e + w - 1) (N - (e + 1)).toNat (e + 1) = r at *
  generalize x_sk F (L (e + 1) + w - 1) (N - (e + 1 + 1)).toNat (e + 1 + 1) = q at *
  by_cases g : r ≤ q
  · exact g
  · have g1 := a.2.2.1 q (by omega) (by omega)
    have g2 := b.2.2.2 (by omega)
    omega
theorem g_mono (hs : ∀ i j : Int, 0 ≤ i → i < j → j < N → L i < F j) (ho : ∀ i : Int, 0 ≤ i → i < N → F i ≤ L i) : ∀ (n : Nat) (e : Int), 0 ≤ e → N - e ≤ n → ∀ j : Int, e ≤ j → j ≤ N → x_G F L w N j ≤ x_G F L w N e
  | 0, e, h0, h1, j, h2, h3 => by
    rw [show j = e by omega]
    exact Int.le_refl _
  | n + 1, e, h0, h1, j, h2, h3 => by
    by_cases e1 : j = e
    · rw [e1]; exact Int.le_refl _
    · have i1 := g_mono hs ho n (e + 1) (by omega) (by omega) j (by omega) h3
      have i2 : x_G F L w N (e + 1) ≤ x_G F L w N e := by
        by_cases e2 : e + 1 = N
        · rw [g_end (e := e + 1) (by omega)]
          exact (g_in _ _).1
        · have n1 := nx_in (F := F) (L := L) (w := w) (N := N) (e := e) (by omega)
          have n2 := nx_in (F := F) (L := L) (w := w) (N := N) (e := e + 1) (by omega)
          have i3 := g_mono hs ho n (x_nx F L w N e) (by omega) (by omega) _ (nx_le hs ho h0 (by omega)) n2.2
          rw [g_step (e := e) (by omega), g_step (e := e + 1) (by omega)]
          omega
      omega
/-- the answer from the c-th probe on, e being the first episode not yet seen -/
def x_an (F L : Int → Int) (w N k c e : Int) : Int := if k = -1 then c + x_G F L w N e else if x_at F L w N (k - c).toNat e < N then L (x_at F L w N (k - c).toNat e) else -9
variable {d : Nat} {Q : xm_K} {M : xm_Mem}
theorem sp150 {k : Int} (h0 : 0 ≤ k ∧ k < 1000) (h : Q [.inl (M 32 k)] M) : xm_call true (d + 1) 150 [.inr (.inr 29), .inl k] M Q := by
  refine en150r29 (rg150r29_0 ?_)
  (repeat' (first | (with_reducible exact True.intro) | (with_reducible refine And.intro ?_ ?_) | (with_reducible intro) | (with_reducible refine xq_ki ?_) | (with_reducible refine xq_kl ?_) | (with_reducible refine xq_kv ?_) | (with_reducible refine xq_kq ?_)))
  all_goals first | omega | exact h
theorem sp151 {k : Int} (h0 : 0 ≤ k ∧ k < 1000) (h : Q [.inl (M 33 k)] M) : xm_call true (d + 1) 151 [.inr (.inr 29), .inl k] M Q := by
  refine en151r29 (rg151r29_0 ?_)
  (repeat' (first | (with_reducible exact True.intro) | (with_reducible refine And.intro ?_ ?_) | (with_reducible intro) | (with_reducible refine xq_ki ?_) | (with_reducible refine xq_kl ?_) | (with_reducible refine xq_kv ?_) | (with_reducible refine xq_kq ?_)))
  all_goals first | omega | exact h
theorem lo38 {k : Int} (hw : 1 ≤ w ∧ w ≤ 4) (hN : M 29 4 = N ∧ 0 ≤ N ∧ N ≤ 1000) (hF : ∀ j : Int, 0 ≤ j → j < N → M 32 j = F j ∧ M 33 j = L j ∧ 0 ≤ F j ∧ F j ≤ L j ∧ L j < 2000) (hk : xm_in k) : ∀ (n : Nat) (e c cv : Int) (o : Option xm_V), e + n = N → 0 ≤ c → c ≤ e → -1 ≤ cv → cv ≤ 3000 → (k = -1 ∨ c ≤ k) → Q [.inl (x_an F L w N k c (x_sk F cv n e))] M → wp38r1_25 (xm_call true (d + 1)) Q w k c cv e o M
  | 0, e, c, cv, o, h0, h1, h2, h3, h4, h5, h => by
    refine rg38r1_25 (sp142r29 (xq_ki ?_))
    rw [hN.1]
    refine ⟨⟨by omega, by omega⟩, fun _ => ⟨⟨hk, by omega⟩, fun e1 => ?_, fun e1 => ?_⟩, fun _ => by omega⟩
    · rw [x_sk, x_an, if_neg e1, at_end (by omega), if_neg (by omega)] at h
      exact h
    · rw [x_sk, x_an, if_pos e1, g_end (by omega), Int.add_zero] at h
      exact h
  | n + 1, e, c, cv, o, h0, h1, h2, h3, h4, h5, h => by
    have f := hF e (by omega) (by omega)
    have ih := lo38 hw hN hF hk n (e + 1)
    refine rg38r1_25 (sp142r29 (xq_ki ?_))
    rw [hN.1]
    refine ⟨⟨by omega, by omega⟩, fun _ => by omega, fun _ => sp150 (by omega) (xq_ki ?_)⟩
    refine ⟨⟨by omega, by omega⟩, fun e1 => sp151 (by omega) (xq_ki ⟨⟨by omega, hk⟩, fun e2 => ?_, fun e2 => ?_⟩), fun e1 => ?_⟩
    · rw [x_sk, if_neg (by omega)] at h
      refine ih _ _ _ (by omega) (by omega) (by omega) (by omega) (by omega) (by omega) ?_
      rw [f.2.1]
      have en : x_sk F (L e + w - 1) n (e + 1) = x_nx F L w N e := by
        unfold x_nx
        rw [show (N - (e + 1)).toNat = n by omega]
      rw [en]
      have ea : x_an F L w N k (c + 1) (x_nx F L w N e) = x_an F L w N k c e := by
        unfold x_an
        by_cases g : k = -1
        · rw [if_pos g, if_pos g, g_step (e := e) (by omega)]
          omega
        · rw [if_neg g, if_neg g]
          have e3 : (k - c).toNat = (k - (c + 1)).toNat + 1 := by omega
          have e4 : x_at F L w N ((k - (c + 1)).toNat + 1) e = x_at F L w N (k - (c + 1)).toNat (x_nx F L w N e) := by rw [x_at, if_pos (by omega)]
          rw [e3, e4]
      rw [ea]
      exact h
    · rw [x_sk, if_neg (by omega), x_an, if_neg (by omega), show (k - c).toNat = 0 by omega, x_at, if_pos (by omega)] at h
      rw [f.2.1]
      exact h
    · rw [x_sk, if_pos (by omega)] at h
      exact ih c cv o (by omega) h1 (by omega) h3 h4 h5 h
/-- place e of the reference's three arrays -/
def x_st (M : xm_Mem) (e a b c : Int) : xm_Mem := xm_up (xm_up (xm_up M 81 e a) 82 e b) 83 e c
theorem xs_c {c' : Nat} {e a b c : Int} (h : c' ≠ 81 ∧ c' ≠ 82 ∧ c' ≠ 83) : x_st M e a b c c' = M c' := by
  unfold x_st
  rw [xu_c h.2.2, xu_c h.2.1, xu_c h.1]
theorem xs_a {e a b c : Int} : x_st M e a b c 81 e = a := by
  unfold x_st
  rw [xu_c (by omega), xu_c (by omega), xu_s]
theorem xs_j {c' : Nat} {e a b c j : Int} (h : j ≠ e) : x_st M e a b c c' j = M c' j := by
  unfold x_st
  rw [xu_j h, xu_j h, xu_j h]
theorem xs_up {e a b c a' b' c' : Int} : xm_up (xm_up (xm_up (x_st M e a b c) 81 e a') 82 e b') 83 e c' = x_st M e a' b' c' := by
  funext z j
  by_cases hj : j = e
  · subst hj
    by_cases h3 : z = 83
    · subst h3; unfold x_st; rw [xu_s, xu_s]
    · rw [xu_c h3]
      by_cases h2 : z = 82
      · subst h2; unfold x_st; rw [xu_s, xu_c (by omega), xu_s]
      · rw [xu_c h2]
        by_cases h1 : z = 81
        · subst h1; rw [xu_s, xs_a]
        · rw [xu_c h1, xs_c ⟨h1, h2, h3⟩, xs_c ⟨h1, h2, h3⟩]
  · rw [xu_j hj, xu_j hj, xu_j hj, xs_j hj, xs_j hj]
theorem xs_in {e a : Int} : xm_up M 81 e a = x_st M e a (M 82 e) (M 83 e) := by
  funext z j
  by_cases hj : j = e
  · subst hj
    by_cases h1 : z = 81
    · subst h1; rw [xu_s, xs_a]
    · rw [xu_c h1]
      by_cases h3 : z = 83
      · subst h3; unfold x_st; rw [xu_s]
      · by_cases h2 : z = 82
        · subst h2; unfold x_st; rw [xu_c (by omega), xu_s]
        · rw [xs_c ⟨h1, h2, h3⟩]
  · rw [xu_j hj, xs_j hj]
theorem lo270_45 {cs : xm_C} {e x3 s a b c r : Int} (hw : 1 ≤ w ∧ w ≤ 4) (hN : M 50 45 = N ∧ N ≤ 1000) (he : 0 ≤ e ∧ e < N) (hs : 0 ≤ s ∧ s < 2000) (hF : ∀ j : Int, 0 ≤ j → j < N → M 73 j = F j ∧ xm_in (F j)) (hG : ∀ j : Int, e < j → j ≤ N → M 81 j = x_G F L w N j) (ha : xm_in a) (hr : e < r)
    (h1 : a < 0 ∨ 1 + x_G F L w N r ≤ a → wp270r50_34 cs Q e w x3 r (s + 1) (x_st M e (1 + x_G F L w N r) s r)) (h0 : ¬ (a < 0 ∨ 1 + x_G F L w N r ≤ a) → wp270r50_34 cs Q e w x3 r (s + 1) (x_st M e a b c)) : ∀ (n : Nat) (j : Int), j + n = N → e < j → r = x_sk F (s + w - 1) n j → wp270r50_45 cs Q e w x3 j s (x_st M e a b c) := by
  have gb := g_in (F := F) (L := L) (w := w) (N := N) (N - r).toNat r
  have tail : r ≤ N → (0 ≤ e ∧ e < 1001) ∧ (xm_in (x_st M e a b c 81 e)) ∧ (((x_st M e a b c 81 e) < 0 → (0 ≤ r ∧ r < 1001) ∧ (0 ≤ e ∧ e < 1001) ∧ (0 ≤ e ∧ e < 1001) ∧ (0 ≤ e ∧ e < 1001) ∧ wp270r50_34 cs Q e w x3 r (s + 1) (xm_up (xm_up (xm_up (x_st M e a b c) 81 e (1 + (x_st M e a b c 81 r))) 82 e s) 83 e r)) ∧ (0 ≤ (x_st M e a b c 81 e) → (0 ≤ r ∧ r < 1001) ∧ (0 ≤ e ∧ e < 1001) ∧ (xm_in (1 + (x_st M e a b c 81 r)) ∧ xm_in (x_st M e a b c 81 e)) ∧ (((x_st M e a b c 81 e) < (1 + (x_st M e a b c 81 r)) → wp270r50_34 cs Q e w x3 r (s + 1) (x_st M e a b c)) ∧ ((1 + (x_st M e a b c 81 r)) ≤ (x_st M e a b c 81 e) → (0 ≤ r ∧ r < 1001) ∧ (0 ≤ e ∧ e < 1001) ∧ (0 ≤ e ∧ e < 1001) ∧ (0 ≤ e ∧ e < 1001) ∧ wp270r50_34 cs Q e w x3 r (s + 1) (xm_up (xm_up (xm_up (x_st M e a b c) 81 e (1 + (x_st M e a b c 81 r))) 82 e s) 83 e r))))) := by
    intro hrN
    have gb' : 0 ≤ x_G F L w N r ∧ x_G F L w N r ≤ 1000 := by
      unfold x_G
      omega
    rw [xs_a, xs_j (by omega), hG r hr hrN, xs_up]
    refine ⟨by omega, by omega, fun g => ⟨by omega, by omega, by omega, by omega, h1 (Or.inl g)⟩, fun g => ⟨by omega, by omega, ⟨by omega, by omega⟩, fun g2 => h0 (by omega), fun g2 => ⟨by omega, by omega, by omega, by omega, h1 (Or.inr g2)⟩⟩⟩
  intro n
  induction n with
  | zero =>
    intro j hj hj2 hr2
    rw [x_sk] at hr2
    subst hr2
    refine rg270r50_45 ?_
    have e1 : x_st M e a b c 50 45 = N := by rw [xs_c (by omega)]; exact hN.1
    refine ⟨⟨by omega, by omega⟩, fun _ => tail (by omega), fun _ => by omega⟩
  | succ n ih =>
    intro j hj hj2 hr2
    have f := hF j (by omega) (by omega)
    refine rg270r50_45 ?_
    have e1 : x_st M e a b c 50 45 = N := by rw [xs_c (by omega)]; exact hN.1
    have e2 : x_st M e a b c 73 j = F j := by rw [xs_c (by omega)]; exact f.1
    rw [x_sk] at hr2
    refine ⟨⟨by omega, by omega⟩, fun _ => by omega, fun _ => ⟨by omega, ⟨by omega, by omega⟩, fun g => ?_, fun g => ?_⟩⟩
    · rw [if_neg (by omega)] at hr2
      subst hr2
      exact tail (by omega)
    · rw [if_pos (by omega)] at hr2
      exact ih (j + 1) (by omega) (by omega) hr2
theorem lo270_34 {cs : xm_C} {e x3 : Int} (hw : 1 ≤ w ∧ w ≤ 4) (hN : M 50 45 = N ∧ N ≤ 1000) (he : 0 ≤ e ∧ e < N) (hF : ∀ j : Int, 0 ≤ j → j < N → M 73 j = F j ∧ xm_in (F j)) (hL : M 74 e = L e ∧ 0 ≤ L e ∧ L e < 2000) (hG : ∀ j : Int, e < j → j ≤ N → M 81 j = x_G F L w N j)
    (hs : ∀ i j : Int, 0 ≤ i → i < j → j < N → L i < F j) (ho : ∀ i : Int, 0 ≤ i → i < N → F i ≤ L i)
    (h : Q [] (x_st M e (x_G F L w N e) (L e) (x_nx F L w N e))) : ∀ (n : Nat) (s j a b c : Int), s + n = L e → 0 ≤ s → e < j → j ≤ N → (∀ i : Int, e < i → i < j → F i ≤ s - 1 + w - 1) → xm_in a → (a < 0 ∨ 1 + x_G F L w N (x_nx F L w N e) ≤ a) → wp270r50_34 cs Q e w x3 j s (x_st M e a b c) := by
  have stepr : ∀ s j : Int, s ≤ L e → e < j → j ≤ N → (∀ i : Int, e < i → i < j → F i ≤ s - 1 + w - 1) → e < x_sk F (s + w - 1) (N - j).toNat j ∧ x_sk F (s + w - 1) (N - j).toNat j ≤ N ∧ (∀ i : Int, e < i → i < x_sk F (s + w - 1) (N - j).toNat j → F i ≤ s + w - 1) ∧ x_sk F (s + w - 1) (N - j).toNat j ≤ x_nx F L w N e ∧ (s = L e → x_sk F (s + w - 1) (N - j).toNat j = x_nx F L w N e) := by
    intro s j h1 h2 h3 h4
    have q := sk_spec (F := F) (c := s + w - 1) (N - j).toNat j
    have hall : ∀ i : Int, e < i → i < x_sk F (s + w - 1) (N - j).toNat j → F i ≤ s + w - 1 := fun i a b => by
      by_cases g : i < j
      · have := h4 i a g
        omega
      · exact q.2.2.1 i (by omega) b
    have z := sk_spec (F := F) (c := L e + w - 1) (N - (e + 1)).toNat (e + 1)
    refine ⟨by omega, by omega, hall, ?_, fun hse => ?_⟩
    · unfold x_nx
      generalize x_sk F (s + w - 1) (N - j).toNat j = r at *
      generalize x_sk F (L e + w - 1) (N - (e + 1)).toNat (e + 1) = t at *
      by_cases g : r ≤ t
      · exact g
      · have g1 := hall t (by omega) (by omega)
        have g2 := z.2.2.2 (by omega)
        omega
    · unfold x_nx
      refine (sk_uniq (by omega) (by omega) (fun i a b => ?_) (fun a => ?_)).symm
      · have := hall i (by omega) b
        omega
      · have := q.2.2.2 (by omega)
        omega
  have nx := nx_in (F := F) (L := L) (w := w) he.2
  have en : ∀ a b c : Int, x_st M e a b c 74 e = L e := fun a b c => by rw [xs_c (by omega)]; exact hL.1
  intro n
  induction n with
  | zero =>
    intro s j a b c h1 h2 h3 h4 h5 h6 h7
    have r := stepr s j (by omega) h3 h4 h5
    have r5 := r.2.2.2.2 (by omega)
    refine rg270r50_34 ?_
    rw [en]
    refine ⟨by omega, ⟨by omega, by omega⟩, fun _ => by omega, fun _ => ?_⟩
    refine lo270_45 hw hN he (by omega) hF hG h6 r.1 (fun _ => ?_) (fun g => ?_) (N - j).toNat j (by omega) h3 rfl
    · rw [r5]
      refine rg270r50_34 ?_
      rw [en]
      refine ⟨by omega, ⟨by omega, by omega⟩, fun _ => ?_, fun _ => by omega⟩
      rw [show s = L e by omega, ← g_step he.2]
      exact h
    · rw [r5] at g
      exact absurd h7 g
  | succ n ih =>
    intro s j a b c h1 h2 h3 h4 h5 h6 h7
    have r := stepr s j (by omega) h3 h4 h5
    have gm := g_mono (w := w) hs ho (N - x_sk F (s + w - 1) (N - j).toNat j).toNat (x_sk F (s + w - 1) (N - j).toNat j) (by omega) (by omega) _ r.2.2.2.1 nx.2
    have gb := g_in (F := F) (L := L) (w := w) (N := N) (N - x_sk F (s + w - 1) (N - j).toNat j).toNat (x_sk F (s + w - 1) (N - j).toNat j)
    refine rg270r50_34 ?_
    rw [en]
    refine ⟨by omega, ⟨by omega, by omega⟩, fun _ => by omega, fun _ => ?_⟩
    refine lo270_45 hw hN he (by omega) hF hG h6 r.1 (fun _ => ?_) (fun g => ?_) (N - j).toNat j (by omega) h3 rfl
    · refine ih (s + 1) _ _ _ _ (by omega) (by omega) r.1 r.2.1 (fun i a b => ?_) ?_ (Or.inr (by omega))
      · have := r.2.2.1 i a b
        omega
      · change xm_in (1 + x_g F L w N _ _)
        omega
    · refine ih (s + 1) _ _ _ _ (by omega) (by omega) r.1 r.2.1 (fun i a b => ?_) h6 h7
      have := r.2.2.1 i a b
      omega
theorem sp270 {e : Int} (hw : 1 ≤ w ∧ w ≤ 4) (hN : M 50 45 = N ∧ N ≤ 1000) (he : 0 ≤ e ∧ e < N) (hF : ∀ j : Int, 0 ≤ j → j < N → M 73 j = F j ∧ 0 ≤ F j ∧ F j < 2000) (hL : M 74 e = L e ∧ 0 ≤ L e ∧ L e < 2000) (hG : ∀ j : Int, e < j → j ≤ N → M 81 j = x_G F L w N j)
    (hs : ∀ i j : Int, 0 ≤ i → i < j → j < N → L i < F j) (ho : ∀ i : Int, 0 ≤ i → i < N → F i ≤ L i)
    (h : Q [] (x_st M e (x_G F L w N e) (L e) (x_nx F L w N e))) : xm_call true (d + 1) 270 [.inr (.inr 50), .inl e, .inl w] M Q := by
  have f := hF e he.1 he.2
  have o := ho e he.1 he.2
  have hF' : ∀ j : Int, 0 ≤ j → j < N → M 73 j = F j ∧ xm_in (F j) := fun j a b => by
    have := hF j a b
    omega
  refine en270r50 (rg270r50_0 ?_)
  rw [xs_in, f.1]
  refine ⟨by omega, by omega, by omega, fun g => ?_, fun g => ?_⟩
  · exact lo270_34 hw hN he hF' hL hG hs ho h (L e - (F e - w + 1)).toNat _ (e + 1) _ _ _ (by omega) (by omega) (by omega) (by omega) (fun i a b => by omega) (by omega) (Or.inl (by omega))
  · exact lo270_34 hw hN he hF' hL hG hs ho h (L e).toNat _ (e + 1) _ _ _ (by omega) (by omega) (by omega) (by omega) (fun i a b => by omega) (by omega) (Or.inl (by omega))
/-- the reference's three arrays laid out from e on -/
def x_tb (F L : Int → Int) (w N : Int) (M : xm_Mem) (e : Int) : xm_Mem := fun c k => if c = 81 ∧ e ≤ k ∧ k < N then x_G F L w N k else if c = 82 ∧ e ≤ k ∧ k < N then L k else if c = 83 ∧ e ≤ k ∧ k < N then x_nx F L w N k else M c k
theorem xt_c {c : Nat} {e : Int} (h : c ≠ 81 ∧ c ≠ 82 ∧ c ≠ 83) : x_tb F L w N M e c = M c := by
  funext k
  unfold x_tb
  rw [if_neg (by omega), if_neg (by omega), if_neg (by omega)]
theorem xt_out {c : Nat} {e k : Int} (h : k < e ∨ N ≤ k) : x_tb F L w N M e c k = M c k := by
  unfold x_tb
  rw [if_neg (by omega), if_neg (by omega), if_neg (by omega)]
theorem xt_1 {e k : Int} (h : e ≤ k ∧ k < N) : x_tb F L w N M e 81 k = x_G F L w N k := by
  unfold x_tb
  rw [if_pos ⟨rfl, h⟩]
theorem xt_2 {e k : Int} (h : e ≤ k ∧ k < N) : x_tb F L w N M e 82 k = L k := by
  unfold x_tb
  rw [if_neg (by omega), if_pos ⟨rfl, h⟩]
theorem xt_3 {e k : Int} (h : e ≤ k ∧ k < N) : x_tb F L w N M e 83 k = x_nx F L w N k := by
  unfold x_tb
  rw [if_neg (by omega), if_neg (by omega), if_pos ⟨rfl, h⟩]
theorem xt_N {e : Int} (h : N ≤ e) : x_tb F L w N M e = M := by
  funext c k
  unfold x_tb
  rw [if_neg (by omega), if_neg (by omega), if_neg (by omega)]
theorem xt_up {e : Int} (h : e < N) : x_st (x_tb F L w N M (e + 1)) e (x_G F L w N e) (L e) (x_nx F L w N e) = x_tb F L w N M e := by
  funext c k
  by_cases hk : k = e
  · subst hk
    by_cases h1 : c = 81
    · subst h1; rw [xs_a, xt_1 (by omega)]
    · by_cases h2 : c = 82
      · subst h2; unfold x_st; rw [xu_c (by omega), xu_s, xt_2 (by omega)]
      · by_cases h3 : c = 83
        · subst h3; unfold x_st; rw [xu_s, xt_3 (by omega)]
        · rw [xs_c ⟨h1, h2, h3⟩, xt_c ⟨h1, h2, h3⟩, xt_c ⟨h1, h2, h3⟩]
  · rw [xs_j hk]
    by_cases g : e ≤ k ∧ k < N
    · by_cases h1 : c = 81
      · subst h1; rw [xt_1 (by omega), xt_1 (by omega)]
      · by_cases h2 : c = 82
        · subst h2; rw [xt_2 (by omega), xt_2 (by omega)]
        · by_cases h3 : c = 83
          · subst h3; rw [xt_3 (by omega), xt_3 (by omega)]
          · rw [xt_c ⟨h1, h2, h3⟩, xt_c ⟨h1, h2, h3⟩]
    · rw [xt_out (by omega), xt_out (by omega)]
theorem lo271_69 {cs : xm_C} {k : Int} (hw : 1 ≤ w ∧ w ≤ 4) (hN : M 50 45 = N ∧ 0 ≤ N ∧ N ≤ 1000) (hk : xm_in k) (h1 : ∀ a : Int, 0 ≤ a → a < N → M 82 a = L a ∧ M 83 a = x_nx F L w N a) : ∀ (n : Nat) (a i : Int), 0 ≤ a → a ≤ N → i + n = k → 0 ≤ i → Q [.inl (if x_at F L w N n a < N then L (x_at F L w N n a) else -9)] M → wp271r50_69 cs Q w k a i M
  | 0, a, i, h2, h3, h4, h5, h => by
    refine rg271r50_69 ?_
    rw [hN.1]
    rw [x_at] at h
    refine ⟨⟨by omega, hk⟩, fun _ => ⟨⟨by omega, by omega⟩, fun g => ?_, fun g => ⟨by omega, ?_⟩⟩, fun _ => by omega⟩
    · rw [if_neg (by omega)] at h; exact h
    · rw [if_pos g] at h; rw [(h1 a h2 g).1]; exact h
  | n + 1, a, i, h2, h3, h4, h5, h => by
    refine rg271r50_69 ?_
    rw [hN.1]
    refine ⟨⟨by omega, hk⟩, fun _ => by omega, fun _ => ⟨⟨by omega, by omega⟩, fun g => ⟨⟨by omega, by omega⟩, fun _ => ?_, fun g => by omega⟩, fun g => ⟨by omega, ?_⟩⟩⟩
    · rw [at_end g, if_neg (by omega)] at h; exact h
    · rw [x_at, if_pos g] at h
      have nx := nx_in (F := F) (L := L) (w := w) g
      rw [(h1 a h2 g).2]
      exact lo271_69 hw hN hk h1 n _ (i + 1) (by omega) nx.2 (by omega) (by omega) h
theorem lo271_37 {k : Int} (hw : 1 ≤ w ∧ w ≤ 4) (hk : xm_in k ∧ -1 ≤ k) (hN : M 50 45 = N ∧ 0 ≤ N ∧ N ≤ 1000) (hF : ∀ j : Int, 0 ≤ j → j < N → M 73 j = F j ∧ 0 ≤ F j ∧ F j < 2000) (hL : ∀ j : Int, 0 ≤ j → j < N → M 74 j = L j ∧ 0 ≤ L j ∧ L j < 2000) (h81 : M 81 N = 0)
    (hs : ∀ i j : Int, 0 ≤ i → i < j → j < N → L i < F j) (ho : ∀ i : Int, 0 ≤ i → i < N → F i ≤ L i)
    (h : Q [.inl (x_an F L w N k 0 0)] (x_tb F L w N M 0)) : ∀ (n : Nat) (e : Int), e + 1 = n → e < N → wp271r50_37 (xm_call true (d + 1)) Q w k e (x_tb F L w N M (e + 1))
  | 0, e, h0, h1 => by
    have e0 : e + 1 = 0 := by omega
    rw [e0]
    have e1 : x_tb F L w N M 0 50 45 = N := by rw [xt_c (by omega)]; exact hN.1
    refine rg271r50_37 ⟨by omega, fun _ => ⟨hk.1, fun g => ?_, fun g => ⟨by omega, ?_⟩⟩, fun _ => by omega⟩
    · refine lo271_69 (F := F) (L := L) hw ⟨e1, hN.2⟩ hk.1 (fun a b c => ⟨xt_2 ⟨b, c⟩, xt_3 ⟨b, c⟩⟩) k.toNat 0 0 (by omega) (by omega) (by omega) (by omega) ?_
      rw [x_an, if_neg (by omega), show (k - 0).toNat = k.toNat by omega] at h
      exact h
    · have e2 : x_tb F L w N M 0 81 0 = x_G F L w N 0 := by
        by_cases z : 0 < N
        · rw [xt_1 (by omega)]
        · have z0 : N = 0 := by omega
          rw [z0] at h81
          rw [xt_out (by omega), g_end (by omega)]
          exact h81
      rw [e2]
      rw [x_an, if_pos (by omega), Int.zero_add] at h
      exact h
  | n + 1, e, h0, h1 => by
    have ih := lo271_37 hw hk hN hF hL h81 hs ho h n (e - 1) (by omega) (by omega)
    rw [Int.sub_add_cancel, ← xt_up h1] at ih
    refine rg271r50_37 ⟨by omega, fun _ => by omega, fun _ => ?_⟩
    refine sp270 (F := F) (L := L) (N := N) hw ?_ (by omega) ?_ ?_ ?_ hs ho (xq_kv ?_)
    · rw [xt_c (by omega)]; omega
    · rw [xt_c (by omega)]; exact hF
    · rw [xt_c (by omega)]; exact hL e (by omega) h1
    · intro j a b
      by_cases z : j < N
      · rw [xt_1 (by omega)]
      · rw [xt_out (by omega), g_end (by omega), show j = N by omega, h81]
    · exact ih
end ST
theorem ep_ord (f : Int → Int) : ∀ (n : Nat) (i j : Int), 0 ≤ i → i < j → j < x_epN f n → x_epL f n i < x_epF f n j
  | 0, i, j, h0, h1, h2 => by simp only [x_epN] at h2; omega
  | n + 1, i, j, h0, h1, h2 => by
    have ih := ep_ord f n i j h0 h1
    have b := ep_le f n
    simp only [x_epF, x_epL]
    by_cases g : 0 < f n ∧ (n = 0 ∨ ¬ 0 < f ((n : Int) - 1))
    · have E : x_epN f (n + 1) = x_epN f n + 1 := by simp only [x_epN]; rw [if_pos g]
      have q := ep_in f n i h0 (by omega)
      by_cases e : j = x_epN f n
      · rw [if_neg (by omega), if_pos ⟨g, e⟩]; omega
      · rw [if_neg (by omega), if_neg (by omega)]; exact ih (by omega)
    · have E : x_epN f (n + 1) = x_epN f n := by simp only [x_epN]; rw [if_neg g]
      rw [if_neg (by omega), if_neg (by omega)]
      exact ih (by omega)
section SU
variable {F L : Int → Int} {w N : Int}
theorem R_tb {M : xm_Mem} {e : Int} (h : R_all M) : R_all (x_tb F L w N M e) := by
  refine R_keep h (fun c hc => ?_) (fun k hk => ?_)
  · unfold x_live at hc
    exact xt_c (by omega)
  · rw [xt_c (by omega)]
theorem R_81 {M : xm_Mem} {j v : Int} (h : R_all M) : R_all (xm_up M 81 j v) := by
  refine R_keep h (fun c hc => ?_) (fun k hk => ?_)
  · unfold x_live at hc
    exact xu_c (by omega)
  · rw [xu_c (by omega)]
theorem pr_stab {x y : Int} (hx : xm_in x) (hy : xm_in y) : R_pair 38 271 [.inl x, .inl y] := by
  intro M hR
  obtain ⟨-, -, hRec, -⟩ := id hR
  obtain ⟨r1, r2, r3, r4, r5, r6, r7, r8⟩ := hRec
  have hv : ∀ s : Int, 0 ≤ s → s < M 50 20 → 0 ≤ M 61 s ∧ M 61 s ≤ 1000 := fun s h0 h1 => by
    have := r4 s h0 (by omega)
    omega
  have hep := x_ep_congr (f := M 30) (g := M 61) (M 29 2).toNat (fun s h0 h1 => (r4 s h0 (by omega)).1)
  rw [hep.1, r1] at r7
  rw [hep.2.1, hep.2.2, r1] at r8
  have hb2 := ep_le (M 61) (M 50 20).toNat
  have hin := ep_in (M 61) (M 50 20).toNat
  have hord := ep_ord (M 61) (M 50 20).toNat
  by_cases hxy : (1 ≤ x ∧ x ≤ 4) ∧ -1 ≤ y
  · have hR2 : R_all (x_tb (x_epF (M 61) (M 50 20).toNat) (x_epL (M 61) (M 50 20).toNat) x (x_epN (M 61) (M 50 20).toNat) (xm_up (x_fd M (M 50 20).toNat) 81 (x_epN (M 61) (M 50 20).toNat) 0) 0) := R_tb (R_81 (R_fd hR))
    have hb3 : x_epN (M 61) (M 50 20).toNat ≤ 1000 := by omega
    refine en38r1 (rg38r1_0 ?_)
    refine ⟨⟨hx, by omega⟩, fun _ => by omega, fun _ => ⟨⟨hx, by omega⟩, fun _ => by omega, fun _ => ⟨⟨hy, by omega⟩, fun _ => ?_, fun _ => by omega⟩⟩⟩
    refine lo38 (F := x_epF (M 61) (M 50 20).toNat) (L := x_epL (M 61) (M 50 20).toNat) (N := x_epN (M 61) (M 50 20).toNat) hxy.1 (by omega) (fun j a b => ?_) hy (x_epN (M 61) (M 50 20).toNat).toNat 0 0 (-1) none (by omega) (by omega) (by omega) (by omega) (by omega) (by omega) ?_
    · have := r8 j a (by omega)
      have := hin j a b
      omega
    refine en271r50 (rg271r50_0 ?_)
    refine sp193 hx (by omega) (by omega) (fun _ => xq_ki (xq_b1 ⟨⟨hy, by omega⟩, fun _ => ?_, fun _ => by omega⟩)) (fun _ => by omega)
    refine sp230 (by omega) hv (xq_kv ?_)
    rw [xd_n]
    refine ⟨by omega, ?_⟩
    have z := lo271_37 (d := 9) (k := y) (F := x_epF (M 61) (M 50 20).toNat) (L := x_epL (M 61) (M 50 20).toNat) (w := x) (N := x_epN (M 61) (M 50 20).toNat) (M := xm_up (x_fd M (M 50 20).toNat) 81 (x_epN (M 61) (M 50 20).toNat) 0)
      (Q := fun w M2 => R_end [.inl (x_an (x_epF (M 61) (M 50 20).toNat) (x_epL (M 61) (M 50 20).toNat) x (x_epN (M 61) (M 50 20).toNat) y 0 (x_sk (x_epF (M 61) (M 50 20).toNat) (-1) (x_epN (M 61) (M 50 20).toNat).toNat 0))] w M2)
      hxy.1 ⟨hy, hxy.2⟩ ?_ ?_ ?_ ?_ ?_ ?_ ?_ (x_epN (M 61) (M 50 20).toNat).toNat (x_epN (M 61) (M 50 20).toNat - 1) (by omega) (by omega)
    · rw [Int.sub_add_cancel, xt_N (by omega)] at z
      exact z
    · rw [xu_c (by omega), xd_n]; omega
    · intro j a b
      have := hin j a b
      rw [xu_c (by omega), xd_f ⟨a, b⟩]
      omega
    · intro j a b
      have := hin j a b
      rw [xu_c (by omega), xd_l ⟨a, b⟩]
      omega
    · rw [xu_s]
    · exact hord
    · exact fun i a b => (hin i a b).2.1
    · refine xq_I ?_ hR2
      have e : x_sk (x_epF (M 61) (M 50 20).toNat) (-1) (x_epN (M 61) (M 50 20).toNat).toNat 0 = 0 := by
        refine sk_uniq (by omega) (by omega) (fun i a b => by omega) (fun a => ?_)
        have := hin 0 (by omega) (by omega)
        omega
      rw [e]
  · refine en38r1 (rg38r1_0 ?_)
    refine ⟨⟨hx, by omega⟩, fun _ => ?_, fun _ => ⟨⟨hx, by omega⟩, fun _ => ?_, fun _ => ⟨⟨hy, by omega⟩, fun _ => by omega, fun _ => ?_⟩⟩⟩
    all_goals
      refine en271r50 (rg271r50_0 ?_)
      (repeat' (first | (with_reducible exact True.intro) | (with_reducible refine xq_b1 ?_) | (with_reducible refine xq_b2 ?_) | (with_reducible refine xq_b3 ?_) | (with_reducible refine xq_b4 ?_) | (with_reducible refine And.intro ?_ ?_) | (with_reducible intro) | (with_reducible refine xq_ki ?_) | (with_reducible refine xq_kl ?_) | (with_reducible refine xq_kv ?_) | (with_reducible refine xq_kq ?_) | (with_reducible apply sp193)))
      all_goals first | omega | exact xq_I rfl hR
end SU
