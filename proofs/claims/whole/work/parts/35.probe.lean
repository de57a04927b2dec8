/-! a slot: probes are sent -/
def x_bit (w mark cap : Int) : Int := if w < mark ∧ w < cap then 0 else 1
def x_pr1 (cap mark p : Int) (A : xm_Mem) (k : Int) : xm_Mem := if A 17 6 < mark ∧ A 17 6 < cap then xm_up (x_of1 cap A 4 p) 26 k (2 * A 26 k + 0) else xm_up (xm_up (x_of1 cap A 4 p) 31 p (A 31 p + 1)) 26 k (2 * A 26 k + 1)
def y_pr1 (p : Int) (B : xm_Mem) (k : Int) : xm_Mem := xm_up (xm_up (xm_up (y_of1 B 4 p) 69 k (2 * B 69 k + x_bit (B 50 24) (B 50 2) (B 50 0))) 59 p (B 59 p + 1)) 60 p (B 60 p + x_bit (B 50 24) (B 50 2) (B 50 0))
def x_prn (cap mark p : Int) (A : xm_Mem) : Nat → xm_Mem
  | 0 => A
  | k + 1 => x_pr1 cap mark p (x_prn cap mark p A k) k
def y_prn (p : Int) (B : xm_Mem) : Nat → xm_Mem
  | 0 => B
  | k + 1 => y_pr1 p (y_prn p B k) k
theorem xo1_c {A : xm_Mem} {cap s p : Int} {c : Nat} (h : c ≠ 17 ∧ c ≠ 18 ∧ c ≠ 19 ∧ c ≠ 20 ∧ c ≠ 21 ∧ c ≠ 30) : x_of1 cap A s p c = A c := by
  unfold x_of1 x_in x_np x_no
  split
  · rw [xu_c (by omega), xu_c (by omega), xu_c (by omega), xu_c (by omega)]
  · rw [xu_c (by omega), xu_c (by omega), xu_c (by omega)]
theorem T_pr1 {p t u i cap mark : Int} {A B : xm_Mem} (h : T_all p t u i A B) (hi : 0 ≤ i ∧ i < A 23 3) (hc : cap = B 50 0) (hm : mark = B 50 2) : T_all p (t + 1) (u + 1) (i + 1) (x_pr1 cap mark p A i) (y_pr1 p B i) := by
  have hw := h.2.2.2.1.1
  have z := T_of1 (s := 4) h (by omega) hc
  have k26 : x_of1 cap A 4 p 26 = A 26 := xo1_c (by omega)
  have k31 : x_of1 cap A 4 p 31 = A 31 := xo1_c (by omega)
  have k69 : y_of1 B 4 p 69 = B 69 := yo_c (by omega)
  have k59 : y_of1 B 4 p 59 = B 59 := yo_c (by omega)
  have k60 : y_of1 B 4 p 60 = B 60 := by
    unfold y_of1 y_in y_np
    split
    · simp only [xu_c, xu_s, xu_k, ne_eq, Nat.reduceEqDiff, Int.reduceEq, not_false_eq_true]
    · simp only [xu_c, xu_s, xu_k, ne_eq, Nat.reduceEqDiff, Int.reduceEq, not_false_eq_true]
  have k23 : x_of1 cap A 4 p 23 = A 23 := xo1_c (by omega)
  have eb : x_bit (B 50 24) (B 50 2) (B 50 0) = if A 17 6 < mark ∧ A 17 6 < cap then 0 else 1 := by
    unfold x_bit
    rw [← hc, ← hm, show B 50 24 = A 17 6 by omega]
  unfold x_pr1 y_pr1
  rw [eb, ← k26, ← k31, ← k69, ← k59, ← k60]
  rw [← k23] at hi
  generalize x_of1 cap A 4 p = X at *
  generalize y_of1 B 4 p = Y at *
  clear eb k26 k31 k69 k59 k60 h hw k23
  obtain ⟨h1, h2, h3, h4, h5, h6⟩ := z
  obtain ⟨e1, e2, e3, e4, e5, e6, e7, e8⟩ := h3
  obtain ⟨r1, r2, r3, r4, r5, r6⟩ := h5
  have exp : ∀ (b : Int) (X' : xm_Mem), (b = 0 ∨ b = 1) → (∀ c : Nat, c = 23 ∨ c = 24 ∨ c = 25 ∨ c = 28 → X' c = X c) → (∀ k : Int, X' 26 k = if k = i then 2 * X 26 i + b else X 26 k) → T_exp p (i + 1) X' (xm_up (xm_up (xm_up Y 69 i (2 * Y 69 i + b)) 59 p (Y 59 p + 1)) 60 p (Y 60 p + b)) := by
    intro b X' hb hX h26
    unfold T_exp
    rw [hX 23 (by omega), hX 24 (by omega), hX 25 (by omega), hX 28 (by omega)]
    simp only [xu_c, xu_s, xu_k, ne_eq, Nat.reduceEqDiff, Int.reduceEq, not_false_eq_true]
    refine ⟨e1, e2, fun k a c => ?_, fun s a c => ?_, by omega, e6, e7, e8⟩
    · have g := e3 k a c
      rw [h26]
      by_cases e : k = i
      · subst e
        rw [if_pos rfl, xu_s, if_pos (by omega)]
        rw [if_neg (by omega)] at g
        simp only [x_p2] at g ⊢
        omega
      · rw [if_neg e, xu_k e]
        have e' : (if k < i + 1 then (1 : Int) else 0) = if k < i then 1 else 0 := by
          by_cases q : k < i
          · rw [if_pos q, if_pos (by omega)]
          · rw [if_neg q, if_neg (by omega)]
        rw [e']
        exact g
    · rw [xu_k (by omega)]
      exact e4 s a c
  by_cases g : A 17 6 < mark ∧ A 17 6 < cap
  · rw [if_pos g, if_pos g]
    refine ⟨?_, ?_, exp 0 _ (Or.inl rfl) (fun c hh => by rw [xu_c (by omega)]) (fun k => by simp only [xm_up, if_true]), ?_, ?_, ?_⟩
    · unfold T_fix T_rt R_rtA at *
      simp only [xu_c, xu_s, xu_k, ne_eq, Nat.reduceEqDiff, Int.reduceEq, not_false_eq_true]
      exact h1
    · unfold R_ask at *
      simp only [xu_c, xu_s, xu_k, ne_eq, Nat.reduceEqDiff, Int.reduceEq, not_false_eq_true]
      exact h2
    · unfold T_lin at *
      simp only [xu_c, xu_s, xu_k, ne_eq, Nat.reduceEqDiff, Int.reduceEq, not_false_eq_true]
      exact h4
    · unfold T_rec
      simp only [xu_c, xu_s, xu_k, ne_eq, Nat.reduceEqDiff, Int.reduceEq, not_false_eq_true]
      refine ⟨r1, fun s a b => ?_, r3, by omega, r5, r6⟩
      rw [xu_k (by omega)]
      exact r2 s a b
    · simp only [xu_c, xu_s, xu_k, ne_eq, Nat.reduceEqDiff, Int.reduceEq, not_false_eq_true]
      exact h6
  · rw [if_neg g, if_neg g]
    refine ⟨?_, ?_, exp 1 _ (Or.inr rfl) (fun c hh => by rw [xu_c (by omega), xu_c (by omega)]) (fun k => by simp only [xm_up, if_true, Nat.reduceEqDiff, if_false]), ?_, ?_, ?_⟩
    · unfold T_fix T_rt R_rtA at *
      simp only [xu_c, xu_s, xu_k, ne_eq, Nat.reduceEqDiff, Int.reduceEq, not_false_eq_true]
      exact h1
    · unfold R_ask at *
      simp only [xu_c, xu_s, xu_k, ne_eq, Nat.reduceEqDiff, Int.reduceEq, not_false_eq_true]
      exact h2
    · unfold T_lin at *
      simp only [xu_c, xu_s, xu_k, ne_eq, Nat.reduceEqDiff, Int.reduceEq, not_false_eq_true]
      exact h4
    · unfold T_rec
      simp only [xu_c, xu_s, xu_k, ne_eq, Nat.reduceEqDiff, Int.reduceEq, not_false_eq_true]
      refine ⟨r1, fun s a b => ?_, r3, by omega, fun s a b => ?_, r6⟩
      · rw [xu_k (by omega), xu_k (by omega)]
        exact r2 s a b
      · rw [xu_k (by omega)]
        exact r5 s a b
    · simp only [xu_c, xu_s, xu_k, ne_eq, Nat.reduceEqDiff, Int.reduceEq, not_false_eq_true]
      exact h6
theorem xp_23 {A : xm_Mem} {cap mark p k : Int} : x_pr1 cap mark p A k 23 = A 23 := by
  unfold x_pr1
  split
  · rw [xu_c (by omega), xo1_c (by omega)]
  · rw [xu_c (by omega), xu_c (by omega), xo1_c (by omega)]
theorem yp_k {B : xm_Mem} {p k j : Int} (h : j ≠ 24) : y_pr1 p B k 50 j = B 50 j := by
  unfold y_pr1
  rw [xu_c (by omega), xu_c (by omega), xu_c (by omega), yo_k h]
theorem T_prn {p t u cap mark : Int} {A B : xm_Mem} (h : T_all p t u 0 A B) (hc : cap = B 50 0) (hm : mark = B 50 2) : ∀ k : Nat, k ≤ A 23 3 → T_all p (t + k) (u + k) k (x_prn cap mark p A k) (y_prn p B k) ∧ x_prn cap mark p A k 23 = A 23 ∧ ∀ j : Int, j ≠ 24 → y_prn p B k 50 j = B 50 j
  | 0, _ => by
    rw [show t + ((0 : Nat) : Int) = t by omega, show u + ((0 : Nat) : Int) = u by omega]
    exact ⟨h, rfl, fun _ _ => rfl⟩
  | k + 1, hk => by
    have ih := T_prn h hc hm k (by omega)
    have := T_pr1 (cap := cap) (mark := mark) ih.1 (by rw [ih.2.1]; omega) (by rw [ih.2.2 0 (by omega)]; exact hc) (by rw [ih.2.2 2 (by omega)]; exact hm)
    rw [show t + ((k + 1 : Nat) : Int) = t + k + 1 by omega, show u + ((k + 1 : Nat) : Int) = u + k + 1 by omega, show ((k + 1 : Nat) : Int) = k + 1 by omega]
    rw [x_prn, y_prn]
    exact ⟨this, by rw [xp_23, ih.2.1], fun j hj => by rw [yp_k hj, ih.2.2 j hj]⟩
section PB
variable {d : Nat} {Q : xm_K}
theorem lo9 {p t u cap mark : Int} {A B : xm_Mem} (hT : T_all p t u 0 A B) (hc : cap = B 50 0) (hm : mark = B 50 2) {act : Nat} (ha : A 23 3 = act) (h : Q [] (x_prn cap mark p A act)) : ∀ (n k : Nat) (o4 o5 o6 : Option xm_V), k + n = act → wp9r1_10 (xm_call true (d + 3)) Q p act k o4 o5 o6 (x_prn cap mark p A k)
  | 0, k, o4, o5, o6, h0 => by
    have e : k = act := by omega
    subst e
    have a := hT.2.2.1.2.1
    exact rg9r1_10 ⟨⟨by omega, by omega⟩, fun _ => h, fun _ => by omega⟩
  | n + 1, k, o4, o5, o6, h0 => by
    have ih := fun o4 o5 o6 => lo9 hT hc hm ha h n (k + 1) o4 o5 o6 (by omega)
    have a := hT.2.2.1.2.1
    have z := T_prn (cap := cap) (mark := mark) hT hc hm k (by omega)
    have cp := T_cap z.1.1
    obtain ⟨⟨-, f2, -⟩, -, ⟨-, x2, -⟩, ⟨l1, l2, -⟩, ⟨r1, -⟩, -⟩ := z.1
    rw [z.2.2 0 (by omega)] at l1 cp
    rw [z.2.2 2 (by omega)] at cp
    have hk : k < A 23 3 := by omega
    rw [← z.2.1] at hk
    rw [x_prn] at ih
    have n0 := z.2.2 0 (by omega)
    have n2 := z.2.2 2 (by omega)
    generalize x_prn cap mark p A k = X at *
    have e9 : ∀ c : Int, 0 ≤ X 29 2 ∧ X 29 2 < 2000 := fun _ => by omega
    have see : ∀ (b : Int) (o4 o5 o6 : Option xm_V) (Y : xm_Mem), Y 23 = X 23 → wp9r1_10 (xm_call true (d + 3)) Q p act (k + 1) o4 o5 o6 (xm_up Y 26 k (2 * Y 26 k + b)) → xm_call true (d + 3) 85 [.inr (.inr 23), .inl k, .inl b] Y (fun v M2 => xm_kv (wp9r1_10 (xm_call true (d + 3)) Q p act (k + 1) o4 o5 o6 M2) v) := by
      intro b o4 o5 o6 Y hY hw
      exact sp85 (by rw [hY]; omega) (by rw [hY]; omega) (xq_kv hw)
    have tail : ∀ (s0 x5 : Int) (Y : xm_Mem) (o6 : Option xm_V), Y = x_of1 cap X 4 p → (s0 = 0 ∧ X 17 6 < mark ∨ s0 = 1 ∧ mark ≤ X 17 6) → (x5 = 1 ∧ X 17 6 < cap ∨ x5 = 0 ∧ cap ≤ X 17 6) → wp9r1_69 (xm_call true (d + 3)) Q p act k s0 x5 o6 Y := by
      intro s0 x5 Y o6 hY h1 h2
      have k26 : Y 26 = X 26 := by rw [hY]; exact xo1_c (by omega)
      have k31 : Y 31 = X 31 := by rw [hY]; exact xo1_c (by omega)
      have k23 : Y 23 = X 23 := by rw [hY]; exact xo1_c (by omega)
      have k29 : Y 29 = X 29 := by rw [hY]; exact xo1_c (by omega)
      unfold x_pr1 at ih
      rw [← hY, ← k26, ← k31] at ih
      have one : ∀ o4 o5 o6 : Option xm_V, ¬ (X 17 6 < mark ∧ X 17 6 < cap) → xm_call true (d + 3) 144 [.inr (.inr 29)] Y (fun v3 M4 => xm_kv (xm_call true (d + 3) 85 [.inr (.inr 23), .inl k, .inl 1] M4 (fun v5 M6 => xm_kv (wp9r1_10 (xm_call true (d + 3)) Q p act (k + 1) o4 o5 o6 M6) v5)) v3) := by
        intro o4 o5 o6 g
        refine sp144 (by rw [k29]; omega) (xq_kv (see 1 _ _ _ _ (by rw [xu_c (by omega), k23]) ?_))
        have := ih o4 o5 o6
        rw [if_neg g] at this
        rw [k29, r1.1, xu_c (c' := 26) (by omega)]
        exact this
      refine rg9r1_69 ⟨by omega, fun g => ⟨⟨by omega, by omega⟩, fun e => absurd rfl e, fun _ => one _ _ _ (by omega)⟩, fun g => ⟨by omega, fun g2 => ⟨⟨by omega, by omega⟩, fun _ => see 0 _ _ _ _ k23 ?_, fun e => by omega⟩, fun g2 => ⟨⟨by omega, by omega⟩, fun e => absurd rfl e, fun _ => one _ _ _ (by omega)⟩⟩⟩
      have := ih (some (.inl s0)) (some (.inl x5)) (some (.inl 0))
      rw [if_pos (by omega)] at this
      exact this
    have mid : ∀ (s0 : Int) (o4 o5 o6 : Option xm_V), (s0 = 0 ∧ X 17 6 < mark ∨ s0 = 1 ∧ mark ≤ X 17 6) → wp9r1_37 (xm_call true (d + 3)) Q p act k o4 o5 o6 s0 X := by
      intro s0 o4 o5 o6 h1
      have blk : xm_call true (d + 3) 98 [.inr (.inr 17), .inl 4, .inl p, .inl cap] X (fun v4 M5 => xm_ki (fun r6 => (xm_in r6) ∧ ((r6 ≠ 0 → wp9r1_69 (xm_call true (d + 3)) Q p act k s0 r6 o6 M5) ∧ (r6 = 0 → xm_call true (d + 3) 143 [.inr (.inr 29)] M5 (fun v7 M8 => xm_kv (wp9r1_69 (xm_call true (d + 3)) Q p act k s0 r6 o6 M8) v7)))) v4) := by
        refine sp98 (by omega) l2 (by omega) (by omega) (fun g => xq_ki (xq_b2 (tail _ _ _ _ ?_ h1 (Or.inl ⟨rfl, g⟩)))) (fun g => xq_ki (xq_b4 ?_))
        · unfold x_of1
          rw [if_pos g]
        · have e : x_no X 4 29 2 = p := by
            unfold x_no
            simp only [xu_c, xu_s, xu_k, ne_eq, Nat.reduceEqDiff, Int.reduceEq, not_false_eq_true]
            exact r1.1
          refine sp143 (by omega) (xq_kv (tail _ _ _ _ ?_ h1 (Or.inr ⟨rfl, g⟩)))
          rw [e]
          have e2 : x_no X 4 30 p = X 30 p := by
            unfold x_no
            simp only [xu_c, xu_s, xu_k, ne_eq, Nat.reduceEqDiff, Int.reduceEq, not_false_eq_true]
          rw [e2]
          unfold x_of1 x_np
          rw [if_neg (by omega)]
      rcases f2 with ⟨m1, -, t1, -⟩ | ⟨m1, -, t1, -⟩
      · refine rg9r1_37 ⟨Or.inl m1, fun _ => sp156r11 (xq_ki ?_), fun e => by omega⟩
        rw [show X 11 0 = cap by omega]
        exact blk
      · refine rg9r1_37 ⟨Or.inr m1, fun e => by omega, fun _ => sp156r14 (xq_ki ?_)⟩
        rw [show X 14 0 = cap by omega]
        exact blk
    refine rg9r1_10 ⟨⟨by omega, by omega⟩, fun _ => by omega, fun _ => sp102r17 (xq_ki ?_)⟩
    rcases f2 with ⟨m1, -, -, -, t3, -⟩ | ⟨m1, -, -, -, t3, -⟩
    · refine ⟨Or.inl m1, fun _ => sp158r11 (xq_ki ⟨⟨by omega, by omega⟩, fun g => mid 0 _ _ _ (Or.inl ⟨rfl, by omega⟩), fun g => mid 1 _ _ _ (Or.inr ⟨rfl, by omega⟩)⟩), fun e => by omega⟩
    · refine ⟨Or.inr m1, fun e => by omega, fun _ => sp158r14 (xq_ki ⟨⟨by omega, by omega⟩, fun g => mid 0 _ _ _ (Or.inl ⟨rfl, by omega⟩), fun g => mid 1 _ _ _ (Or.inr ⟨rfl, by omega⟩)⟩)⟩
theorem sp9 {p t u cap mark : Int} {A B : xm_Mem} (hT : T_all p t u 0 A B) (hc : cap = B 50 0) (hm : mark = B 50 2) (h : Q [] (x_prn cap mark p A (A 23 3).toNat)) : xm_call true (d + 4) 9 [.inr (.inr 1), .inl p] A Q := by
  have a := hT.2.2.1.2.1
  refine en9r1 (rg9r1_0 (sp71r23 (xq_ki ?_)))
  have := lo9 (d := d) (act := (A 23 3).toNat) hT hc hm (by omega) h (A 23 3).toNat 0 none none none (by omega)
  rw [show (((A 23 3).toNat : Nat) : Int) = A 23 3 by omega] at this
  exact this
theorem sp218p {s p : Int} {M : xm_Mem} (hs : 0 ≤ s ∧ s ≤ 4) (e : M 50 20 = p) (hp : 0 ≤ p ∧ p < 2000) (hw : 0 ≤ M 50 24 ∧ M 50 24 ≤ 40) (hc : 1 ≤ M 50 0 ∧ M 50 0 ≤ 40) (h1 : M 50 24 < M 50 0 → Q [.inl 0] (y_of1 M s p)) (h0 : M 50 0 ≤ M 50 24 → Q [.inl 1] (y_of1 M s p)) : xm_call true (d + 1) 218 [.inr (.inr 50), .inl s] M Q := by
  unfold y_of1 at h1 h0
  refine sp218 hs (by omega) hw hc (fun g => ?_) (fun g => ?_)
  · have := h1 g
    rw [if_pos g] at this
    rw [e]; exact this
  · have := h0 g
    rw [if_neg (by omega)] at this
    rw [e]; exact this
theorem sp219 {p t u k : Int} {A B : xm_Mem} (hT : T_all p t u k A B) (hk : 0 ≤ k ∧ k < B 50 32) (h : Q [] (y_pr1 p B k)) : xm_call true (d + 2) 219 [.inr (.inr 50), .inl k] B Q := by
  have cp := T_cap hT.1
  obtain ⟨-, -, ⟨x1, x2, -⟩, ⟨l1, l2, -⟩, ⟨r1, -⟩, -⟩ := hT
  have k69 : y_of1 B 4 p 69 = B 69 := yo_c (by omega)
  have k59 : y_of1 B 4 p 59 = B 59 := yo_c (by omega)
  have k60 : y_of1 B 4 p 60 = B 60 := by
    unfold y_of1 y_in y_np
    split
    · simp only [xu_c, xu_s, xu_k, ne_eq, Nat.reduceEqDiff, Int.reduceEq, not_false_eq_true]
    · simp only [xu_c, xu_s, xu_k, ne_eq, Nat.reduceEqDiff, Int.reduceEq, not_false_eq_true]
  have k20 : y_of1 B 4 p 50 20 = p := by rw [yo_k (by omega)]; exact r1.2.1
  have h0 : B 50 24 < B 50 2 ∧ B 50 24 < B 50 0 → Q [] (xm_up (xm_up (xm_up (y_of1 B 4 p) 69 k (2 * B 69 k + 0)) 59 p (B 59 p + 1)) 60 p (B 60 p + 0)) := fun g => by
    unfold y_pr1 x_bit at h
    rw [if_pos g] at h
    exact h
  have h1 : ¬ (B 50 24 < B 50 2 ∧ B 50 24 < B 50 0) → Q [] (xm_up (xm_up (xm_up (y_of1 B 4 p) 69 k (2 * B 69 k + 1)) 59 p (B 59 p + 1)) 60 p (B 60 p + 1)) := fun g => by
    unfold y_pr1 x_bit at h
    rw [if_neg g] at h
    exact h
  have lw : 0 ≤ B 50 24 ∧ B 50 24 ≤ 40 := by omega
  clear h
  refine en219r50 (rg219r50_0 ?_)
  (repeat' (first | (with_reducible exact True.intro) | (with_reducible refine xq_b1 ?_) | (with_reducible refine xq_b2 ?_) | (with_reducible refine xq_b3 ?_) | (with_reducible refine xq_b4 ?_) | (with_reducible refine And.intro ?_ ?_) | (with_reducible intro) | (with_reducible refine xq_ki ?_) | (with_reducible refine xq_kl ?_) | (with_reducible refine xq_kv ?_) | (with_reducible refine xq_kq ?_) | (with_reducible apply sp218p (e := r1.2.1))))
  all_goals (try rw [k20])
  all_goals (try omega)
  all_goals rw [k69, k59, k60]
  all_goals first | (refine h0 ?_; omega) | (refine h1 ?_; omega)
theorem lo223_81 {p t u : Int} {A B : xm_Mem} (hT : T_all p t u 0 A B) {act : Nat} (ha : A 23 3 = act) (h : xm_call true (d + 2) 220 [.inr (.inr 50)] (y_prn p B act) (fun v1 M2 => xm_kv (xm_call true (d + 2) 222 [.inr (.inr 50)] M2 (fun v3 M4 => xm_kv (Q [] (xm_up M4 50 20 ((M4 50 20) + 1))) v3)) v1)) : ∀ (n k : Nat) (o2 o3 : Option xm_V), k + n = act → wp223r50_81 (xm_call true (d + 2)) Q k o2 o3 (y_prn p B k)
  | 0, k, o2, o3, h0 => by
    have e : k = act := by omega
    subst e
    have x1 := hT.2.2.1.1
    have x2 := hT.2.2.1.2.1
    have z := T_prn (cap := B 50 0) (mark := B 50 2) hT rfl rfl k (by omega)
    refine rg223r50_81 ?_
    rw [z.2.2 32 (by omega)]
    exact ⟨⟨by omega, by omega⟩, fun _ => h, fun _ => by omega⟩
  | n + 1, k, o2, o3, h0 => by
    have ih := fun o2 o3 => lo223_81 hT ha h n (k + 1) o2 o3 (by omega)
    have x1 := hT.2.2.1.1
    have x2 := hT.2.2.1.2.1
    have z := T_prn (cap := B 50 0) (mark := B 50 2) hT rfl rfl k (by omega)
    rw [y_prn] at ih
    refine rg223r50_81 ?_
    have e := z.2.2 32 (by omega)
    rw [e]
    refine ⟨⟨by omega, by omega⟩, fun _ => by omega, fun _ => ?_⟩
    exact sp219 z.1 (by omega) (xq_kv (ih _ _))
end PB
