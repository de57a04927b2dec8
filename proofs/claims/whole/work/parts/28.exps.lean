/-! experiments that end -/
/-- cells a, b, e moved down by one place from k up to i -/
def x_rm (M : xm_Mem) (a b e : Nat) (k i : Int) : xm_Mem := fun c j => if (c = a ∨ c = b ∨ c = e) ∧ k ≤ j ∧ j < i then M c (j + 1) else M c j
theorem xr_c {M : xm_Mem} {a b e c : Nat} {k i : Int} (h : c ≠ a ∧ c ≠ b ∧ c ≠ e) : x_rm M a b e k i c = M c := by
  funext j
  unfold x_rm
  rw [if_neg (by omega)]
theorem xr_hi {M : xm_Mem} {a b e c : Nat} {k i j : Int} (h : i ≤ j ∨ j < k) : x_rm M a b e k i c j = M c j := by
  unfold x_rm
  rw [if_neg (by omega)]
theorem xr_lo {M : xm_Mem} {a b e c : Nat} {k i j : Int} (h : c = a ∨ c = b ∨ c = e) (h2 : k ≤ j ∧ j < i) : x_rm M a b e k i c j = M c (j + 1) := by
  unfold x_rm
  rw [if_pos ⟨h, h2⟩]
theorem xr_0 {M : xm_Mem} {a b e : Nat} {k : Int} : x_rm M a b e k k = M := by
  funext c j
  unfold x_rm
  rw [if_neg (by omega)]
theorem xu_j {M : xm_Mem} {c c' : Nat} {k k' v : Int} (h : k' ≠ k) : xm_up M c k v c' k' = M c' k' := by
  unfold xm_up
  rw [if_neg h, ite_self]
theorem xr_up {M : xm_Mem} {a b e : Nat} {k i : Int} (h : k ≤ i) : xm_up (xm_up (xm_up (x_rm M a b e k i) a i (M a (i + 1))) b i (M b (i + 1))) e i (M e (i + 1)) = x_rm M a b e k (i + 1) := by
  funext c j
  by_cases hj : j = i
  · subst hj
    by_cases h1 : c = e
    · subst h1
      rw [xu_s, xr_lo (Or.inr (Or.inr rfl)) (by omega)]
    · rw [xu_c h1]
      by_cases h2 : c = b
      · subst h2
        rw [xu_s, xr_lo (Or.inr (Or.inl rfl)) (by omega)]
      · rw [xu_c h2]
        by_cases h3 : c = a
        · subst h3
          rw [xu_s, xr_lo (Or.inl rfl) (by omega)]
        · rw [xu_c h3, xr_c (by omega), xr_c (by omega)]
  · rw [xu_j hj, xu_j hj, xu_j hj]
    by_cases hc : c = a ∨ c = b ∨ c = e
    · by_cases g : k ≤ j ∧ j < i
      · rw [xr_lo hc g, xr_lo hc (by omega)]
      · rw [xr_hi (by omega), xr_hi (by omega)]
    · rw [xr_c (by omega), xr_c (by omega)]
/-- v added in the slots from a on before b -/
def x_ad (M : xm_Mem) (a b v : Int) : xm_Mem := fun c j => if c = 28 ∧ a ≤ j ∧ j < b then M c j + v else M c j
theorem xa_c {M : xm_Mem} {c : Nat} {a b v : Int} (h : c ≠ 28) : x_ad M a b v c = M c := by
  funext j
  unfold x_ad
  rw [if_neg (by omega)]
theorem xa_in {M : xm_Mem} {a b v j : Int} (h : a ≤ j ∧ j < b) : x_ad M a b v 28 j = M 28 j + v := by
  unfold x_ad
  rw [if_pos ⟨rfl, h⟩]
theorem xa_out {M : xm_Mem} {a b v j : Int} (h : ¬ (a ≤ j ∧ j < b)) : x_ad M a b v 28 j = M 28 j := by
  unfold x_ad
  rw [if_neg (by omega)]
theorem xa_0 {M : xm_Mem} {a v : Int} : x_ad M a a v = M := by
  funext c j
  unfold x_ad
  rw [if_neg (by omega)]
theorem xa_up {M : xm_Mem} {a i v : Int} (h : a ≤ i) : xm_up (x_ad M a i v) 28 i (M 28 i + v) = x_ad M a (i + 1) v := by
  funext c j
  by_cases hc : c = 28
  · subst hc
    by_cases hj : j = i
    · subst hj
      rw [xu_s, xa_in (by omega)]
    · rw [xu_j hj]
      by_cases g : a ≤ j ∧ j < i
      · rw [xa_in g, xa_in (by omega)]
      · rw [xa_out g, xa_out (by omega)]
  · rw [xu_c hc, xa_c hc, xa_c hc]
section PX
variable {d : Nat} {Q : xm_K} {M : xm_Mem}
theorem lo90 {cs : xm_C} {k : Int} (hk : 0 ≤ k) (hn : M 23 3 < 20) (h : Q [] (x_rm M 24 25 26 k (M 23 3))) : ∀ (n : Nat) (i : Int), k ≤ i → i + n = M 23 3 → wp90r23_21 cs Q k i (x_rm M 24 25 26 k i)
  | 0, i, h0, h1 => by
    have e : i = M 23 3 := by omega
    subst e
    refine rg90r23_21 ?_
    rw [xr_c (c := 23) (by omega)]
    (repeat' (first | (with_reducible exact True.intro) | (with_reducible refine And.intro ?_ ?_) | (with_reducible intro) | (with_reducible refine xq_ki ?_) | (with_reducible refine xq_kl ?_) | (with_reducible refine xq_kv ?_) | (with_reducible refine xq_kq ?_)))
    all_goals first | omega | exact h
  | n + 1, i, h0, h1 => by
    have ih := lo90 (cs := cs) hk hn h n (i + 1) (by omega) (by omega)
    refine rg90r23_21 ?_
    rw [xr_c (c := 23) (by omega), xr_hi (c := 24) (by omega), xr_hi (c := 25) (by omega), xr_hi (c := 26) (by omega), xr_up h0]
    (repeat' (first | (with_reducible exact True.intro) | (with_reducible refine And.intro ?_ ?_) | (with_reducible intro) | (with_reducible refine xq_ki ?_) | (with_reducible refine xq_kl ?_) | (with_reducible refine xq_kv ?_) | (with_reducible refine xq_kq ?_)))
    all_goals first | omega | exact ih
theorem sp90 {k : Int} (hk : 0 ≤ k ∧ k < M 23 3) (hn : M 23 3 ≤ 20) (h : Q [] (x_rm (xm_up M 23 3 (M 23 3 - 1)) 24 25 26 k (M 23 3 - 1))) : xm_call true (d + 2) 90 [.inr (.inr 23), .inl k] M Q := by
  refine en90r23 (rg90r23_0 ?_)
  refine sp84 (by omega) (by omega) (fun _ => xq_ki ?_) (fun _ => by omega)
  refine ⟨by omega, fun _ => ?_, fun _ => by omega⟩
  have := lo90 (cs := xm_call true (d + 1)) (M := xm_up M 23 3 (M 23 3 - 1)) (Q := Q) hk.1 (by rw [xu_s]; omega) (by rw [xu_s]; exact h) (M 23 3 - 1 - k).toNat k (by omega) (by rw [xu_s]; omega)
  rw [xr_0] at this
  exact this
theorem lo221 {cs : xm_C} {k : Int} (hk : 0 ≤ k) (hn : M 50 32 < 20) (h : Q [] (x_rm M 67 68 69 k (M 50 32))) : ∀ (n : Nat) (i : Int), k ≤ i → i + n = M 50 32 → wp221r50_12 cs Q k i (x_rm M 67 68 69 k i)
  | 0, i, h0, h1 => by
    have e : i = M 50 32 := by omega
    subst e
    refine rg221r50_12 ?_
    rw [xr_c (c := 50) (by omega)]
    (repeat' (first | (with_reducible exact True.intro) | (with_reducible refine And.intro ?_ ?_) | (with_reducible intro) | (with_reducible refine xq_ki ?_) | (with_reducible refine xq_kl ?_) | (with_reducible refine xq_kv ?_) | (with_reducible refine xq_kq ?_)))
    all_goals first | omega | exact h
  | n + 1, i, h0, h1 => by
    have ih := lo221 (cs := cs) hk hn h n (i + 1) (by omega) (by omega)
    refine rg221r50_12 ?_
    rw [xr_c (c := 50) (by omega), xr_hi (c := 67) (by omega), xr_hi (c := 68) (by omega), xr_hi (c := 69) (by omega), xr_up h0]
    (repeat' (first | (with_reducible exact True.intro) | (with_reducible refine And.intro ?_ ?_) | (with_reducible intro) | (with_reducible refine xq_ki ?_) | (with_reducible refine xq_kl ?_) | (with_reducible refine xq_kv ?_) | (with_reducible refine xq_kq ?_)))
    all_goals first | omega | exact ih
theorem sp221 {k : Int} (hk : 0 ≤ k ∧ k < M 50 32) (hn : M 50 32 ≤ 20) (h : Q [] (x_rm (xm_up M 50 32 (M 50 32 - 1)) 67 68 69 k (M 50 32 - 1))) : xm_call true (d + 1) 221 [.inr (.inr 50), .inl k] M Q := by
  refine en221r50 (rg221r50_0 ?_)
  have := lo221 (cs := xm_call true d) (M := xm_up M 50 32 (M 50 32 - 1)) (Q := Q) hk.1 (by rw [xu_s]; omega) (by rw [xu_s]; exact h) (M 50 32 - 1 - k).toNat k (by omega) (by rw [xu_s]; omega)
  rw [xr_0] at this
  exact this
theorem lo80 {cs : xm_C} {a b v : Int} (hb : 0 ≤ a ∧ a ≤ b ∧ b ≤ 2003) (h : Q [] (x_ad M a b v)) : ∀ (n : Nat) (i : Int), a ≤ i → i + n = b → wp80r23_7 cs Q a b v i (x_ad M a i v)
  | 0, i, h0, h1 => by
    have e : i = b := by omega
    subst e
    refine rg80r23_7 ?_
    (repeat' (first | (with_reducible exact True.intro) | (with_reducible refine And.intro ?_ ?_) | (with_reducible intro) | (with_reducible refine xq_ki ?_) | (with_reducible refine xq_kl ?_) | (with_reducible refine xq_kv ?_) | (with_reducible refine xq_kq ?_)))
    all_goals first | omega | exact h
  | n + 1, i, h0, h1 => by
    have ih := lo80 (cs := cs) hb h n (i + 1) (by omega) (by omega)
    refine rg80r23_7 ?_
    rw [xa_out (by omega), xa_up h0]
    (repeat' (first | (with_reducible exact True.intro) | (with_reducible refine And.intro ?_ ?_) | (with_reducible intro) | (with_reducible refine xq_ki ?_) | (with_reducible refine xq_kl ?_) | (with_reducible refine xq_kv ?_) | (with_reducible refine xq_kq ?_)))
    all_goals first | omega | exact ih
theorem sp80 {a b v : Int} (hb : 0 ≤ a ∧ a ≤ b ∧ b ≤ 2003) (h : Q [] (x_ad M a b v)) : xm_call true (d + 1) 80 [.inr (.inr 23), .inl a, .inl b, .inl v] M Q := by
  refine en80r23 (rg80r23_0 ⟨by omega, ?_⟩)
  rw [if_neg (by omega)]
  have := lo80 (cs := xm_call true d) hb h (b - a).toNat a (by omega) (by omega)
  rw [xa_0] at this
  exact this
end PX
/-! what is due when one of the experiments is taken out -/
theorem due_lo {bg kd bg2 kd2 : Int → Int} {s : Int} : ∀ (n : Nat), (∀ j : Int, 0 ≤ j → j < n → bg2 j = bg j ∧ kd2 j = kd j) → x_due bg2 kd2 s n = x_due bg kd s n
  | 0, _ => rfl
  | n + 1, h => by
    have e := h n (by omega) (by omega)
    rw [x_due, x_due, due_lo n (fun j a b => h j a (by omega)), e.1, e.2]
theorem due_rm {bg kd bg2 kd2 : Int → Int} {s : Int} : ∀ (n k : Nat), k ≤ n → (∀ j : Int, 0 ≤ j → j < n → (j < k → bg2 j = bg j ∧ kd2 j = kd j) ∧ ((k : Int) ≤ j → bg2 j = bg (j + 1) ∧ kd2 j = kd (j + 1))) → x_due bg kd s (n + 1) = x_due bg2 kd2 s n + if bg k ≤ s ∧ s < bg k + kd k then 1 else 0
  | 0, k, hk, h => by
    have e : k = 0 := by omega
    subst e
    rw [x_due]
    rfl
  | n + 1, k, hk, h => by
    by_cases e : k = n + 1
    · subst e
      rw [x_due, due_lo (n + 1) (fun j a b => (h j a b).1 b)]
    · have ih := due_rm (s := s) n k (by omega) (fun j a b => h j a (by omega))
      have g := (h n (by omega) (by omega)).2 (by omega)
      rw [x_due, ih, x_due, g.1, g.2]
      have e2 : ((n + 1 : Nat) : Int) = (n : Int) + 1 := by omega
      rw [e2]
      omega
theorem x_sum_mono {f g : Int → Int} : ∀ (n : Nat) (a : Int), (∀ s : Int, a ≤ s → s < a + n → f s ≤ g s) → x_sum f a n ≤ x_sum g a n
  | 0, _, _ => Int.le_refl _
  | n + 1, a, h => by
    have := x_sum_mono n a (fun s h0 h1 => h s h0 (by omega))
    have := h (a + n) (by omega) (by omega)
    rw [x_sum, x_sum]
    omega
section PY
theorem R_exp_rm {p w b act actM k : Int} {kd bg bt kdM bgM btM pr prM kd2 bg2 bt2 kdM2 bgM2 btM2 pr2 : Int → Int} (h : R_exp p w b act actM kd bg bt kdM bgM btM pr prM) (hp : 0 ≤ p ∧ p ≤ 2000) (hw : 1 ≤ w) (hk : 0 ≤ k ∧ k < act)
    (s1 : ∀ j : Int, (k ≤ j → j < act - 1 → kd2 j = kd (j + 1) ∧ bg2 j = bg (j + 1) ∧ bt2 j = bt (j + 1) ∧ kdM2 j = kdM (j + 1) ∧ bgM2 j = bgM (j + 1) ∧ btM2 j = btM (j + 1)) ∧ (j < k → kd2 j = kd j ∧ bg2 j = bg j ∧ bt2 j = bt j ∧ kdM2 j = kdM j ∧ bgM2 j = bgM j ∧ btM2 j = btM j))
    (s2 : ∀ s : Int, pr2 s = if p ≤ s ∧ s < bg k + kd k then pr s - 1 else pr s) : R_exp p w b (act - 1) (actM - 1) kd2 bg2 bt2 kdM2 bgM2 btM2 pr2 prM := by
  obtain ⟨e1, e2, e3, e4, e5, e6, e7, e8⟩ := h
  have gk := e4 k hk.1 hk.2
  have hdue : ∀ s : Int, p ≤ s → x_due bg kd s act.toNat = x_due bg2 kd2 s (act - 1).toNat + if s < bg k + kd k then 1 else 0 := by
    intro s hs
    have := due_rm (bg := bg) (kd := kd) (bg2 := bg2) (kd2 := kd2) (s := s) (act - 1).toNat k.toNat (by omega) (fun j a b => by
      have := s1 j
      refine ⟨fun h => ?_, fun h => ?_⟩
      · have := this.2 (by omega)
        exact ⟨this.2.1, this.1⟩
      · have := this.1 (by omega) (by omega)
        exact ⟨this.2.1, this.1⟩)
    rw [show (act - 1).toNat + 1 = act.toNat by omega, show ((k.toNat : Nat) : Int) = k by omega] at this
    rw [this]
    have e : (bg k ≤ s ∧ s < bg k + kd k) ↔ s < bg k + kd k := by omega
    simp only [e]
  have hnn : ∀ (n : Nat) (s : Int), 0 ≤ x_due bg2 kd2 s n := by
    intro n s
    induction n with
    | zero => exact Int.le_refl 0
    | succ n ih =>
      rw [x_due]
      split <;> omega
  refine ⟨by omega, by omega, by omega, fun j h0 h1 => ?_, fun s h0 h1 => ?_, fun s h0 h1 => ?_, fun s h0 h1 => ?_, fun a h0 h1 => ?_⟩
  · have g1 := s1 j
    by_cases hj : j < k
    · have g2 := g1.2 hj
      have g3 := e4 j h0 (by omega)
      rw [g2.1, g2.2.1, g2.2.2.1, g2.2.2.2.1, g2.2.2.2.2.1, g2.2.2.2.2.2]
      exact g3
    · have g2 := g1.1 (by omega) h1
      have g3 := e4 (j + 1) (by omega) (by omega)
      rw [g2.1, g2.2.1, g2.2.2.1, g2.2.2.2.1, g2.2.2.2.2.1, g2.2.2.2.2.2]
      exact g3
  · rw [s2, if_neg (by omega)]
    exact e5 s h0 h1
  · have a1 := e6 s h0 h1
    rw [s2]
    split
    · rename_i hs
      have a2 := e7 s hs.1 h1
      have a3 := hdue s hs.1
      have a4 := hnn (act - 1).toNat s
      rw [if_pos hs.2] at a3
      omega
    · exact a1
  · have a2 := e7 s h0 h1
    have a3 := hdue s h0
    rw [s2]
    split
    · rename_i hs
      rw [if_pos hs.2] at a3
      omega
    · rename_i hs
      rw [if_neg (by omega)] at a3
      omega
  · have a1 := e8 a h0 h1
    have a2 := x_sum_mono (f := pr2) (g := pr) w.toNat a (fun s _ _ => by
      rw [s2]
      split <;> omega)
    omega
variable {d : Nat} {Q : xm_K} {M : xm_Mem}
theorem sp89 {k p : Int} (hk : 0 ≤ k ∧ k < M 23 3) (hn : M 23 3 ≤ 20) (hp : 0 ≤ p ∧ p ≤ M 25 k + M 24 k ∧ M 25 k + M 24 k ≤ 2003) (h : Q [.inl (p - M 25 k)] (xm_up (x_rm (xm_up (x_ad M p (M 25 k + M 24 k) (-1)) 23 3 (M 23 3 - 1)) 24 25 26 k (M 23 3 - 1)) 23 10 (M 23 10 + 1))) : xm_call true (d + 3) 89 [.inr (.inr 23), .inl k, .inl p] M Q := by
  refine en89r23 (rg89r23_0 ?_)
  refine sp87 (by omega) hk (xq_ki ?_)
  refine sp86 (by omega) hk (xq_ki ?_)
  refine sp80 hp (xq_kv ?_)
  refine sp90 ?_ ?_ (xq_kv ?_)
  · rw [xa_c (by omega)]; exact hk
  · rw [xa_c (by omega)]; exact hn
  · simp only [xa_c, xr_c, xu_c, xu_s, xu_k, ne_eq, Nat.reduceEqDiff, Int.reduceEq, not_false_eq_true, and_self]
    exact h
theorem pr_breaks {x : Int} (hx : xm_in x) : R_pair 12 227 [.inl x] := by
  intro M hR
  obtain ⟨c1, c2, c3, hE, hA, c6, c7, c8, c9⟩ := id hR
  obtain ⟨r1, r2, r3, -⟩ := id c3
  obtain ⟨a1, a2, a3, a4, a5, a6, a7⟩ := id hA
  obtain ⟨e1, e2, e3, e4, -⟩ := id hE
  have e4 := e4 x
  have hw : 1 ≤ M 50 4 := by
    rcases c2 with ⟨-, -, -, -, -, -, g, -⟩ | ⟨-, -, -, -, -, -, g, -⟩
    · omega
    · omega
  refine en12r1 (rg12r1_0 ?_)
  (repeat' (first | (with_reducible exact True.intro) | (with_reducible refine xq_b1 ?_) | (with_reducible refine xq_b2 ?_) | (with_reducible refine xq_b3 ?_) | (with_reducible refine xq_b4 ?_) | (with_reducible refine And.intro ?_ ?_) | (with_reducible intro) | (with_reducible refine xq_ki ?_) | (with_reducible refine xq_kl ?_) | (with_reducible refine xq_kv ?_) | (with_reducible refine xq_kq ?_) | (with_reducible apply sp84) | (with_reducible apply sp140r29) | (with_reducible apply sp89)))
  all_goals try omega
  all_goals refine en227r50 (rg227r50_0 ?_)
  all_goals simp only [xa_c, xr_c, xu_c, xu_s, xu_k, ne_eq, Nat.reduceEqDiff, Int.reduceEq, not_false_eq_true, and_self]
  all_goals (repeat' (first | (with_reducible exact True.intro) | (with_reducible refine xq_b1 ?_) | (with_reducible refine xq_b2 ?_) | (with_reducible refine xq_b3 ?_) | (with_reducible refine xq_b4 ?_) | (with_reducible refine And.intro ?_ ?_) | (with_reducible intro) | (with_reducible refine xq_ki ?_) | (with_reducible refine xq_kl ?_) | (with_reducible refine xq_kv ?_) | (with_reducible refine xq_kq ?_) | (with_reducible apply sp193)))
  all_goals (try omega)
  all_goals first | exact xq_I rfl hR | skip
  refine sp221 ?_ ?_ (xq_kv ?_)
  · simp only [xa_c, xr_c, xu_c, xu_s, xu_k, ne_eq, Nat.reduceEqDiff, Int.reduceEq, not_false_eq_true, and_self]; omega
  · simp only [xa_c, xr_c, xu_c, xu_s, xu_k, ne_eq, Nat.reduceEqDiff, Int.reduceEq, not_false_eq_true, and_self]; omega
  simp only [xa_c, xr_c, xu_c, xu_s, xu_k, ne_eq, Nat.reduceEqDiff, Int.reduceEq, not_false_eq_true, and_self]
  refine xq_I (by omega) ?_
  unfold R_all R_rt
  simp only [xa_c, xr_c, xu_c, xu_s, xu_k, ne_eq, Nat.reduceEqDiff, Int.reduceEq, not_false_eq_true, and_self]
  refine ⟨c1, c2, c3, R_exp_rm hE ⟨r2, r3⟩ hw (by omega) (k := x) (fun j => ⟨fun h0 h1 => ?_, fun h0 => ?_⟩) (fun s => ?_), ?_, c6, c7, c8, c9⟩
  · rw [xr_lo (by omega) (by omega), xr_lo (by omega) (by omega), xr_lo (by omega) (by omega), xr_lo (by omega) (by omega), xr_lo (by omega) (by omega), xr_lo (by omega) (by omega)]
    simp only [xa_c, xr_c, xu_c, xu_s, xu_k, ne_eq, Nat.reduceEqDiff, Int.reduceEq, not_false_eq_true, and_self]
  · rw [xr_hi (by omega), xr_hi (by omega), xr_hi (by omega), xr_hi (by omega), xr_hi (by omega), xr_hi (by omega)]
    simp only [xa_c, xr_c, xu_c, xu_s, xu_k, ne_eq, Nat.reduceEqDiff, Int.reduceEq, not_false_eq_true, and_self]
  · by_cases g : M 29 2 ≤ s ∧ s < M 25 x + M 24 x
    · rw [xa_in g, if_pos g]; omega
    · rw [xa_out g, if_neg g]
  · unfold R_ask
    simp only [xa_c, xr_c, xu_c, xu_s, xu_k, ne_eq, Nat.reduceEqDiff, Int.reduceEq, not_false_eq_true, and_self]
    exact ⟨a1, a2, a3, a4, a5, a6, by omega⟩
end PY
