/-! a slot: experiments end -/
def x_cm1 (p : Int) (A : xm_Mem) (k : Int) : xm_Mem := if A 25 k + A 24 k - 1 = p then x_rm (xm_up (if A 24 k = 2 then xm_up A 35 (A 26 k) (A 35 (A 26 k) + 1) else xm_up A 36 (A 26 k) (A 36 (A 26 k) + 1)) 23 3 (A 23 3 - 1)) 24 25 26 k (A 23 3 - 1) else A
def y_cm1 (p : Int) (B : xm_Mem) (k : Int) : xm_Mem := if B 68 k + B 67 k - 1 = p then x_rm (xm_up (if B 67 k = 2 then xm_up B 71 (0 + B 69 k) (B 71 (0 + B 69 k) + 1) else xm_up B 71 (4 + B 69 k) (B 71 (4 + B 69 k) + 1)) 50 32 (B 50 32 - 1)) 67 68 69 k (B 50 32 - 1) else B
/-- from the place n - 1 down -/
def x_cmn (p : Int) : Nat → xm_Mem → xm_Mem
  | 0, A => A
  | n + 1, A => x_cmn p n (x_cm1 p A n)
def y_cmn (p : Int) : Nat → xm_Mem → xm_Mem
  | 0, B => B
  | n + 1, B => y_cmn p n (y_cm1 p B n)
def T_pat (b : Int) (pa tr ct : Int → Int) : Prop :=
  (∀ k : Int, 0 ≤ k → k < 4 → pa k = ct k ∧ 0 ≤ pa k ∧ pa k ≤ b) ∧ ∀ k : Int, 0 ≤ k → k < 8 → tr k = ct (4 + k) ∧ 0 ≤ tr k ∧ tr k ≤ b
/-- experiments from k on that go on -/
def T_cex (p k : Int) (A B : xm_Mem) : Prop :=
  A 23 3 = B 50 32 ∧ (0 ≤ A 23 3 ∧ A 23 3 ≤ 20) ∧ (∀ j : Int, 0 ≤ j → j < A 23 3 → A 24 j = B 67 j ∧ A 25 j = B 68 j ∧ A 26 j = B 69 j ∧ (A 24 j = 2 ∨ A 24 j = 3) ∧ 0 ≤ A 25 j ∧ A 25 j ≤ p ∧ p < A 25 j + A 24 j ∧ (k ≤ j → p + 1 < A 25 j + A 24 j) ∧ 0 ≤ A 26 j ∧ A 26 j < x_p2 (p - A 25 j + 1)) ∧
  (∀ s : Int, 0 ≤ s → s ≤ p → A 28 s = B 59 s) ∧ (∀ s : Int, 0 ≤ s → s < 2003 → 0 ≤ A 28 s ∧ A 28 s ≤ 20) ∧ (∀ s : Int, p < s → s < 2003 → A 28 s = x_due (A 25) (A 24) s (A 23 3).toNat) ∧
  (∀ a : Int, 0 ≤ a → a + B 50 4 ≤ 2003 → x_sum (A 28) a (B 50 4).toNat ≤ B 50 3)
/-- in the midst of it: those from k on are gone through; b: the most that a count may be -/
def T_com (p t u k b : Int) (A B : xm_Mem) : Prop := T_fix A B ∧ R_ask (A 23) (B 50) (A 27) (B 70) ∧ T_cex p k A B ∧ T_lin p (B 50 0) 0 A B ∧ T_rec p t u A B ∧ T_pat b (A 35) (A 36) (B 71)
theorem due_all {bg kd : Int → Int} {s : Int} : ∀ n : Nat, (∀ j : Int, 0 ≤ j → j < n → bg j ≤ s ∧ s < bg j + kd j) → x_due bg kd s n = n
  | 0, _ => rfl
  | n + 1, h => by
    rw [x_due, due_all n (fun j a b => h j a (by omega)), if_pos (h n (by omega) (by omega))]
    omega
theorem T_com_of {p t u : Int} {A B : xm_Mem} (h : T_all p t u (A 23 3) A B) : T_com p t u (A 23 3) (20 * p) A B := by
  obtain ⟨h1, h2, ⟨e1, e2, e3, e4, e5, e6, e7, e8⟩, h4, h5, h6⟩ := h
  have hp := h5.1.2.2
  refine ⟨h1, h2, ⟨e1, e2, fun j a b => ?_, fun s a b => ?_, e6, fun s a b => e7 s (by omega) b, e8⟩, h4, h5, h6⟩
  · have g := e3 j a b
    rw [if_pos b] at g
    omega
  · by_cases e : s = p
    · subst e
      rw [e5, e7 s (by omega) (by omega), due_all _ (fun j a b => ?_)]
      · omega
      · have g := e3 j a (by omega)
        omega
    · exact e4 s a (by omega)
theorem T_cm1 {p t u k b : Int} {A B : xm_Mem} (h : T_com p t u (k + 1) b A B) (hk : 0 ≤ k ∧ k < A 23 3) : T_com p t u k (b + 1) (x_cm1 p A k) (y_cm1 p B k) ∧ k ≤ x_cm1 p A k 23 3 := by
  have cp := T_cap h.1
  obtain ⟨h1, h2, ⟨e1, e2, e3, e4, e6, e7, e8⟩, h4, h5, h6, h7⟩ := h
  have hp := h5.1.2.2
  have gk := e3 k hk.1 hk.2
  have p2 : A 26 k < 8 ∧ (A 24 k = 2 → p = A 25 k + A 24 k - 1 → A 26 k < 4) := by
    have g := gk
    simp only [x_p2] at g
    omega
  unfold x_cm1 y_cm1
  rw [← gk.1, ← gk.2.1, ← gk.2.2.1]
  by_cases c : A 25 k + A 24 k - 1 = p
  · rw [if_pos c, if_pos c]
    have hdue : ∀ (s : Int) (bg2 kd2 : Int → Int), p < s → (∀ j : Int, 0 ≤ j → j < A 23 3 - 1 → (j < k → bg2 j = A 25 j ∧ kd2 j = A 24 j) ∧ (k ≤ j → bg2 j = A 25 (j + 1) ∧ kd2 j = A 24 (j + 1))) → x_due (A 25) (A 24) s (A 23 3).toNat = x_due bg2 kd2 s (A 23 3 - 1).toNat := by
      intro s bg2 kd2 hs hj
      have := due_rm (bg := A 25) (kd := A 24) (bg2 := bg2) (kd2 := kd2) (s := s) (A 23 3 - 1).toNat k.toNat (by omega) (fun j a b => by
        have := hj j a (by omega)
        exact ⟨fun q => this.1 (by omega), fun q => this.2 (by omega)⟩)
      rw [show (A 23 3 - 1).toNat + 1 = (A 23 3).toNat by omega, show ((k.toNat : Nat) : Int) = k by omega, if_neg (by omega)] at this
      omega
    have body : ∀ A' B' : xm_Mem, (∀ c : Nat, c ≠ 35 → c ≠ 36 → A' c = A c) → (∀ c : Nat, c ≠ 71 → B' c = B c) → T_pat (b + 1) (A' 35) (A' 36) (B' 71) → T_com p t u k (b + 1) (x_rm (xm_up A' 23 3 (A 23 3 - 1)) 24 25 26 k (A 23 3 - 1)) (x_rm (xm_up B' 50 32 (B 50 32 - 1)) 67 68 69 k (B 50 32 - 1)) ∧ k ≤ x_rm (xm_up A' 23 3 (A 23 3 - 1)) 24 25 26 k (A 23 3 - 1) 23 3 := by
      intro A' B' hA hB hP
      have ka : ∀ c : Nat, c ≠ 23 → c ≠ 24 → c ≠ 25 → c ≠ 26 → c ≠ 35 → c ≠ 36 → x_rm (xm_up A' 23 3 (A 23 3 - 1)) 24 25 26 k (A 23 3 - 1) c = A c := fun c q1 q2 q3 q4 q5 q6 => by
        rw [xr_c ⟨q2, q3, q4⟩, xu_c q1, hA c q5 q6]
      have kb : ∀ c : Nat, c ≠ 50 → c ≠ 67 → c ≠ 68 → c ≠ 69 → c ≠ 71 → x_rm (xm_up B' 50 32 (B 50 32 - 1)) 67 68 69 k (B 50 32 - 1) c = B c := fun c q1 q2 q3 q4 q5 => by
        rw [xr_c ⟨q2, q3, q4⟩, xu_c q1, hB c q5]
      have k5 : ∀ j : Int, j ≠ 32 → x_rm (xm_up B' 50 32 (B 50 32 - 1)) 67 68 69 k (B 50 32 - 1) 50 j = B 50 j := fun j q => by
        rw [xr_c (by omega), xu_k q, hB 50 (by omega)]
      have k2 : ∀ j : Int, j ≠ 3 → x_rm (xm_up A' 23 3 (A 23 3 - 1)) 24 25 26 k (A 23 3 - 1) 23 j = A 23 j := fun j q => by
        rw [xr_c (by omega), xu_k q, hA 23 (by omega) (by omega)]
      have k53 : x_rm (xm_up B' 50 32 (B 50 32 - 1)) 67 68 69 k (B 50 32 - 1) 50 32 = B 50 32 - 1 := by
        rw [xr_c (by omega), xu_s]
      have k23 : x_rm (xm_up A' 23 3 (A 23 3 - 1)) 24 25 26 k (A 23 3 - 1) 23 3 = A 23 3 - 1 := by
        rw [xr_c (by omega), xu_s]
      have k35 : x_rm (xm_up A' 23 3 (A 23 3 - 1)) 24 25 26 k (A 23 3 - 1) 35 = A' 35 := by rw [xr_c (by omega), xu_c (by omega)]
      have k36 : x_rm (xm_up A' 23 3 (A 23 3 - 1)) 24 25 26 k (A 23 3 - 1) 36 = A' 36 := by rw [xr_c (by omega), xu_c (by omega)]
      have k71 : x_rm (xm_up B' 50 32 (B 50 32 - 1)) 67 68 69 k (B 50 32 - 1) 71 = B' 71 := by rw [xr_c (by omega), xu_c (by omega)]
      have sA : ∀ c : Nat, c = 24 ∨ c = 25 ∨ c = 26 → ∀ j : Int, (k ≤ j ∧ j < A 23 3 - 1 → x_rm (xm_up A' 23 3 (A 23 3 - 1)) 24 25 26 k (A 23 3 - 1) c j = A c (j + 1)) ∧ (j < k → x_rm (xm_up A' 23 3 (A 23 3 - 1)) 24 25 26 k (A 23 3 - 1) c j = A c j) := fun c hc j => by
        refine ⟨fun q => ?_, fun q => ?_⟩
        · rw [xr_lo hc q, xu_c (by omega), hA c (by omega) (by omega)]
        · rw [xr_hi (by omega), xu_c (by omega), hA c (by omega) (by omega)]
      have sB : ∀ c : Nat, c = 67 ∨ c = 68 ∨ c = 69 → ∀ j : Int, (k ≤ j ∧ j < B 50 32 - 1 → x_rm (xm_up B' 50 32 (B 50 32 - 1)) 67 68 69 k (B 50 32 - 1) c j = B c (j + 1)) ∧ (j < k → x_rm (xm_up B' 50 32 (B 50 32 - 1)) 67 68 69 k (B 50 32 - 1) c j = B c j) := fun c hc j => by
        refine ⟨fun q => ?_, fun q => ?_⟩
        · rw [xr_lo hc q, xu_c (by omega), hB c (by omega)]
        · rw [xr_hi (by omega), xu_c (by omega), hB c (by omega)]
      rw [← k35, ← k36, ← k71] at hP
      generalize x_rm (xm_up A' 23 3 (A 23 3 - 1)) 24 25 26 k (A 23 3 - 1) = X at *
      generalize x_rm (xm_up B' 50 32 (B 50 32 - 1)) 67 68 69 k (B 50 32 - 1) = Y at *
      refine ⟨⟨?_, ?_, ?_, ?_, ?_, hP⟩, by omega⟩
      · unfold T_fix T_rt R_rtA at *
        rw [ka 1 (by omega) (by omega) (by omega) (by omega) (by omega) (by omega), ka 2 (by omega) (by omega) (by omega) (by omega) (by omega) (by omega), ka 3 (by omega) (by omega) (by omega) (by omega) (by omega) (by omega), ka 11 (by omega) (by omega) (by omega) (by omega) (by omega) (by omega), ka 12 (by omega) (by omega) (by omega) (by omega) (by omega) (by omega), ka 13 (by omega) (by omega) (by omega) (by omega) (by omega) (by omega), ka 14 (by omega) (by omega) (by omega) (by omega) (by omega) (by omega), ka 15 (by omega) (by omega) (by omega) (by omega) (by omega) (by omega), ka 16 (by omega) (by omega) (by omega) (by omega) (by omega) (by omega), ka 37 (by omega) (by omega) (by omega) (by omega) (by omega) (by omega), ka 38 (by omega) (by omega) (by omega) (by omega) (by omega) (by omega), ka 39 (by omega) (by omega) (by omega) (by omega) (by omega) (by omega), ka 40 (by omega) (by omega) (by omega) (by omega) (by omega) (by omega)]
        rw [kb 51 (by omega) (by omega) (by omega) (by omega) (by omega), kb 52 (by omega) (by omega) (by omega) (by omega) (by omega), kb 53 (by omega) (by omega) (by omega) (by omega) (by omega), kb 72 (by omega) (by omega) (by omega) (by omega) (by omega), kb 75 (by omega) (by omega) (by omega) (by omega) (by omega), kb 76 (by omega) (by omega) (by omega) (by omega) (by omega)]
        rw [k5 0 (by omega), k5 1 (by omega), k5 2 (by omega), k5 3 (by omega), k5 4 (by omega), k5 5 (by omega), k5 9 (by omega), k5 48 (by omega)]
        exact h1
      · unfold R_ask at *
        rw [k2 5 (by omega), k2 6 (by omega), k2 7 (by omega), k2 8 (by omega), k2 9 (by omega), k2 10 (by omega), ka 27 (by omega) (by omega) (by omega) (by omega) (by omega) (by omega), kb 70 (by omega) (by omega) (by omega) (by omega) (by omega), k5 36 (by omega), k5 37 (by omega), k5 38 (by omega), k5 39 (by omega), k5 41 (by omega), k5 42 (by omega)]
        exact h2
      · unfold T_cex
        rw [k23, k53, k5 3 (by omega), k5 4 (by omega), ka 28 (by omega) (by omega) (by omega) (by omega) (by omega) (by omega), kb 59 (by omega) (by omega) (by omega) (by omega) (by omega)]
        refine ⟨by omega, by omega, fun j a c => ?_, e4, e6, fun s a c => ?_, e8⟩
        · by_cases q : j < k
          · have g := e3 j a (by omega)
            rw [(sA 24 (by omega) j).2 q, (sA 25 (by omega) j).2 q, (sA 26 (by omega) j).2 q, (sB 67 (by omega) j).2 q, (sB 68 (by omega) j).2 q, (sB 69 (by omega) j).2 q]
            refine ⟨g.1, g.2.1, g.2.2.1, g.2.2.2.1, g.2.2.2.2.1, g.2.2.2.2.2.1, g.2.2.2.2.2.2.1, fun _ => by omega, g.2.2.2.2.2.2.2.2⟩
          · have g := e3 (j + 1) (by omega) (by omega)
            rw [(sA 24 (by omega) j).1 (by omega), (sA 25 (by omega) j).1 (by omega), (sA 26 (by omega) j).1 (by omega), (sB 67 (by omega) j).1 (by omega), (sB 68 (by omega) j).1 (by omega), (sB 69 (by omega) j).1 (by omega)]
            refine ⟨g.1, g.2.1, g.2.2.1, g.2.2.2.1, g.2.2.2.2.1, g.2.2.2.2.2.1, g.2.2.2.2.2.2.1, fun _ => g.2.2.2.2.2.2.2.1 (by omega), g.2.2.2.2.2.2.2.2⟩
        · rw [e7 s a c]
          exact hdue s _ _ a (fun j q1 q2 => ⟨fun q => ⟨(sA 25 (by omega) j).2 q, (sA 24 (by omega) j).2 q⟩, fun q => ⟨(sA 25 (by omega) j).1 (by omega), (sA 24 (by omega) j).1 (by omega)⟩⟩)
      · unfold T_lin at *
        rw [ka 17 (by omega) (by omega) (by omega) (by omega) (by omega) (by omega), ka 18 (by omega) (by omega) (by omega) (by omega) (by omega) (by omega), ka 19 (by omega) (by omega) (by omega) (by omega) (by omega) (by omega), ka 20 (by omega) (by omega) (by omega) (by omega) (by omega) (by omega), ka 21 (by omega) (by omega) (by omega) (by omega) (by omega) (by omega), ka 22 (by omega) (by omega) (by omega) (by omega) (by omega) (by omega)]
        rw [kb 62 (by omega) (by omega) (by omega) (by omega) (by omega), kb 63 (by omega) (by omega) (by omega) (by omega) (by omega), kb 64 (by omega) (by omega) (by omega) (by omega) (by omega), kb 65 (by omega) (by omega) (by omega) (by omega) (by omega), kb 66 (by omega) (by omega) (by omega) (by omega) (by omega)]
        rw [k5 0 (by omega), k5 24 (by omega), k5 30 (by omega), k5 31 (by omega)]
        exact h4
      · unfold T_rec at *
        rw [ka 29 (by omega) (by omega) (by omega) (by omega) (by omega) (by omega), ka 30 (by omega) (by omega) (by omega) (by omega) (by omega) (by omega), ka 31 (by omega) (by omega) (by omega) (by omega) (by omega) (by omega), ka 32 (by omega) (by omega) (by omega) (by omega) (by omega) (by omega), ka 33 (by omega) (by omega) (by omega) (by omega) (by omega) (by omega)]
        rw [kb 60 (by omega) (by omega) (by omega) (by omega) (by omega), kb 61 (by omega) (by omega) (by omega) (by omega) (by omega), k5 20 (by omega)]
        exact h5
    by_cases c2 : A 24 k = 2
    · rw [if_pos c2, if_pos c2]
      refine body _ _ (fun c q1 q2 => xu_c q1) (fun c q => xu_c q) ?_
      have q4 := p2.2 c2 c.symm
      unfold T_pat
      simp only [xu_c, xu_s, xu_k, ne_eq, Nat.reduceEqDiff, Int.reduceEq, not_false_eq_true, Int.zero_add]
      have g := h6 (A 26 k) (by omega) (by omega)
      refine ⟨fun j a e => ?_, fun j a e => ?_⟩
      · have g2 := h6 j a e
        by_cases q : j = A 26 k
        · subst q
          rw [xu_s, xu_s]
          omega
        · rw [xu_k q, xu_k q]
          omega
      · have g2 := h7 j a e
        rw [xu_k (by omega)]
        omega
    · rw [if_neg c2, if_neg c2]
      refine body _ _ (fun c q1 q2 => xu_c q2) (fun c q => xu_c q) ?_
      unfold T_pat
      simp only [xu_c, xu_s, xu_k, ne_eq, Nat.reduceEqDiff, Int.reduceEq, not_false_eq_true]
      have g := h7 (A 26 k) (by omega) (by omega)
      refine ⟨fun j a e => ?_, fun j a e => ?_⟩
      · have g2 := h6 j a e
        rw [xu_k (by omega)]
        omega
      · have g2 := h7 j a e
        by_cases q : j = A 26 k
        · subst q
          rw [xu_s, xu_s]
          omega
        · rw [xu_k q, xu_k (by omega)]
          omega
  · rw [if_neg c, if_neg c]
    refine ⟨⟨h1, h2, ⟨e1, e2, fun j a b => ?_, e4, e6, e7, e8⟩, h4, h5, fun j a q => ?_, fun j a q => ?_⟩, by omega⟩
    · have g := e3 j a b
      refine ⟨g.1, g.2.1, g.2.2.1, g.2.2.2.1, g.2.2.2.2.1, g.2.2.2.2.2.1, g.2.2.2.2.2.2.1, fun q => ?_, g.2.2.2.2.2.2.2.2⟩
      by_cases e : j = k
      · subst e; omega
      · exact g.2.2.2.2.2.2.2.1 (by omega)
    · have := h6 j a q
      omega
    · have := h7 j a q
      omega
theorem T_cmn {p t u : Int} : ∀ (n : Nat) (b : Int) (A B : xm_Mem), T_com p t u n b A B → n ≤ A 23 3 → T_com p t u 0 (b + n) (x_cmn p n A) (y_cmn p n B)
  | 0, b, A, B, h, _ => by
    rw [show b + ((0 : Nat) : Int) = b by omega]
    exact h
  | n + 1, b, A, B, h, hn => by
    have z := T_cm1 (k := n) (by rw [show ((n : Int) + 1) = ((n + 1 : Nat) : Int) by omega]; exact h) (by omega)
    have := T_cmn n (b + 1) _ _ z.1 z.2
    rw [show b + ((n + 1 : Nat) : Int) = b + 1 + n by omega]
    exact this
section CO
variable {d : Nat} {Q : xm_K}
theorem sp112 {A : xm_Mem} {x y : Int} (hx : x = 2 ∧ 0 ≤ y ∧ y < 4 ∨ x = 3 ∧ 0 ≤ y ∧ y < 8) (h : Q [] (if x = 2 then xm_up A 35 y (A 35 y + 1) else xm_up A 36 y (A 36 y + 1))) : xm_call true (d + 1) 112 [.inr (.inr 34), .inl x, .inl y, .inr (.inl 1)] A Q := by
  refine en112r34 (rg112r34_0 ?_)
  by_cases c : x = 2
  · rw [if_pos c] at h
    (repeat' (first | (with_reducible exact True.intro) | (with_reducible refine And.intro ?_ ?_) | (with_reducible intro) | (with_reducible refine xq_ki ?_) | (with_reducible refine xq_kl ?_) | (with_reducible refine xq_kv ?_) | (with_reducible refine xq_kq ?_)))
    all_goals first | omega | exact h
  · rw [if_neg c] at h
    (repeat' (first | (with_reducible exact True.intro) | (with_reducible refine And.intro ?_ ?_) | (with_reducible intro) | (with_reducible refine xq_ki ?_) | (with_reducible refine xq_kl ?_) | (with_reducible refine xq_kv ?_) | (with_reducible refine xq_kq ?_)))
    all_goals first | omega | exact h
theorem lo91 {p t u : Int} (hp : 0 ≤ p ∧ p < 2000) : ∀ (n : Nat) (b : Int) (A B : xm_Mem), T_com p t u n b A B → n ≤ A 23 3 → Q [] (x_cmn p n A) → wp91r23r34_7 (xm_call true (d + 3)) Q p ((n : Int) - 1) A
  | 0, b, A, B, h, _, hq => by
    exact rg91r23r34_7 ⟨by omega, fun _ => hq, fun _ => by omega⟩
  | n + 1, b, A, B, h, hn, hq => by
    have z := T_cm1 (k := n) (by rw [show ((n : Int) + 1) = ((n + 1 : Nat) : Int) by omega]; exact h) (by omega)
    rw [x_cmn] at hq
    have ih := lo91 hp n (b + 1) _ _ z.1 z.2 hq
    have e := h.2.2.1.2.1
    have gk := h.2.2.1.2.2.1 n (by omega) (by omega)
    have p2 : A 26 n < 8 ∧ (A 24 n = 2 → p = A 25 n + A 24 n - 1 → A 26 n < 4) := by
      have g := gk
      simp only [x_p2] at g
      omega
    rw [show ((n + 1 : Nat) : Int) - 1 = n by omega]
    unfold x_cm1 at ih
    refine rg91r23r34_7 ⟨by omega, fun _ => by omega, fun _ => ?_⟩
    refine sp87 (by omega) (by omega) (xq_ki (sp86 (by omega) (by omega) (xq_ki ⟨⟨by omega, by omega⟩, fun c => ?_, fun c => ?_⟩)))
    · rw [if_pos c] at ih
      refine sp86 (by omega) (by omega) (xq_ki (sp88 (by omega) (by omega) (xq_ki (sp112 (by omega) (xq_kv ?_)))))
      have k23 : ∀ X : xm_Mem, X = (if A 24 n = 2 then xm_up A 35 (A 26 n) (A 35 (A 26 n) + 1) else xm_up A 36 (A 26 n) (A 36 (A 26 n) + 1)) → X 23 3 = A 23 3 := fun X hX => by
        rw [hX]
        split <;> rw [xu_c (by omega)]
      generalize hX : (if A 24 n = 2 then xm_up A 35 (A 26 n) (A 35 (A 26 n) + 1) else xm_up A 36 (A 26 n) (A 36 (A 26 n) + 1)) = X at *
      have k23 := k23 X rfl
      refine sp90 (by omega) (by omega) (xq_kv ?_)
      rw [k23, show (n : Int) + (-1) = n - 1 by omega]
      exact ih
    · rw [if_neg c] at ih
      rw [show (n : Int) + (-1) = n - 1 by omega]
      exact ih
theorem sp91 {p t u b : Int} {A B : xm_Mem} (hT : T_com p t u (A 23 3) b A B) (h : Q [] (x_cmn p (A 23 3).toNat A)) : xm_call true (d + 4) 91 [.inr (.inr 23), .inl p, .inr (.inr 34)] A Q := by
  have e := hT.2.2.1.2.1
  refine en91r23r34 (rg91r23r34_0 ?_)
  have := lo91 (d := d) (p := p) (t := t) (u := u) hT.2.2.2.2.1.1.2.2 (A 23 3).toNat b A B (by rw [show (((A 23 3).toNat : Nat) : Int) = A 23 3 by omega]; exact hT) (by omega) h
  rw [show (((A 23 3).toNat : Nat) : Int) = A 23 3 by omega] at this
  exact this
theorem lo222 {p t u : Int} (hp : 0 ≤ p ∧ p < 2000) : ∀ (n : Nat) (b : Int) (A B : xm_Mem), T_com p t u n b A B → n ≤ A 23 3 → Q [] (y_cmn p n B) → wp222r50_7 (xm_call true (d + 1)) Q ((n : Int) - 1) B
  | 0, b, A, B, h, _, hq => by
    exact rg222r50_7 ⟨by omega, fun _ => hq, fun _ => by omega⟩
  | n + 1, b, A, B, h, hn, hq => by
    have z := T_cm1 (k := n) (by rw [show ((n : Int) + 1) = ((n + 1 : Nat) : Int) by omega]; exact h) (by omega)
    rw [y_cmn] at hq
    have ih := lo222 hp n (b + 1) _ _ z.1 z.2 hq
    have e0 := h.2.2.1.1
    have e := h.2.2.1.2.1
    have gk := h.2.2.1.2.2.1 n (by omega) (by omega)
    have r1 := h.2.2.2.2.1.1.2.1
    have p2 : A 26 n < 8 ∧ (A 24 n = 2 → p = A 25 n + A 24 n - 1 → A 26 n < 4) := by
      have g := gk
      simp only [x_p2] at g
      omega
    rw [show ((n + 1 : Nat) : Int) - 1 = n by omega]
    unfold y_cm1 at ih
    refine rg222r50_7 ⟨by omega, fun _ => by omega, fun _ => ⟨by omega, by omega, ⟨by omega, by omega⟩, fun c => ?_, fun c => ⟨by omega, ⟨by omega, by omega⟩, fun c2 => ⟨by omega, by omega, by omega, ?_⟩, fun c2 => ⟨by omega, by omega, by omega, ?_⟩⟩⟩⟩
    · rw [if_neg (by omega)] at ih
      rw [show (n : Int) + (-1) = n - 1 by omega]
      exact ih
    · rw [if_pos (by omega), if_neg c2] at ih
      refine sp221 (by rw [xu_c (by omega)]; omega) (by rw [xu_c (by omega)]; omega) (xq_kv ?_)
      rw [xu_c (c' := 50) (by omega), show (n : Int) + (-1) = n - 1 by omega]
      exact ih
    · rw [if_pos (by omega), if_pos c2] at ih
      refine sp221 (by rw [xu_c (by omega)]; omega) (by rw [xu_c (by omega)]; omega) (xq_kv ?_)
      rw [xu_c (c' := 50) (by omega), show (n : Int) + (-1) = n - 1 by omega]
      exact ih
theorem sp222 {p t u b : Int} {A B : xm_Mem} (hT : T_com p t u (A 23 3) b A B) (h : Q [] (y_cmn p (A 23 3).toNat B)) : xm_call true (d + 2) 222 [.inr (.inr 50)] B Q := by
  have e0 := hT.2.2.1.1
  have e := hT.2.2.1.2.1
  refine en222r50 (rg222r50_0 ?_)
  have := lo222 (d := d) (p := p) (t := t) (u := u) hT.2.2.2.2.1.1.2.2 (A 23 3).toNat b A B (by rw [show (((A 23 3).toNat : Nat) : Int) = A 23 3 by omega]; exact hT) (by omega) h
  rw [show (((A 23 3).toNat : Nat) : Int) = B 50 32 by omega] at this
  exact this
end CO
