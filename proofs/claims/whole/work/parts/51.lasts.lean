/-! lasts -/
def x_fk (n : Nat) (w : Nat → Nat → Int) (L f : Nat → Int) : Nat → Nat → Int
  | 0 => f
  | k + 1 => x_mv n w L 1 (x_fk n w L f k)
def x_bt (T : Int) : Nat → Int
  | 0 => T
  | k + 1 => x_bt T k * 12
theorem lc_g {a g : Int} : (xm_lc a g ≤ 0 ↔ a ≤ g) ∧ xm_in (xm_lc a g) := by
  unfold xm_lc
  constructor
  · constructor
    · intro h
      split at h
      · omega
      · split at h
        · omega
        · omega
    · intro h
      split
      · omega
      · split
        · omega
        · omega
  · split
    · exact ⟨by omega, by omega⟩
    · split
      · exact ⟨by omega, by omega⟩
      · exact ⟨by omega, by omega⟩
theorem fk_nn {n : Nat} {w : Nat → Nat → Int} {L f : Nat → Int} (hw : ∀ a b : Nat, a < n → b < n → 0 ≤ w a b) (hf : ∀ t : Nat, 0 ≤ f t) : ∀ (k : Nat) (t : Nat), 0 ≤ x_fk n w L f k t
  | 0, t => hf t
  | k + 1, t => by
    rw [x_fk]
    unfold x_mv
    split
    · refine x_s_nn 5 (fun a _ => Int.mul_nonneg (fk_nn hw hf k a) ?_)
      unfold x_W
      split
      · rename_i g; exact hw a t g.1 g.2
      · exact Int.le_refl 0
    · exact Int.le_refl 0
theorem fk_sum {n : Nat} {w : Nat → Nat → Int} {L f : Nat → Int} (hn : n ≤ 5) (hr : ∀ i : Nat, i < n → x_s (w i) n = 12) (hw : ∀ a b : Nat, a < n → b < n → 0 ≤ w a b) (hf : ∀ t : Nat, 0 ≤ f t) : ∀ k : Nat, 0 ≤ x_s (x_fk n w L f k) 5 ∧ x_s (x_fk n w L f k) 5 ≤ x_bt (x_s f 5) k
  | 0 => ⟨x_s_nn 5 (fun t _ => hf t), Int.le_refl _⟩
  | k + 1 => by
    have ih := fk_sum hn hr hw hf k (L := L)
    have m := mv_sum (L := L) (bit := 1) (f := x_fk n w L f k) hn hr hw (fk_nn hw hf k)
    rw [x_fk, x_bt]
    omega
section LA
variable {d : Nat} {Q : xm_K} {M : xm_Mem} {n : Nat} {w : Nat → Nat → Int} {L : Nat → Int}
theorem lo37 {f : Nat → Int} {N : Nat} {y T : Int} (hN : 1 ≤ N ∧ N ≤ 40) (hy : xm_in y) (hT : 0 < T ∧ T < 9223372036854775808) (hU : ∀ k : Nat, 0 ≤ x_s (x_fk n w L f k) 5 ∧ x_s (x_fk n w L f k) 5 ≤ x_bt T k) (h1 : (∀ k : Nat, k + 1 < N → x_bt T k ≤ 768614336404564650) → ∀ P : xm_Mem, x_but [42, 43] M P → Q [.inr (.inl (x_part (x_s (x_fk n w L f (N - 1)) 5) (x_bt T (N - 1)) y))] P) (h0 : ¬ (∀ k : Nat, k + 1 < N → x_bt T k ≤ 768614336404564650) → ∀ P : xm_Mem, x_but [42, 43] M P → Q [.inr (.inl (-6))] P) (hc : x_cw M n w) (hL : x_Lc M L) : ∀ (m k : Nat) (P : xm_Mem), k + m + 1 = N → x_but [42, 43] M P → (∀ t : Nat, t < 5 → P 42 t = x_fk n w L f k t) → (0 < x_bt T k ∧ x_bt T k < 9223372036854775808) → (∀ j : Nat, j < k → x_bt T j ≤ 768614336404564650) → wp37r1_64 (xm_call true (d + 4)) Q N y (x_bt T k) ((k : Int) + 1) P
  | 0, k, P, e0, hb, hP, hk, hj => by
    have e : N - 1 = k := by omega
    rw [e] at h1
    have u := hU k
    refine rg37r1_64 ⟨⟨by omega, by omega⟩, fun _ => ?_, fun _ => by omega⟩
    refine sp65 (f := x_fk n w L f k) hP (xq_kl (sp29 (by omega) (by omega) hy (xq_kl ?_)))
    exact h1 (fun j q => hj j (by omega)) P hb
  | m + 1, k, P, e0, hb, hP, hk, hj => by
    have l := lc_g (a := x_bt T k) (g := 768614336404564650)
    refine rg37r1_64 ⟨⟨by omega, by omega⟩, fun _ => by omega, fun _ => ⟨⟨⟨by omega, by omega⟩, by omega⟩, l.2, fun g => ?_, fun g => ?_⟩⟩
    · have g2 := l.1.1 g
      refine sp63 (f := x_fk n w L f k) (cw_but hc hb (by decide) (by decide)) (Lc_but hL hb (by decide)) (Or.inr rfl) hP (fun P2 hb2 hP2 => xq_kv ?_)
      have := lo37 hN hy hT hU h1 h0 hc hL m (k + 1) P2 (by omega) (but_tr hb hb2) hP2 (by rw [x_bt]; omega) (fun j q => by
        by_cases e : j = k
        · rw [e]; exact g2
        · exact hj j (by omega))
      rw [x_bt, show ((k + 1 : Nat) : Int) + 1 = (k : Int) + 1 + 1 by omega] at this
      exact this
    · refine h0 (fun q => ?_) P hb
      have := q k (by omega)
      have := l.1.2 this
      omega
/-- the reference's memory but for shares and scratch -/
def y_bt2 (M N : xm_Mem) : Prop := (∀ c : Nat, c < 79 ∨ 80 < c → N c = M c)
theorem bt2_tr {M N P : xm_Mem} (h1 : y_bt2 M N) (h2 : y_bt2 N P) : y_bt2 M P := fun c hc => (h2 c hc).trans (h1 c hc)
theorem bt2_up {M N : xm_Mem} {c : Nat} {k v : Int} (h : y_bt2 M N) (hc : c = 79 ∨ c = 80) : y_bt2 M (xm_up N c k v) := fun c' hc' => by
  rw [xu_c (by omega)]
  exact h c' hc'
theorem lo267_22 {cs : xm_C} {S : Nat → Int} {t : Nat} {x1 : Int} (hc : y_cw M n w) (hL : y_Lc M n L) (hS : ∀ t : Nat, t < n → M 77 t = S t) (ht : t < n) (h : ∀ N : xm_Mem, y_bt2 M N → (∀ j : Int, j ≠ t → N 79 j = M 79 j) → N 79 t = x_mv n w L 1 (x_b0 L 0 S) t → ∀ o, wp267r50_4 cs Q (x1 + N 79 t) ((t : Int) + 1) o N) : ∀ (m k : Nat) (N : xm_Mem), k + m = n → y_bt2 M N → (∀ j : Int, j ≠ t → N 79 j = M 79 j) → N 79 t = (if L t = 1 then x_s (fun a => x_b0 L 0 S a * w a t) k else 0) → wp267r50_22 cs Q x1 t k N
  | 0, k, N, e0, hb, hj, hN => by
    have e : k = n := by omega
    subst e
    have c1 := hc.1
    have c2 := hc.2.1
    have e48 : N 50 48 = k := by rw [hb 50 (by omega)]; exact c1
    rw [← mv_eq c2 ht] at hN
    exact rg267r50_22 ⟨⟨by omega, by omega⟩, fun _ => ⟨by omega, h N hb hj hN _⟩, fun _ => by omega⟩
  | m + 1, k, N, e0, hb, hj, hN => by
    have ih := fun N => lo267_22 (cs := cs) (x1 := x1) hc hL hS ht h m (k + 1) N (by omega)
    have c1 := hc.1
    have c2 := hc.2.1
    have e48 : N 50 48 = n := by rw [hb 50 (by omega)]; exact c1
    have l := hL t ht
    have l2 := hL k (by omega)
    have c3 := hc.2.2 k t (by omega) ht
    have s := hS k (by omega)
    rw [← hb 75 (by omega)] at l l2
    rw [← hb 76 (by omega)] at c3
    rw [← hb 77 (by omega)] at s
    refine rg267r50_22 ⟨⟨by omega, by omega⟩, fun _ => by omega, fun _ => ⟨by omega, by omega, fun g => ⟨by omega, ?_⟩, fun g => ⟨by omega, by omega, by omega, fun g2 => ⟨by omega, by omega, by omega, by omega, ?_⟩, fun g2 => ⟨by omega, ?_⟩⟩⟩⟩
    · refine h N hb hj ?_ _
      rw [hN, mv_eq c2 ht, if_neg (by omega), if_neg (by omega)]
    · have e1 : L t = 1 := by omega
      rw [if_pos e1] at hN
      refine ih _ (bt2_up hb (by omega)) (fun j q => ?_) ?_
      · rw [xu_k q]; exact hj j q
      · rw [xu_s, if_pos e1, x_s, hN, c3.1, s]
        have e2 : x_b0 L 0 S k = S k := by unfold x_b0; rw [if_pos (by omega)]
        rw [e2]
    · have e1 : L t = 1 := by omega
      rw [if_pos e1] at hN
      refine ih _ (bt2_up hb (by omega)) (fun j q => ?_) ?_
      · rw [xu_k q]; exact hj j q
      · rw [xu_s, if_pos e1, x_s, hN]
        have e2 : x_b0 L 0 S k = 0 := by unfold x_b0; rw [if_neg (by omega)]
        rw [e2, Int.zero_mul]
theorem lo267_4 {cs : xm_C} {S : Nat → Int} (hc : y_cw M n w) (hL : y_Lc M n L) (hS : ∀ t : Nat, t < n → M 77 t = S t) (h : ∀ N : xm_Mem, y_bt2 M N → (∀ t : Nat, t < n → N 79 t = x_mv n w L 1 (x_b0 L 0 S) t) → Q [.inr (.inl (x_X2 n w L S 0 1))] N) : ∀ (m k : Nat) (N : xm_Mem) (o : Option xm_V), k + m = n → y_bt2 M N → (∀ t : Nat, t < k → N 79 t = x_mv n w L 1 (x_b0 L 0 S) t) → wp267r50_4 cs Q (x_s (x_mv n w L 1 (x_b0 L 0 S)) k) k o N
  | 0, k, N, o, e0, hb, hN => by
    have e : k = n := by omega
    subst e
    have c1 := hc.1
    have c2 := hc.2.1
    have e48 : N 50 48 = k := by rw [hb 50 (by omega)]; exact c1
    refine rg267r50_4 ⟨⟨by omega, by omega⟩, fun _ => ?_, fun _ => by omega⟩
    have e : x_s (x_mv k w L 1 (x_b0 L 0 S)) k = x_X2 k w L S 0 1 := (x_s_ext 5 c2 (fun j a _ => mv_0 a)).symm
    rw [e]
    exact h N hb hN
  | m + 1, k, N, o, e0, hb, hN => by
    have ih := fun N o => lo267_4 (cs := cs) hc hL hS h m (k + 1) N o (by omega)
    have c1 := hc.1
    have c2 := hc.2.1
    have e48 : N 50 48 = n := by rw [hb 50 (by omega)]; exact c1
    have hcN : y_cw N n w := by unfold y_cw; rw [hb 50 (by omega), hb 76 (by omega)]; exact hc
    have hLN : y_Lc N n L := by unfold y_Lc; rw [hb 75 (by omega)]; exact hL
    have hSN : ∀ t : Nat, t < n → N 77 t = S t := by rw [hb 77 (by omega)]; exact hS
    refine rg267r50_4 ⟨⟨by omega, by omega⟩, fun _ => by omega, fun _ => ⟨by omega, ?_⟩⟩
    refine lo267_22 (M := xm_up N 79 k 0) (cs := cs) (t := k) (L := L) (S := S) (w := w) (n := n) ?_ ?_ ?_ (by omega) (fun N2 hb2 hj hN2 o => ?_) n 0 (xm_up N 79 k 0) (by omega) (fun _ _ => rfl) (fun _ _ => rfl) (by rw [xu_s]; split <;> rfl)
    · unfold y_cw; rw [xu_c (by omega), xu_c (by omega)]; exact hcN
    · unfold y_Lc; rw [xu_c (by omega)]; exact hLN
    · rw [xu_c (by omega)]; exact hSN
    · have := ih N2 o (bt2_tr (bt2_up hb (by omega)) hb2) (fun t ht => by
        by_cases e : t = k
        · rw [e]; exact hN2
        · rw [hj t (by omega), xu_k (by omega)]; exact hN t (by omega))
      rw [x_s, ← hN2] at this
      exact this
theorem sp267 {S : Nat → Int} (hc : y_cw M n w) (hL : y_Lc M n L) (hS : ∀ t : Nat, t < n → M 77 t = S t) (h : ∀ N : xm_Mem, y_bt2 M N → (∀ t : Nat, t < n → N 79 t = x_mv n w L 1 (x_b0 L 0 S) t) → Q [.inr (.inl (x_X2 n w L S 0 1))] N) : xm_call true (d + 1) 267 [.inr (.inr 50)] M Q := by
  refine en267r50 (rg267r50_0 ?_)
  exact lo267_4 hc hL hS h n 0 M none (by omega) (fun _ _ => rfl) (fun t ht => by omega)
theorem lo268_77 {cs : xm_C} {g : Nat → Int} {o2 : Option xm_V} (hn : n ≤ 5) (h48 : M 50 48 = n) (hg : ∀ t : Nat, t < n → M 80 t = g t) (h : ∀ N : xm_Mem, y_bt2 M N → (∀ t : Nat, t < n → N 79 t = g t) → Q [] N) : ∀ (m k : Nat) (N : xm_Mem), k + m = n → (∀ c : Nat, c ≠ 79 → N c = M c) → (∀ t : Nat, t < k → N 79 t = g t) → wp268r50_77 cs Q k o2 N
  | 0, k, N, e0, hb, hN => by
    have e : k = n := by omega
    subst e
    have e48 : N 50 48 = k := by rw [hb 50 (by omega)]; exact h48
    exact rg268r50_77 ⟨⟨by omega, by omega⟩, fun _ => h N (fun c hc => hb c (by omega)) hN, fun _ => by omega⟩
  | m + 1, k, N, e0, hb, hN => by
    have e48 : N 50 48 = n := by rw [hb 50 (by omega)]; exact h48
    refine rg268r50_77 ⟨⟨by omega, by omega⟩, fun _ => by omega, fun _ => ⟨by omega, by omega, ?_⟩⟩
    refine lo268_77 hn h48 hg h m (k + 1) _ (by omega) (fun c hc => ?_) (fun t ht => ?_)
    · rw [xu_c hc]; exact hb c hc
    · by_cases e : t = k
      · rw [e, xu_s, hb 80 (by omega)]; exact hg k (by omega)
      · rw [xu_k (by omega)]; exact hN t (by omega)
theorem lo268_19 {cs : xm_C} {f : Nat → Int} {t : Nat} (hc : y_cw M n w) (hL : y_Lc M n L) (hf : ∀ t : Nat, t < n → M 79 t = f t) (ht : t < n) (h : ∀ N : xm_Mem, (∀ c : Nat, c ≠ 80 → N c = M c) → (∀ j : Int, j ≠ t → N 80 j = M 80 j) → N 80 t = x_mv n w L 1 f t → ∀ o, wp268r50_2 cs Q ((t : Int) + 1) o N) : ∀ (m k : Nat) (N : xm_Mem), k + m = n → (∀ c : Nat, c ≠ 80 → N c = M c) → (∀ j : Int, j ≠ t → N 80 j = M 80 j) → N 80 t = (if L t = 1 then x_s (fun a => f a * w a t) k else 0) → wp268r50_19 cs Q t k N
  | 0, k, N, e0, hb, hj, hN => by
    have e : k = n := by omega
    subst e
    have c1 := hc.1
    have c2 := hc.2.1
    have e48 : N 50 48 = k := by rw [hb 50 (by omega)]; exact c1
    rw [← mv_eq c2 ht] at hN
    exact rg268r50_19 ⟨⟨by omega, by omega⟩, fun _ => h N hb hj hN _, fun _ => by omega⟩
  | m + 1, k, N, e0, hb, hj, hN => by
    have ih := fun N => lo268_19 (cs := cs) hc hL hf ht h m (k + 1) N (by omega)
    have c1 := hc.1
    have c2 := hc.2.1
    have e48 : N 50 48 = n := by rw [hb 50 (by omega)]; exact c1
    have l := hL t ht
    have c3 := hc.2.2 k t (by omega) ht
    have s := hf k (by omega)
    rw [← hb 75 (by omega)] at l
    rw [← hb 76 (by omega)] at c3
    rw [← hb 79 (by omega)] at s
    refine rg268r50_19 ⟨⟨by omega, by omega⟩, fun _ => by omega, fun _ => ⟨by omega, by omega, fun g => ?_, fun g => ⟨by omega, by omega, by omega, by omega, by omega, ?_⟩⟩⟩
    · refine h N hb hj ?_ _
      rw [hN, mv_eq c2 ht, if_neg (by omega), if_neg (by omega)]
    · have e1 : L t = 1 := by omega
      rw [if_pos e1] at hN
      refine ih _ (fun c q => ?_) (fun j q => ?_) ?_
      · rw [xu_c q]; exact hb c q
      · rw [xu_k q]; exact hj j q
      · rw [xu_s, if_pos e1, x_s, hN, c3.1, s]
theorem lo268_2 {cs : xm_C} {f : Nat → Int} (hc : y_cw M n w) (hL : y_Lc M n L) (hf : ∀ t : Nat, t < n → M 79 t = f t) (h : ∀ N : xm_Mem, y_bt2 M N → (∀ t : Nat, t < n → N 79 t = x_mv n w L 1 f t) → Q [] N) : ∀ (m k : Nat) (N : xm_Mem) (o : Option xm_V), k + m = n → (∀ c : Nat, c ≠ 80 → N c = M c) → (∀ t : Nat, t < k → N 80 t = x_mv n w L 1 f t) → wp268r50_2 cs Q k o N
  | 0, k, N, o, e0, hb, hN => by
    have e : k = n := by omega
    subst e
    have c1 := hc.1
    have c2 := hc.2.1
    have e48 : N 50 48 = k := by rw [hb 50 (by omega)]; exact c1
    refine rg268r50_2 ⟨⟨by omega, by omega⟩, fun _ => ?_, fun _ => by omega⟩
    refine lo268_77 (M := N) (g := x_mv k w L 1 f) c2 e48 hN (fun N2 hb2 hN2 => ?_) k 0 N (by omega) (fun _ _ => rfl) (fun t ht => by omega)
    exact h N2 (fun c hc => by rw [hb2 c hc]; exact hb c (by omega)) hN2
  | m + 1, k, N, o, e0, hb, hN => by
    have ih := fun N o => lo268_2 (cs := cs) hc hL hf h m (k + 1) N o (by omega)
    have c1 := hc.1
    have c2 := hc.2.1
    have e48 : N 50 48 = n := by rw [hb 50 (by omega)]; exact c1
    have hcN : y_cw N n w := by unfold y_cw; rw [hb 50 (by omega), hb 76 (by omega)]; exact hc
    have hLN : y_Lc N n L := by unfold y_Lc; rw [hb 75 (by omega)]; exact hL
    have hfN : ∀ t : Nat, t < n → N 79 t = f t := by rw [hb 79 (by omega)]; exact hf
    refine rg268r50_2 ⟨⟨by omega, by omega⟩, fun _ => by omega, fun _ => ⟨by omega, ?_⟩⟩
    refine lo268_19 (M := xm_up N 80 k 0) (cs := cs) (t := k) (L := L) (f := f) (w := w) (n := n) ?_ ?_ ?_ (by omega) (fun N2 hb2 hj hN2 o => ?_) n 0 (xm_up N 80 k 0) (by omega) (fun _ _ => rfl) (fun _ _ => rfl) (by rw [xu_s]; split <;> rfl)
    · unfold y_cw; rw [xu_c (by omega), xu_c (by omega)]; exact hcN
    · unfold y_Lc; rw [xu_c (by omega)]; exact hLN
    · rw [xu_c (by omega)]; exact hfN
    · refine ih N2 o (fun c q => ?_) (fun t ht => ?_)
      · rw [hb2 c q, xu_c q]; exact hb c q
      · by_cases e : t = k
        · rw [e]; exact hN2
        · rw [hj t (by omega), xu_k (by omega)]; exact hN t (by omega)
theorem sp268 {f : Nat → Int} (hc : y_cw M n w) (hL : y_Lc M n L) (hf : ∀ t : Nat, t < n → M 79 t = f t) (h : ∀ N : xm_Mem, y_bt2 M N → (∀ t : Nat, t < n → N 79 t = x_mv n w L 1 f t) → Q [] N) : xm_call true (d + 1) 268 [.inr (.inr 50)] M Q := by
  refine en268r50 (rg268r50_0 ?_)
  exact lo268_2 hc hL hf h n 0 M none (by omega) (fun _ _ => rfl) (fun t ht => by omega)
theorem lo269_111 {f : Nat → Int} {x1 y T : Int} (hn : n ≤ 5) (h48 : M 50 48 = n) (hf : ∀ t : Nat, t < n → M 79 t = f t) (hU : 0 ≤ x_s f n ∧ x_s f n ≤ T) (hT : 0 < T ∧ T < 9223372036854775808) (hy : xm_in y) (h : Q [.inr (.inl (x_part (x_s f n) T y))] M) : ∀ (m k : Nat), k + m = n → wp269r50_111 (xm_call true (d + 2)) Q x1 y T (x_s f k) k M
  | 0, k, e0 => by
    have e : k = n := by omega
    subst e
    exact rg269r50_111 ⟨⟨by omega, by omega⟩, fun _ => sp245 (by omega) hT hy (xq_kl h), fun _ => by omega⟩
  | m + 1, k, e0 => by
    have ih := lo269_111 (x1 := x1) hn h48 hf hU hT hy h m (k + 1) (by omega)
    rw [x_s, ← hf k (by omega)] at ih
    exact rg269r50_111 ⟨⟨by omega, by omega⟩, fun _ => by omega, fun _ => ⟨by omega, ih⟩⟩
theorem lo269_89 {f : Nat → Int} {N : Nat} {y T : Int} (hN : 1 ≤ N ∧ N ≤ 40) (hc : y_cw M n w) (hL : y_Lc M n L) (hU : 0 ≤ x_s (x_fk n w L f (N - 1)) n ∧ x_s (x_fk n w L f (N - 1)) n ≤ T) (hT : 0 < T ∧ T < 9223372036854775808) (hy : xm_in y) (h : ∀ P : xm_Mem, y_bt2 M P → Q [.inr (.inl (x_part (x_s (x_fk n w L f (N - 1)) n) T y))] P) : ∀ (m k : Nat) (P : xm_Mem), k + m + 1 = N → y_bt2 M P → (∀ t : Nat, t < n → P 79 t = x_fk n w L f k t) → wp269r50_89 (xm_call true (d + 2)) Q N y T ((k : Int) + 1) P
  | 0, k, P, e0, hb, hP => by
    have e : N - 1 = k := by omega
    rw [e] at h hU
    have c2 := hc.2.1
    have e48 : P 50 48 = n := by rw [hb 50 (by omega)]; exact hc.1
    refine rg269r50_89 ⟨⟨by omega, by omega⟩, fun _ => ?_, fun _ => by omega⟩
    exact lo269_111 (x1 := N) (f := x_fk n w L f k) c2 e48 hP hU hT hy (h P hb) n 0 (by omega)
  | m + 1, k, P, e0, hb, hP => by
    have hcP : y_cw P n w := by unfold y_cw; rw [hb 50 (by omega), hb 76 (by omega)]; exact hc
    have hLP : y_Lc P n L := by unfold y_Lc; rw [hb 75 (by omega)]; exact hL
    refine rg269r50_89 ⟨⟨by omega, by omega⟩, fun _ => by omega, fun _ => ?_⟩
    refine sp268 (f := x_fk n w L f k) hcP hLP hP (fun P2 hb2 hP2 => xq_kv ?_)
    have := lo269_89 hN hc hL hU hT hy h m (k + 1) P2 (by omega) (bt2_tr hb hb2) hP2
    rw [show ((k + 1 : Nat) : Int) + 1 = (k : Int) + 1 + 1 by omega] at this
    exact this
theorem lo269_56 {N : Nat} {y T : Int} (hN : 1 ≤ N ∧ N ≤ 40) (h1 : (∀ k : Nat, k + 1 < N → x_bt T k ≤ 768614336404564650) → 0 < x_bt T (N - 1) ∧ x_bt T (N - 1) < 9223372036854775808 → wp269r50_89 (xm_call true (d + 2)) Q N y (x_bt T (N - 1)) 1 M) (h0 : ¬ (∀ k : Nat, k + 1 < N → x_bt T k ≤ 768614336404564650) → Q [.inr (.inl (-6))] M) : ∀ (m k : Nat), k + m + 1 = N → (0 < x_bt T k ∧ x_bt T k < 9223372036854775808) → (∀ j : Nat, j < k → x_bt T j ≤ 768614336404564650) → wp269r50_56 (xm_call true (d + 2)) Q N y (x_bt T k) ((k : Int) + 1) M
  | 0, k, e0, hk, hj => by
    have e : N - 1 = k := by omega
    rw [e] at h1
    exact rg269r50_56 ⟨⟨by omega, by omega⟩, fun _ => h1 (fun j q => hj j (by omega)) hk, fun _ => by omega⟩
  | m + 1, k, e0, hk, hj => by
    have l := lc_g (a := x_bt T k) (g := 768614336404564650)
    refine rg269r50_56 ⟨⟨by omega, by omega⟩, fun _ => by omega, fun _ => ⟨⟨⟨by omega, by omega⟩, by omega⟩, l.2, fun g => ?_, fun g => ?_⟩⟩
    · have g2 := l.1.1 g
      have := lo269_56 hN h1 h0 m (k + 1) (by omega) (by rw [x_bt]; omega) (fun j q => by
        by_cases e : j = k
        · rw [e]; exact g2
        · exact hj j (by omega))
      rw [x_bt, show ((k + 1 : Nat) : Int) + 1 = (k : Int) + 1 + 1 by omega] at this
      exact this
    · refine h0 (fun q => ?_)
      have := l.1.2 (q k (by omega))
      omega
theorem pr_lasts {x y : Int} (hx : xm_in x) (hy : xm_in y) : R_pair 37 269 [.inl x, .inl y] := by
  intro M hR
  obtain ⟨n, w, L, hc, hcy, hL, hLy⟩ := ch_of hR
  have c1 := hc.1
  have c2 := hc.2.1
  have hw : ∀ a b : Nat, a < n → b < n → 0 ≤ w a b := fun a b ha hb => (hc.2.2 a b ha hb).2.1
  have hw2 : ∀ a b : Nat, a < n → b < n → 0 ≤ w a b ∧ w a b ≤ 12 := fun a b ha hb => (hc.2.2 a b ha hb).2
  by_cases g1 : 1 ≤ x ∧ x ≤ 40
  · have ref0 : ∀ (N2 : xm_Mem) (R : xm_K), (y = 0 ∨ y = 1 → xm_call true 10 257 [.inr (.inr 50)] N2 (fun v7 M8 => xm_ki (fun r9 => (xm_in r9) ∧ ((r9 ≠ 0 → xm_call true 10 260 [.inr (.inr 50)] M8 (fun v10 M11 => xm_kv (xm_call true 10 267 [.inr (.inr 50)] M11 (fun v12 M13 => xm_kl (fun r14 => (xm_inL r14 ∧ xm_inL 0) ∧ (xm_in (xm_lc r14 0)) ∧ (((xm_lc r14 0) ≠ 0 → wp269r50_56 (xm_call true 10) R x y r14 1 M13) ∧ ((xm_lc r14 0) = 0 → R [.inr (.inl (-4))] M13))) v12)) v10)) ∧ (r9 = 0 → R [.inr (.inl (-3))] M8))) v7)) → (¬ (y = 0 ∨ y = 1) → R [.inr (.inl (-1))] N2) → xm_call true 11 269 [.inr (.inr 50), .inl x, .inl y] N2 R := by
      intro N2 R h1 h0
      refine en269r50 (rg269r50_0 (sp193 hx (by omega) (by omega) (fun _ => xq_ki (xq_n1 ?_)) (fun g => by omega)))
      exact sp193 hy (by omega) (by omega) (fun g => xq_ki (xq_b2 (h1 (by omega)))) (fun g => xq_ki (xq_b4 (h0 (by omega))))
    refine en37r1 (rg37r1_0 ⟨⟨by omega, by omega⟩, fun _ => by omega, fun _ => ⟨⟨by omega, by omega⟩, fun _ => by omega, fun _ => ?_⟩⟩)
    by_cases g2 : y = 0 ∨ y = 1
    · refine sp28 hy (fun _ => xq_ki (xq_b2 ?_)) (fun g => absurd g2 g)
      by_cases g3 : x_Snd n w
      · refine sp50 hc (fun _ => xq_ki (xq_b2 ?_)) (fun g => absurd g3 g)
        obtain ⟨q1, q2, q3, q4⟩ := sh_sum c2 g3 hw
        refine sp54 hc g3 (fun N hb hN => xq_kv ?_)
        have hcN := cw_but hc hb (by decide) (by decide)
        have hLN := Lc_but hL hb (by decide)
        have X := (X_bd (n := n) (w := w) (L := L) (S := x_sh n w) (b0 := 0) (b1 := 1) (b2 := 1) q4 hw2).1
        have l := lc_z (a := x_X2 n w L (x_sh n w) 0 1) X.1
        refine sp67 (S := x_sh n w) hcN hLN hN (fun N2 hb2 hN2 => xq_kl ?_)
        have hb3 := but_tr (but_mono hb (L' := [41, 42, 43, 44, 46, 47]) (by decide)) (but_mono hb2 (by decide))
        have ex : x = (x.toNat : Int) := by omega
        have f0 : ∀ t : Nat, 0 ≤ x_mv n w L 1 (x_b0 L 0 (x_sh n w)) t := fun t => (mv_bd (L := L) (bit := 1) (c := 20736) (by omega) (b0_bd (L := L) (bit := 0) (by omega) q4) hw2 t).1
        have U := fk_sum (L := L) (f := x_mv n w L 1 (x_b0 L 0 (x_sh n w))) c2 g3.2.1 hw f0
        have fn : ∀ k : Nat, x_s (x_fk n w L (x_mv n w L 1 (x_b0 L 0 (x_sh n w))) k) 5 = x_s (x_fk n w L (x_mv n w L 1 (x_b0 L 0 (x_sh n w))) k) n := fun k => x_s_ext 5 c2 (fun j a _ => by
          cases k with
          | zero => exact mv_0 a
          | succ k => exact mv_0 a)
        have ref1 : ∀ (P : xm_Mem) (R : xm_K), x_but [41, 42, 43, 44, 46, 47] M P → (∀ P3 : xm_Mem, R_all P3 → (x_X2 n w L (x_sh n w) 0 1 = 0 → R [.inr (.inl (-4))] P3) ∧ (x_X2 n w L (x_sh n w) 0 1 ≠ 0 → ((∀ k : Nat, k + 1 < x.toNat → x_bt (x_X2 n w L (x_sh n w) 0 1) k ≤ 768614336404564650) → R [.inr (.inl (x_part (x_s (x_fk n w L (x_mv n w L 1 (x_b0 L 0 (x_sh n w))) (x.toNat - 1)) 5) (x_bt (x_X2 n w L (x_sh n w) 0 1) (x.toNat - 1)) y))] P3) ∧ (¬ (∀ k : Nat, k + 1 < x.toNat → x_bt (x_X2 n w L (x_sh n w) 0 1) k ≤ 768614336404564650) → R [.inr (.inl (-6))] P3))) → xm_call true 11 269 [.inr (.inr 50), .inl x, .inl y] P R := by
          intro P R hbP hRR
          have hcy2 := cwy_but hcy hbP (by decide) (by decide)
          have hLy2 := yL_but hLy hbP (by decide)
          refine ref0 P R (fun _ => ?_) (fun g => absurd g2 g)
          refine sp257 hcy2 (fun _ => xq_ki (xq_b2 ?_)) (fun g => absurd g3 g)
          refine sp260 hcy2 g3 (fun N3 hb4 hN3 hS3 => xq_kv ?_)
          have hcy3 := cw_yb hcy2 hb4
          have hLy3 := yL_yb hLy2 hb4
          refine sp267 (S := x_sh n w) hcy3 hLy3 hN3 (fun N4 hb5 hN4 => xq_kl ?_)
          have RA : ∀ N5 : xm_Mem, y_bt2 N3 N5 → R_all N5 := fun N5 hb6 => R_but hR hbP (fun c a b => by
            rw [hb6 c (by omega)]
            exact hb4.1 c b (by omega) (by omega)) (fun k a => by
            rw [hb6 50 (by omega)]
            exact hb4.2 k a)
          refine ⟨⟨⟨by omega, by omega⟩, by omega⟩, l.2, fun g => ?_, fun g => (hRR N4 (RA N4 hb5)).1 (l.1.1 g)⟩
          have dn := fun e => g (l.1.2 e)
          have hcy4 : y_cw N4 n w := by unfold y_cw; rw [hb5 50 (by omega), hb5 76 (by omega)]; exact hcy3
          have hLy4 : y_Lc N4 n L := by unfold y_Lc; rw [hb5 75 (by omega)]; exact hLy3
          have := lo269_56 (d := 8) (M := N4) (Q := R) (N := x.toNat) (y := y) (T := x_X2 n w L (x_sh n w) 0 1) (by omega) (fun h1 hT => ?_) (fun h0 => ((hRR N4 (RA N4 hb5)).2 dn).2 h0) (x.toNat - 1) 0 (by omega) (by
            rw [x_bt]; omega) (fun j q => by omega)
          · rw [← ex] at this
            exact this
          · have u := U (x.toNat - 1)
            rw [fn] at u
            have uu : 0 ≤ x_s (x_fk n w L (x_mv n w L 1 (x_b0 L 0 (x_sh n w))) (x.toNat - 1)) n ∧ x_s (x_fk n w L (x_mv n w L 1 (x_b0 L 0 (x_sh n w))) (x.toNat - 1)) n ≤ x_bt (x_X2 n w L (x_sh n w) 0 1) (x.toNat - 1) := u
            refine lo269_89 (f := x_mv n w L 1 (x_b0 L 0 (x_sh n w))) (by omega) hcy4 hLy4 uu hT hy (fun P5 hb6 => ?_) (x.toNat - 1) 0 N4 (by omega) (fun _ _ => rfl) hN4
            rw [← fn]
            exact ((hRR P5 (RA P5 (bt2_tr hb5 hb6))).2 dn).1 h1
        refine ⟨⟨⟨by omega, by omega⟩, by omega⟩, l.2, fun g => ?_, fun g => ?_⟩
        · have dn := fun e => g (l.1.2 e)
          have := lo37 (d := 6) (M := N2) (n := n) (w := w) (L := L) (f := x_mv n w L 1 (x_b0 L 0 (x_sh n w))) (N := x.toNat) (y := y) (T := x_X2 n w L (x_sh n w) 0 1) (Q := fun v M1 => xm_call true 11 269 (.inr (.inr 50) :: [.inl x, .inl y]) M1 (fun w M2 => R_end v w M2)) (by omega) hy (by omega) U (fun h1 P hbP => ?_) (fun h0 P hbP => ?_) (cw_but hcN hb2 (by decide) (by decide)) (Lc_but hLN hb2 (by decide)) (x.toNat - 1) 0 N2 (by omega) (fun _ _ => rfl) hN2 (by rw [x_bt]; omega) (fun j q => by omega)
          · rw [← ex] at this
            exact this
          · exact ref1 P _ (but_tr hb3 (but_mono hbP (by decide))) (fun P3 t => ⟨fun e => absurd e dn, fun _ => ⟨fun _ => xq_L rfl t, fun e => absurd h1 e⟩⟩)
          · exact ref1 P _ (but_tr hb3 (but_mono hbP (by decide))) (fun P3 t => ⟨fun e => absurd e dn, fun _ => ⟨fun e => absurd e h0, fun _ => xq_L rfl t⟩⟩)
        · exact ref1 N2 _ hb3 (fun P3 t => ⟨fun _ => xq_L rfl t, fun e => absurd (l.1.1 g) e⟩)
      · refine sp50 hc (fun g => absurd g g3) (fun _ => xq_ki (xq_b4 ?_))
        refine ref0 M _ (fun _ => ?_) (fun g => absurd g2 g)
        exact sp257 hcy (fun g => absurd g g3) (fun _ => xq_ki (xq_b4 (xq_L rfl hR)))
    · refine sp28 hy (fun g => absurd g g2) (fun _ => xq_ki (xq_b4 ?_))
      exact ref0 M _ (fun g => absurd g g2) (fun _ => xq_L rfl hR)
  · have r : xm_call true 11 269 [.inr (.inr 50), .inl x, .inl y] M (fun w M2 => R_end [.inr (.inl (-1))] w M2) := by
      exact en269r50 (rg269r50_0 (sp193 hx (by omega) (by omega) (fun g => by omega) (fun _ => xq_ki (xq_b3 (xq_L rfl hR)))))
    exact en37r1 (rg37r1_0 ⟨⟨by omega, by omega⟩, fun _ => r, fun _ => ⟨⟨by omega, by omega⟩, fun _ => r, fun _ => by omega⟩⟩)
end LA
