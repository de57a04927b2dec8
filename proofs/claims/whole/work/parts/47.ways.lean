/-! the reference's shares -/
theorem cwy_but {L : List Nat} {M N : xm_Mem} {n : Nat} {w : Nat → Nat → Int} (h : y_cw M n w) (hb : x_but L M N) (h1 : 50 ∉ L) (h2 : 76 ∉ L) : y_cw N n w := by
  unfold y_cw
  rw [hb 50 h1, hb 76 h2]
  exact h
theorem lf_le {n t code : Nat} (hn : 1 ≤ n) : ∀ s : Nat, y_lf n t code s ≤ code
  | 0 => Nat.le_refl _
  | s + 1 => by
    rw [y_lf]
    exact Nat.le_trans (Nat.div_le_self _ _) (lf_le hn s)
theorem wk_end {wy : Nat → Nat} {t : Nat} : ∀ f : Nat, y_wk wy t f t = t
  | 0 => rfl
  | f + 1 => by rw [y_wk, if_pos rfl]
section WY
variable {d : Nat} {Q : xm_K} {M : xm_Mem} {n : Nat} {w : Nat → Nat → Int}
theorem lo258_72 {cs : xm_C} {t code s : Nat} {x3 x4 : Int} (h48 : M 50 48 = n ∧ 1 ≤ n ∧ n ≤ 5) (ht : t < n) (hs : s < n) (hM : ∀ i : Nat, i < n → M 78 i = ((y_wy n t code i : Nat) : Int)) (hx : x4 = 0 ∨ x4 = 1) (h1 : x4 = 1 ∧ y_wk (y_wy n t code) t n s = t → ∀ o6 o7, wp258r50_56 cs Q t code x3 1 ((s : Int) + 1) o6 o7 M) (h0 : ¬ (x4 = 1 ∧ y_wk (y_wy n t code) t n s = t) → ∀ o6 o7, wp258r50_56 cs Q t code x3 0 ((s : Int) + 1) o6 o7 M) : ∀ (m k a : Nat), k + m = n → a < n → y_wk (y_wy n t code) t m a = y_wk (y_wy n t code) t n s → wp258r50_72 cs Q t code x3 x4 s a k M
  | 0, k, a, e0, ha, hk => by
    have e : k = n := by omega
    subst e
    rw [y_wk] at hk
    rw [← hk] at h1 h0
    refine rg258r50_72 ⟨⟨by omega, by omega⟩, fun _ => ⟨by omega, fun g => h0 (by omega) _ _, fun g => ⟨⟨by omega, by omega⟩, fun g2 => h0 (by omega) _ _, fun g2 => h1 ⟨by omega, by omega⟩ _ _⟩⟩, fun _ => by omega⟩
  | m + 1, k, a, e0, ha, hk => by
    have ih := lo258_72 (x3 := x3) h48 ht hs hM hx h1 h0 m (k + 1) (y_wy n t code a) (by omega) (Nat.mod_lt _ (by omega))
    refine rg258r50_72 ⟨⟨by omega, by omega⟩, fun _ => by omega, fun _ => ⟨⟨by omega, by omega⟩, fun g => ?_, fun g => ⟨by omega, ?_⟩⟩⟩
    · have e : a = t := by omega
      rw [e, wk_end] at hk
      rw [← hk] at h1 h0
      exact ⟨by omega, fun g => h0 (by omega) _ _, fun g => ⟨⟨by omega, by omega⟩, fun g2 => by omega, fun g2 => h1 ⟨by omega, rfl⟩ _ _⟩⟩
    · rw [hM a ha]
      rw [y_wk, if_neg (by omega)] at hk
      exact ih hk
theorem lo258_56 {cs : xm_C} {t code : Nat} {x3 : Int} (h48 : M 50 48 = n ∧ 1 ≤ n ∧ n ≤ 5) (ht : t < n) (hM : ∀ i : Nat, i < n → M 78 i = ((y_wy n t code i : Nat) : Int)) (h1 : y_cm n t code n = true → Q [.inl 1] M) (h0 : y_cm n t code n = false → Q [.inl 0] M) : ∀ (m k : Nat) (x4 : Int) (o6 o7 : Option xm_V), k + m = n → x4 = (if y_cm n t code k = true then 1 else 0) → wp258r50_56 cs Q t code x3 x4 k o6 o7 M
  | 0, k, x4, o6, o7, e0, hx => by
    have e : k = n := by omega
    subst e
    refine rg258r50_56 ⟨⟨by omega, by omega⟩, fun _ => ⟨by split at hx <;> omega, ?_⟩, fun _ => by omega⟩
    cases hb : y_cm k t code k with
    | true => rw [hb, if_pos rfl] at hx; rw [hx]; exact h1 hb
    | false => rw [hb, if_neg Bool.false_ne_true] at hx; rw [hx]; exact h0 hb
  | m + 1, k, x4, o6, o7, e0, hx => by
    have ih := fun x4 o6 o7 => lo258_56 (x3 := x3) (cs := cs) h48 ht hM h1 h0 m (k + 1) x4 o6 o7 (by omega)
    have bit : x4 = 0 ∨ x4 = 1 := by split at hx <;> omega
    rw [y_cm] at ih
    refine rg258r50_56 ⟨⟨by omega, by omega⟩, fun _ => by omega, fun _ => ?_⟩
    refine lo258_72 (x3 := x3) h48 ht (by omega) hM bit (fun g o6 o7 => ih 1 o6 o7 ?_) (fun g o6 o7 => ih 0 o6 o7 ?_) n 0 k (by omega) (by omega) rfl
    · have e1 : y_cm n t code k = true := by
        cases hb : y_cm n t code k with
        | true => rfl
        | false => rw [hb, if_neg Bool.false_ne_true] at hx; omega
      rw [e1, g.2, Nat.beq_refl]
      rfl
    · rw [if_neg]
      intro q
      rw [Bool.and_eq_true] at q
      refine g ⟨?_, Nat.eq_of_beq_eq_true q.2⟩
      rw [q.1, if_pos rfl] at hx
      exact hx
theorem lo258_5 {t code : Nat} (h48 : M 50 48 = n ∧ 1 ≤ n ∧ n ≤ 5) (ht : t < n) (hcd : code ≤ 1000) (h1 : y_cm n t code n = true → ∀ N : xm_Mem, x_but [78] M N → (∀ i : Nat, i < n → N 78 i = ((y_wy n t code i : Nat) : Int)) → Q [.inl 1] N) (h0 : y_cm n t code n = false → ∀ N : xm_Mem, x_but [78] M N → Q [.inl 0] N) : ∀ (m k : Nat) (N : xm_Mem), k + m = n → x_but [78] M N → (∀ i : Nat, i < k → N 78 i = ((y_wy n t code i : Nat) : Int)) → wp258r50_5 (xm_call true d) Q t code ((y_lf n t code k : Nat) : Int) k N
  | 0, k, N, e0, hb, hN => by
    have e : k = n := by omega
    subst e
    have e48 : N 50 48 = k := by rw [hb 50 (by decide)]; exact h48.1
    refine rg258r50_5 ⟨⟨by omega, by omega⟩, fun _ => ?_, fun _ => by omega⟩
    exact lo258_56 ⟨e48, h48.2⟩ ht hN (fun g => h1 g N hb hN) (fun g => h0 g N hb) k 0 1 none none (by omega) rfl
  | m + 1, k, N, e0, hb, hN => by
    have ih := fun N => lo258_5 h48 ht hcd h1 h0 m (k + 1) N (by omega)
    have e48 : N 50 48 = n := by rw [hb 50 (by decide)]; exact h48.1
    have l := lf_le (n := n) (t := t) (code := code) h48.2.1 k
    have st : ∀ v : Int, v = ((y_lf n t code (k + 1) : Nat) : Int) → wp258r50_5 (xm_call true d) Q t code v ((k : Int) + 1) (xm_up N 78 k (Int.tmod ((y_lf n t code k : Nat) : Int) (N 50 48))) := by
      intro v hv
      rw [hv]
      refine ih _ (but_up hb (by decide)) (fun i hi => ?_)
      by_cases e : i = k
      · rw [e, xu_s, e48]
        rfl
      · rw [xu_k (by omega)]; exact hN i (by omega)
    refine rg258r50_5 ⟨⟨by omega, by omega⟩, fun _ => by omega, fun _ => ⟨⟨⟨by omega, by omega⟩, by omega, by omega⟩, by omega, ⟨by omega, by omega⟩, fun g => ⟨⟨⟨by omega, by omega⟩, by omega, by omega⟩, st _ ?_⟩, fun g => ⟨⟨⟨by omega, by omega⟩, by omega, by omega⟩, st _ ?_⟩⟩⟩
    · rw [e48, y_lf, if_neg (by omega)]
      rfl
    · rw [y_lf, if_pos (by omega)]
      rfl
theorem sp258 {t code : Nat} (h48 : M 50 48 = n ∧ 1 ≤ n ∧ n ≤ 5) (ht : t < n) (hcd : code ≤ 1000) (h1 : y_cm n t code n = true → ∀ N : xm_Mem, x_but [78] M N → (∀ i : Nat, i < n → N 78 i = ((y_wy n t code i : Nat) : Int)) → Q [.inl 1] N) (h0 : y_cm n t code n = false → ∀ N : xm_Mem, x_but [78] M N → Q [.inl 0] N) : xm_call true (d + 1) 258 [.inr (.inr 50), .inl (t : Int), .inl (code : Int)] M Q := by
  refine en258r50 (rg258r50_0 ?_)
  exact lo258_5 h48 ht hcd h1 h0 n 0 M (by omega) (fun _ _ => rfl) (fun i hi => by omega)
theorem lo259_52 {cs : xm_C} {t code : Nat} {x2 x3 x5 : Int} (hc : y_cw M n w) (h1 : 1 ≤ n) (ht : t < n) (hM : ∀ i : Nat, i < n → M 78 i = ((y_wy n t code i : Nat) : Int)) (h : ∀ o6 o8, wp259r50_30 cs Q t x2 (x3 + y_pr w n t code n) (x5 + 1) o6 o8 M) : ∀ (m k : Nat), k + m = n → wp259r50_52 cs Q t x2 x3 x5 (y_pr w n t code k) k M
  | 0, k, e0 => by
    have e : k = n := by omega
    subst e
    have c1 := hc.1
    have c2 := hc.2.1
    exact rg259r50_52 ⟨⟨by omega, by omega⟩, fun _ => h _ _, fun _ => by omega⟩
  | m + 1, k, e0 => by
    have ih := lo259_52 (x2 := x2) (x3 := x3) (x5 := x5) hc h1 ht hM h m (k + 1) (by omega)
    have c1 := hc.1
    have c2 := hc.2.1
    have l : y_wy n t code k < n := Nat.mod_lt _ h1
    have c3 := hc.2.2 k (y_wy n t code k) (by omega) l
    have a := hM k (by omega)
    rw [y_pr] at ih
    refine rg259r50_52 ⟨⟨by omega, by omega⟩, fun _ => by omega, fun _ => ⟨⟨by omega, by omega⟩, fun g => ?_, fun g => ?_⟩⟩
    · rw [if_neg (by omega)] at ih
      rw [a, c3.1]
      exact ⟨by omega, by omega, by omega, ih⟩
    · rw [if_pos (by omega)] at ih
      exact ih
theorem lo259_30 {t : Nat} {C : Nat} (hc : y_cw M n w) (h1 : 1 ≤ n) (ht : t < n) (hC : C ≤ 1000) (h : ∀ N : xm_Mem, x_but [78] M N → Q [.inr (.inl (y_ws w n t C))] N) : ∀ (m k : Nat) (N : xm_Mem) (o6 o8 : Option xm_V), k + m = C → x_but [78] M N → wp259r50_30 (xm_call true (d + 1)) Q t C (y_ws w n t k) k o6 o8 N
  | 0, k, N, o6, o8, e0, hb => by
    have e : k = C := by omega
    subst e
    exact rg259r50_30 ⟨⟨by omega, by omega⟩, fun _ => h N hb, fun _ => by omega⟩
  | m + 1, k, N, o6, o8, e0, hb => by
    have ih := fun N o6 o8 => lo259_30 hc h1 ht hC h m (k + 1) N o6 o8 (by omega)
    have hcN := cwy_but hc hb (by decide) (by decide)
    rw [y_ws] at ih
    refine rg259r50_30 ⟨⟨by omega, by omega⟩, fun _ => by omega, fun _ => ?_⟩
    refine sp258 ⟨hcN.1, h1, hcN.2.1⟩ ht (by omega) (fun g N' hb' hN' => xq_ki (xq_n1 ?_)) (fun g N' hb' => xq_ki (xq_b3 ?_))
    · have hb2 := but_tr hb hb'
      rw [if_pos g] at ih
      exact lo259_52 (cwy_but hc hb2 (by decide) (by decide)) h1 ht hN' (fun o6 o8 => ih N' o6 o8 hb2) n 0 (by omega)
    · rw [if_neg (by rw [g]; exact Bool.false_ne_true)] at ih
      exact ih N' _ _ (but_tr hb hb')
theorem lo259_4 {t : Nat} (hc : y_cw M n w) (h1 : 1 ≤ n) (ht : t < n) (h : ∀ N : xm_Mem, x_but [78] M N → Q [.inr (.inl (y_ws w n t (n ^ (n - 1))))] N) : ∀ (m k : Nat), k + m + 1 = n → wp259r50_4 (xm_call true (d + 1)) Q t ((n ^ k : Nat) : Int) ((k : Int) + 1) M
  | 0, k, e0 => by
    have c1 := hc.1
    have c2 := hc.2.1
    have e : n - 1 = k := by omega
    rw [e] at h
    have pb : n ^ k ≤ 1000 := by
      have a : n ^ k ≤ 5 ^ k := Nat.pow_le_pow_left c2 k
      have b : (5 : Nat) ^ k ≤ 5 ^ 4 := Nat.pow_le_pow_right (by omega) (by omega)
      have e5 : (5 : Nat) ^ 4 = 625 := rfl
      omega
    refine rg259r50_4 ⟨⟨by omega, by omega⟩, fun _ => ?_, fun _ => by omega⟩
    exact lo259_30 hc h1 ht pb h (n ^ k) 0 M none none (by omega) (fun _ _ => rfl)
  | m + 1, k, e0 => by
    have ih := lo259_4 hc h1 ht h m (k + 1) (by omega)
    have c1 := hc.1
    have c2 := hc.2.1
    rw [Nat.pow_succ, Int.natCast_mul, show ((k + 1 : Nat) : Int) + 1 = (k : Int) + 1 + 1 by omega] at ih
    refine rg259r50_4 ⟨⟨by omega, by omega⟩, fun _ => by omega, fun _ => ?_⟩
    rw [c1]
    exact ih
theorem sp259 {t : Nat} (hc : y_cw M n w) (h1 : 1 ≤ n) (ht : t < n) (h : ∀ N : xm_Mem, x_but [78] M N → Q [.inr (.inl (y_ws w n t (n ^ (n - 1))))] N) : xm_call true (d + 2) 259 [.inr (.inr 50), .inl (t : Int)] M Q := by
  refine en259r50 (rg259r50_0 ?_)
  exact lo259_4 hc h1 ht h (n - 1) 0 (by omega)
/-- the reference's memory is as it was but for shares and scratch -/
def y_but (M N : xm_Mem) : Prop := (∀ c : Nat, c ≠ 50 → c ≠ 77 → c ≠ 78 → N c = M c) ∧ ∀ k : Int, k ≠ 52 → N 50 k = M 50 k
theorem yb_of {M N P : xm_Mem} (h : y_but M N) (h2 : x_but [77, 78] N P) : y_but M P := ⟨fun c a b e => by
  rw [h2 c (by simp only [List.mem_cons, List.not_mem_nil, or_false]; omega)]
  exact h.1 c a b e, fun k a => by
  rw [h2 50 (by decide)]
  exact h.2 k a⟩
theorem cw_yb {M N : xm_Mem} (h : y_cw M n w) (hb : y_but M N) : y_cw N n w := by
  unfold y_cw
  rw [hb.2 48 (by omega), hb.1 76 (by omega) (by omega) (by omega)]
  exact h
theorem lo260_47 {D : Nat → Int} {G : Int} (hn : n ≤ 5) (h48 : M 50 48 = n) (hG : 0 < G ∧ G < 9223372036854775808) (hD : ∀ t : Nat, 0 ≤ D t ∧ D t ≤ 20736) (h : ∀ N : xm_Mem, y_but M N → (∀ t : Nat, t < n → N 77 t = Int.tdiv (D t) G) → N 50 52 = x_s (fun t => Int.tdiv (D t) G) n → Q [] N) : ∀ (m k : Nat) (N : xm_Mem), k + m = n → y_but M N → (∀ t : Nat, t < n → N 77 t = if t < k then Int.tdiv (D t) G else D t) → N 50 52 = x_s (fun t => Int.tdiv (D t) G) k → wp260r50_47 (xm_call true (d + 2)) Q G k N
  | 0, k, N, e0, hb, hN, hS => by
    have e : k = n := by omega
    subst e
    have e48 := hb.2 48 (by omega)
    refine rg260r50_47 ⟨⟨by omega, by omega⟩, fun _ => h N hb (fun t ht => ?_) hS, fun _ => by omega⟩
    rw [hN t ht, if_pos ht]
  | m + 1, k, N, e0, hb, hN, hS => by
    have ih := fun N => lo260_47 hn h48 hG hD h m (k + 1) N (by omega)
    have e48 := hb.2 48 (by omega)
    have a := hN k (by omega)
    rw [if_neg (by omega)] at a
    have b := hD k
    refine rg260r50_47 ⟨⟨by omega, by omega⟩, fun _ => by omega, fun _ => ⟨by omega, ⟨by rw [a]; exact ⟨by omega, by omega⟩, ⟨by omega, by omega⟩, by omega⟩, by omega, by omega, ?_⟩⟩
    rw [xu_s]
    refine ih _ ⟨fun c q1 q2 q3 => ?_, fun j q => ?_⟩ (fun t ht => ?_) ?_
    · rw [xu_c q1, xu_c q2]; exact hb.1 c q1 q2 q3
    · rw [xu_k q, xu_c (by omega)]; exact hb.2 j q
    · rw [xu_c (by omega)]
      by_cases e : t = k
      · rw [e, xu_s, if_pos (by omega), a]
      · rw [xu_k (by omega), hN t ht]
        by_cases c : t < k
        · rw [if_pos c, if_pos (by omega)]
        · rw [if_neg c, if_neg (by omega)]
    · rw [xu_s, hS, a, x_s]
theorem lo260_4 (hc : y_cw M n w) (hs : x_Snd n w) (h : ∀ N : xm_Mem, y_but M N → (∀ t : Nat, t < n → N 77 t = x_sh n w t) → N 50 52 = x_s (x_sh n w) n → Q [] N) : ∀ (m k : Nat) (N : xm_Mem), k + m = n → x_but [77, 78] M N → (∀ t : Nat, t < k → N 77 t = x_D n w t) → wp260r50_4 (xm_call true (d + 2)) Q ((x_gc (x_D n w) k : Nat) : Int) k N
  | 0, k, N, e0, hb, hN => by
    have e : k = n := by omega
    subst e
    have c1 := hc.1
    have c2 := hc.2.1
    have hw : ∀ a b : Nat, a < k → b < k → 0 ≤ w a b := fun a b ha hb => (hc.2.2 a b ha hb).2.1
    obtain ⟨s1, s2, s3, s4, s5⟩ := sh_in c2 hs hw
    have e48 : N 50 48 = k := by rw [hb 50 (by decide)]; exact c1
    refine rg260r50_4 ⟨⟨by omega, by omega⟩, fun _ => ?_, fun _ => by omega⟩
    have := lo260_47 (d := d) (Q := Q) (M := M) (n := k) (D := x_D k w) (G := ((x_gc (x_D k w) k : Nat) : Int)) c2 c1 (by omega) s2 h k 0 (xm_up N 50 52 0) (by omega) ⟨fun c q1 q2 q3 => ?_, fun j q => ?_⟩ (fun t ht => ?_) (by rw [xu_s]; rfl)
    · exact this
    · rw [xu_c q1]; exact hb c (by simp only [List.mem_cons, List.not_mem_nil, or_false]; omega)
    · rw [xu_k q]; rw [hb 50 (by decide)]
    · rw [xu_c (by omega), if_neg (by omega)]
      exact hN t ht
  | m + 1, k, N, e0, hb, hN => by
    have ih := fun N => lo260_4 hc hs h m (k + 1) N (by omega)
    have c1 := hc.1
    have c2 := hc.2.1
    have hw : ∀ a b : Nat, a < n → b < n → 0 ≤ w a b := fun a b ha hb => (hc.2.2 a b ha hb).2.1
    obtain ⟨s1, s2, s3, s4, s5⟩ := sh_in c2 hs hw
    have hcN := cwy_but hc hb (by decide) (by decide)
    have gb := gc_bd (f := x_D n w) (fun k => by have := s2 k; omega) k
    have f := fin_all c2 (show k < n by omega) hs hw
    have ed : x_D n w k = y_ws w n k (n ^ (n - 1)) := by unfold x_D; rw [if_pos (by omega)]; exact f.2.1
    have b := s2 k
    refine rg260r50_4 ⟨⟨by omega, by rw [hcN.1]; omega⟩, fun q => by rw [hcN.1] at q; omega, fun _ => ?_⟩
    refine sp259 hcN hs.1 (by omega) (fun N' hb' => xq_kl ⟨by omega, by omega, ?_⟩)
    rw [← ed, xu_s]
    refine sp244 (by omega) (by omega) (xq_kl ?_)
    have := ih (xm_up N' 77 k (x_D n w k)) (but_up (but_tr hb (but_mono hb' (by decide))) (by decide)) (fun t ht => by
      by_cases e : t = k
      · rw [e, xu_s]
      · rw [xu_k (by omega), hb' 77 (by decide)]; exact hN t (by omega))
    rw [x_gc] at this
    rw [Int.toNat_natCast]
    exact this
theorem sp260 (hc : y_cw M n w) (hs : x_Snd n w) (h : ∀ N : xm_Mem, y_but M N → (∀ t : Nat, t < n → N 77 t = x_sh n w t) → N 50 52 = x_s (x_sh n w) n → Q [] N) : xm_call true (d + 3) 260 [.inr (.inr 50)] M Q := by
  refine en260r50 (rg260r50_0 ?_)
  exact lo260_4 hc hs h n 0 M (by omega) (fun _ _ => rfl) (fun t ht => by omega)
end WY
