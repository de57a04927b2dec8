/-! the reference's chances; both are the same sums -/
section AL
variable {n : Nat} {w : Nat → Nat → Int} {L S : Nat → Int}
def y_T (w : Nat → Nat → Int) (L S : Nat → Int) (kind x : Int) (a b c : Nat) : Int := if L a = x / 4 % 2 ∧ L b = x / 2 % 2 ∧ (kind = 2 ∨ L c = x % 2) then S a * w a b * w b c else 0
def y_CC (n : Nat) (w : Nat → Nat → Int) (L S : Nat → Int) (kind x : Int) : Int := x_s (fun a => x_s (fun b => x_s (y_T w L S kind x a b) n) n) n
theorem W_in {a b : Nat} (ha : a < n) (hb : b < n) : x_W n w a b = w a b := by unfold x_W; rw [if_pos ⟨ha, hb⟩]
theorem W_0 {a b : Nat} (h : n ≤ a ∨ n ≤ b) : x_W n w a b = 0 := by unfold x_W; rw [if_neg (by omega)]
theorem mv_eq {bit : Int} {f : Nat → Int} (hn : n ≤ 5) {t : Nat} (ht : t < n) : x_mv n w L bit f t = if L t = bit then x_s (fun a => f a * w a t) n else 0 := by
  unfold x_mv
  split
  · rw [x_s_ext 5 hn (fun k a b => by rw [W_0 (Or.inl a), Int.mul_zero])]
    exact x_s_congr n (fun a ha => by rw [W_in ha ht])
  · rfl
theorem mv_0 {bit : Int} {f : Nat → Int} {t : Nat} (ht : n ≤ t) : x_mv n w L bit f t = 0 := by
  unfold x_mv
  split
  · exact x_s_0 5 (fun a _ => by rw [W_0 (Or.inr ht), Int.mul_zero])
  · rfl
theorem mv_s {bit : Int} {f : Nat → Int} (hn : n ≤ 5) : x_s (x_mv n w L bit f) 5 = x_s (fun t => if L t = bit then x_s (fun a => f a * w a t) n else 0) n := by
  rw [x_s_ext 5 hn (fun k a _ => mv_0 a)]
  exact x_s_congr n (fun t ht => mv_eq hn ht)
theorem X2_eq {b0 b1 : Int} (hn : n ≤ 5) : x_X2 n w L S b0 b1 = x_s (fun b => x_s (fun a => if L a = b0 ∧ L b = b1 then S a * w a b else 0) n) n := by
  unfold x_X2
  rw [mv_s hn]
  refine x_s_congr n (fun b hb => ?_)
  by_cases g : L b = b1
  · rw [if_pos g]
    refine x_s_congr n (fun a ha => ?_)
    unfold x_b0
    by_cases g2 : L a = b0
    · rw [if_pos g2, if_pos ⟨g2, g⟩]
    · rw [if_neg g2, if_neg (fun q => g2 q.1), Int.zero_mul]
  · rw [if_neg g]
    exact (x_s_0 n (fun a _ => if_neg (fun q => g q.2))).symm
theorem X3_eq {b0 b1 b2 : Int} (hn : n ≤ 5) : x_X3 n w L S b0 b1 b2 = x_s (fun c => x_s (fun b => x_s (fun a => if L a = b0 ∧ L b = b1 ∧ L c = b2 then S a * w a b * w b c else 0) n) n) n := by
  unfold x_X3
  rw [mv_s hn]
  refine x_s_congr n (fun c hc => ?_)
  by_cases g : L c = b2
  · rw [if_pos g]
    refine x_s_congr n (fun b hb => ?_)
    rw [mv_eq hn hb]
    by_cases g2 : L b = b1
    · rw [if_pos g2, x_s_mul]
      refine x_s_congr n (fun a ha => ?_)
      unfold x_b0
      by_cases g3 : L a = b0
      · rw [if_pos g3, if_pos ⟨g3, g2, g⟩]
      · rw [if_neg g3, if_neg (fun q => g3 q.1), Int.zero_mul, Int.zero_mul]
    · rw [if_neg g2, Int.zero_mul]
      exact (x_s_0 n (fun a _ => if_neg (fun q => g2 q.2.1))).symm
  · rw [if_neg g]
    exact (x_s_0 n (fun b _ => x_s_0 n (fun a _ => if_neg (fun q => g q.2.2)))).symm
theorem CC3 {x : Int} (hn : n ≤ 5) : y_CC n w L S 3 x = x_X3 n w L S (x / 4 % 2) (x / 2 % 2) (x % 2) := by
  rw [X3_eq hn]
  unfold y_CC
  have e1 : (fun a => x_s (fun b => x_s (y_T w L S 3 x a b) n) n) = fun a => x_s (fun c => x_s (fun b => y_T w L S 3 x a b c) n) n := by
    funext a
    exact x_s_swap (fun b c => y_T w L S 3 x a b c) n n
  rw [e1, x_s_swap (fun a c => x_s (fun b => y_T w L S 3 x a b c) n) n n]
  refine x_s_congr n (fun c _ => ?_)
  rw [x_s_swap (fun a b => y_T w L S 3 x a b c) n n]
  refine x_s_congr n (fun b _ => x_s_congr n (fun a _ => ?_))
  unfold y_T
  have e : (L a = x / 4 % 2 ∧ L b = x / 2 % 2 ∧ ((3 : Int) = 2 ∨ L c = x % 2)) ↔ (L a = x / 4 % 2 ∧ L b = x / 2 % 2 ∧ L c = x % 2) := by
    constructor
    · rintro ⟨p, q, r | r⟩
      · omega
      · exact ⟨p, q, r⟩
    · rintro ⟨p, q, r⟩
      exact ⟨p, q, Or.inr r⟩
  by_cases g : L a = x / 4 % 2 ∧ L b = x / 2 % 2 ∧ L c = x % 2
  · rw [if_pos g, if_pos (e.mpr g)]
  · rw [if_neg g, if_neg (fun q => g (e.mp q))]
theorem CC2 {x : Int} (hn : n ≤ 5) (hr : ∀ i : Nat, i < n → x_s (w i) n = 12) : y_CC n w L S 2 (2 * x) = 12 * x_X2 n w L S (x / 2 % 2) (x % 2) := by
  rw [X2_eq hn]
  unfold y_CC
  rw [Int.mul_comm 12, x_s_mul, x_s_swap (fun a b => x_s (y_T w L S 2 (2 * x) a b) n) n n]
  refine x_s_congr n (fun b hb => ?_)
  rw [x_s_mul]
  refine x_s_congr n (fun a ha => ?_)
  have d4 : 2 * x / 4 % 2 = x / 2 % 2 := by omega
  have d2 : 2 * x / 2 % 2 = x % 2 := by omega
  by_cases g : L a = x / 2 % 2 ∧ L b = x % 2
  · rw [if_pos g, ← hr b hb, Int.mul_comm _ (x_s (w b) n), x_s_mul]
    refine x_s_congr n (fun c _ => ?_)
    unfold y_T
    rw [d4, d2, if_pos ⟨g.1, g.2, Or.inl rfl⟩, Int.mul_comm (w b c)]
  · rw [if_neg g, Int.zero_mul]
    refine x_s_0 n (fun c _ => ?_)
    unfold y_T
    rw [d4, d2, if_neg (fun q => g ⟨q.1, q.2.1⟩)]
theorem X3_sum {b0 b1 : Int} (hn : n ≤ 5) (hr : ∀ i : Nat, i < n → x_s (w i) n = 12) (hL : ∀ t : Nat, t < n → L t = 0 ∨ L t = 1) : x_X3 n w L S b0 b1 0 + x_X3 n w L S b0 b1 1 = 12 * x_X2 n w L S b0 b1 := by
  rw [X3_eq hn, X3_eq hn, X2_eq hn, ← x_s_add]
  have e : ∀ c : Nat, c < n → x_s (fun b => x_s (fun a => if L a = b0 ∧ L b = b1 ∧ L c = 0 then S a * w a b * w b c else 0) n) n + x_s (fun b => x_s (fun a => if L a = b0 ∧ L b = b1 ∧ L c = 1 then S a * w a b * w b c else 0) n) n = x_s (fun b => x_s (fun a => if L a = b0 ∧ L b = b1 then S a * w a b else 0) n * w b c) n := by
    intro c hc
    rw [← x_s_add]
    refine x_s_congr n (fun b _ => ?_)
    rw [← x_s_add, x_s_mul]
    refine x_s_congr n (fun a _ => ?_)
    by_cases g : L a = b0 ∧ L b = b1
    · rw [if_pos g]
      rcases hL c hc with q | q
      · rw [if_pos ⟨g.1, g.2, q⟩, if_neg (by omega)]; omega
      · rw [if_neg (by omega), if_pos ⟨g.1, g.2, q⟩]; omega
    · rw [if_neg g, if_neg (fun q => g ⟨q.1, q.2.1⟩), if_neg (fun q => g ⟨q.1, q.2.1⟩), Int.zero_mul]
      rfl
  rw [x_s_congr n e, x_s_swap (fun c b => x_s (fun a => if L a = b0 ∧ L b = b1 then S a * w a b else 0) n * w b c) n n, Int.mul_comm 12, x_s_mul]
  refine x_s_congr n (fun b hb => ?_)
  rw [Int.mul_comm _ 12, ← hr b hb, x_s_mul]
  exact x_s_congr n (fun c _ => Int.mul_comm _ _)
/-- bounds -/
theorem mv_bd {bit c : Int} {f : Nat → Int} (hc : 0 ≤ c) (hf : ∀ t : Nat, 0 ≤ f t ∧ f t ≤ c) (hw : ∀ a b : Nat, a < n → b < n → 0 ≤ w a b ∧ w a b ≤ 12) (t : Nat) : 0 ≤ x_mv n w L bit f t ∧ x_mv n w L bit f t ≤ 60 * c := by
  have one : ∀ a : Nat, 0 ≤ f a * x_W n w a t ∧ f a * x_W n w a t ≤ 12 * c := fun a => by
    have h1 := hf a
    have h2 : 0 ≤ x_W n w a t ∧ x_W n w a t ≤ 12 := by
      unfold x_W
      split
      · rename_i g; exact hw a t g.1 g.2
      · omega
    have z1 := Int.mul_nonneg h1.1 h2.1
    have z2 := Int.mul_le_mul h1.2 h2.2 h2.1 hc
    omega
  have s := x_s_bd (f := fun a => f a * x_W n w a t) (c := 12 * c) 5 (fun a _ => one a)
  unfold x_mv
  split
  · omega
  · omega
theorem b0_bd {bit c : Int} (hc : 0 ≤ c) (hS : ∀ t : Nat, 0 ≤ S t ∧ S t ≤ c) (t : Nat) : 0 ≤ x_b0 L bit S t ∧ x_b0 L bit S t ≤ c := by
  unfold x_b0
  split
  · exact hS t
  · omega
theorem X_bd {b0 b1 b2 : Int} (hS : ∀ t : Nat, 0 ≤ S t ∧ S t ≤ 20736) (hw : ∀ a b : Nat, a < n → b < n → 0 ≤ w a b ∧ w a b ≤ 12) : (0 ≤ x_X2 n w L S b0 b1 ∧ x_X2 n w L S b0 b1 ≤ 6220800) ∧ 0 ≤ x_X3 n w L S b0 b1 b2 ∧ x_X3 n w L S b0 b1 b2 ≤ 373248000 := by
  have h0 := b0_bd (L := L) (bit := b0) (by omega) hS
  have h1 := mv_bd (L := L) (bit := b1) (by omega) h0 hw
  have h2 := mv_bd (L := L) (bit := b2) (by omega) h1 hw
  have s1 := x_s_bd (f := x_mv n w L b1 (x_b0 L b0 S)) (c := 60 * 20736) 5 (fun t _ => h1 t)
  have s2 := x_s_bd (f := x_mv n w L b2 (x_mv n w L b1 (x_b0 L b0 S))) (c := 60 * (60 * 20736)) 5 (fun t _ => h2 t)
  unfold x_X2 x_X3
  omega
theorem mv_sum {bit : Int} {f : Nat → Int} (hn : n ≤ 5) (hr : ∀ i : Nat, i < n → x_s (w i) n = 12) (hw : ∀ a b : Nat, a < n → b < n → 0 ≤ w a b) (hf : ∀ t : Nat, 0 ≤ f t) : 0 ≤ x_s (x_mv n w L bit f) 5 ∧ x_s (x_mv n w L bit f) 5 ≤ x_s f 5 * 12 := by
  rw [mv_s hn]
  have nn : ∀ t : Nat, t < n → 0 ≤ x_s (fun a => f a * w a t) n := fun t ht => x_s_nn n (fun a ha => Int.mul_nonneg (hf a) (hw a t ha ht))
  refine ⟨x_s_nn n (fun t ht => by split; exact nn t ht; exact Int.le_refl 0), ?_⟩
  have l1 : x_s (fun t => if L t = bit then x_s (fun a => f a * w a t) n else 0) n ≤ x_s (fun t => x_s (fun a => f a * w a t) n) n := x_s_le n (fun t ht => by
    have := nn t ht
    split <;> omega)
  have l2 : x_s (fun t => x_s (fun a => f a * w a t) n) n = x_s f n * 12 := by
    rw [x_s_swap (fun t a => f a * w a t) n n, x_s_mul]
    refine x_s_congr n (fun a ha => ?_)
    rw [← hr a ha, Int.mul_comm (f a), x_s_mul]
    exact x_s_congr n (fun b _ => Int.mul_comm _ _)
  have l3 : x_s f n ≤ x_s f 5 := by
    have e : 5 = n + (5 - n) := by omega
    have key : ∀ m : Nat, x_s f n ≤ x_s f (n + m) := fun m => by
      induction m with
      | zero => exact Int.le_refl _
      | succ m ih =>
        rw [← Nat.add_assoc, x_s]
        have := hf (n + m)
        omega
    rw [e]
    exact key _
  omega
end AL
theorem part_mul {a b w k : Int} (hk : 0 < k) (ha : 0 ≤ a) (hb : 0 < b) : x_part (k * a) (k * b) w = x_part a b w := by
  unfold x_part
  have e1 : (k * a).toNat = k.toNat * a.toNat := Int.toNat_mul (by omega) ha
  have e2 : (k * b).toNat = k.toNat * b.toNat := Int.toNat_mul (by omega) (by omega)
  rw [e1, e2, Nat.gcd_mul_left, Int.natCast_mul, show ((k.toNat : Nat) : Int) = k by omega]
  have e3 : (if w = 0 then k * a else k * b) = k * (if w = 0 then a else b) := by split <;> rfl
  rw [e3]
  exact Int.mul_tdiv_mul_of_pos _ _ hk
theorem den_mul {w n r f b u k : Int} : x_den w (k * n) (k * r) (k * f) (k * b) u = k * x_den w n r f b u ∨ (w ≠ 0 ∧ w ≠ 1) ∧ x_den w (k * n) (k * r) (k * f) (k * b) u = k * x_den w n r f b u := by
  unfold x_den
  split
  · left; grind
  · split
    · left; grind
    · left; grind
theorem num_mul {w r f b u v k : Int} : x_num w (k * r) (k * f) (k * b) u v = k * x_num w r f b u v := by
  unfold x_num
  split
  · grind
  · split
    · grind
    · grind
theorem den_mul' {w n r f b u k : Int} : x_den w (k * n) (k * r) (k * f) (k * b) u = k * x_den w n r f b u := by
  rcases den_mul (w := w) (n := n) (r := r) (f := f) (b := b) (u := u) (k := k) with h | h
  · exact h
  · exact h.2
section RF
variable {d : Nat} {Q : xm_K} {M : xm_Mem} {n : Nat} {w : Nat → Nat → Int} {L S : Nat → Int}
def y_Lc (M : xm_Mem) (n : Nat) (L : Nat → Int) : Prop := ∀ t : Nat, t < n → M 75 t = L t ∧ (L t = 0 ∨ L t = 1)
theorem sp262_0 {a : Nat} {x : Int} (ha : a < 5) (hL : M 75 a = L a ∧ (L a = 0 ∨ L a = 1)) (hx : 0 ≤ x ∧ x < 8) (h1 : L a = x / 1 % 2 → Q [.inl 1] M) (h0 : L a ≠ x / 1 % 2 → Q [.inl 0] M) : xm_call true (d + 1) 262 [.inr (.inr 50), .inl (a : Int), .inl x, .inl 0] M Q := by
  have e : ((x + 2147483648) % 4294967296 - 2147483648) / 2 ^ ((0 : Int)).toNat = x / 1 := by
    rw [show (2 : Int) ^ ((0 : Int)).toNat = 1 from rfl]; omega
  refine en262r50 (rg262r50_0 ?_)
  rw [e, xa_1, hL.1]
  refine ⟨by omega, by omega, ⟨by omega, by omega⟩, fun g => ⟨⟨by omega, by omega⟩, fun g2 => ⟨Or.inl rfl, h0 (by omega)⟩, fun g2 => ⟨Or.inr rfl, h1 (by omega)⟩⟩, fun g => ⟨⟨by omega, by omega⟩, fun g2 => ⟨Or.inl rfl, h0 (by omega)⟩, fun g2 => ⟨Or.inr rfl, h1 (by omega)⟩⟩⟩
theorem sp262_1 {a : Nat} {x : Int} (ha : a < 5) (hL : M 75 a = L a ∧ (L a = 0 ∨ L a = 1)) (hx : 0 ≤ x ∧ x < 8) (h1 : L a = x / 2 % 2 → Q [.inl 1] M) (h0 : L a ≠ x / 2 % 2 → Q [.inl 0] M) : xm_call true (d + 1) 262 [.inr (.inr 50), .inl (a : Int), .inl x, .inl 1] M Q := by
  have e : ((x + 2147483648) % 4294967296 - 2147483648) / 2 ^ ((1 : Int)).toNat = x / 2 := by
    rw [show (2 : Int) ^ ((1 : Int)).toNat = 2 from rfl]; omega
  refine en262r50 (rg262r50_0 ?_)
  rw [e, xa_1, hL.1]
  refine ⟨by omega, by omega, ⟨by omega, by omega⟩, fun g => ⟨⟨by omega, by omega⟩, fun g2 => ⟨Or.inl rfl, h0 (by omega)⟩, fun g2 => ⟨Or.inr rfl, h1 (by omega)⟩⟩, fun g => ⟨⟨by omega, by omega⟩, fun g2 => ⟨Or.inl rfl, h0 (by omega)⟩, fun g2 => ⟨Or.inr rfl, h1 (by omega)⟩⟩⟩
theorem sp262_2 {a : Nat} {x : Int} (ha : a < 5) (hL : M 75 a = L a ∧ (L a = 0 ∨ L a = 1)) (hx : 0 ≤ x ∧ x < 8) (h1 : L a = x / 4 % 2 → Q [.inl 1] M) (h0 : L a ≠ x / 4 % 2 → Q [.inl 0] M) : xm_call true (d + 1) 262 [.inr (.inr 50), .inl (a : Int), .inl x, .inl 2] M Q := by
  have e : ((x + 2147483648) % 4294967296 - 2147483648) / 2 ^ ((2 : Int)).toNat = x / 4 := by
    rw [show (2 : Int) ^ ((2 : Int)).toNat = 4 from rfl]; omega
  refine en262r50 (rg262r50_0 ?_)
  rw [e, xa_1, hL.1]
  refine ⟨by omega, by omega, ⟨by omega, by omega⟩, fun g => ⟨⟨by omega, by omega⟩, fun g2 => ⟨Or.inl rfl, h0 (by omega)⟩, fun g2 => ⟨Or.inr rfl, h1 (by omega)⟩⟩, fun g => ⟨⟨by omega, by omega⟩, fun g2 => ⟨Or.inl rfl, h0 (by omega)⟩, fun g2 => ⟨Or.inr rfl, h1 (by omega)⟩⟩⟩
theorem lo263_43 {kind x : Int} {x2 acc : Int} {a b : Nat} (hc : y_cw M n w) (hL : y_Lc M n L) (hS : ∀ t : Nat, t < n → M 77 t = S t) (hk : kind = 2 ∨ kind = 3) (hx : 0 ≤ x ∧ x < 8) (ha : a < n) (hb : b < n) (h : ∀ o8 o9, wp263r50_31 (xm_call true (d + 1)) Q kind x2 x (acc + x_s (y_T w L S kind x a b) n) a ((b : Int) + 1) o8 o9 M) : ∀ (m k : Nat) (o9 : Option xm_V), k + m = n → wp263r50_43 (xm_call true (d + 1)) Q kind x2 x (acc + x_s (y_T w L S kind x a b) k) a b k o9 M
  | 0, k, o9, e0 => by
    have e : k = n := by omega
    subst e
    have c1 := hc.1
    have c2 := hc.2.1
    exact rg263r50_43 ⟨⟨by omega, by omega⟩, fun _ => h _ _, fun _ => by omega⟩
  | m + 1, k, o9, e0 => by
    have ih := fun o9 => lo263_43 (x2 := x2) (acc := acc) hc hL hS hk hx ha hb h m (k + 1) o9 (by omega)
    have c1 := hc.1
    have c2 := hc.2.1
    have w1 := hc.2.2 a b ha hb
    have w2 := hc.2.2 b k hb (by omega)
    rw [x_s, ← Int.add_assoc] at ih
    have i0 : ∀ o9, y_T w L S kind x a b k = 0 → wp263r50_43 (xm_call true (d + 1)) Q kind x2 x (acc + x_s (y_T w L S kind x a b) k + 0) a b ((k : Int) + 1) o9 M := fun o9 e => by
      have := ih o9
      rw [e] at this
      exact this
    have i1 : ∀ o9, y_T w L S kind x a b k = S a * w a b * w b k → (0 ≤ (a : Int) ∧ (a : Int) < 5) ∧ (0 ≤ ((5 * (a : Int)) + b) ∧ ((5 * (a : Int)) + b) < 25) ∧ (xm_in (M 76 ((5 * (a : Int)) + b))) ∧ (0 ≤ ((5 * (b : Int)) + k) ∧ ((5 * (b : Int)) + k) < 25) ∧ (xm_in (M 76 ((5 * (b : Int)) + k))) ∧ wp263r50_43 (xm_call true (d + 1)) Q kind x2 x (acc + x_s (y_T w L S kind x a b) k + (((M 77 a) * (M 76 ((5 * (a : Int)) + b))) * (M 76 ((5 * (b : Int)) + k)))) a b ((k : Int) + 1) o9 M := fun o9 e => by
      have := ih o9
      rw [e] at this
      rw [w1.1, w2.1, hS a ha]
      exact ⟨by omega, by omega, by omega, by omega, by omega, this⟩
    refine rg263r50_43 ⟨⟨by omega, by omega⟩, fun _ => by omega, fun _ => ?_⟩
    refine sp262_2 (by omega) (hL a ha) hx (fun g => xq_ki (xq_n1 ?_)) (fun g => xq_ki (xq_b3 ⟨by omega, fun _ => i0 _ ?_, fun q => absurd rfl q⟩))
    · refine sp262_1 (by omega) (hL b hb) hx (fun g2 => xq_ki (xq_n1 ⟨⟨by omega, by omega⟩, fun e => ⟨by omega, fun q => by omega, fun _ => i1 _ ?_⟩, fun e => ?_⟩)) (fun g2 => xq_ki (xq_b3 ⟨by omega, fun _ => i0 _ ?_, fun q => absurd rfl q⟩))
      · unfold y_T
        rw [if_pos ⟨g, g2, Or.inl e⟩]
      · refine sp262_0 (by omega) (hL k (by omega)) hx (fun g3 => xq_ki (xq_n1 ⟨by omega, fun q => by omega, fun _ => i1 _ ?_⟩)) (fun g3 => xq_ki (xq_b3 ⟨by omega, fun _ => i0 _ ?_, fun q => absurd rfl q⟩))
        · unfold y_T
          rw [if_pos ⟨g, g2, Or.inr (by omega)⟩]
        · unfold y_T
          rw [if_neg (by
            rintro ⟨-, -, q | q⟩
            · exact e q
            · exact g3 (by omega))]
      · unfold y_T
        rw [if_neg (fun q => g2 q.2.1)]
    · unfold y_T
      rw [if_neg (fun q => g q.1)]
theorem lo263_31 {kind x : Int} {x2 acc : Int} {a : Nat} (hc : y_cw M n w) (hL : y_Lc M n L) (hS : ∀ t : Nat, t < n → M 77 t = S t) (hk : kind = 2 ∨ kind = 3) (hx : 0 ≤ x ∧ x < 8) (ha : a < n) (h : ∀ o7 o8 o9, wp263r50_19 (xm_call true (d + 1)) Q kind x2 x (acc + x_s (fun b => x_s (y_T w L S kind x a b) n) n) ((a : Int) + 1) o7 o8 o9 M) : ∀ (m k : Nat) (o8 o9 : Option xm_V), k + m = n → wp263r50_31 (xm_call true (d + 1)) Q kind x2 x (acc + x_s (fun b => x_s (y_T w L S kind x a b) n) k) a k o8 o9 M
  | 0, k, o8, o9, e0 => by
    have e : k = n := by omega
    subst e
    have c1 := hc.1
    have c2 := hc.2.1
    exact rg263r50_31 ⟨⟨by omega, by omega⟩, fun _ => h _ _ _, fun _ => by omega⟩
  | m + 1, k, o8, o9, e0 => by
    have ih := fun o8 o9 => lo263_31 (x2 := x2) (acc := acc) hc hL hS hk hx ha h m (k + 1) o8 o9 (by omega)
    have c1 := hc.1
    have c2 := hc.2.1
    rw [x_s, ← Int.add_assoc] at ih
    refine rg263r50_31 ⟨⟨by omega, by omega⟩, fun _ => by omega, fun _ => ?_⟩
    have := lo263_43 (d := d) (Q := Q) (x2 := x2) (acc := acc + x_s (fun b => x_s (y_T w L S kind x a b) n) k) (a := a) (b := k) hc hL hS hk hx ha (by omega) (fun o8 o9 => ih o8 o9) n 0 o9 (by omega)
    rw [x_s, Int.add_zero] at this
    exact this
theorem lo263_19 {kind x : Int} {x2 : Int} (hc : y_cw M n w) (hL : y_Lc M n L) (hS : ∀ t : Nat, t < n → M 77 t = S t) (hk : kind = 2 ∨ kind = 3) (hx : 0 ≤ x ∧ x < 8) (h : Q [.inr (.inl (y_CC n w L S kind x))] M) : ∀ (m k : Nat) (o7 o8 o9 : Option xm_V), k + m = n → wp263r50_19 (xm_call true (d + 1)) Q kind x2 x (x_s (fun a => x_s (fun b => x_s (y_T w L S kind x a b) n) n) k) k o7 o8 o9 M
  | 0, k, o7, o8, o9, e0 => by
    have e : k = n := by omega
    subst e
    have c1 := hc.1
    have c2 := hc.2.1
    exact rg263r50_19 ⟨⟨by omega, by omega⟩, fun _ => h, fun _ => by omega⟩
  | m + 1, k, o7, o8, o9, e0 => by
    have ih := fun o7 o8 o9 => lo263_19 (x2 := x2) hc hL hS hk hx h m (k + 1) o7 o8 o9 (by omega)
    have c1 := hc.1
    have c2 := hc.2.1
    rw [x_s] at ih
    refine rg263r50_19 ⟨⟨by omega, by omega⟩, fun _ => by omega, fun _ => ?_⟩
    have := lo263_31 (d := d) (Q := Q) (x2 := x2) (acc := x_s (fun a => x_s (fun b => x_s (y_T w L S kind x a b) n) n) k) (a := k) hc hL hS hk hx (by omega) (fun o7 o8 o9 => ih o7 o8 o9) n 0 o8 o9 (by omega)
    rw [x_s, Int.add_zero] at this
    exact this
theorem sp263_2 {x : Int} (hc : y_cw M n w) (hL : y_Lc M n L) (hS : ∀ t : Nat, t < n → M 77 t = S t) (hr : ∀ i : Nat, i < n → x_s (w i) n = 12) (hx : 0 ≤ x ∧ x < 4) (h : Q [.inr (.inl (12 * x_X2 n w L S (x / 2 % 2) (x % 2)))] M) : xm_call true (d + 2) 263 [.inr (.inr 50), .inl 2, .inl x] M Q := by
  refine en263r50 (rg263r50_0 ⟨⟨by omega, by omega⟩, fun q => absurd rfl q, fun _ => ?_⟩)
  rw [← CC2 hc.2.1 hr] at h
  exact lo263_19 (x2 := x) hc hL hS (Or.inl rfl) (by omega) h n 0 none none none (by omega)
theorem sp263_3 {x : Int} (hc : y_cw M n w) (hL : y_Lc M n L) (hS : ∀ t : Nat, t < n → M 77 t = S t) (hx : 0 ≤ x ∧ x < 8) (h : Q [.inr (.inl (x_X3 n w L S (x / 4 % 2) (x / 2 % 2) (x % 2)))] M) : xm_call true (d + 2) 263 [.inr (.inr 50), .inl 3, .inl x] M Q := by
  refine en263r50 (rg263r50_0 ⟨⟨by omega, by omega⟩, fun _ => ?_, fun q => by omega⟩)
  rw [← CC3 hc.2.1] at h
  exact lo263_19 (x2 := x) hc hL hS (Or.inr rfl) hx h n 0 none none none (by omega)
end RF
