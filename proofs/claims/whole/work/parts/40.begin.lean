/-! a slot begins: the plan's, the drawn, the requested -/
theorem xa_nat {x y : Int} (h : ((x % 4294967296).toNat &&& (y % 4294967296).toNat) < 2147483648) : xm_and x y = (((x % 4294967296).toNat &&& (y % 4294967296).toNat : Nat) : Int) := by
  have e : (Int32.ofInt x &&& Int32.ofInt y).toBitVec.toNat = (x % 4294967296).toNat &&& (y % 4294967296).toNat := by
    rw [Int32.toBitVec_and, BitVec.toNat_and, xn_tn, xn_tn]
  unfold xm_and
  have e2 : (Int32.ofInt x &&& Int32.ofInt y).toInt = (Int32.ofInt x &&& Int32.ofInt y).toBitVec.toInt := rfl
  rw [e2, BitVec.toInt_eq_toNat_cond, e, if_pos (by omega)]
theorem xa_1 (z : Int) : xm_and z 1 = z % 2 := by
  have e : (z % 4294967296).toNat &&& ((1 : Int) % 4294967296).toNat = (z % 4294967296).toNat % 2 := by
    rw [show ((1 : Int) % 4294967296).toNat = 1 from rfl]
    exact Nat.and_one_is_mod _
  rw [xa_nat (by rw [e]; omega), e]
  omega
theorem xa_27 (x : Int) : xm_and x 134217728 = (x / 134217728 % 2) * 134217728 := by
  have e : (x % 4294967296).toNat &&& ((134217728 : Int) % 4294967296).toNat = ((x % 4294967296).toNat / 134217728 % 2) * 134217728 := by
    rw [show ((134217728 : Int) % 4294967296).toNat = 2 ^ 27 from rfl]
    have a := Nat.and_div_two_pow (a := (x % 4294967296).toNat) (b := 2 ^ 27) (n := 27)
    have b := Nat.and_mod_two_pow (a := (x % 4294967296).toNat) (b := 2 ^ 27) (n := 27)
    rw [show (2 : Nat) ^ 27 / 2 ^ 27 = 1 from rfl, Nat.and_one_is_mod] at a
    rw [Nat.mod_self, Nat.and_zero] at b
    generalize (x % 4294967296).toNat &&& 2 ^ 27 = z at *
    generalize (x % 4294967296).toNat = m at *
    rw [show (2 : Nat) ^ 27 = 134217728 from rfl] at a b
    omega
  rw [xa_nat (by rw [e]; omega), e]
  omega
theorem xw_27 (D : Int) : ((D + 2147483648) % 4294967296 - 2147483648) / 134217728 % 2 = D / 134217728 % 2 := by
  have e : (D + 2147483648) % 4294967296 - 2147483648 = D + 134217728 * (-32 * ((D + 2147483648) / 4294967296)) := by omega
  rw [e, Int.add_mul_ediv_left _ _ (by omega)]
  omega
theorem xp_28 : (2 : Int) ^ (28 : Int).toNat = 268435456 := rfl
theorem xp_27 : (2 : Int) ^ (27 : Int).toNat = 134217728 := rfl
def x_rqs (b w p : Int) (A : xm_Mem) : Nat → xm_Mem
  | 0 => A
  | n + 1 => x_adm b w p (x_rqs b w p A n) (A 27 n)
def y_rqs (p : Int) (B : xm_Mem) : Nat → xm_Mem
  | 0 => B
  | n + 1 => y_adm p (y_rqs p B n) (B 70 n)
def x_b1 (b w p pl : Int) (A : xm_Mem) : xm_Mem := if pl = 0 then A else x_adm b w p A pl
def y_b1 (p pl : Int) (B : xm_Mem) : xm_Mem := if pl = 0 then B else y_adm p B pl
def x_b2 (b w p : Int) (A : xm_Mem) : xm_Mem := if (69069 * A 23 7 + 1) % 4294967296 / 268435456 < A 23 6 then x_adm b w p (xm_up A 23 7 (69069 * A 23 7 + 1)) (if (69069 * A 23 7 + 1) / 134217728 % 2 = 0 then 2 else 3) else xm_up A 23 7 (69069 * A 23 7 + 1)
def y_b2 (p : Int) (B : xm_Mem) : xm_Mem := if (69069 * B 50 42 + 1) % 4294967296 / 268435456 < B 50 41 then y_adm p (xm_up B 50 42 (69069 * B 50 42 + 1)) (if (69069 * B 50 42 + 1) / 134217728 % 2 = 0 then 2 else 3) else xm_up B 50 42 (69069 * B 50 42 + 1)
def x_b3 (b w p : Int) (A : xm_Mem) : xm_Mem := xm_up (x_rqs b w p A (A 23 5).toNat) 23 5 0
def y_b3 (p : Int) (B : xm_Mem) : xm_Mem := xm_up (y_rqs p B (B 50 39).toNat) 50 39 0
def x_bgn (b w p pl : Int) (A : xm_Mem) : xm_Mem := x_b3 b w p (x_b2 b w p (x_b1 b w p pl A))
def y_bgn (p pl : Int) (B : xm_Mem) : xm_Mem := y_b3 p (y_b2 p (y_b1 p pl B))
def x_own (c : Nat) : Prop := c ≠ 23 ∧ c ≠ 24 ∧ c ≠ 25 ∧ c ≠ 26 ∧ c ≠ 28
def y_own (c : Nat) : Prop := c ≠ 50 ∧ c ≠ 67 ∧ c ≠ 68 ∧ c ≠ 69
def x_pln (k : Int) : Prop := k ≠ 3 ∧ k ≠ 8 ∧ k ≠ 9 ∧ k ≠ 5 ∧ k ≠ 7
def y_pln (k : Int) : Prop := k ≠ 32 ∧ k ≠ 36 ∧ k ≠ 37 ∧ k ≠ 39 ∧ k ≠ 42
theorem xrq_c {b w p : Int} {A : xm_Mem} {c : Nat} (h : x_own c) : ∀ n : Nat, x_rqs b w p A n c = A c
  | 0 => rfl
  | n + 1 => by rw [x_rqs, xad_c h, xrq_c h n]
theorem xrq_k {b w p k : Int} {A : xm_Mem} (h : k ≠ 3 ∧ k ≠ 8 ∧ k ≠ 9) : ∀ n : Nat, x_rqs b w p A n 23 k = A 23 k
  | 0 => rfl
  | n + 1 => by rw [x_rqs, xad_k h, xrq_k h n]
theorem yrq_c {p : Int} {B : xm_Mem} {c : Nat} (h : y_own c) : ∀ n : Nat, y_rqs p B n c = B c
  | 0 => rfl
  | n + 1 => by rw [y_rqs, yad_c h, yrq_c h n]
theorem yrq_k {p k : Int} {B : xm_Mem} (h : k ≠ 32 ∧ k ≠ 36 ∧ k ≠ 37) : ∀ n : Nat, y_rqs p B n 50 k = B 50 k
  | 0 => rfl
  | n + 1 => by rw [y_rqs, yad_k h, yrq_k h n]
theorem xb1_c {b w p pl : Int} {A : xm_Mem} {c : Nat} (h : x_own c) : x_b1 b w p pl A c = A c := by
  unfold x_b1
  split
  · rfl
  · rw [xad_c h]
theorem xb2_c {b w p : Int} {A : xm_Mem} {c : Nat} (h : x_own c) : x_b2 b w p A c = A c := by
  unfold x_b2
  have h0 := h
  unfold x_own at h0
  split
  · rw [xad_c h, xu_c (by omega)]
  · rw [xu_c (by omega)]
theorem xbg_c {b w p pl : Int} {A : xm_Mem} {c : Nat} (h : x_own c) : x_bgn b w p pl A c = A c := by
  unfold x_bgn x_b3
  have h0 := h
  unfold x_own at h0
  rw [xu_c (by omega), xrq_c h, xb2_c h, xb1_c h]
theorem yb1_c {p pl : Int} {B : xm_Mem} {c : Nat} (h : y_own c) : y_b1 p pl B c = B c := by
  unfold y_b1
  split
  · rfl
  · rw [yad_c h]
theorem yb2_c {p : Int} {B : xm_Mem} {c : Nat} (h : y_own c) : y_b2 p B c = B c := by
  unfold y_b2
  have h0 := h
  unfold y_own at h0
  split
  · rw [yad_c h, xu_c (by omega)]
  · rw [xu_c (by omega)]
theorem ybg_c {p pl : Int} {B : xm_Mem} {c : Nat} (h : y_own c) : y_bgn p pl B c = B c := by
  unfold y_bgn y_b3
  have h0 := h
  unfold y_own at h0
  rw [xu_c (by omega), yrq_c h, yb2_c h, yb1_c h]
theorem yb1_k {p pl k : Int} {B : xm_Mem} (h : y_pln k) : y_b1 p pl B 50 k = B 50 k := by
  unfold y_pln at h
  unfold y_b1
  split
  · rfl
  · rw [yad_k (by omega)]
theorem yb2_k {p k : Int} {B : xm_Mem} (h : y_pln k) : y_b2 p B 50 k = B 50 k := by
  unfold y_pln at h
  unfold y_b2
  split
  · rw [yad_k (by omega), xu_k (by omega)]
  · rw [xu_k (by omega)]
theorem ybg_k {p pl k : Int} {B : xm_Mem} (h : y_pln k) : y_bgn p pl B 50 k = B 50 k := by
  have h0 := h
  unfold y_pln at h0
  unfold y_bgn y_b3
  rw [xu_k (by omega), yrq_k (by omega), yb2_k h, yb1_k h]
theorem T_rqs {p b w : Int} {A B : xm_Mem} (h : T_all p 0 0 0 A B) (hb : b = B 50 3) (hw : w = B 50 4) : ∀ n : Nat, n ≤ A 23 5 → T_all p 0 0 0 (x_rqs b w p A n) (y_rqs p B n)
  | 0, _ => h
  | n + 1, hn => by
    have ih := T_rqs h hb hw n (by omega)
    have g := h.2.1.2.1 n (by omega) (by omega)
    rw [x_rqs, y_rqs, ← g.1]
    exact T_adm ih g.2 (by rw [yrq_k (by omega)]; exact hb) (by rw [yrq_k (by omega)]; exact hw)
theorem T_b1 {p b w pl : Int} {A B : xm_Mem} (h : T_all p 0 0 0 A B) (hb : b = B 50 3) (hw : w = B 50 4) (hpl : pl = 0 ∨ pl = 2 ∨ pl = 3) : T_all p 0 0 0 (x_b1 b w p pl A) (y_b1 p pl B) := by
  unfold x_b1 y_b1
  by_cases c : pl = 0
  · rw [if_pos c, if_pos c]; exact h
  · rw [if_neg c, if_neg c]
    exact T_adm h (by omega) hb hw
theorem T_dr {p : Int} {A B : xm_Mem} (h : T_all p 0 0 0 A B) : T_all p 0 0 0 (xm_up A 23 7 (69069 * A 23 7 + 1)) (xm_up B 50 42 (69069 * B 50 42 + 1)) := by
  obtain ⟨h1, ⟨a1, a2, a3, a4, a5⟩, h3, h4, h5, h6⟩ := h
  refine ⟨?_, ?_, ?_, ?_, ?_, ?_⟩
  · unfold T_fix T_rt R_rtA at *
    simp only [xu_c, xu_s, xu_k, ne_eq, Nat.reduceEqDiff, Int.reduceEq, not_false_eq_true]
    exact h1
  · unfold R_ask at *
    simp only [xu_c, xu_s, xu_k, ne_eq, Nat.reduceEqDiff, Int.reduceEq, not_false_eq_true]
    exact ⟨a1, a2, a3, by omega, a5⟩
  · unfold T_exp at *
    simp only [xu_c, xu_s, xu_k, ne_eq, Nat.reduceEqDiff, Int.reduceEq, not_false_eq_true]
    exact h3
  · unfold T_lin at *
    simp only [xu_c, xu_s, xu_k, ne_eq, Nat.reduceEqDiff, Int.reduceEq, not_false_eq_true]
    exact h4
  · unfold T_rec at *
    simp only [xu_c, xu_s, xu_k, ne_eq, Nat.reduceEqDiff, Int.reduceEq, not_false_eq_true]
    exact h5
  · simp only [xu_c, xu_s, xu_k, ne_eq, Nat.reduceEqDiff, Int.reduceEq, not_false_eq_true]
    exact h6
theorem T_b2 {p b w : Int} {A B : xm_Mem} (h : T_all p 0 0 0 A B) (hb : b = B 50 3) (hw : w = B 50 4) : T_all p 0 0 0 (x_b2 b w p A) (y_b2 p B) := by
  have z := T_dr h
  obtain ⟨-, ⟨a1, a2, a3, a4, a5⟩, -⟩ := h
  unfold x_b2 y_b2
  rw [← a4] at z
  rw [← a4, ← a3.1]
  by_cases c : (69069 * A 23 7 + 1) % 4294967296 / 268435456 < A 23 6
  · rw [if_pos c, if_pos c]
    exact T_adm z (by split <;> omega) (by rw [xu_k (by omega)]; exact hb) (by rw [xu_k (by omega)]; exact hw)
  · rw [if_neg c, if_neg c]
    exact z
theorem T_b3 {p b w : Int} {A B : xm_Mem} (h : T_all p 0 0 0 A B) (hb : b = B 50 3) (hw : w = B 50 4) : T_all p 0 0 0 (x_b3 b w p A) (y_b3 p B) := by
  have a1 := h.2.1.1
  have z := T_rqs h hb hw (A 23 5).toNat (by omega)
  unfold x_b3 y_b3
  rw [← a1.1]
  generalize x_rqs b w p A (A 23 5).toNat = X at *
  generalize y_rqs p B (A 23 5).toNat = Y at *
  obtain ⟨h1, ⟨b1, b2, b3, b4, b5⟩, h3, h4, h5, h6⟩ := z
  refine ⟨?_, ?_, ?_, ?_, ?_, ?_⟩
  · unfold T_fix T_rt R_rtA at *
    simp only [xu_c, xu_s, xu_k, ne_eq, Nat.reduceEqDiff, Int.reduceEq, not_false_eq_true]
    exact h1
  · unfold R_ask at *
    simp only [xu_c, xu_s, xu_k, ne_eq, Nat.reduceEqDiff, Int.reduceEq, not_false_eq_true]
    exact ⟨⟨trivial, by omega⟩, fun k q r => by omega, b3, b4, b5⟩
  · unfold T_exp at *
    simp only [xu_c, xu_s, xu_k, ne_eq, Nat.reduceEqDiff, Int.reduceEq, not_false_eq_true]
    exact h3
  · unfold T_lin at *
    simp only [xu_c, xu_s, xu_k, ne_eq, Nat.reduceEqDiff, Int.reduceEq, not_false_eq_true]
    exact h4
  · unfold T_rec at *
    simp only [xu_c, xu_s, xu_k, ne_eq, Nat.reduceEqDiff, Int.reduceEq, not_false_eq_true]
    exact h5
  · simp only [xu_c, xu_s, xu_k, ne_eq, Nat.reduceEqDiff, Int.reduceEq, not_false_eq_true]
    exact h6
theorem T_bg {p b w pl : Int} {A B : xm_Mem} (h : T_all p 0 0 0 A B) (hb : b = B 50 3) (hw : w = B 50 4) (hpl : pl = 0 ∨ pl = 2 ∨ pl = 3) : T_all p 0 0 0 (x_bgn b w p pl A) (y_bgn p pl B) := by
  unfold x_bgn y_bgn
  have z1 := T_b1 (pl := pl) h hb hw hpl
  have k3 : y_b1 p pl B 50 3 = B 50 3 := yb1_k (by unfold y_pln; omega)
  have k4 : y_b1 p pl B 50 4 = B 50 4 := yb1_k (by unfold y_pln; omega)
  have z2 := T_b2 (b := b) (w := w) z1 (by rw [k3]; exact hb) (by rw [k4]; exact hw)
  exact T_b3 z2 (by rw [yb2_k (by unfold y_pln; omega), k3]; exact hb) (by rw [yb2_k (by unfold y_pln; omega), k4]; exact hw)
/-- the plan's in slot p -/
def y_pl (B : xm_Mem) (p : Int) : Int := if 0 < B 52 4 then B 51 (1600 + Int.tmod p (B 52 4)) else 0
theorem y_pl_in {A B : xm_Mem} {p : Int} (h : T_rt A B) (hp : 0 ≤ p) : (y_pl B p = 0 ∨ y_pl B p = 2 ∨ y_pl B p = 3) ∧ 0 ≤ B 52 4 ∧ B 52 4 ≤ 400 := by
  unfold y_pl
  rcases h with ⟨-, -, -, -, -, -, -, -, q1, -, q3, q4⟩ | ⟨-, -, -, -, -, -, -, -, q1, -, q3, q4⟩
  all_goals
    have q1 := q1 4 (by omega) (by omega)
    refine ⟨?_, by omega⟩
    split
    · have t1 := Int.tmod_nonneg (B 52 4) hp
      have t2 := Int.tmod_lt_of_pos p (b := B 52 4) (by omega)
      have q3 := q3 4 _ (by omega) (by omega) t1 (by omega)
      have q4 := q4 _ t1 (by omega)
      simp only [Int.reduceMul] at q3
      omega
    · omega
section BG
variable {d : Nat} {Q : xm_K}
theorem sp173p11 {A B : xm_Mem} {p : Int} (hrt : R_rtA (A 11) (A 12) (A 13) (B 50) (B 51) (B 52)) (hp : 0 ≤ p ∧ p < 2000) (h : Q [.inl (y_pl B p)] A) : xm_call true (d + 2) 173 [.inr (.inr 11), .inl 4, .inl p] A Q := by
  obtain ⟨-, -, -, -, -, g5, q1, q2, q3, -⟩ := hrt
  have q1 := q1 4 (by omega) (by omega)
  unfold y_pl at h
  refine sp173r11 (by omega) (by omega) q1.2 (fun g => ?_) (fun g t1 t2 => ?_)
  · rw [if_neg (by omega)] at h
    exact h
  · have q3 := q3 4 _ (by omega) (by omega) t1 t2
    simp only [Int.reduceMul] at q3 ⊢
    rw [if_pos (by omega), ← q1.1, ← q3.1] at h
    exact h
theorem lo78_11 {A B : xm_Mem} {p b w x3 : Int} (hT : T_all p 0 0 0 A B) (hb : b = B 50 3) (hw : w = B 50 4) (gb : A 11 3 = b) (gw : A 11 4 = w) (h : Q [] (x_b3 b w p A)) : ∀ (n k : Nat), k + n = (A 23 5).toNat → wp78r23r11_69 (xm_call true (d + 4)) Q p x3 k (x_rqs b w p A k)
  | 0, k, h0 => by
    have a1 := hT.2.1.1
    have e : k = (A 23 5).toNat := by omega
    unfold x_b3 at h
    rw [← e] at h
    refine rg78r23r11_69 ?_
    rw [xrq_k (by omega)]
    exact ⟨⟨by omega, by omega⟩, fun _ => h, fun _ => by omega⟩
  | n + 1, k, h0 => by
    have ih := lo78_11 (x3 := x3) hT hb hw gb gw h n (k + 1) (by omega)
    have a1 := hT.2.1.1
    have z := T_rqs hT hb hw k (by omega)
    have g := hT.2.1.2.1 k (by omega) (by omega)
    rw [x_rqs] at ih
    refine rg78r23r11_69 ?_
    rw [xrq_k (by omega), xrq_c (c := 27) (by unfold x_own; omega)]
    refine ⟨⟨by omega, by omega⟩, fun _ => by omega, fun _ => ⟨⟨by omega, by omega⟩, fun _ => by omega, fun _ => ⟨by omega, ?_⟩⟩⟩
    exact sp79_11 z g.2 (by rw [yrq_k (by omega)]; exact hb) (by rw [yrq_k (by omega)]; exact hw) (by rw [xrq_c (by unfold x_own; omega)]; exact gb) (by rw [xrq_c (by unfold x_own; omega)]; exact gw) (xq_kv ih)
theorem sp78_11 {A B : xm_Mem} {p b w : Int} (hT : T_all p 0 0 0 A B) (hrt : R_rtA (A 11) (A 12) (A 13) (B 50) (B 51) (B 52)) (hb : b = B 50 3) (hw : w = B 50 4) (h : Q [] (x_bgn b w p (y_pl B p) A)) : xm_call true (d + 5) 78 [.inr (.inr 23), .inl p, .inr (.inr 11)] A Q := by
  have hp := hT.2.2.2.2.1.1.2.2
  have hpl := (y_pl_in hT.1.2.1 hp.1).1
  have gb : A 11 3 = b := by rw [hb]; exact hrt.2.2.2.1.1
  have gw : A 11 4 = w := by rw [hw]; exact hrt.2.2.2.2.1.1
  have dr : ∀ (X Y : xm_Mem) (x3 : Int), T_all p 0 0 0 X Y → b = Y 50 3 → w = Y 50 4 → X 11 3 = b → X 11 4 = w → Q [] (x_b3 b w p (x_b2 b w p X)) → (0 ≤ (28 : Int) ∧ (28 : Int) < 32) ∧ (xm_in (((69069 * (X 23 7)) + 1) % 4294967296 / 2 ^ (28 : Int).toNat) ∧ xm_in (X 23 6)) ∧ (((X 23 6) ≤ (((69069 * (X 23 7)) + 1) % 4294967296 / 2 ^ (28 : Int).toNat) → wp78r23r11_69 (xm_call true (d + 4)) Q p x3 0 (xm_up X 23 7 ((69069 * (X 23 7)) + 1))) ∧ ((((69069 * (X 23 7)) + 1) % 4294967296 / 2 ^ (28 : Int).toNat) < (X 23 6) → (xm_in (xm_and ((69069 * (X 23 7)) + 1) 134217728)) ∧ (((xm_and ((69069 * (X 23 7)) + 1) 134217728) = 0 → xm_call true (d + 4) 79 [.inr (.inr 23), .inl 2, .inl p, .inr (.inr 11)] (xm_up X 23 7 ((69069 * (X 23 7)) + 1)) (fun v4 M5 => xm_kv (wp78r23r11_69 (xm_call true (d + 4)) Q p x3 0 M5) v4)) ∧ ((xm_and ((69069 * (X 23 7)) + 1) 134217728) ≠ 0 → xm_call true (d + 4) 79 [.inr (.inr 23), .inl 3, .inl p, .inr (.inr 11)] (xm_up X 23 7 ((69069 * (X 23 7)) + 1)) (fun v6 M7 => xm_kv (wp78r23r11_69 (xm_call true (d + 4)) Q p x3 0 M7) v6))))) := by
    intro X Y x3 hX yb yw xb xw hq
    have z := T_dr hX
    have zb := T_b2 hX yb yw
    obtain ⟨-, ⟨a1, a2, a3, a4, a5⟩, -⟩ := hX
    rw [xp_28, xa_27]
    have fin : ∀ Z Y' : xm_Mem, Z = x_b2 b w p X → T_all p 0 0 0 Z Y' → b = Y' 50 3 → w = Y' 50 4 → Z 11 3 = b → Z 11 4 = w → wp78r23r11_69 (xm_call true (d + 4)) Q p x3 0 Z := by
      intro Z Y' hZ t1 t2 t3 t4 t5
      rw [← hZ] at hq
      exact lo78_11 (d := d) (x3 := x3) t1 t2 t3 t4 t5 hq (Z 23 5).toNat 0 (by omega)
    have kb3 : y_b2 p Y 50 3 = Y 50 3 := yb2_k (by unfold y_pln; omega)
    have kb4 : y_b2 p Y 50 4 = Y 50 4 := yb2_k (by unfold y_pln; omega)
    have kc : x_b2 b w p X 11 = X 11 := xb2_c (by unfold x_own; omega)
    have fin2 := fin (x_b2 b w p X) (y_b2 p Y) rfl zb (by rw [kb3]; exact yb) (by rw [kb4]; exact yw) (by rw [kc]; exact xb) (by rw [kc]; exact xw)
    unfold x_b2 at fin2
    refine ⟨by omega, ⟨by omega, by omega⟩, fun g => ?_, fun g => ⟨by omega, fun g2 => ?_, fun g2 => ?_⟩⟩
    · rw [if_neg (by omega)] at fin2
      exact fin2
    · rw [if_pos g, if_pos (by omega)] at fin2
      exact sp79_11 z (by omega) (by rw [xu_k (by omega)]; exact yb) (by rw [xu_k (by omega)]; exact yw) (by rw [xu_c (by omega)]; exact xb) (by rw [xu_c (by omega)]; exact xw) (xq_kv fin2)
    · rw [if_pos g, if_neg (by omega)] at fin2
      exact sp79_11 z (by omega) (by rw [xu_k (by omega)]; exact yb) (by rw [xu_k (by omega)]; exact yw) (by rw [xu_c (by omega)]; exact xb) (by rw [xu_c (by omega)]; exact xw) (xq_kv fin2)
  have z1 := T_b1 (pl := y_pl B p) hT hb hw hpl
  have k3 : y_b1 p (y_pl B p) B 50 3 = B 50 3 := yb1_k (by unfold y_pln; omega)
  have k4 : y_b1 p (y_pl B p) B 50 4 = B 50 4 := yb1_k (by unfold y_pln; omega)
  have kc : x_b1 b w p (y_pl B p) A 11 = A 11 := xb1_c (by unfold x_own; omega)
  have go := fun x3 => dr _ _ x3 z1 (by rw [k3]; exact hb) (by rw [k4]; exact hw) (by rw [kc]; exact gb) (by rw [kc]; exact gw) h
  refine en78r23r11 (rg78r23r11_0 (sp173p11 hrt hp (xq_ki ⟨by omega, fun g => ?_, fun g => ?_⟩)))
  · have go := go (y_pl B p)
    have e : x_b1 b w p (y_pl B p) A = A := by unfold x_b1; rw [if_pos g]
    rw [e] at go
    exact go
  · have go := go (y_pl B p)
    have e : x_b1 b w p (y_pl B p) A = x_adm b w p A (y_pl B p) := by unfold x_b1; rw [if_neg g]
    rw [e] at go
    exact sp79_11 hT (by omega) hb hw gb gw (xq_kv go)
theorem sp173p14 {A B : xm_Mem} {p : Int} (hrt : R_rtA (A 14) (A 15) (A 16) (B 50) (B 51) (B 52)) (hp : 0 ≤ p ∧ p < 2000) (h : Q [.inl (y_pl B p)] A) : xm_call true (d + 2) 173 [.inr (.inr 14), .inl 4, .inl p] A Q := by
  obtain ⟨-, -, -, -, -, g5, q1, q2, q3, -⟩ := hrt
  have q1 := q1 4 (by omega) (by omega)
  unfold y_pl at h
  refine sp173r14 (by omega) (by omega) q1.2 (fun g => ?_) (fun g t1 t2 => ?_)
  · rw [if_neg (by omega)] at h
    exact h
  · have q3 := q3 4 _ (by omega) (by omega) t1 t2
    simp only [Int.reduceMul] at q3 ⊢
    rw [if_pos (by omega), ← q1.1, ← q3.1] at h
    exact h
theorem lo78_14 {A B : xm_Mem} {p b w x3 : Int} (hT : T_all p 0 0 0 A B) (hb : b = B 50 3) (hw : w = B 50 4) (gb : A 14 3 = b) (gw : A 14 4 = w) (h : Q [] (x_b3 b w p A)) : ∀ (n k : Nat), k + n = (A 23 5).toNat → wp78r23r14_69 (xm_call true (d + 4)) Q p x3 k (x_rqs b w p A k)
  | 0, k, h0 => by
    have a1 := hT.2.1.1
    have e : k = (A 23 5).toNat := by omega
    unfold x_b3 at h
    rw [← e] at h
    refine rg78r23r14_69 ?_
    rw [xrq_k (by omega)]
    exact ⟨⟨by omega, by omega⟩, fun _ => h, fun _ => by omega⟩
  | n + 1, k, h0 => by
    have ih := lo78_14 (x3 := x3) hT hb hw gb gw h n (k + 1) (by omega)
    have a1 := hT.2.1.1
    have z := T_rqs hT hb hw k (by omega)
    have g := hT.2.1.2.1 k (by omega) (by omega)
    rw [x_rqs] at ih
    refine rg78r23r14_69 ?_
    rw [xrq_k (by omega), xrq_c (c := 27) (by unfold x_own; omega)]
    refine ⟨⟨by omega, by omega⟩, fun _ => by omega, fun _ => ⟨⟨by omega, by omega⟩, fun _ => by omega, fun _ => ⟨by omega, ?_⟩⟩⟩
    exact sp79_14 z g.2 (by rw [yrq_k (by omega)]; exact hb) (by rw [yrq_k (by omega)]; exact hw) (by rw [xrq_c (by unfold x_own; omega)]; exact gb) (by rw [xrq_c (by unfold x_own; omega)]; exact gw) (xq_kv ih)
theorem sp78_14 {A B : xm_Mem} {p b w : Int} (hT : T_all p 0 0 0 A B) (hrt : R_rtA (A 14) (A 15) (A 16) (B 50) (B 51) (B 52)) (hb : b = B 50 3) (hw : w = B 50 4) (h : Q [] (x_bgn b w p (y_pl B p) A)) : xm_call true (d + 5) 78 [.inr (.inr 23), .inl p, .inr (.inr 14)] A Q := by
  have hp := hT.2.2.2.2.1.1.2.2
  have hpl := (y_pl_in hT.1.2.1 hp.1).1
  have gb : A 14 3 = b := by rw [hb]; exact hrt.2.2.2.1.1
  have gw : A 14 4 = w := by rw [hw]; exact hrt.2.2.2.2.1.1
  have dr : ∀ (X Y : xm_Mem) (x3 : Int), T_all p 0 0 0 X Y → b = Y 50 3 → w = Y 50 4 → X 14 3 = b → X 14 4 = w → Q [] (x_b3 b w p (x_b2 b w p X)) → (0 ≤ (28 : Int) ∧ (28 : Int) < 32) ∧ (xm_in (((69069 * (X 23 7)) + 1) % 4294967296 / 2 ^ (28 : Int).toNat) ∧ xm_in (X 23 6)) ∧ (((X 23 6) ≤ (((69069 * (X 23 7)) + 1) % 4294967296 / 2 ^ (28 : Int).toNat) → wp78r23r14_69 (xm_call true (d + 4)) Q p x3 0 (xm_up X 23 7 ((69069 * (X 23 7)) + 1))) ∧ ((((69069 * (X 23 7)) + 1) % 4294967296 / 2 ^ (28 : Int).toNat) < (X 23 6) → (xm_in (xm_and ((69069 * (X 23 7)) + 1) 134217728)) ∧ (((xm_and ((69069 * (X 23 7)) + 1) 134217728) = 0 → xm_call true (d + 4) 79 [.inr (.inr 23), .inl 2, .inl p, .inr (.inr 14)] (xm_up X 23 7 ((69069 * (X 23 7)) + 1)) (fun v4 M5 => xm_kv (wp78r23r14_69 (xm_call true (d + 4)) Q p x3 0 M5) v4)) ∧ ((xm_and ((69069 * (X 23 7)) + 1) 134217728) ≠ 0 → xm_call true (d + 4) 79 [.inr (.inr 23), .inl 3, .inl p, .inr (.inr 14)] (xm_up X 23 7 ((69069 * (X 23 7)) + 1)) (fun v6 M7 => xm_kv (wp78r23r14_69 (xm_call true (d + 4)) Q p x3 0 M7) v6))))) := by
    intro X Y x3 hX yb yw xb xw hq
    have z := T_dr hX
    have zb := T_b2 hX yb yw
    obtain ⟨-, ⟨a1, a2, a3, a4, a5⟩, -⟩ := hX
    rw [xp_28, xa_27]
    have fin : ∀ Z Y' : xm_Mem, Z = x_b2 b w p X → T_all p 0 0 0 Z Y' → b = Y' 50 3 → w = Y' 50 4 → Z 14 3 = b → Z 14 4 = w → wp78r23r14_69 (xm_call true (d + 4)) Q p x3 0 Z := by
      intro Z Y' hZ t1 t2 t3 t4 t5
      rw [← hZ] at hq
      exact lo78_14 (d := d) (x3 := x3) t1 t2 t3 t4 t5 hq (Z 23 5).toNat 0 (by omega)
    have kb3 : y_b2 p Y 50 3 = Y 50 3 := yb2_k (by unfold y_pln; omega)
    have kb4 : y_b2 p Y 50 4 = Y 50 4 := yb2_k (by unfold y_pln; omega)
    have kc : x_b2 b w p X 14 = X 14 := xb2_c (by unfold x_own; omega)
    have fin2 := fin (x_b2 b w p X) (y_b2 p Y) rfl zb (by rw [kb3]; exact yb) (by rw [kb4]; exact yw) (by rw [kc]; exact xb) (by rw [kc]; exact xw)
    unfold x_b2 at fin2
    refine ⟨by omega, ⟨by omega, by omega⟩, fun g => ?_, fun g => ⟨by omega, fun g2 => ?_, fun g2 => ?_⟩⟩
    · rw [if_neg (by omega)] at fin2
      exact fin2
    · rw [if_pos g, if_pos (by omega)] at fin2
      exact sp79_14 z (by omega) (by rw [xu_k (by omega)]; exact yb) (by rw [xu_k (by omega)]; exact yw) (by rw [xu_c (by omega)]; exact xb) (by rw [xu_c (by omega)]; exact xw) (xq_kv fin2)
    · rw [if_pos g, if_neg (by omega)] at fin2
      exact sp79_14 z (by omega) (by rw [xu_k (by omega)]; exact yb) (by rw [xu_k (by omega)]; exact yw) (by rw [xu_c (by omega)]; exact xb) (by rw [xu_c (by omega)]; exact xw) (xq_kv fin2)
  have z1 := T_b1 (pl := y_pl B p) hT hb hw hpl
  have k3 : y_b1 p (y_pl B p) B 50 3 = B 50 3 := yb1_k (by unfold y_pln; omega)
  have k4 : y_b1 p (y_pl B p) B 50 4 = B 50 4 := yb1_k (by unfold y_pln; omega)
  have kc : x_b1 b w p (y_pl B p) A 14 = A 14 := xb1_c (by unfold x_own; omega)
  have go := fun x3 => dr _ _ x3 z1 (by rw [k3]; exact hb) (by rw [k4]; exact hw) (by rw [kc]; exact gb) (by rw [kc]; exact gw) h
  refine en78r23r14 (rg78r23r14_0 (sp173p14 hrt hp (xq_ki ⟨by omega, fun g => ?_, fun g => ?_⟩)))
  · have go := go (y_pl B p)
    have e : x_b1 b w p (y_pl B p) A = A := by unfold x_b1; rw [if_pos g]
    rw [e] at go
    exact go
  · have go := go (y_pl B p)
    have e : x_b1 b w p (y_pl B p) A = x_adm b w p A (y_pl B p) := by unfold x_b1; rw [if_neg g]
    rw [e] at go
    exact sp79_14 hT (by omega) hb hw gb gw (xq_kv go)
theorem lo217 {A B : xm_Mem} {p x1 : Int} (hT : T_all p 0 0 0 A B) (h : Q [] (y_b3 p B)) : ∀ (n k : Nat), k + n = (B 50 39).toNat → wp217r50_83 (xm_call true (d + 4)) Q x1 k (y_rqs p B k)
  | 0, k, h0 => by
    have a1 := hT.2.1.1
    have e : k = (B 50 39).toNat := by omega
    unfold y_b3 at h
    rw [← e] at h
    refine rg217r50_83 ?_
    rw [yrq_k (by omega)]
    exact ⟨⟨by omega, by omega⟩, fun _ => h, fun _ => by omega⟩
  | n + 1, k, h0 => by
    have ih := lo217 (x1 := x1) hT h n (k + 1) (by omega)
    have a1 := hT.2.1.1
    have z := T_rqs (b := B 50 3) (w := B 50 4) hT rfl rfl k (by omega)
    have g := hT.2.1.2.1 k (by omega) (by omega)
    rw [y_rqs] at ih
    refine rg217r50_83 ?_
    rw [yrq_k (by omega), yrq_c (c := 70) (by unfold y_own; omega)]
    refine ⟨⟨by omega, by omega⟩, fun _ => by omega, fun _ => ⟨by omega, ?_⟩⟩
    exact sp216 z (by rw [← g.1]; exact g.2) (xq_kv ih)
theorem sp217 {A B : xm_Mem} {p : Int} (hT : T_all p 0 0 0 A B) (h : Q [] (y_bgn p (y_pl B p) B)) : xm_call true (d + 5) 217 [.inr (.inr 50)] B Q := by
  have hp := hT.2.2.2.2.1.1.2.2
  have h20 := hT.2.2.2.2.1.1.2.1
  have hpl := y_pl_in hT.1.2.1 hp.1
  have dr : ∀ (X Y : xm_Mem) (x1 : Int), T_all p 0 0 0 X Y → Q [] (y_b3 p (y_b2 p Y)) → (0 ≤ (28 : Int) ∧ (28 : Int) < 32) ∧ (xm_in (((69069 * (Y 50 42)) + 1) % 4294967296 / 2 ^ (28 : Int).toNat) ∧ xm_in (Y 50 41)) ∧ (((Y 50 41) ≤ (((69069 * (Y 50 42)) + 1) % 4294967296 / 2 ^ (28 : Int).toNat) → wp217r50_83 (xm_call true (d + 4)) Q x1 0 (xm_up Y 50 42 ((69069 * (Y 50 42)) + 1))) ∧ ((((69069 * (Y 50 42)) + 1) % 4294967296 / 2 ^ (28 : Int).toNat) < (Y 50 41) → (0 ≤ (27 : Int) ∧ (27 : Int) < 32) ∧ (xm_in (xm_and (((((69069 * (Y 50 42)) + 1) + 2147483648) % 4294967296 - 2147483648) / 2 ^ (27 : Int).toNat) 1) ∧ xm_in 1) ∧ (((xm_and (((((69069 * (Y 50 42)) + 1) + 2147483648) % 4294967296 - 2147483648) / 2 ^ (27 : Int).toNat) 1) ≠ 1 → xm_call true (d + 4) 216 [.inr (.inr 50), .inl 2] (xm_up Y 50 42 ((69069 * (Y 50 42)) + 1)) (fun v1 M2 => xm_kv (wp217r50_83 (xm_call true (d + 4)) Q x1 0 M2) v1)) ∧ ((xm_and (((((69069 * (Y 50 42)) + 1) + 2147483648) % 4294967296 - 2147483648) / 2 ^ (27 : Int).toNat) 1) = 1 → xm_call true (d + 4) 216 [.inr (.inr 50), .inl 3] (xm_up Y 50 42 ((69069 * (Y 50 42)) + 1)) (fun v3 M4 => xm_kv (wp217r50_83 (xm_call true (d + 4)) Q x1 0 M4) v3))))) := by
    intro X Y x1 hX hq
    have z := T_dr hX
    have zb := T_b2 (b := Y 50 3) (w := Y 50 4) hX rfl rfl
    obtain ⟨-, ⟨a1, a2, a3, a4, a5⟩, -⟩ := hX
    rw [xp_28, xp_27, xa_1, xw_27]
    have fin2 := lo217 (d := d) (x1 := x1) zb hq (y_b2 p Y 50 39).toNat 0 (by omega)
    rw [y_rqs] at fin2
    unfold y_b2 at fin2
    refine ⟨by omega, ⟨by omega, by omega⟩, fun g => ?_, fun g => ⟨by omega, ⟨by omega, by omega⟩, fun g2 => ?_, fun g2 => ?_⟩⟩
    · rw [if_neg (by omega)] at fin2
      exact fin2
    · rw [if_pos g, if_pos (by omega)] at fin2
      exact sp216 z (by omega) (xq_kv fin2)
    · rw [if_pos g, if_neg (by omega)] at fin2
      exact sp216 z (by omega) (xq_kv fin2)
  have z1 := T_b1 (b := B 50 3) (w := B 50 4) (pl := y_pl B p) hT rfl rfl hpl.1
  have go := fun x1 => dr _ _ x1 z1 h
  refine en217r50 (rg217r50_0 ⟨by omega, by omega, fun g => ?_, fun g => ?_⟩)
  · have e0 : y_pl B p = 0 := by unfold y_pl; rw [if_neg (by omega)]
    have e : y_b1 p (y_pl B p) B = B := by unfold y_b1; rw [if_pos e0]
    rw [e] at go
    exact ⟨by omega, fun _ => go 0, fun q => by omega⟩
  · have t1 := Int.tmod_nonneg (B 52 4) hp.1
    have t2 := Int.tmod_lt_of_pos p (b := B 52 4) (by omega)
    refine en211r50 (rg211r50_0 ?_)
    rw [h20]
    refine ⟨by omega, ⟨by omega, by omega, by omega⟩, by omega, xq_ki ?_⟩
    have e0 : B 51 (400 * 4 + Int.tmod p (B 52 4)) = y_pl B p := by
      unfold y_pl
      rw [if_pos g]
      simp only [Int.reduceMul]
    rw [e0]
    refine ⟨by omega, fun q => ?_, fun q => ?_⟩
    · have e : y_b1 p (y_pl B p) B = B := by unfold y_b1; rw [if_pos (by omega)]
      rw [e] at go
      exact go _
    · have e : y_b1 p (y_pl B p) B = y_adm p B (y_pl B p) := by unfold y_b1; rw [if_neg (by omega)]
      rw [e] at go
      exact sp216 hT (by omega) (xq_kv (go _))
end BG
