/-! fractions in lowest terms; the reference's episodes; counts -/
def x_part (a b w : Int) : Int := Int.tdiv (if w = 0 then a else b) ((Nat.gcd a.toNat b.toNat : Nat) : Int)
theorem lc_z {a : Int} (h : 0 ≤ a) : (xm_lc a 0 = 0 ↔ a = 0) ∧ xm_in (xm_lc a 0) := by
  unfold xm_lc
  constructor
  · constructor
    · intro g
      split at g
      · omega
      · split at g
        · assumption
        · omega
    · intro g
      rw [if_neg (by omega), if_pos g]
  · split
    · omega
    · split <;> omega
theorem gcd_up (a b : Nat) : Nat.gcd b (a % b) = Nat.gcd a b := by
  rw [Nat.gcd_comm b, ← Nat.gcd_rec, Nat.gcd_comm]
section PG
variable {d : Nat} {Q : xm_K} {M : xm_Mem}
theorem lo244 {cs : xm_C} {x0 x2 : Int} {g : Nat} (h : Q [.inr (.inl (g : Int))] M) : ∀ (n b a : Nat) (o : Option xm_V), b < n → a < 9223372036854775808 → b < 9223372036854775808 → Nat.gcd a b = g → wp244_6 cs Q x0 x2 (a : Int) (b : Int) o M
  | 0, b, a, o, h0, _, _, _ => absurd h0 (by omega)
  | n + 1, b, a, o, h0, ha, hb, hg => by
    have l := lc_z (a := (b : Int)) (by omega)
    refine rg244_6 ⟨⟨by omega, by omega⟩, l.2, fun e => ?_, fun e => ⟨⟨by omega, by omega, by omega⟩, ?_⟩⟩
    · have e' : b = 0 := by have := l.1.1 e; omega
      rw [e', Nat.gcd_zero_right] at hg
      rw [hg]; exact h
    · have hb' : 0 < b := by
        rcases Nat.eq_zero_or_pos b with e' | e'
        · exact absurd (l.1.2 (by omega)) e
        · exact e'
      have hm := Nat.mod_lt a hb'
      exact lo244 h n (a % b) b _ (by omega) hb (by omega) (by rw [gcd_up, hg])
theorem lo30 {cs : xm_C} {x0 x2 : Int} {g : Nat} (h : Q [.inr (.inl (g : Int))] M) : ∀ (n a b : Nat) (i : Int) (o : Option xm_V), b < 2 ^ n → a < 9223372036854775808 → b < 9223372036854775808 → 0 ≤ i → i + 2 * n < 1000 → Nat.gcd a b = g → wp30_9 cs Q x0 x2 (a : Int) (b : Int) i o M := by
  have stop : ∀ (a : Nat) (i : Int) (o : Option xm_V), 0 ≤ i → i < 1000 → a = g → wp30_9 cs Q x0 x2 (a : Int) ((0 : Nat) : Int) i o M := by
    intro a i o h0 h1 hg
    have l := lc_z (a := ((0 : Nat) : Int)) (by omega)
    refine rg30_9 ⟨⟨by omega, by omega⟩, fun _ => by omega, fun _ => ⟨⟨by omega, by omega⟩, l.2, fun e => by rw [hg]; exact h, fun e => absurd (l.1.2 rfl) e⟩⟩
  have go : ∀ (a b : Nat) (i : Int) (o : Option xm_V), 0 < b → a < 9223372036854775808 → b < 9223372036854775808 → 0 ≤ i → i < 1000 → (∀ o', wp30_9 cs Q x0 x2 (b : Int) ((a % b : Nat) : Int) (i + 1) o' M) → wp30_9 cs Q x0 x2 (a : Int) (b : Int) i o M := by
    intro a b i o hb' ha hb h0 h1 hk
    have l := lc_z (a := (b : Int)) (by omega)
    refine rg30_9 ⟨⟨by omega, by omega⟩, fun _ => by omega, fun _ => ⟨⟨by omega, by omega⟩, l.2, fun e => ?_, fun e => ⟨⟨by omega, by omega, by omega⟩, ?_⟩⟩⟩
    · have := l.1.1 e; omega
    · exact hk _
  intro n
  induction n with
  | zero =>
    intro a b i o hn ha hb h0 h1 hg
    have e : b = 0 := by omega
    subst e
    exact stop a i o h0 (by omega) (by rw [Nat.gcd_zero_right] at hg; exact hg)
  | succ n ih =>
    intro a b i o hn ha hb h0 h1 hg
    rcases Nat.eq_zero_or_pos b with e | e
    · subst e
      exact stop a i o h0 (by omega) (by rw [Nat.gcd_zero_right] at hg; exact hg)
    · refine go a b i o e ha hb h0 (by omega) (fun o' => ?_)
      have hm := Nat.mod_lt a e
      rcases Nat.eq_zero_or_pos (a % b) with e2 | e2
      · rw [← gcd_up, e2, Nat.gcd_zero_right] at hg
        rw [e2]
        exact stop b (i + 1) o' (by omega) (by omega) hg
      · refine go b (a % b) (i + 1) o' e2 hb (by omega) (by omega) (by omega) (fun o2 => ?_)
        have hm2 := Nat.mod_lt b e2
        have hd := Nat.div_add_mod b (a % b)
        have hq : 1 ≤ b / (a % b) := by
          rw [Nat.le_div_iff_mul_le e2]; omega
        have hq2 : (a % b) * 1 ≤ (a % b) * (b / (a % b)) := Nat.mul_le_mul_left _ hq
        have hh : 2 * (b % (a % b)) < b := by omega
        refine ih (a % b) (b % (a % b)) (i + 1 + 1) o2 ?_ (by omega) (by omega) (by omega) (by omega) (by rw [gcd_up, gcd_up, hg])
        rw [Nat.pow_succ] at hn
        omega
theorem sp244 {a b : Int} (ha : 0 ≤ a ∧ a < 9223372036854775808) (hb : 0 ≤ b ∧ b < 9223372036854775808) (h : Q [.inr (.inl ((Nat.gcd a.toNat b.toNat : Nat) : Int))] M) : xm_call true (d + 1) 244 [.inr (.inl a), .inr (.inl b)] M Q := by
  refine en244 (rg244_0 ?_)
  have e1 : a = (a.toNat : Int) := by omega
  have e2 : b = (b.toNat : Int) := by omega
  have := lo244 (cs := xm_call true d) (x0 := a) (x2 := b) h (b.toNat + 1) b.toNat a.toNat none (by omega) (by omega) (by omega) rfl
  rw [← e1, ← e2] at this
  exact this
theorem sp30 {a b : Int} (ha : 0 ≤ a ∧ a < 9223372036854775808) (hb : 0 ≤ b ∧ b < 9223372036854775808) (h : Q [.inr (.inl ((Nat.gcd a.toNat b.toNat : Nat) : Int))] M) : xm_call true (d + 1) 30 [.inr (.inl a), .inr (.inl b)] M Q := by
  refine en30 (rg30_0 ?_)
  have e1 : a = (a.toNat : Int) := by omega
  have e2 : b = (b.toNat : Int) := by omega
  have := lo30 (cs := xm_call true d) (x0 := a) (x2 := b) h 63 a.toNat b.toNat 0 none (by omega) (by omega) (by omega) (by omega) (by omega) rfl
  rw [← e1, ← e2] at this
  exact this
theorem sp245 {a b w : Int} (ha : 0 ≤ a ∧ a < 9223372036854775808) (hb : 0 < b ∧ b < 9223372036854775808) (hw : xm_in w) (h : Q [.inr (.inl (x_part a b w))] M) : xm_call true (d + 2) 245 [.inr (.inl a), .inr (.inl b), .inl w] M Q := by
  have g1 : 0 < Nat.gcd a.toNat b.toNat := Nat.gcd_pos_of_pos_right _ (by omega)
  have g2 : Nat.gcd a.toNat b.toNat ≤ b.toNat := Nat.gcd_le_right _ (by omega)
  unfold x_part at h
  refine en245 (rg245_0 ⟨hw, fun e => ?_, fun e => ?_⟩)
  all_goals refine sp244 ha (by omega) ?_
  all_goals refine ⟨⟨by omega, by omega, by omega⟩, ?_⟩
  · rw [if_neg e] at h; exact h
  · rw [if_pos e] at h; exact h
theorem sp29 {a b w : Int} (ha : 0 ≤ a ∧ a < 9223372036854775808) (hb : 0 < b ∧ b < 9223372036854775808) (hw : xm_in w) (h : Q [.inr (.inl (x_part a b w))] M) : xm_call true (d + 2) 29 [.inr (.inl a), .inr (.inl b), .inl w] M Q := by
  have g1 : 0 < Nat.gcd a.toNat b.toNat := Nat.gcd_pos_of_pos_right _ (by omega)
  have g2 : Nat.gcd a.toNat b.toNat ≤ b.toNat := Nat.gcd_le_right _ (by omega)
  unfold x_part at h
  have l := lc_z (a := ((Nat.gcd a.toNat b.toNat : Nat) : Int)) (by omega)
  refine en29 (rg29_0 ?_)
  refine sp30 ha (by omega) ?_
  refine ⟨⟨by omega, by omega⟩, l.2, fun _ => ⟨hw, fun e => ?_, fun e => ?_⟩, fun e => ?_⟩
  · refine ⟨⟨by omega, by omega, by omega⟩, ?_⟩
    rw [if_neg e] at h; exact h
  · refine ⟨⟨by omega, by omega, by omega⟩, ?_⟩
    rw [if_pos e] at h; exact h
  · have := l.1.1 e; omega
end PG
/-! the reference's episodes -/
def x_fd (M : xm_Mem) (n : Nat) : xm_Mem := fun c k => if c = 50 ∧ k = 45 then x_epN (M 61) n else if c = 73 ∧ 0 ≤ k ∧ k < x_epN (M 61) n then x_epF (M 61) n k else if c = 74 ∧ 0 ≤ k ∧ k < x_epN (M 61) n then x_epL (M 61) n k else M c k
theorem xd_c {M : xm_Mem} {c n : Nat} (h : c ≠ 50 ∧ c ≠ 73 ∧ c ≠ 74) : x_fd M n c = M c := by
  funext k
  unfold x_fd
  rw [if_neg (by omega), if_neg (by omega), if_neg (by omega)]
theorem xd_k {M : xm_Mem} {n : Nat} {k : Int} (h : k ≠ 45) : x_fd M n 50 k = M 50 k := by
  unfold x_fd
  rw [if_neg (by omega), if_neg (by omega), if_neg (by omega)]
theorem xd_n {M : xm_Mem} {n : Nat} : x_fd M n 50 45 = x_epN (M 61) n := by
  unfold x_fd
  rw [if_pos ⟨rfl, rfl⟩]
theorem xd_f {M : xm_Mem} {n : Nat} {k : Int} (h : 0 ≤ k ∧ k < x_epN (M 61) n) : x_fd M n 73 k = x_epF (M 61) n k := by
  unfold x_fd
  rw [if_neg (by omega), if_pos ⟨rfl, h⟩]
theorem xd_l {M : xm_Mem} {n : Nat} {k : Int} (h : 0 ≤ k ∧ k < x_epN (M 61) n) : x_fd M n 74 k = x_epL (M 61) n k := by
  unfold x_fd
  rw [if_neg (by omega), if_neg (by omega), if_pos ⟨rfl, h⟩]
theorem xd_0 {M : xm_Mem} : x_fd M 0 = xm_up M 50 45 0 := by
  funext c k
  have e : x_epN (M 61) 0 = 0 := rfl
  have g1 : ¬ (c = 73 ∧ 0 ≤ k ∧ k < x_epN (M 61) 0) := by rw [e]; omega
  have g2 : ¬ (c = 74 ∧ 0 ≤ k ∧ k < x_epN (M 61) 0) := by rw [e]; omega
  unfold x_fd xm_up
  by_cases h : c = 50
  · by_cases h2 : k = 45
    · rw [if_pos ⟨h, h2⟩, if_pos h, if_pos h2, e]
    · rw [if_neg (by omega), if_neg g1, if_neg g2, if_pos h, if_neg h2]
  · rw [if_neg (by omega), if_neg g1, if_neg g2, if_neg h]
theorem ep_le (f : Int → Int) : ∀ n : Nat, 0 ≤ x_epN f n ∧ 2 * x_epN f n ≤ n + 1 ∧ (0 < f ((n : Int) - 1) → 0 < n → 1 ≤ x_epN f n) ∧ (n = 0 ∨ ¬ 0 < f ((n : Int) - 1) → 2 * x_epN f n ≤ n)
  | 0 => by
    simp only [x_epN]
    omega
  | n + 1 => by
    have ih := ep_le f n
    have e : ((n + 1 : Nat) : Int) - 1 = n := by omega
    rw [e]
    simp only [x_epN]
    split
    · rename_i h
      omega
    · rename_i h
      omega
theorem xd_off {M : xm_Mem} {n : Nat} (h : ¬ 0 < M 61 n) : x_fd M n = x_fd M (n + 1) := by
  funext c k
  simp only [x_fd, x_epN, x_epF, x_epL, h, false_and, if_false]
theorem xd_new {M : xm_Mem} {n : Nat} (h : 0 < M 61 n) (h2 : n = 0 ∨ ¬ 0 < M 61 ((n : Int) - 1)) : xm_up (xm_up (xm_up (x_fd M n) 73 (x_epN (M 61) n) n) 50 45 (x_epN (M 61) n + 1)) 74 (x_epN (M 61) n + 1 - 1) n = x_fd M (n + 1) := by
  have b := ep_le (M 61) n
  funext c k
  simp only [x_fd, xm_up, x_epN, x_epF, x_epL, h, h2, true_and, and_self, if_true]
  repeat' split
  all_goals first | rfl | (exfalso; omega) | (congr 1; omega)
theorem xd_on {M : xm_Mem} {n : Nat} (h : 0 < M 61 n) (h2 : ¬ (n = 0 ∨ ¬ 0 < M 61 ((n : Int) - 1))) : xm_up (x_fd M n) 74 (x_epN (M 61) n - 1) n = x_fd M (n + 1) := by
  have b := ep_le (M 61) n
  funext c k
  simp only [x_fd, xm_up, x_epN, x_epF, x_epL, h, h2, true_and, and_false, false_and, if_false]
  repeat' split
  all_goals first | rfl | (exfalso; omega) | (congr 1; omega)
def x_live (c : Nat) : Prop := c < 4 ∨ (10 < c ∧ c < 41) ∨ (50 < c ∧ c < 54) ∨ (58 < c ∧ c < 73) ∨ c = 75 ∨ c = 76
theorem R_keep {M N : xm_Mem} (h : R_all M) (h1 : ∀ c : Nat, x_live c → N c = M c) (h50 : ∀ k : Int, (0 ≤ k ∧ k < 10) ∨ (20 ≤ k ∧ k < 45) ∨ k = 48 → N 50 k = M 50 k) : R_all N := by
  have g : ∀ c : Nat, x_live c → N c = M c := h1
  unfold x_live at g
  unfold R_all R_rt R_rtA R_ask R_lin at *
  rw [g 1 (by omega), g 2 (by omega), g 3 (by omega), g 11 (by omega), g 12 (by omega), g 13 (by omega), g 14 (by omega), g 15 (by omega), g 16 (by omega), g 17 (by omega), g 18 (by omega), g 19 (by omega), g 20 (by omega), g 21 (by omega), g 22 (by omega), g 23 (by omega), g 24 (by omega), g 25 (by omega), g 26 (by omega), g 27 (by omega), g 28 (by omega), g 29 (by omega), g 30 (by omega), g 31 (by omega), g 32 (by omega), g 33 (by omega), g 35 (by omega), g 36 (by omega), g 37 (by omega), g 38 (by omega), g 39 (by omega), g 40 (by omega), g 51 (by omega), g 52 (by omega), g 53 (by omega), g 59 (by omega), g 60 (by omega), g 61 (by omega), g 62 (by omega), g 63 (by omega), g 64 (by omega), g 65 (by omega), g 66 (by omega), g 67 (by omega), g 68 (by omega), g 69 (by omega), g 70 (by omega), g 71 (by omega), g 72 (by omega), g 75 (by omega), g 76 (by omega)]
  rw [h50 0 (by omega), h50 1 (by omega), h50 2 (by omega), h50 3 (by omega), h50 4 (by omega), h50 5 (by omega), h50 9 (by omega), h50 20 (by omega), h50 24 (by omega), h50 30 (by omega), h50 31 (by omega), h50 32 (by omega), h50 36 (by omega), h50 37 (by omega), h50 38 (by omega), h50 39 (by omega), h50 41 (by omega), h50 42 (by omega), h50 48 (by omega)]
  exact h
theorem R_fd {M : xm_Mem} {n : Nat} (h : R_all M) : R_all (x_fd M n) := by
  refine R_keep h (fun c hc => ?_) (fun k hk => ?_)
  · unfold x_live at hc
    exact xd_c (by omega)
  · exact xd_k (by omega)
section PH
variable {d : Nat} {Q : xm_K} {M : xm_Mem}
theorem lo230 {cs : xm_C} (hp : 0 ≤ M 50 20 ∧ M 50 20 ≤ 2000) (hv : ∀ s : Int, 0 ≤ s → s < M 50 20 → 0 ≤ M 61 s ∧ M 61 s ≤ 1000) (h : Q [] (x_fd M (M 50 20).toNat)) : ∀ (n s : Nat), (s : Int) + n = M 50 20 → wp230r50_7 cs Q s (x_fd M s)
  | 0, s, h0 => by
    refine rg230r50_7 ?_
    rw [xd_k (by omega)]
    refine ⟨⟨by omega, by omega⟩, fun _ => ?_, fun _ => by omega⟩
    rw [show s = (M 50 20).toNat by omega]
    exact h
  | n + 1, s, h0 => by
    have b := ep_le (M 61) s
    have v := hv s (by omega) (by omega)
    have v1 := hv ((s : Int) - 1)
    have ih := lo230 (cs := cs) hp hv h n (s + 1) (by omega)
    refine rg230r50_7 ?_
    rw [xd_k (by omega), xd_c (by omega), xd_n]
    refine ⟨⟨by omega, by omega⟩, fun _ => by omega, fun _ => ⟨by omega, ⟨by omega, by omega⟩, fun e => ?_, fun e => ⟨⟨by omega, by omega⟩, fun e2 => ⟨by omega, by omega, ?_⟩, fun e2 => ⟨by omega, ⟨by omega, by omega⟩, fun e3 => ⟨by omega, ?_⟩, fun e3 => ⟨by omega, by omega, ?_⟩⟩⟩⟩⟩
    · rw [xd_off (by omega)]; exact ih
    · rw [xd_new e (Or.inl (by omega))]; exact ih
    · rw [xd_on e (by omega)]; exact ih
    · rw [xd_new e (by omega)]; exact ih
theorem sp230 (hp : 0 ≤ M 50 20 ∧ M 50 20 ≤ 2000) (hv : ∀ s : Int, 0 ≤ s → s < M 50 20 → 0 ≤ M 61 s ∧ M 61 s ≤ 1000) (h : Q [] (x_fd M (M 50 20).toNat)) : xm_call true (d + 1) 230 [.inr (.inr 50)] M Q := by
  refine en230r50 (rg230r50_0 ?_)
  rw [← xd_0]
  exact lo230 hp hv h (M 50 20).toNat 0 (by omega)
theorem lo275 {cs : xm_C} : ∀ (n : Nat) (k acc : Int), 0 ≤ k → k + n = 5 → Q [.inl (acc + x_sum (M 65) k n)] M → wp275r50r65_4 cs Q acc k M
  | 0, k, acc, h0, h1, h => by
    simp only [x_sum, Int.add_zero] at h
    refine rg275r50r65_4 ?_
    (repeat' (first | (with_reducible exact True.intro) | (with_reducible refine And.intro ?_ ?_) | (with_reducible intro) | (with_reducible refine xq_ki ?_) | (with_reducible refine xq_kl ?_) | (with_reducible refine xq_kv ?_) | (with_reducible refine xq_kq ?_)))
    all_goals first | omega | exact h
  | n + 1, k, acc, h0, h1, h => by
    rw [x_sum_head, ← Int.add_assoc] at h
    refine rg275r50r65_4 ?_
    (repeat' (first | (with_reducible exact True.intro) | (with_reducible refine And.intro ?_ ?_) | (with_reducible intro) | (with_reducible refine xq_ki ?_) | (with_reducible refine xq_kl ?_) | (with_reducible refine xq_kv ?_) | (with_reducible refine xq_kq ?_)))
    all_goals first | omega | exact lo275 n (k + 1) _ (by omega) (by omega) h
theorem sp275 (h : Q [.inl (x_sum (M 65) 0 5)] M) : xm_call true (d + 1) 275 [.inr (.inr 50), .inr (.inr 65)] M Q := by
  refine en275r50r65 (rg275r50r65_0 ?_)
  exact lo275 5 0 0 (by omega) (by omega) (by rw [Int.zero_add]; exact h)
theorem x_sum_congr {f g : Int → Int} : ∀ (n : Nat) (a : Int), (∀ s : Int, a ≤ s → s < a + n → f s = g s) → x_sum f a n = x_sum g a n
  | 0, _, _ => rfl
  | n + 1, a, h => by
    rw [x_sum, x_sum, x_sum_congr n a (fun s h0 h1 => h s h0 (by omega)), h (a + n) (by omega) (by omega)]
theorem x_ep_congr {f g : Int → Int} : ∀ n : Nat, (∀ s : Int, 0 ≤ s → s < n → f s = g s) → x_epN f n = x_epN g n ∧ x_epF f n = x_epF g n ∧ x_epL f n = x_epL g n
  | 0, _ => ⟨rfl, rfl, rfl⟩
  | n + 1, h => by
    have ih := x_ep_congr n (fun s h0 h1 => h s h0 (by omega))
    have e := h n (by omega) (by omega)
    have e1 : x_epN f (n + 1) = x_epN g (n + 1) := by
      rcases Nat.eq_zero_or_pos n with hn | hn
      · subst hn; simp only [x_epN, ih.1, e, true_or]
      · have e2 := h ((n : Int) - 1) (by omega) (by omega)
        simp only [x_epN, ih.1, e, e2]
    refine ⟨e1, ?_, ?_⟩
    · funext k
      rcases Nat.eq_zero_or_pos n with hn | hn
      · subst hn; simp only [x_epF, ih.1, ih.2.1, e, true_or]
      · have e2 := h ((n : Int) - 1) (by omega) (by omega)
        simp only [x_epF, ih.1, ih.2.1, e, e2]
    · funext k
      simp only [x_epL, e1, ih.2.2, e]
theorem pr_count {x : Int} (hx : xm_in x) : R_pair 42 277 [.inl x] := by
  intro M hR
  obtain ⟨⟨t1, -⟩, hRt, hRec, ⟨e1, -⟩, hA, hL, -, -, ⟨s1, -⟩⟩ := id hR
  obtain ⟨r1, r2, r3, r4, r5, r6, r7, -⟩ := hRec
  obtain ⟨a1, a2, a3, a4, a5, a6, a7⟩ := hA
  obtain ⟨l1, l2, l3, l4, l5, l6⟩ := hL
  have hv : ∀ s : Int, 0 ≤ s → s < M 50 20 → 0 ≤ M 61 s ∧ M 61 s ≤ 1000 := fun s h0 h1 => by
    have := r4 s h0 (by omega)
    omega
  have hv' : ∀ s : Int, 0 ≤ s → s < M 50 20 → xm_in (M 61 s) := fun s h0 h1 => by
    have := hv s h0 h1
    omega
  have hcn : x_cnt (M 30) (M 29 2).toNat = x_cnt (M 61) (M 50 20).toNat := by
    rw [← r1]
    exact x_cnt_congr _ (fun s h0 h1 => (r4 s h0 (by omega)).1)
  have hep : x_epN (M 30) (M 29 2).toNat = x_epN (M 61) (M 50 20).toNat := by
    rw [← r1]
    exact (x_ep_congr _ (fun s h0 h1 => (r4 s h0 (by omega)).1)).1
  have hsm : x_sum (M 21) 0 5 = x_sum (M 65) 0 5 := x_sum_congr 5 0 (fun s h0 h1 => (l4 s h0 (by omega)).2.1)
  rcases hRt with ⟨m1, m2, -, -, -, -, -, g5, q1, -⟩ | ⟨m1, m2, -, -, -, -, -, g5, q1, -⟩
  all_goals
    have q1 := q1 4 (by omega) (by omega)
    refine en42r1 (rg42r1_0 ?_)
    (repeat' (first | (with_reducible exact True.intro) | (with_reducible refine And.intro ?_ ?_) | (with_reducible intro) | (with_reducible refine xq_ki ?_) | (with_reducible refine xq_kl ?_) | (with_reducible refine xq_kv ?_) | (with_reducible refine xq_kq ?_) | (with_reducible apply sp140r29) | (with_reducible apply sp102r17) | (with_reducible apply sp109) | (with_reducible apply sp141r29) | (with_reducible apply sp142r29) | (with_reducible apply sp73r23) | (with_reducible apply sp74r23) | (with_reducible apply sp75r23) | (with_reducible apply sp71r23) | (with_reducible apply sp72r23) | (with_reducible apply sp161r11) | (with_reducible apply sp161r14) | (with_reducible refine en168r11 (rg168r11_0 ?_)) | (with_reducible refine en168r14 (rg168r14_0 ?_)) | (with_reducible apply sp44r38) | (with_reducible apply sp176r2)))
    all_goals try omega
    all_goals refine en277r50 (rg277r50_0 ?_)
    all_goals (repeat' (first | (with_reducible exact True.intro) | (with_reducible refine And.intro ?_ ?_) | (with_reducible intro) | (with_reducible refine xq_ki ?_) | (with_reducible refine xq_kl ?_) | (with_reducible refine xq_kv ?_) | (with_reducible refine xq_kq ?_) | (with_reducible apply sp275) | (with_reducible apply sp250 (hv := hv')) | (with_reducible apply sp230 (hv := hv)) | (with_reducible refine en276r50 (rg276r50_0 ?_))))
    all_goals (try omega)
    all_goals first | exact xq_I (by omega) hR | skip
    all_goals
      refine xq_I ?_ (R_fd hR)
      rw [xd_n]
      omega
theorem sp28 {x : Int} (hx : xm_in x) (h1 : x = 0 ∨ x = 1 → Q [.inl 1] M) (h0 : ¬ (x = 0 ∨ x = 1) → Q [.inl 0] M) : xm_call true (d + 1) 28 [.inl x] M Q := by
  refine en28 (rg28_0 ?_)
  (repeat' (first | (with_reducible exact True.intro) | (with_reducible refine And.intro ?_ ?_) | (with_reducible intro) | (with_reducible refine xq_ki ?_) | (with_reducible refine xq_kl ?_) | (with_reducible refine xq_kv ?_) | (with_reducible refine xq_kq ?_)))
  all_goals first | omega | (refine h0 ?_; omega) | (refine h1 ?_; omega)
theorem x_cnt_le (f : Int → Int) : ∀ n : Nat, 0 ≤ x_cnt f n ∧ x_cnt f n ≤ n
  | 0 => by simp only [x_cnt]; omega
  | n + 1 => by
    have := x_cnt_le f n
    rw [x_cnt]
    split <;> omega
theorem sp250f {n : Nat} (hp : 0 ≤ M 50 20 ∧ M 50 20 ≤ 2000) (hv : ∀ s : Int, 0 ≤ s → s < M 50 20 → 0 ≤ M 61 s ∧ M 61 s ≤ 1000) (h : Q [.inl (x_cnt (M 61) (M 50 20).toNat)] (x_fd M n)) : xm_call true (d + 1) 250 [.inr (.inr 50)] (x_fd M n) Q := by
  refine sp250 ?_ ?_ ?_
  · rw [xd_k (by omega)]; exact hp
  · rw [xd_k (by omega), xd_c (by omega)]
    intro s h0 h1
    have := hv s h0 h1
    omega
  · rw [xd_k (by omega), xd_c (by omega)]; exact h
theorem pr_truth {x y : Int} (hx : xm_in x) (hy : xm_in y) : R_pair 26 251 [.inl x, .inl y] := by
  intro M hR
  obtain ⟨-, -, hRec, -⟩ := id hR
  obtain ⟨r1, r2, r3, r4, r5, r6, r7, -⟩ := hRec
  have hv : ∀ s : Int, 0 ≤ s → s < M 50 20 → 0 ≤ M 61 s ∧ M 61 s ≤ 1000 := fun s h0 h1 => by
    have := r4 s h0 (by omega)
    omega
  have hcn : x_cnt (M 30) (M 29 2).toNat = x_cnt (M 61) (M 50 20).toNat := by
    rw [← r1]
    exact x_cnt_congr _ (fun s h0 h1 => (r4 s h0 (by omega)).1)
  have hep : x_epN (M 30) (M 29 2).toNat = x_epN (M 61) (M 50 20).toNat := by
    rw [← r1]
    exact (x_ep_congr _ (fun s h0 h1 => (r4 s h0 (by omega)).1)).1
  have hb := x_cnt_le (M 61) (M 50 20).toNat
  have hb2 := ep_le (M 61) (M 50 20).toNat
  have hR2 : R_all (x_fd M (M 50 20).toNat) := R_fd hR
  have k1 : x_fd M (M 50 20).toNat 50 20 = M 50 20 := xd_k (by omega)
  have k2 : x_fd M (M 50 20).toNat 61 = M 61 := xd_c (by omega)
  have k3 : x_fd M (M 50 20).toNat 50 45 = x_epN (M 61) (M 50 20).toNat := xd_n
  have L1 := lc_z (a := M 50 20) (by omega)
  have L2 := lc_z (a := x_epN (M 61) (M 50 20).toNat) (by omega)
  have e1 : M 29 2 = M 50 20 := r1
  have e2 : M 29 3 = x_cnt (M 61) (M 50 20).toNat := by rw [r6, hcn]
  have e3 : M 29 4 = x_epN (M 61) (M 50 20).toNat := by rw [r7, hep]
  clear r4 r5 r6 r7 hcn hep r1
  refine en26r1 (rg26r1_0 ?_)
  (repeat' (first | (with_reducible exact True.intro) | (with_reducible refine And.intro ?_ ?_) | (with_reducible intro) | (with_reducible refine xq_ki ?_) | (with_reducible refine xq_kl ?_) | (with_reducible refine xq_kv ?_) | (with_reducible refine xq_kq ?_) | (with_reducible apply sp28) | (with_reducible apply sp142r29) | (with_reducible apply sp141r29) | (with_reducible apply sp140r29) | (with_reducible apply sp29)))
  all_goals try omega
  all_goals refine en251r50 (rg251r50_0 ?_)
  all_goals (repeat' (first | (with_reducible exact True.intro) | (with_reducible refine And.intro ?_ ?_) | (with_reducible intro) | (with_reducible refine xq_ki ?_) | (with_reducible refine xq_kl ?_) | (with_reducible refine xq_kv ?_) | (with_reducible refine xq_kq ?_) | (with_reducible apply sp193) | (with_reducible apply sp230 (hv := hv))))
  all_goals (try rw [k1] at *)
  all_goals (try rw [k3] at *)
  all_goals (try omega)
  all_goals first | exact xq_L (by omega) hR | exact xq_L (by omega) hR2 | skip
  all_goals
    (repeat' (first | (with_reducible exact True.intro) | (with_reducible refine And.intro ?_ ?_) | (with_reducible intro) | (with_reducible refine xq_ki ?_) | (with_reducible refine xq_kl ?_) | (with_reducible refine xq_kv ?_) | (with_reducible refine xq_kq ?_) | (with_reducible apply sp250f (hv := hv)) | (with_reducible apply sp245)))
    all_goals (try omega)
    all_goals refine xq_L ?_ hR2
    all_goals (try rw [e1])
    all_goals (try rw [e2])
    all_goals (try rw [e3])
    all_goals rfl
theorem lo231_59 {cs : xm_C} {k : Int} (hk : 0 ≤ k ∧ k < 1001) (hl : xm_in (M 74 k) ∧ M 74 k < 2000) : ∀ (n : Nat) (i acc : Int), 0 ≤ i → i + n = M 74 k + 1 → Q [.inl (acc + x_sum (M 59) i n)] M → wp231r50r59_10 cs Q k acc i M
  | 0, i, acc, h0, h1, h => by
    simp only [x_sum, Int.add_zero] at h
    refine rg231r50r59_10 ?_
    (repeat' (first | (with_reducible exact True.intro) | (with_reducible refine And.intro ?_ ?_) | (with_reducible intro) | (with_reducible refine xq_ki ?_) | (with_reducible refine xq_kl ?_) | (with_reducible refine xq_kv ?_) | (with_reducible refine xq_kq ?_)))
    all_goals first | omega | exact h
  | n + 1, i, acc, h0, h1, h => by
    rw [x_sum_head, ← Int.add_assoc] at h
    refine rg231r50r59_10 ?_
    (repeat' (first | (with_reducible exact True.intro) | (with_reducible refine And.intro ?_ ?_) | (with_reducible intro) | (with_reducible refine xq_ki ?_) | (with_reducible refine xq_kl ?_) | (with_reducible refine xq_kv ?_) | (with_reducible refine xq_kq ?_)))
    all_goals first | omega | exact lo231_59 hk hl n (i + 1) _ (by omega) (by omega) h
theorem sp231_59 {k a b : Int} (hk : 0 ≤ k ∧ k < 1001) (ha : M 73 k = a) (hb : M 74 k = b) (hl : 0 ≤ a ∧ a ≤ b ∧ b < 2000) (h : ∀ n : Nat, a + n = b + 1 → Q [.inl (x_sum (M 59) a n)] M) : xm_call true (d + 1) 231 [.inr (.inr 50), .inr (.inr 59), .inl k] M Q := by
  refine en231r50r59 (rg231r50r59_0 ⟨hk, ?_⟩)
  have := h (b + 1 - a).toNat (by omega)
  rw [← Int.zero_add (x_sum _ _ _), ← ha] at this
  exact lo231_59 hk (by omega) _ _ 0 (by omega) (by omega) this
theorem lo231_60 {cs : xm_C} {k : Int} (hk : 0 ≤ k ∧ k < 1001) (hl : xm_in (M 74 k) ∧ M 74 k < 2000) : ∀ (n : Nat) (i acc : Int), 0 ≤ i → i + n = M 74 k + 1 → Q [.inl (acc + x_sum (M 60) i n)] M → wp231r50r60_10 cs Q k acc i M
  | 0, i, acc, h0, h1, h => by
    simp only [x_sum, Int.add_zero] at h
    refine rg231r50r60_10 ?_
    (repeat' (first | (with_reducible exact True.intro) | (with_reducible refine And.intro ?_ ?_) | (with_reducible intro) | (with_reducible refine xq_ki ?_) | (with_reducible refine xq_kl ?_) | (with_reducible refine xq_kv ?_) | (with_reducible refine xq_kq ?_)))
    all_goals first | omega | exact h
  | n + 1, i, acc, h0, h1, h => by
    rw [x_sum_head, ← Int.add_assoc] at h
    refine rg231r50r60_10 ?_
    (repeat' (first | (with_reducible exact True.intro) | (with_reducible refine And.intro ?_ ?_) | (with_reducible intro) | (with_reducible refine xq_ki ?_) | (with_reducible refine xq_kl ?_) | (with_reducible refine xq_kv ?_) | (with_reducible refine xq_kq ?_)))
    all_goals first | omega | exact lo231_60 hk hl n (i + 1) _ (by omega) (by omega) h
theorem sp231_60 {k a b : Int} (hk : 0 ≤ k ∧ k < 1001) (ha : M 73 k = a) (hb : M 74 k = b) (hl : 0 ≤ a ∧ a ≤ b ∧ b < 2000) (h : ∀ n : Nat, a + n = b + 1 → Q [.inl (x_sum (M 60) a n)] M) : xm_call true (d + 1) 231 [.inr (.inr 50), .inr (.inr 60), .inl k] M Q := by
  refine en231r50r60 (rg231r50r60_0 ⟨hk, ?_⟩)
  have := h (b + 1 - a).toNat (by omega)
  rw [← Int.zero_add (x_sum _ _ _), ← ha] at this
  exact lo231_60 hk (by omega) _ _ 0 (by omega) (by omega) this
theorem lo231_61 {cs : xm_C} {k : Int} (hk : 0 ≤ k ∧ k < 1001) (hl : xm_in (M 74 k) ∧ M 74 k < 2000) : ∀ (n : Nat) (i acc : Int), 0 ≤ i → i + n = M 74 k + 1 → Q [.inl (acc + x_sum (M 61) i n)] M → wp231r50r61_10 cs Q k acc i M
  | 0, i, acc, h0, h1, h => by
    simp only [x_sum, Int.add_zero] at h
    refine rg231r50r61_10 ?_
    (repeat' (first | (with_reducible exact True.intro) | (with_reducible refine And.intro ?_ ?_) | (with_reducible intro) | (with_reducible refine xq_ki ?_) | (with_reducible refine xq_kl ?_) | (with_reducible refine xq_kv ?_) | (with_reducible refine xq_kq ?_)))
    all_goals first | omega | exact h
  | n + 1, i, acc, h0, h1, h => by
    rw [x_sum_head, ← Int.add_assoc] at h
    refine rg231r50r61_10 ?_
    (repeat' (first | (with_reducible exact True.intro) | (with_reducible refine And.intro ?_ ?_) | (with_reducible intro) | (with_reducible refine xq_ki ?_) | (with_reducible refine xq_kl ?_) | (with_reducible refine xq_kv ?_) | (with_reducible refine xq_kq ?_)))
    all_goals first | omega | exact lo231_61 hk hl n (i + 1) _ (by omega) (by omega) h
theorem sp231_61 {k a b : Int} (hk : 0 ≤ k ∧ k < 1001) (ha : M 73 k = a) (hb : M 74 k = b) (hl : 0 ≤ a ∧ a ≤ b ∧ b < 2000) (h : ∀ n : Nat, a + n = b + 1 → Q [.inl (x_sum (M 61) a n)] M) : xm_call true (d + 1) 231 [.inr (.inr 50), .inr (.inr 61), .inl k] M Q := by
  refine en231r50r61 (rg231r50r61_0 ⟨hk, ?_⟩)
  have := h (b + 1 - a).toNat (by omega)
  rw [← Int.zero_add (x_sum _ _ _), ← ha] at this
  exact lo231_61 hk (by omega) _ _ 0 (by omega) (by omega) this
theorem ep_in (f : Int → Int) : ∀ (n : Nat) (k : Int), 0 ≤ k → k < x_epN f n → 0 ≤ x_epF f n k ∧ x_epF f n k ≤ x_epL f n k ∧ x_epL f n k < n
  | 0, k, h0, h1 => by simp only [x_epN] at h1; omega
  | n + 1, k, h0, h1 => by
    have ih := ep_in f n k h0
    have b := ep_le f n
    simp only [x_epF, x_epL]
    by_cases g : 0 < f n ∧ (n = 0 ∨ ¬ 0 < f ((n : Int) - 1))
    · have E : x_epN f (n + 1) = x_epN f n + 1 := by simp only [x_epN]; rw [if_pos g]
      by_cases e : k = x_epN f n
      · rw [if_pos ⟨g, e⟩, if_pos (by omega)]; omega
      · rw [if_neg (by omega), if_neg (by omega)]; omega
    · have E : x_epN f (n + 1) = x_epN f n := by simp only [x_epN]; rw [if_neg g]
      rw [if_neg (by omega)]
      have ih := ih (by omega)
      split <;> omega
theorem sp27e_28 {x1 x2 : Int} (h1 : 0 ≤ x1 ∧ x1 ≤ x2 ∧ x2 < 2000) (h : ∀ n : Nat, x1 + n = x2 + 1 → Q [.inl (x_sum (M 28) x1 n)] M) : xm_call true (d + 1) 27 [.inr (.inr 28), .inl x1, .inl x2] M Q := by
  refine sp27_28 (by omega) (by omega) (fun a n ha hn => ?_)
  have e : a = x1 := by omega
  rw [e]
  exact h n (by omega)
theorem sp27e_30 {x1 x2 : Int} (h1 : 0 ≤ x1 ∧ x1 ≤ x2 ∧ x2 < 2000) (h : ∀ n : Nat, x1 + n = x2 + 1 → Q [.inl (x_sum (M 30) x1 n)] M) : xm_call true (d + 1) 27 [.inr (.inr 30), .inl x1, .inl x2] M Q := by
  refine sp27_30 (by omega) (by omega) (fun a n ha hn => ?_)
  have e : a = x1 := by omega
  rw [e]
  exact h n (by omega)
theorem sp27e_31 {x1 x2 : Int} (h1 : 0 ≤ x1 ∧ x1 ≤ x2 ∧ x2 < 2000) (h : ∀ n : Nat, x1 + n = x2 + 1 → Q [.inl (x_sum (M 31) x1 n)] M) : xm_call true (d + 1) 27 [.inr (.inr 31), .inl x1, .inl x2] M Q := by
  refine sp27_31 (by omega) (by omega) (fun a n ha hn => ?_)
  have e : a = x1 := by omega
  rw [e]
  exact h n (by omega)
theorem pr_episode {x y : Int} (hx : xm_in x) (hy : xm_in y) : R_pair 15 232 [.inl x, .inl y] := by
  intro M hR
  obtain ⟨-, -, hRec, hE, -⟩ := id hR
  obtain ⟨r1, r2, r3, r4, r5, r6, r7, r8⟩ := hRec
  obtain ⟨-, -, -, -, e5, -⟩ := hE
  have hv : ∀ s : Int, 0 ≤ s → s < M 50 20 → 0 ≤ M 61 s ∧ M 61 s ≤ 1000 := fun s h0 h1 => by
    have := r4 s h0 (by omega)
    omega
  have hep := x_ep_congr (f := M 30) (g := M 61) (M 29 2).toNat (fun s h0 h1 => (r4 s h0 (by omega)).1)
  rw [hep.1, r1] at r7
  rw [hep.2.1, hep.2.2, r1] at r8
  have hb2 := ep_le (M 61) (M 50 20).toNat
  have hR2 : R_all (x_fd M (M 50 20).toNat) := R_fd hR
  have k1 : x_fd M (M 50 20).toNat 50 20 = M 50 20 := xd_k (by omega)
  have k3 : x_fd M (M 50 20).toNat 50 45 = x_epN (M 61) (M 50 20).toNat := xd_n
  have k5 : x_fd M (M 50 20).toNat 59 = M 59 := xd_c (by omega)
  have k6 : x_fd M (M 50 20).toNat 60 = M 60 := xd_c (by omega)
  have k7 : x_fd M (M 50 20).toNat 61 = M 61 := xd_c (by omega)
  by_cases hk : 0 ≤ x ∧ x < M 29 4
  · have k8 : x_fd M (M 50 20).toNat 73 x = x_epF (M 61) (M 50 20).toNat x := xd_f (by omega)
    have k9 : x_fd M (M 50 20).toNat 74 x = x_epL (M 61) (M 50 20).toNat x := xd_l (by omega)
    have r8 := r8 x hk.1 hk.2
    have hin := ep_in (M 61) (M 50 20).toNat x hk.1 (by omega)
    have s1 : ∀ n : Nat, M 32 x + n = M 33 x + 1 → x_sum (M 30) (M 32 x) n = x_sum (M 61) (x_epF (M 61) (M 50 20).toNat x) n := fun n h => by
      rw [r8.1]; exact x_sum_congr _ _ (fun s h0 h1 => (r4 s (by omega) (by omega)).1)
    have s2 : ∀ n : Nat, M 32 x + n = M 33 x + 1 → x_sum (M 31) (M 32 x) n = x_sum (M 60) (x_epF (M 61) (M 50 20).toNat x) n := fun n h => by
      rw [r8.1]; exact x_sum_congr _ _ (fun s h0 h1 => (r4 s (by omega) (by omega)).2.1)
    have s3 : ∀ n : Nat, M 32 x + n = M 33 x + 1 → x_sum (M 28) (M 32 x) n = x_sum (M 59) (x_epF (M 61) (M 50 20).toNat x) n := fun n h => by
      rw [r8.1]; exact x_sum_congr _ _ (fun s h0 h1 => (e5 s (by omega) (by omega)))
    clear r4 r5 e5 hep r6
    refine en15r1 (rg15r1_0 ?_)
    (repeat' (first | (with_reducible exact True.intro) | (with_reducible refine And.intro ?_ ?_) | (with_reducible intro) | (with_reducible refine xq_ki ?_) | (with_reducible refine xq_kl ?_) | (with_reducible refine xq_kv ?_) | (with_reducible refine xq_kq ?_) | (with_reducible apply sp142r29) | (with_reducible refine en150r29 (rg150r29_0 ?_)) | (with_reducible refine en151r29 (rg151r29_0 ?_)) | (with_reducible apply sp140r29) | (with_reducible refine en152r29 (rg152r29_0 ?_)) | (with_reducible refine en153r29 (rg153r29_0 ?_)) | (with_reducible refine en83r23 (rg83r23_0 ?_)) | (with_reducible apply sp27e_28) | (with_reducible apply sp27e_30) | (with_reducible apply sp27e_31)))
    all_goals try omega
    all_goals refine en232r50 (rg232r50_0 ?_)
    all_goals (repeat' (first | (with_reducible exact True.intro) | (with_reducible refine And.intro ?_ ?_) | (with_reducible intro) | (with_reducible refine xq_ki ?_) | (with_reducible refine xq_kl ?_) | (with_reducible refine xq_kv ?_) | (with_reducible refine xq_kq ?_) | (with_reducible apply sp193) | (with_reducible apply sp230 (hv := hv)) | (with_reducible apply sp231_59 (ha := k8) (hb := k9)) | (with_reducible apply sp231_60 (ha := k8) (hb := k9)) | (with_reducible apply sp231_61 (ha := k8) (hb := k9))))
    all_goals (try rw [k1] at *)
    all_goals (try rw [k3] at *)
    all_goals (try rw [k8] at *)
    all_goals (try rw [k9] at *)
    all_goals (try omega)
    all_goals first | exact xq_I (by omega) hR2 | skip
    all_goals
      rename_i n1 g1 u1 u2 u3 n2 g2
      have e : n1 = n2 := by omega
      subst e
      (try rw [k5])
      (try rw [k6])
      (try rw [k7])
      first | exact xq_I (s1 _ (by omega)) hR2 | exact xq_I (s2 _ (by omega)) hR2 | exact xq_I (s3 _ (by omega)) hR2
  · refine en15r1 (rg15r1_0 ?_)
    (repeat' (first | (with_reducible exact True.intro) | (with_reducible refine And.intro ?_ ?_) | (with_reducible intro) | (with_reducible refine xq_ki ?_) | (with_reducible refine xq_kl ?_) | (with_reducible refine xq_kv ?_) | (with_reducible refine xq_kq ?_) | (with_reducible apply sp142r29)))
    all_goals try omega
    all_goals refine en232r50 (rg232r50_0 ?_)
    all_goals (repeat' (first | (with_reducible exact True.intro) | (with_reducible refine And.intro ?_ ?_) | (with_reducible intro) | (with_reducible refine xq_ki ?_) | (with_reducible refine xq_kl ?_) | (with_reducible refine xq_kv ?_) | (with_reducible refine xq_kq ?_) | (with_reducible apply sp230 (hv := hv)) | (with_reducible apply sp193)))
    all_goals (try rw [k3] at *)
    all_goals first | omega | exact xq_I rfl hR2
end PH
