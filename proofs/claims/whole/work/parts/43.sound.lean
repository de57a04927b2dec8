/-! states that are come to; a sound chain -/
theorem xo_nat {x y : Nat} (hx : x < 2147483648) (hy : y < 2147483648) : xm_or (x : Int) (y : Int) = ((x ||| y : Nat) : Int) := by
  have e : (Int32.ofInt (x : Int) ||| Int32.ofInt (y : Int)).toBitVec.toNat = x ||| y := by
    rw [Int32.toBitVec_or, BitVec.toNat_or, xn_tn, xn_tn, show ((x : Int) % 4294967296).toNat = x by omega, show ((y : Int) % 4294967296).toNat = y by omega]
  have b : x ||| y < 2 ^ 31 := Nat.or_lt_two_pow (by omega) (by omega)
  unfold xm_or
  have e2 : (Int32.ofInt (x : Int) ||| Int32.ofInt (y : Int)).toInt = (Int32.ofInt (x : Int) ||| Int32.ofInt (y : Int)).toBitVec.toInt := rfl
  rw [e2, BitVec.toInt_eq_toNat_cond, e, if_pos (by omega)]
theorem tb_and : ∀ x : Fin 32, ∀ j : Fin 5, (xm_and ((x.val : Nat) : Int) (1 * 2 ^ (((j.val : Nat) : Int)).toNat) = 0) ↔ x.val.testBit j.val = false := by decide +kernel
theorem tb_pow : ∀ j : Fin 5, (1 * 2 ^ (((j.val : Nat) : Int)).toNat : Int) = ((2 ^ j.val : Nat) : Int) := by decide +kernel
theorem tb_shr : ∀ x : Fin 32, ∀ j : Fin 5, (xm_and (((((x.val : Nat) : Int) + 2147483648) % 4294967296 - 2147483648) / 2 ^ (((j.val : Nat) : Int)).toNat) 1 = 1) ↔ x.val.testBit j.val = true := by decide +kernel
def x_cd (x : Nat) : Nat := x % 2 + x / 2 % 2 + x / 4 % 2 + x / 8 % 2 + x / 16 % 2
theorem tb_up : ∀ x y : Fin 32, x.val ||| y.val = y.val → x.val ≠ y.val → x_cd x.val < x_cd y.val := by decide +kernel
theorem tb_full : ∀ n : Fin 6, ∀ x : Fin 32, x.val < 2 ^ n.val → n.val ≤ x_cd x.val → x.val = 2 ^ n.val - 1 := by decide +kernel
theorem tb_one : ∀ j : Fin 5, 1 ≤ x_cd (2 ^ j.val) := by decide +kernel
/-- those of the first n for which f is greater than 0 -/
def x_nb (f : Nat → Int) : Nat → Nat
  | 0 => 0
  | k + 1 => if 0 < f k then x_nb f k ||| 2 ^ k else x_nb f k
theorem nb_bit {f : Nat → Int} : ∀ n j : Nat, (x_nb f n).testBit j = true ↔ j < n ∧ 0 < f j
  | 0, j => by simp [x_nb]
  | n + 1, j => by
    have ih := nb_bit (f := f) n j
    rw [x_nb]
    split
    · rename_i h
      rw [Nat.testBit_or, Nat.testBit_two_pow, Bool.or_eq_true, ih, decide_eq_true_eq]
      constructor
      · rintro (g | g)
        · exact ⟨by omega, g.2⟩
        · subst g; exact ⟨by omega, h⟩
      · rintro ⟨g1, g2⟩
        by_cases e : n = j
        · exact Or.inr e
        · exact Or.inl ⟨by omega, g2⟩
    · rename_i h
      rw [ih]
      constructor
      · rintro ⟨g1, g2⟩; exact ⟨by omega, g2⟩
      · rintro ⟨g1, g2⟩
        by_cases e : j = n
        · subst e; exact absurd g2 h
        · exact ⟨by omega, g2⟩
theorem nb_lt {f : Nat → Int} : ∀ n : Nat, x_nb f n < 2 ^ n
  | 0 => by simp [x_nb]
  | n + 1 => by
    have ih := nb_lt (f := f) n
    rw [x_nb]
    have e : (2 : Nat) ^ (n + 1) = 2 ^ n * 2 := Nat.pow_succ 2 n
    split
    · exact Nat.or_lt_two_pow (by omega) (by omega)
    · omega
def x_go (nb : Nat → Nat) (x : Nat) : Nat → Nat
  | 0 => x
  | k + 1 => if (x_go nb x k).testBit k = true then x_go nb x k ||| nb k else x_go nb x k
def x_gr (nb : Nat → Nat) (n x : Nat) : Nat → Nat
  | 0 => x
  | m + 1 => x_go nb (x_gr nb n x m) n
section RC
variable {nb : Nat → Nat} {n : Nat}
theorem gg_up {x : Nat} (k j : Nat) (h : (x_go nb x k).testBit j = true) : (x_go nb x (k + 1)).testBit j = true := by
  rw [x_go]
  split
  · rw [Nat.testBit_or, h]; rfl
  · exact h
theorem gg_mono {x : Nat} {j : Nat} (a : Nat) : ∀ b : Nat, a ≤ b → (x_go nb x a).testBit j = true → (x_go nb x b).testBit j = true
  | 0, h1, h => by rw [show a = 0 by omega] at h; exact h
  | b + 1, h1, h => by
    by_cases e : a = b + 1
    · rw [← e]; exact h
    · exact gg_up b j (gg_mono a b (by omega) h)
theorem gg_lt {x : Nat} (hnb : ∀ i : Nat, nb i < 2 ^ n) (hx : x < 2 ^ n) : ∀ k : Nat, x_go nb x k < 2 ^ n
  | 0 => hx
  | k + 1 => by
    rw [x_go]
    split
    · exact Nat.or_lt_two_pow (gg_lt hnb hx k) (hnb k)
    · exact gg_lt hnb hx k
theorem gg_snd {x : Nat} {C : Nat → Prop} (hC : ∀ a : Nat, a < n → C a → ∀ b : Nat, (nb a).testBit b = true → C b) (hx : ∀ j : Nat, x.testBit j = true → C j) : ∀ k : Nat, k ≤ n → ∀ j : Nat, (x_go nb x k).testBit j = true → C j
  | 0, _, j, h => hx j h
  | k + 1, hk, j, h => by
    have ih := gg_snd hC hx k (by omega)
    rw [x_go] at h
    split at h
    · rename_i g
      rw [Nat.testBit_or, Bool.or_eq_true] at h
      rcases h with h | h
      · exact ih j h
      · exact hC k (by omega) (ih k g) j h
    · exact ih j h
/-- closed under a step -/
def x_cl (nb : Nat → Nat) (n x : Nat) : Prop := ∀ a : Nat, a < n → x.testBit a = true → ∀ b : Nat, (nb a).testBit b = true → x.testBit b = true
theorem gg_cl {x : Nat} (h : x_go nb x n = x) : x_cl nb n x := by
  intro a ha h1 b h2
  have e1 : (x_go nb x a).testBit a = true := gg_mono (nb := nb) (x := x) 0 a (by omega) h1
  have e2 : (x_go nb x (a + 1)).testBit b = true := by
    rw [x_go, if_pos e1, Nat.testBit_or, h2, Bool.or_true]
  have e3 := gg_mono (nb := nb) (x := x) (j := b) (a + 1) n (by omega) e2
  rw [h] at e3
  exact e3
theorem gg_fix {x : Nat} (h : x_cl nb n x) : ∀ k : Nat, k ≤ n → x_go nb x k = x
  | 0, _ => rfl
  | k + 1, hk => by
    rw [x_go, gg_fix h k (by omega)]
    split
    · rename_i g
      apply Nat.eq_of_testBit_eq
      intro j
      rw [Nat.testBit_or]
      cases hj : (nb k).testBit j with
      | false => rw [Bool.or_false]
      | true => rw [h k (by omega) g j hj]; rfl
    · rfl
theorem rr_lt {x : Nat} (hnb : ∀ i : Nat, nb i < 2 ^ n) (hx : x < 2 ^ n) : ∀ m : Nat, x_gr nb n x m < 2 ^ n
  | 0 => hx
  | m + 1 => gg_lt hnb (rr_lt hnb hx m) n
theorem pw_le (h : n ≤ 5) : 2 ^ n ≤ 32 := Nat.pow_le_pow_right (by omega) h
theorem rr_cl {x : Nat} (hn : n ≤ 5) (hnb : ∀ i : Nat, nb i < 2 ^ n) (hx : x < 2 ^ n) (h1 : 1 ≤ x_cd x) : ∀ m : Nat, x_cl nb n (x_gr nb n x m) ∨ m + 1 ≤ x_cd (x_gr nb n x m)
  | 0 => Or.inr h1
  | m + 1 => by
    have ih := rr_cl hn hnb hx h1 m
    have b := pw_le hn
    have l1 := rr_lt hnb hx m
    have l2 := rr_lt hnb hx (m + 1)
    rw [x_gr] at l2 ⊢
    by_cases e : x_go nb (x_gr nb n x m) n = x_gr nb n x m
    · rw [e]; exact Or.inl (gg_cl e)
    · rcases ih with ih | ih
      · exact absurd (gg_fix ih n (by omega)) e
      · right
        have o : x_gr nb n x m ||| x_go nb (x_gr nb n x m) n = x_go nb (x_gr nb n x m) n := by
          apply Nat.eq_of_testBit_eq
          intro j
          rw [Nat.testBit_or]
          cases hj : (x_gr nb n x m).testBit j with
          | false => rw [Bool.false_or]
          | true => rw [gg_mono (nb := nb) (x := x_gr nb n x m) 0 n (by omega) hj]; rfl
        have := tb_up ⟨x_gr nb n x m, by omega⟩ ⟨x_go nb (x_gr nb n x m) n, by omega⟩ o (fun q => e q.symm)
        dsimp only at this
        omega
theorem rr_cl2 {x m : Nat} (hn : n ≤ 5) (hnb : ∀ i : Nat, nb i < 2 ^ n) (hx : x < 2 ^ n) (h1 : 1 ≤ x_cd x) (hm : n ≤ m + 1) : x_cl nb n (x_gr nb n x m) := by
  rcases rr_cl hn hnb hx h1 m with h | h
  · exact h
  · have b := pw_le hn
    have l1 := rr_lt hnb hx m
    have e := tb_full ⟨n, by omega⟩ ⟨x_gr nb n x m, by omega⟩ l1 (by dsimp only; omega)
    dsimp only at e
    intro a _ _ c hc
    rw [e, Nat.testBit_two_pow_sub_one]
    by_cases q : c < n
    · exact decide_eq_true q
    · have : 2 ^ n ≤ 2 ^ c := Nat.pow_le_pow_right (by omega) (by omega)
      have := Nat.ge_two_pow_of_testBit hc
      have := hnb a
      omega
theorem rr_mono {x j : Nat} (h : x.testBit j = true) : ∀ m : Nat, (x_gr nb n x m).testBit j = true
  | 0 => h
  | m + 1 => gg_mono (nb := nb) (x := x_gr nb n x m) 0 n (by omega) (rr_mono h m)
theorem rr_snd {x : Nat} {C : Nat → Prop} (hC : ∀ a : Nat, a < n → C a → ∀ b : Nat, (nb a).testBit b = true → C b) (hx : ∀ j : Nat, x.testBit j = true → C j) : ∀ m : Nat, ∀ j : Nat, (x_gr nb n x m).testBit j = true → C j
  | 0 => hx
  | m + 1 => gg_snd hC (rr_snd hC hx m) n (by omega)
end RC
/-- j is come to from i -/
def x_Rch (n : Nat) (f : Nat → Nat → Int) (i j : Nat) : Prop := ∀ C : Nat → Prop, (∀ a b : Nat, a < n → b < n → C a → 0 < f a b → C b) → C i → C j
theorem rr_iff {n s m : Nat} {f : Nat → Nat → Int} (hn : n ≤ 5) (hs : s < n) (hm : n ≤ m + 1) (j : Nat) : (x_gr (fun i => x_nb (f i) n) n (2 ^ s) m).testBit j = true ↔ x_Rch n f s j := by
  have hp : 2 ^ s < 2 ^ n := Nat.pow_lt_pow_right (by omega) hs
  have h1 := tb_one ⟨s, by omega⟩
  dsimp only at h1
  constructor
  · intro h C hC h0
    refine rr_snd (nb := fun i => x_nb (f i) n) (n := n) (x := 2 ^ s) (C := C) (fun a ha hca b hb => ?_) (fun i hi => ?_) m j h
    · have g := (nb_bit n b).mp hb
      exact hC a b ha g.1 hca g.2
    · rw [Nat.testBit_two_pow, decide_eq_true_eq] at hi
      rw [← hi]; exact h0
  · intro h
    have hc := rr_cl2 (nb := fun i => x_nb (f i) n) (x := 2 ^ s) (m := m) hn (fun i => nb_lt n) hp h1 hm
    refine h (fun i => (x_gr (fun i => x_nb (f i) n) n (2 ^ s) m).testBit i = true) (fun a b ha hb hca hf => ?_) ?_
    · exact hc a ha hca b ((nb_bit n b).mpr ⟨hb, hf⟩)
    · exact rr_mono (Nat.testBit_two_pow_self) m
theorem rr_full {n s m : Nat} {f : Nat → Nat → Int} (hn : n ≤ 5) (hs : s < n) (hm : n ≤ m + 1) : x_gr (fun i => x_nb (f i) n) n (2 ^ s) m = 2 ^ n - 1 ↔ ∀ j : Nat, j < n → x_Rch n f s j := by
  have hp : 2 ^ s < 2 ^ n := Nat.pow_lt_pow_right (by omega) hs
  constructor
  · intro h j hj
    rw [← rr_iff hn hs hm, h, Nat.testBit_two_pow_sub_one]
    exact decide_eq_true hj
  · intro h
    apply Nat.eq_of_testBit_eq
    intro j
    rw [Nat.testBit_two_pow_sub_one]
    by_cases q : j < n
    · rw [decide_eq_true q]
      exact (rr_iff hn hs hm j).mpr (h j q)
    · rw [decide_eq_false q]
      have l := rr_lt (nb := fun i => x_nb (f i) n) (n := n) (x := 2 ^ s) (fun i => nb_lt n) hp m
      have : 2 ^ n ≤ 2 ^ j := Nat.pow_le_pow_right (by omega) (by omega)
      exact Nat.testBit_lt_two_pow (by omega)
theorem rch_back {n : Nat} {f : Nat → Nat → Int} {i j : Nat} : x_Rch n (fun a b => f b a) i j ↔ x_Rch n f j i := by
  have key : ∀ (f : Nat → Nat → Int) (i j : Nat), x_Rch n (fun a b => f b a) i j → x_Rch n f j i := by
    intro f i j h C hC hj
    by_cases g : C i
    · exact g
    · exact absurd hj (h (fun a => ¬ C a) (fun a b ha hb hca hf hcb => hca (hC b a hb ha hcb hf)) g)
  exact ⟨key f i j, fun h => key (fun a b => f b a) j i h⟩
/-- a sum over the first n -/
def x_s (f : Nat → Int) : Nat → Int
  | 0 => 0
  | n + 1 => x_s f n + f n
def x_Snd (n : Nat) (w : Nat → Nat → Int) : Prop := 1 ≤ n ∧ (∀ i : Nat, i < n → x_s (w i) n = 12) ∧ ∀ i j : Nat, i < n → j < n → x_Rch n w i j
theorem snd_iff {n : Nat} {w : Nat → Nat → Int} (h1 : 1 ≤ n) : x_Snd n w ↔ (∀ i : Nat, i < n → x_s (w i) n = 12) ∧ (∀ j : Nat, j < n → x_Rch n w 0 j) ∧ (∀ j : Nat, j < n → x_Rch n (fun a b => w b a) 0 j) := by
  constructor
  · rintro ⟨-, a, b⟩
    exact ⟨a, fun j hj => b 0 j (by omega) hj, fun j hj => rch_back.mpr (b j 0 hj (by omega))⟩
  · rintro ⟨a, b, c⟩
    refine ⟨h1, a, fun i j hi hj C hC h => ?_⟩
    exact b j hj C hC (rch_back.mp (c i hi) C hC h)
theorem x_s_bd {f : Nat → Int} {c : Int} : ∀ n : Nat, (∀ j : Nat, j < n → 0 ≤ f j ∧ f j ≤ c) → 0 ≤ x_s f n ∧ x_s f n ≤ c * n
  | 0, _ => by simp [x_s]
  | n + 1, h => by
    have ih := x_s_bd n (fun j hj => h j (by omega))
    have g := h n (by omega)
    rw [x_s, show ((n + 1 : Nat) : Int) = (n : Int) + 1 by omega, Int.mul_add, Int.mul_one]
    omega
section SN
variable {d : Nat} {Q : xm_K} {M : xm_Mem} {n : Nat} {w : Nat → Nat → Int}
/-- the class's weights, the reference's -/
def x_cw (M : xm_Mem) (n : Nat) (w : Nat → Nat → Int) : Prop := M 38 0 = n ∧ n ≤ 5 ∧ ∀ a b : Nat, a < n → b < n → M 40 ((a : Int) * 5 + b) = w a b ∧ 0 ≤ w a b ∧ w a b ≤ 12
def y_cw (M : xm_Mem) (n : Nat) (w : Nat → Nat → Int) : Prop := M 50 48 = n ∧ n ≤ 5 ∧ ∀ a b : Nat, a < n → b < n → M 76 (5 * (a : Int) + b) = w a b ∧ 0 ≤ w a b ∧ w a b ≤ 12
theorem sp49w (h : x_cw M n w) {a b : Nat} (ha : a < n) (hb : b < n) (hq : Q [.inl (w a b)] M) : xm_call true (d + 2) 49 [.inr (.inr 38), .inl (a : Int), .inl (b : Int)] M Q := by
  obtain ⟨h1, h2, h3⟩ := h
  refine sp49 (by omega) (by omega) (by omega) (fun _ => ?_) (fun g => by omega)
  rw [(h3 a b ha hb).1]
  exact hq
theorem sp52 {x j : Nat} (hx : x < 32) (hj : j < 5) (h1 : x.testBit j = true → Q [.inl 1] M) (h0 : x.testBit j = false → Q [.inl 0] M) : xm_call true (d + 1) 52 [.inl (x : Int), .inl (j : Int)] M Q := by
  have t := tb_and ⟨x, hx⟩ ⟨j, hj⟩
  dsimp only at t
  refine en52 (rg52_0 ⟨by omega, ?_, fun g => ⟨Or.inl rfl, h0 (t.mp g)⟩, fun g => ⟨Or.inr rfl, h1 ?_⟩⟩)
  · have tp := tb_pow ⟨j, hj⟩
    dsimp only at tp
    rw [tp]
    have b1 : ((x : Int) % 4294967296).toNat &&& (((2 ^ j : Nat) : Int) % 4294967296).toNat ≤ ((x : Int) % 4294967296).toNat := Nat.and_le_left
    rw [xa_nat (by omega)]
    omega
  · cases hb : x.testBit j with
    | true => rfl
    | false => exact absurd (t.mpr hb) g
theorem lo53 {i : Nat} {fw : Int} {f : Nat → Int} (hc : x_cw M n w) (hi : i < n) (hf : fw = 1 ∧ (f = fun j => w i j) ∨ fw = 0 ∧ (f = fun j => w j i)) (h : Q [.inl ((x_nb f n : Nat) : Int)] M) : ∀ (m k : Nat) (o : Option xm_V), k + m = n → wp53r38_5 (xm_call true (d + 2)) Q i fw ((x_nb f k : Nat) : Int) k o M
  | 0, k, o, h0 => by
    have e : k = n := by omega
    subst e
    have c1 := hc.1
    have c2 := hc.2.1
    exact rg53r38_5 ⟨⟨by omega, by omega⟩, fun _ => h, fun _ => by omega⟩
  | m + 1, k, o, h0 => by
    have ih := fun o => lo53 hc hi hf h m (k + 1) o (by omega)
    have c1 := hc.1
    have c2 := hc.2.1
    have b1 := (hc.2.2 i k hi (by omega)).2
    have b2 := (hc.2.2 k i (by omega) hi).2
    have l := nb_lt (f := f) k
    have pw := pw_le (n := k) (by omega)
    have tp := tb_pow ⟨k, by omega⟩
    dsimp only at tp
    have pk : 2 ^ k < 2147483648 := by omega
    have one : ∀ (r : Int) (o : Option xm_V), r = f k → 0 ≤ r ∧ r ≤ 12 → (xm_in r) ∧ ((r ≤ 0 → wp53r38_5 (xm_call true (d + 2)) Q i fw ((x_nb f k : Nat) : Int) (k + 1) (some (.inl r)) M) ∧ (0 < r → (0 ≤ (k : Int) ∧ (k : Int) < 32) ∧ wp53r38_5 (xm_call true (d + 2)) Q i fw (xm_or ((x_nb f k : Nat) : Int) (1 * 2 ^ (k : Int).toNat)) (k + 1) (some (.inl r)) M)) := by
      intro r o hr hb
      rw [x_nb] at ih
      refine ⟨by omega, fun g => ?_, fun g => ⟨by omega, ?_⟩⟩
      · have := ih (some (.inl r))
        rw [if_neg (by omega)] at this
        exact this
      · have := ih (some (.inl r))
        rw [if_pos (by omega)] at this
        rw [tp, xo_nat (by omega) pk]
        exact this
    refine rg53r38_5 ⟨⟨by omega, by omega⟩, fun _ => by omega, fun _ => ⟨by omega, fun g => ?_, fun g => ?_⟩⟩
    · refine sp49w hc (by omega) hi (xq_ki (one _ o ?_ b2))
      rcases hf with ⟨a1, -⟩ | ⟨-, a2⟩
      · omega
      · rw [a2]
    · refine sp49w hc hi (by omega) (xq_ki (one _ o ?_ b1))
      rcases hf with ⟨-, a2⟩ | ⟨a1, -⟩
      · rw [a2]
      · omega
theorem sp53 {i : Nat} {fw : Int} {f : Nat → Int} (hc : x_cw M n w) (hi : i < n) (hf : fw = 1 ∧ (f = fun j => w i j) ∨ fw = 0 ∧ (f = fun j => w j i)) (h : Q [.inl ((x_nb f n : Nat) : Int)] M) : xm_call true (d + 3) 53 [.inr (.inr 38), .inl (i : Int), .inl fw] M Q := by
  refine en53r38 (rg53r38_0 ?_)
  exact lo53 hc hi hf h n 0 none (by omega)
theorem lo51_15 {fw : Int} {f : Nat → Nat → Int} (hc : x_cw M n w) (hf : fw = 1 ∧ (f = fun i j => w i j) ∨ fw = 0 ∧ (f = fun i j => w j i)) {x3 : Int} {x : Nat} (hx : x < 2 ^ n) (h : ∀ o, wp51r38_4 (xm_call true (d + 3)) Q fw ((x_go (fun i => x_nb (f i) n) x n : Nat) : Int) (x3 + 1) o M) : ∀ (m k : Nat), k + m = n → wp51r38_15 (xm_call true (d + 3)) Q fw ((x_go (fun i => x_nb (f i) n) x k : Nat) : Int) x3 k M
  | 0, k, h0 => by
    have e : k = n := by omega
    subst e
    have c1 := hc.1
    have c2 := hc.2.1
    exact rg51r38_15 ⟨⟨by omega, by omega⟩, fun _ => h _, fun _ => by omega⟩
  | m + 1, k, h0 => by
    have ih := lo51_15 hc hf hx h m (k + 1) (by omega)
    have c1 := hc.1
    have c2 := hc.2.1
    have pw := pw_le (n := n) c2
    have l := gg_lt (nb := fun i => x_nb (f i) n) (n := n) (fun i => nb_lt n) hx k
    have l2 := nb_lt (f := f k) n
    rw [x_go] at ih
    refine rg51r38_15 ⟨⟨by omega, by omega⟩, fun _ => by omega, fun _ => ?_⟩
    refine sp52 (by omega) (by omega) (fun g => xq_ki (xq_n1 ?_)) (fun g => xq_ki (xq_b3 ?_))
    · rw [if_pos g] at ih
      refine sp53 (f := f k) hc (by omega) ?_ (xq_ki ?_)
      · rcases hf with ⟨a1, a2⟩ | ⟨a1, a2⟩
        · exact Or.inl ⟨a1, by rw [a2]⟩
        · exact Or.inr ⟨a1, by rw [a2]⟩
      · rw [xo_nat (by omega) (by omega)]
        exact ih
    · rw [if_neg (by rw [g]; exact Bool.false_ne_true)] at ih
      exact ih
theorem lo51_4 {fw : Int} {f : Nat → Nat → Int} (hc : x_cw M n w) (h1 : 1 ≤ n) (hf : fw = 1 ∧ (f = fun i j => w i j) ∨ fw = 0 ∧ (f = fun i j => w j i)) (hq1 : (∀ j : Nat, j < n → x_Rch n f 0 j) → Q [.inl 1] M) (hq0 : ¬ (∀ j : Nat, j < n → x_Rch n f 0 j) → Q [.inl 0] M) : ∀ (m k : Nat) (o : Option xm_V), k + m + 1 = n → wp51r38_4 (xm_call true (d + 3)) Q fw ((x_gr (fun i => x_nb (f i) n) n (2 ^ 0) k : Nat) : Int) ((k : Int) + 1) o M
  | 0, k, o, h0 => by
    have c1 := hc.1
    have c2 := hc.2.1
    have pw := pw_le (n := n) c2
    have l := rr_lt (nb := fun i => x_nb (f i) n) (n := n) (x := 2 ^ 0) (fun i => nb_lt n) (Nat.pow_lt_pow_right (by omega) h1) k
    have rf := rr_full (n := n) (s := 0) (m := k) (f := f) c2 (by omega) (by omega)
    have tp : (1 * 2 ^ ((M 38 0 : Int)).toNat : Int) = ((2 ^ n : Nat) : Int) := by
      rw [c1, Int.one_mul, Int.toNat_natCast, xn_pow]
    have pp : 0 < 2 ^ n := Nat.two_pow_pos n
    refine rg51r38_4 ⟨⟨by omega, by omega⟩, fun _ => ⟨by omega, ?_⟩, fun _ => by omega⟩
    rw [tp]
    generalize x_gr (fun i => x_nb (f i) n) n (2 ^ 0) k = z at *
    refine ⟨⟨by omega, by omega⟩, fun g => ⟨Or.inl rfl, hq0 (fun q => ?_)⟩, fun g => ⟨Or.inr rfl, hq1 (rf.mp (by omega))⟩⟩
    have := rf.mpr q
    omega
  | m + 1, k, o, h0 => by
    have ih := fun o => lo51_4 hc h1 hf hq1 hq0 m (k + 1) o (by omega)
    have c1 := hc.1
    have c2 := hc.2.1
    have l := rr_lt (nb := fun i => x_nb (f i) n) (n := n) (x := 2 ^ 0) (fun i => nb_lt n) (Nat.pow_lt_pow_right (by omega) h1) k
    rw [x_gr, show (((k + 1 : Nat) : Int)) + 1 = (k : Int) + 1 + 1 by omega] at ih
    refine rg51r38_4 ⟨⟨by omega, by omega⟩, fun _ => by omega, fun _ => ?_⟩
    exact lo51_15 hc hf l ih n 0 (by omega)
theorem sp51 {fw : Int} {f : Nat → Nat → Int} (hc : x_cw M n w) (h1 : 1 ≤ n) (hf : fw = 1 ∧ (f = fun i j => w i j) ∨ fw = 0 ∧ (f = fun i j => w j i)) (hq1 : (∀ j : Nat, j < n → x_Rch n f 0 j) → Q [.inl 1] M) (hq0 : ¬ (∀ j : Nat, j < n → x_Rch n f 0 j) → Q [.inl 0] M) : xm_call true (d + 4) 51 [.inr (.inr 38), .inl fw] M Q := by
  refine en51r38 (rg51r38_0 ?_)
  exact lo51_4 hc h1 hf hq1 hq0 (n - 1) 0 none (by omega)
theorem lo50_24 {i : Nat} (hc : x_cw M n w) (hi : i < n) (h1 : x_s (w i) n = 12 → ∀ o2 o3, wp50r38_12 (xm_call true (d + 4)) Q (i + 1) o2 o3 M) (h0 : x_s (w i) n ≠ 12 → Q [.inl 0] M) : ∀ (m k : Nat), k + m = n → wp50r38_24 (xm_call true (d + 4)) Q i (x_s (w i) k) k M
  | 0, k, e0 => by
    have e : k = n := by omega
    subst e
    have c1 := hc.1
    have c2 := hc.2.1
    have bd := x_s_bd (f := w i) (c := 12) k (fun j hj => (hc.2.2 i j hi hj).2)
    exact rg50r38_24 ⟨⟨by omega, by omega⟩, fun _ => ⟨⟨by omega, by omega⟩, fun g => h1 g _ _, fun g => ⟨Or.inl rfl, h0 g⟩⟩, fun _ => by omega⟩
  | m + 1, k, e0 => by
    have ih := lo50_24 hc hi h1 h0 m (k + 1) (by omega)
    have c1 := hc.1
    have c2 := hc.2.1
    rw [x_s] at ih
    exact rg50r38_24 ⟨⟨by omega, by omega⟩, fun _ => by omega, fun _ => sp49w hc hi (by omega) (xq_ki ih)⟩
theorem lo50_12 (hc : x_cw M n w) (hn : 1 ≤ n) (h1 : x_Snd n w → Q [.inl 1] M) (h0 : ¬ x_Snd n w → Q [.inl 0] M) : ∀ (m k : Nat) (o2 o3 : Option xm_V), k + m = n → (∀ i : Nat, i < k → x_s (w i) n = 12) → wp50r38_12 (xm_call true (d + 4)) Q k o2 o3 M
  | 0, k, o2, o3, e0, hr => by
    have e : k = n := by omega
    subst e
    have c1 := hc.1
    have c2 := hc.2.1
    have si := snd_iff (w := w) hn
    refine rg50r38_12 ⟨⟨by omega, by omega⟩, fun _ => ?_, fun _ => by omega⟩
    refine sp51 (f := fun i j => w i j) hc hn (Or.inl ⟨rfl, rfl⟩) (fun a => xq_ki (xq_n1 ?_)) (fun a => xq_ki (xq_b3 ⟨Or.inl rfl, h0 (fun q => a (si.mp q).2.1)⟩))
    refine sp51 (f := fun i j => w j i) hc hn (Or.inr ⟨rfl, rfl⟩) (fun b => xq_ki (xq_n1 ⟨Or.inr rfl, h1 (si.mpr ⟨hr, a, b⟩)⟩)) (fun b => xq_ki (xq_b3 ⟨Or.inl rfl, h0 (fun q => b (si.mp q).2.2)⟩))
  | m + 1, k, o2, o3, e0, hr => by
    have c1 := hc.1
    have c2 := hc.2.1
    refine rg50r38_12 ⟨⟨by omega, by omega⟩, fun _ => by omega, fun _ => ?_⟩
    refine lo50_24 hc (by omega) (fun g o2 o3 => ?_) (fun g => h0 (fun q => g (q.2.1 k (by omega)))) n 0 (by omega)
    refine lo50_12 hc hn h1 h0 m (k + 1) o2 o3 (by omega) (fun i hi => ?_)
    by_cases e : i = k
    · rw [e]; exact g
    · exact hr i (by omega)
theorem sp50 (hc : x_cw M n w) (h1 : x_Snd n w → Q [.inl 1] M) (h0 : ¬ x_Snd n w → Q [.inl 0] M) : xm_call true (d + 5) 50 [.inr (.inr 38)] M Q := by
  have c1 := hc.1
  have c2 := hc.2.1
  refine en50r38 (rg50r38_0 ⟨⟨by omega, by omega⟩, fun g => ?_, fun g => ⟨Or.inl rfl, h0 (fun q => ?_)⟩⟩)
  · exact lo50_12 hc (by omega) h1 h0 n 0 none none (by omega) (fun i hi => by omega)
  · have := q.1
    omega
end SN
theorem xa_1i (z : Int) : xm_in (xm_and z 1) := by
  rw [xa_1]
  have := Int.emod_nonneg z (b := 2) (by omega)
  have := Int.emod_lt_of_pos z (b := 2) (by omega)
  exact ⟨by omega, by omega⟩
section SM
variable {d : Nat} {Q : xm_K} {M : xm_Mem} {n : Nat} {w : Nat → Nat → Int}
theorem xo_0r {z : Nat} (h : z < 2147483648) : xm_or (z : Int) 0 = (z : Int) := by
  have := xo_nat (x := z) (y := 0) h (by omega)
  rw [Nat.or_zero] at this
  exact this
theorem lo256_29 {cs : xm_C} {s y : Nat} {x1 x3 : Int} (hc : y_cw M n w) (hs : s < n) (hy : y < 2 ^ n) (h : ∀ o, wp256r50_17 cs Q x1 (((if y.testBit s = true then y ||| x_nb (w s) n else y) : Nat) : Int) x3 ((s : Int) + 1) o M) : ∀ (m k : Nat), k + m = n → wp256r50_29 cs Q x1 (((if y.testBit s = true then y ||| x_nb (w s) k else y) : Nat) : Int) x3 s k M
  | 0, k, e0 => by
    have e : k = n := by omega
    subst e
    have c1 := hc.1
    have c2 := hc.2.1
    exact rg256r50_29 ⟨⟨by omega, by omega⟩, fun _ => h _, fun _ => by omega⟩
  | m + 1, k, e0 => by
    have ih := lo256_29 (x1 := x1) (x3 := x3) hc hs hy h m (k + 1) (by omega)
    have c1 := hc.1
    have c2 := hc.2.1
    have c3 := hc.2.2 s k hs (by omega)
    have pw := pw_le (n := n) c2
    have l := nb_lt (f := w s) k
    have pk : 2 ^ k < 2 ^ n := Nat.pow_lt_pow_right (by omega) (by omega)
    have tp := tb_pow ⟨k, by omega⟩
    dsimp only at tp
    cases hb : y.testBit s with
    | true =>
      simp only [hb, if_true] at ih ⊢
      have lz : y ||| x_nb (w s) k < 2 ^ n := Nat.or_lt_two_pow hy (by omega)
      have t := tb_shr ⟨y ||| x_nb (w s) k, by omega⟩ ⟨s, by omega⟩
      dsimp only at t
      have t2 := t.mpr (by rw [Nat.testBit_or, hb]; rfl)
      rw [x_nb] at ih
      refine rg256r50_29 ⟨⟨by omega, by omega⟩, fun _ => by omega, fun _ => ⟨by omega, ⟨by rw [t2]; omega, by omega⟩, fun g => absurd t2 g, fun _ => ⟨by omega, by rw [c3.1]; omega, fun g => ?_, fun g => ⟨by omega, ?_⟩⟩⟩⟩
      · rw [c3.1] at g
        rw [if_neg (by omega)] at ih
        rw [xo_0r (by omega)]
        exact ih
      · rw [c3.1] at g
        rw [if_pos g, ← Nat.or_assoc] at ih
        rw [tp, xo_nat (by omega) (by omega)]
        exact ih
    | false =>
      simp only [hb, Bool.false_eq_true, if_false] at ih ⊢
      have t := tb_shr ⟨y, by omega⟩ ⟨s, by omega⟩
      dsimp only at t
      have t2 : ¬ (xm_and (((((y : Nat) : Int) + 2147483648) % 4294967296 - 2147483648) / 2 ^ ((s : Int)).toNat) 1 = 1) := fun q => by
        have := t.mp q
        rw [hb] at this
        exact Bool.false_ne_true this
      refine rg256r50_29 ⟨⟨by omega, by omega⟩, fun _ => by omega, fun _ => ⟨by omega, ⟨xa_1i _, by omega⟩, fun g => ?_, fun g => absurd g t2⟩⟩
      rw [xo_0r (by omega)]
      exact ih
theorem lo256_17 {cs : xm_C} {y : Nat} {x1 x3 : Int} (hc : y_cw M n w) (hy : y < 2 ^ n) (h : ∀ o4 o5, wp256r50_6 cs Q x1 ((x_go (fun i => x_nb (w i) n) y n : Nat) : Int) (x3 + 1) o4 o5 M) : ∀ (m k : Nat) (o : Option xm_V), k + m = n → wp256r50_17 cs Q x1 ((x_go (fun i => x_nb (w i) n) y k : Nat) : Int) x3 k o M
  | 0, k, o, e0 => by
    have e : k = n := by omega
    subst e
    have c1 := hc.1
    have c2 := hc.2.1
    exact rg256r50_17 ⟨⟨by omega, by omega⟩, fun _ => h _ _, fun _ => by omega⟩
  | m + 1, k, o, e0 => by
    have ih := fun o => lo256_17 (x1 := x1) hc hy h m (k + 1) o (by omega)
    have c1 := hc.1
    have c2 := hc.2.1
    have l := gg_lt (nb := fun i => x_nb (w i) n) (n := n) (fun i => nb_lt n) hy k
    rw [x_go] at ih
    refine rg256r50_17 ⟨⟨by omega, by omega⟩, fun _ => by omega, fun _ => ?_⟩
    have := lo256_29 (cs := cs) (Q := Q) (s := k) (y := x_go (fun i => x_nb (w i) n) y k) (x1 := x1) (x3 := x3) hc (by omega) l (fun o => ih o) n 0 (by omega)
    simp only [x_nb, Nat.or_zero, ite_self] at this
    exact this
theorem lo256_6 {cs : xm_C} {s : Nat} {x1 : Int} (hc : y_cw M n w) (hs : s < n) (h : Q [.inl ((x_gr (fun i => x_nb (w i) n) n (2 ^ s) n : Nat) : Int)] M) : ∀ (m k : Nat) (o4 o5 : Option xm_V), k + m = n → wp256r50_6 cs Q x1 ((x_gr (fun i => x_nb (w i) n) n (2 ^ s) k : Nat) : Int) k o4 o5 M
  | 0, k, o4, o5, e0 => by
    have e : k = n := by omega
    subst e
    have c1 := hc.1
    have c2 := hc.2.1
    exact rg256r50_6 ⟨⟨by omega, by omega⟩, fun _ => h, fun _ => by omega⟩
  | m + 1, k, o4, o5, e0 => by
    have ih := fun o4 o5 => lo256_6 (x1 := x1) (cs := cs) hc hs h m (k + 1) o4 o5 (by omega)
    have c1 := hc.1
    have c2 := hc.2.1
    have l := rr_lt (nb := fun i => x_nb (w i) n) (n := n) (x := 2 ^ s) (fun i => nb_lt n) (Nat.pow_lt_pow_right (by omega) hs) k
    rw [x_gr] at ih
    refine rg256r50_6 ⟨⟨by omega, by omega⟩, fun _ => by omega, fun _ => ?_⟩
    exact lo256_17 (x1 := x1) hc l (fun o4 o5 => ih o4 o5) n 0 _ (by omega)
theorem sp256 {s : Nat} (hc : y_cw M n w) (hs : s < n) (h : Q [.inl ((x_gr (fun i => x_nb (w i) n) n (2 ^ s) n : Nat) : Int)] M) : xm_call true (d + 1) 256 [.inr (.inr 50), .inl (s : Int)] M Q := by
  have c2 := hc.2.1
  have tp := tb_pow ⟨s, by omega⟩
  dsimp only at tp
  refine en256r50 (rg256r50_0 ⟨by omega, ?_⟩)
  rw [tp]
  exact lo256_6 hc hs h n 0 none none (by omega)
def x_ok (n : Nat) (w : Nat → Nat → Int) (i : Nat) : Prop := x_s (w i) n = 12 ∧ ∀ j : Nat, j < n → x_Rch n w i j
theorem lo257_28 {i : Nat} {x1 : Int} (hc : y_cw M n w) (hi : i < n) (hx : x1 = 0 ∨ x1 = 1) (h1 : x1 = 1 → x_ok n w i → ∀ o3 o4, wp257r50_15 (xm_call true (d + 1)) Q 1 ((i : Int) + 1) o3 o4 M) (h0 : x1 = 0 ∨ ¬ x_ok n w i → ∀ o3 o4, wp257r50_15 (xm_call true (d + 1)) Q 0 ((i : Int) + 1) o3 o4 M) : ∀ (m k : Nat), k + m = n → wp257r50_28 (xm_call true (d + 1)) Q x1 i (x_s (w i) k) k M
  | 0, k, e0 => by
    have e : k = n := by omega
    subst e
    have c1 := hc.1
    have c2 := hc.2.1
    have pw := pw_le (n := k) c2
    have bd := x_s_bd (f := w i) (c := 12) k (fun j hj => (hc.2.2 i j hi hj).2)
    refine rg257r50_28 ⟨⟨by omega, by omega⟩, fun _ => ⟨by omega, fun g => h0 (Or.inl g) _ _, fun g => ⟨⟨by omega, by omega⟩, fun g2 => h0 (Or.inr (fun q => g2 q.1)) _ _, fun g2 => sp256 hc hi (xq_ki ?_)⟩⟩, fun _ => by omega⟩
    have rf := rr_full (n := k) (s := i) (m := k) (f := w) c2 hi (by omega)
    have l := rr_lt (nb := fun i => x_nb (w i) k) (n := k) (x := 2 ^ i) (fun i => nb_lt k) (Nat.pow_lt_pow_right (by omega) hi) k
    have tp : (1 * 2 ^ ((M 50 48 : Int)).toNat : Int) = ((2 ^ k : Nat) : Int) := by
      rw [c1, Int.one_mul, Int.toNat_natCast, xn_pow]
    have pp : 0 < 2 ^ k := Nat.two_pow_pos k
    rw [tp]
    generalize x_gr (fun i => x_nb (w i) k) k (2 ^ i) k = z at *
    refine ⟨by omega, ⟨by omega, by omega⟩, fun g3 => h0 (Or.inr (fun q => ?_)) _ _, fun g3 => h1 (by omega) ⟨g2, rf.mp (by omega)⟩ _ _⟩
    have := rf.mpr q.2
    omega
  | m + 1, k, e0 => by
    have ih := lo257_28 hc hi hx h1 h0 m (k + 1) (by omega)
    have c1 := hc.1
    have c2 := hc.2.1
    have c3 := hc.2.2 i k hi (by omega)
    rw [x_s, ← c3.1] at ih
    exact rg257r50_28 ⟨⟨by omega, by omega⟩, fun _ => by omega, fun _ => ⟨by omega, ih⟩⟩
theorem lo257_15 (hc : y_cw M n w) (hn : 1 ≤ n) (hq1 : x_Snd n w → Q [.inl 1] M) (hq0 : ¬ x_Snd n w → Q [.inl 0] M) : ∀ (m k : Nat) (x1 : Int) (o3 o4 : Option xm_V), k + m = n → (x1 = 1 ∧ (∀ i : Nat, i < k → x_ok n w i) ∨ x1 = 0 ∧ ¬ x_Snd n w) → wp257r50_15 (xm_call true (d + 1)) Q x1 k o3 o4 M
  | 0, k, x1, o3, o4, e0, hx => by
    have e : k = n := by omega
    subst e
    have c1 := hc.1
    have c2 := hc.2.1
    refine rg257r50_15 ⟨⟨by omega, by omega⟩, fun _ => ⟨by omega, ?_⟩, fun _ => by omega⟩
    rcases hx with ⟨a, b⟩ | ⟨a, b⟩
    · rw [a]; exact hq1 ⟨hn, fun i hi => (b i hi).1, fun i j hi hj => (b i hi).2 j hj⟩
    · rw [a]; exact hq0 b
  | m + 1, k, x1, o3, o4, e0, hx => by
    have ih := lo257_15 hc hn hq1 hq0 m (k + 1)
    have c1 := hc.1
    have c2 := hc.2.1
    refine rg257r50_15 ⟨⟨by omega, by omega⟩, fun _ => by omega, fun _ => ?_⟩
    refine lo257_28 hc (by omega) (by omega) (fun g1 g2 o3 o4 => ih 1 o3 o4 (by omega) (Or.inl ⟨rfl, fun i hi => ?_⟩)) (fun g o3 o4 => ih 0 o3 o4 (by omega) (Or.inr ⟨rfl, ?_⟩)) n 0 (by omega)
    · by_cases e : i = k
      · rw [e]; exact g2
      · rcases hx with ⟨a, b⟩ | ⟨a, b⟩
        · exact b i (by omega)
        · omega
    · rcases hx with ⟨a, b⟩ | ⟨a, b⟩
      · rcases g with g | g
        · omega
        · exact fun q => g ⟨q.2.1 k (by omega), fun j hj => q.2.2 k j (by omega) hj⟩
      · exact b
theorem sp257 (hc : y_cw M n w) (h1 : x_Snd n w → Q [.inl 1] M) (h0 : ¬ x_Snd n w → Q [.inl 0] M) : xm_call true (d + 2) 257 [.inr (.inr 50)] M Q := by
  have c1 := hc.1
  have c2 := hc.2.1
  refine en257r50 (rg257r50_0 ⟨by omega, fun g => ?_, fun g => ?_⟩)
  · refine rg257r50_15 ⟨⟨by omega, by omega⟩, fun _ => ⟨by omega, h0 (fun q => ?_)⟩, fun _ => by omega⟩
    have := q.1
    omega
  · exact lo257_15 hc (by omega) h1 h0 n 0 1 none none (by omega) (Or.inl ⟨rfl, fun i hi => by omega⟩)
end SM
