/-! a slot begins: experiments are admitted -/
theorem x_sum_split (f : Int → Int) (a : Int) (m : Nat) : ∀ n : Nat, x_sum f a (m + n) = x_sum f a m + x_sum f (a + m) n
  | 0 => by simp [x_sum]
  | n + 1 => by
    rw [← Nat.add_assoc, x_sum, x_sum_split f a m n, x_sum]
    rw [show a + ((m + n : Nat) : Int) = a + m + n by omega]
    omega
theorem x_sum_bd {f : Int → Int} {c : Int} : ∀ (n : Nat) (a : Int), (∀ s : Int, a ≤ s → s < a + n → 0 ≤ f s ∧ f s ≤ c) → 0 ≤ x_sum f a n ∧ x_sum f a n ≤ c * n
  | 0, a, _ => by simp [x_sum]
  | n + 1, a, h => by
    have ih := x_sum_bd n a (fun s q r => h s q (by omega))
    have g := h (a + n) (by omega) (by omega)
    rw [x_sum, show ((n + 1 : Nat) : Int) = (n : Int) + 1 by omega, Int.mul_add, Int.mul_one]
    omega
theorem x_sum_nn {f : Int → Int} : ∀ (n : Nat) (a : Int), (∀ s : Int, a ≤ s → s < a + n → 0 ≤ f s) → 0 ≤ x_sum f a n
  | 0, a, _ => by simp [x_sum]
  | n + 1, a, h => by
    have ih := x_sum_nn n a (fun s q r => h s q (by omega))
    have g := h (a + n) (by omega) (by omega)
    rw [x_sum]
    omega
theorem x_sum_0 {f : Int → Int} : ∀ (n : Nat) (a : Int), (∀ s : Int, a ≤ s → s < a + n → f s = 0) → x_sum f a n = 0
  | 0, a, _ => by simp [x_sum]
  | n + 1, a, h => by
    have ih := x_sum_0 n a (fun s q r => h s q (by omega))
    have g := h (a + n) (by omega) (by omega)
    rw [x_sum]
    omega
theorem x_sum_sub {f : Int → Int} {a a' : Int} {n n' : Nat} (h1 : a' ≤ a) (h2 : a + n ≤ a' + n') (hf : ∀ s : Int, a' ≤ s → s < a' + n' → 0 ≤ f s) : x_sum f a n ≤ x_sum f a' n' := by
  have e : n' = (a - a').toNat + (n + (a' + n' - (a + n)).toNat) := by omega
  rw [e, x_sum_split, x_sum_split, show a' + (((a - a').toNat : Nat) : Int) = a by omega]
  have g1 := x_sum_nn (f := f) (a - a').toNat a' (fun s q r => hf s q (by omega))
  have g2 := x_sum_nn (f := f) (a' + n' - (a + n)).toNat (a + n) (fun s q r => hf s (by omega) (by omega))
  omega
theorem due_nn {bg kd : Int → Int} {s : Int} : ∀ n : Nat, 0 ≤ x_due bg kd s n ∧ x_due bg kd s n ≤ n
  | 0 => by simp [x_due]
  | n + 1 => by
    have ih := due_nn (bg := bg) (kd := kd) (s := s) n
    rw [x_due]
    split <;> omega
theorem due_0 {bg kd : Int → Int} {s : Int} : ∀ n : Nat, (∀ j : Int, 0 ≤ j → j < n → bg j + kd j ≤ s) → x_due bg kd s n = 0
  | 0, _ => rfl
  | n + 1, h => by
    have g := h n (by omega) (by omega)
    rw [x_due, due_0 n (fun j a b => h j a (by omega)), if_neg (by omega)]
    rfl
/-- the probes in the w slots that end with the last; none before slot 0 -/
def x_win (f : Int → Int) (w last : Int) : Int := x_sum f (if last - w + 1 < 0 then 0 else last - w + 1) (if last - w + 1 < 0 then last + 1 else w).toNat
abbrev x_exc (f : Int → Int) (b w p : Int) : Prop := b < x_win f w p ∨ b < x_win f w (p + 1) ∨ b < x_win f w (p + 1 + 1)
def x_adm (b w p : Int) (A : xm_Mem) (is : Int) : xm_Mem := if 20 ≤ A 23 3 ∨ x_exc (x_ad A p (p + is) 1 28) b w p then xm_up (x_ad (x_ad A p (p + is) 1) p (p + is) (-1)) 23 9 (A 23 9 + 1) else xm_up (xm_up (xm_up (xm_up (xm_up (x_ad A p (p + is) 1) 24 (A 23 3) is) 25 (A 23 3) p) 26 (A 23 3) 0) 23 3 (A 23 3 + 1)) 23 8 (A 23 8 + 1)
def y_pi (B : xm_Mem) (p s : Int) : Int := if s < p then B 59 s else x_due (B 68) (B 67) s (B 50 32).toNat
def y_F (B : xm_Mem) (p is s : Int) : Int := y_pi B p s + if p ≤ s ∧ s < p + is then 1 else 0
def y_ex (F : Int → Int) (b w lo : Int) : Nat → Int
  | 0 => 0
  | n + 1 => if y_ex F b w lo n ≠ 0 ∨ (0 ≤ lo + n ∧ b < x_sum F (lo + n) w.toNat) then 1 else 0
def y_adm (p : Int) (B : xm_Mem) (is : Int) : xm_Mem := if y_ex (y_F B p is) (B 50 3) (B 50 4) (p - B 50 4 + 1) (B 50 4 + is - 1).toNat ≠ 0 then xm_up B 50 37 (B 50 37 + 1) else xm_up (xm_up (xm_up (xm_up (xm_up B 67 (B 50 32) is) 68 (B 50 32) p) 69 (B 50 32) 0) 50 32 (B 50 32 + 1)) 50 36 (B 50 36 + 1)
theorem y_ex_bit {F : Int → Int} {b w lo : Int} : ∀ n : Nat, y_ex F b w lo n = 0 ∨ y_ex F b w lo n = 1
  | 0 => Or.inl rfl
  | n + 1 => by
    rw [y_ex]
    split
    · exact Or.inr rfl
    · exact Or.inl rfl
theorem y_ex_iff {F : Int → Int} {b w lo : Int} : ∀ n : Nat, y_ex F b w lo n ≠ 0 ↔ ∃ a : Int, lo ≤ a ∧ a < lo + n ∧ 0 ≤ a ∧ b < x_sum F a w.toNat
  | 0 => by
    constructor
    · intro h; exact absurd rfl h
    · rintro ⟨a, h1, h2, -⟩; omega
  | n + 1 => by
    have ih := y_ex_iff (F := F) (b := b) (w := w) (lo := lo) n
    rw [y_ex]
    constructor
    · intro h
      by_cases g : y_ex F b w lo n ≠ 0 ∨ (0 ≤ lo + n ∧ b < x_sum F (lo + n) w.toNat)
      · rcases g with g | g
        · obtain ⟨a, q1, q2, q3⟩ := ih.mp g
          exact ⟨a, q1, by omega, q3⟩
        · exact ⟨lo + n, by omega, by omega, g⟩
      · rw [if_neg g] at h; exact absurd rfl h
    · rintro ⟨a, q1, q2, q3⟩
      have g : y_ex F b w lo n ≠ 0 ∨ (0 ≤ lo + n ∧ b < x_sum F (lo + n) w.toNat) := by
        by_cases e : a = lo + n
        · subst e; exact Or.inr q3
        · exact Or.inl (ih.mpr ⟨a, q1, by omega, q3⟩)
      rw [if_pos g]
      omega
theorem xa_back {M : xm_Mem} {a b : Int} : x_ad (x_ad M a b 1) a b (-1) = M := by
  funext c j
  unfold x_ad
  split
  · omega
  · rfl
/-- the two of one mind: whether one more is beyond the budget -/
theorem exc_iff {p is b w : Int} {A B : xm_Mem} (h : T_all p 0 0 0 A B) (his : is = 2 ∨ is = 3) (hb : b = B 50 3) (hw : w = B 50 4) :
    ((20 ≤ A 23 3 ∨ x_exc (x_ad A p (p + is) 1 28) b w p) ↔ y_ex (y_F B p is) (B 50 3) (B 50 4) (p - B 50 4 + 1) (B 50 4 + is - 1).toNat ≠ 0) ∧
    (∀ s : Int, 0 ≤ s → s < 2003 → x_ad A p (p + is) 1 28 s = A 28 s + if p ≤ s ∧ s < p + is then 1 else 0) ∧
    (¬ (20 ≤ A 23 3 ∨ x_exc (x_ad A p (p + is) 1 28) b w p) → ∀ a : Int, 0 ≤ a → a + w ≤ 2003 → x_sum (x_ad A p (p + is) 1 28) a w.toNat ≤ b) := by
  have cp := T_cap h.1
  obtain ⟨-, -, ⟨e1, e2, e3, e4, e5, e6, e7, e8⟩, -, h5, -⟩ := h
  have hp := h5.1.2.2
  rw [← hb, ← hw] at e8
  rw [← hb, ← hw] at cp ⊢
  have hf : ∀ s : Int, x_ad A p (p + is) 1 28 s = A 28 s + if p ≤ s ∧ s < p + is then 1 else 0 := by
    intro s
    by_cases g : p ≤ s ∧ s < p + is
    · rw [xa_in g, if_pos g]
    · rw [xa_out g, if_neg g]; omega
  have edue : ∀ s : Int, x_due (B 68) (B 67) s (B 50 32).toNat = x_due (A 25) (A 24) s (A 23 3).toNat := by
    intro s
    rw [← e1]
    exact due_lo _ (fun j q r => by
      have g := e3 j q (by omega)
      exact ⟨g.2.1.symm, g.1.symm⟩)
  have hF : ∀ s : Int, 0 ≤ s → s < 2003 → y_F B p is s = x_ad A p (p + is) 1 28 s := by
    intro s q r
    rw [hf, y_F, y_pi]
    by_cases g : s < p
    · rw [if_pos g, e4 s q g]
    · rw [if_neg g, edue, e7 s (by omega) r]
  have hF0 : ∀ s : Int, p + 3 ≤ s → y_F B p is s = 0 := by
    intro s q
    rw [y_F, y_pi, if_neg (by omega), if_neg (by omega), edue, due_0]
    · rfl
    · intro j r t
      have g := e3 j r (by omega)
      omega
  have hf0 : ∀ s : Int, 0 ≤ s → s < 2003 → 0 ≤ x_ad A p (p + is) 1 28 s ∧ x_ad A p (p + is) 1 28 s ≤ 21 := by
    intro s q r
    have g := e6 s q r
    rw [hf]
    split <;> omega
  have hFn : ∀ s : Int, 0 ≤ s → 0 ≤ y_F B p is s := by
    intro s q
    by_cases g : s < 2003
    · rw [hF s q g]; exact (hf0 s q g).1
    · rw [hF0 s (by omega)]; exact Int.le_refl 0
  generalize x_ad A p (p + is) 1 28 = f at *
  have old : ∀ a : Int, 0 ≤ a → a + w ≤ 2003 → (a + w ≤ p ∨ p + is ≤ a) → x_sum f a w.toNat ≤ b := by
    intro a q r t
    have g := e8 a q r
    rw [x_sum_congr (f := f) (g := A 28) w.toNat a (fun s q1 q2 => by rw [hf, if_neg (by omega)]; omega)]
    exact g
  have key : (20 ≤ A 23 3 ∨ x_exc f b w p) ↔ ∃ a : Int, p - w + 1 ≤ a ∧ a < p - w + 1 + ((w + is - 1).toNat : Nat) ∧ 0 ≤ a ∧ b < x_sum (y_F B p is) a w.toNat := by
    constructor
    · intro g
      have one : ∀ last : Int, p ≤ last → last ≤ p + 2 → b < x_win f w last → ∃ a : Int, p - w + 1 ≤ a ∧ a < p - w + 1 + ((w + is - 1).toNat : Nat) ∧ 0 ≤ a ∧ b < x_sum (y_F B p is) a w.toNat := by
        intro last q r t
        unfold x_win at t
        by_cases c : last - w + 1 < 0
        · rw [if_pos c, if_pos c] at t
          refine ⟨0, by omega, by omega, by omega, ?_⟩
          rw [x_sum_congr (f := f) (g := y_F B p is) _ 0 (fun s q1 q2 => (hF s q1 (by omega)).symm)] at t
          have := x_sum_sub (f := y_F B p is) (a := 0) (a' := 0) (n := (last + 1).toNat) (n' := w.toNat) (by omega) (by omega) (fun s q1 q2 => hFn s q1)
          omega
        · rw [if_neg c, if_neg c] at t
          by_cases c2 : last - w + 1 < p + is
          · refine ⟨last - w + 1, by omega, by omega, by omega, ?_⟩
            rw [x_sum_congr (f := f) (g := y_F B p is) _ _ (fun s q1 q2 => (hF s (by omega) (by omega)).symm)] at t
            exact t
          · have := old (last - w + 1) (by omega) (by omega) (by omega)
            omega
      rcases g with g | g | g | g
      · have g1 : A 28 p = 20 := by
          rw [e7 p (by omega) (by omega), due_all]
          · omega
          · intro j q r
            have := e3 j q (by omega)
            omega
        have g2 := hF p (by omega) (by omega)
        rw [hf, if_pos (by omega)] at g2
        refine ⟨if p - w + 1 < 0 then 0 else p - w + 1, by omega, by omega, by omega, ?_⟩
        have := x_sum_sub (f := y_F B p is) (a := p) (a' := if p - w + 1 < 0 then 0 else p - w + 1) (n := 1) (n' := w.toNat) (by omega) (by omega) (fun s q1 q2 => hFn s (by omega))
        simp only [x_sum, Int.zero_add, Int.natCast_zero, Int.cast_ofNat_Int, Int.add_zero] at this
        omega
      · exact one _ (by omega) (by omega) g
      · exact one _ (by omega) (by omega) g
      · exact one _ (by omega) (by omega) g
    · rintro ⟨a, q1, q2, q3, q4⟩
      right
      by_cases c : a + w - 1 ≤ p + 2
      · have t : b < x_win f w (a + w - 1) := by
          unfold x_win
          rw [if_neg (by omega), if_neg (by omega), show a + w - 1 - w + 1 = a by omega]
          rw [x_sum_congr (f := f) (g := y_F B p is) _ _ (fun s r1 r2 => (hF s (by omega) (by omega)).symm)]
          exact q4
        have c3 : a + w - 1 = p ∨ a + w - 1 = p + 1 ∨ a + w - 1 = p + 1 + 1 := by omega
        rcases c3 with c3 | c3 | c3
        · rw [c3] at t; exact Or.inl t
        · rw [c3] at t; exact Or.inr (Or.inl t)
        · rw [c3] at t; exact Or.inr (Or.inr t)
      · right; right
        have e : w.toNat = (p + 3 - a).toNat + (a + w - (p + 3)).toNat := by omega
        rw [e, x_sum_split, x_sum_0 (a + w - (p + 3)).toNat (a + ((p + 3 - a).toNat : Nat)) (fun s r1 r2 => hF0 s (by omega))] at q4
        rw [x_sum_congr (f := y_F B p is) (g := f) _ _ (fun s r1 r2 => hF s (by omega) (by omega))] at q4
        have := x_sum_sub (f := f) (a := a) (a' := if p + 1 + 1 - w + 1 < 0 then 0 else p + 1 + 1 - w + 1) (n := (p + 3 - a).toNat) (n' := (if p + 1 + 1 - w + 1 < 0 then p + 1 + 1 + 1 else w).toNat) (by omega) (by omega) (fun s r1 r2 => (hf0 s (by omega) (by omega)).1)
        unfold x_win
        omega
  refine ⟨key.trans (y_ex_iff _).symm, fun s _ _ => hf s, fun hn a q r => ?_⟩
  by_cases c : p - w + 1 ≤ a ∧ a < p + is
  · by_cases g : b < x_sum f a w.toNat
    · refine absurd (key.mpr ⟨a, by omega, by omega, q, ?_⟩) hn
      rw [x_sum_congr (f := y_F B p is) (g := f) _ _ (fun s r1 r2 => hF s (by omega) (by omega))]
      exact g
    · omega
  · exact old a q r (by omega)
theorem xad_c {b w p is : Int} {A : xm_Mem} {c : Nat} (h : c ≠ 23 ∧ c ≠ 24 ∧ c ≠ 25 ∧ c ≠ 26 ∧ c ≠ 28) : x_adm b w p A is c = A c := by
  unfold x_adm
  split
  · rw [xu_c (by omega), xa_c (by omega), xa_c (by omega)]
  · rw [xu_c (by omega), xu_c (by omega), xu_c (by omega), xu_c (by omega), xu_c (by omega), xa_c (by omega)]
theorem xad_k {b w p is k : Int} {A : xm_Mem} (h : k ≠ 3 ∧ k ≠ 8 ∧ k ≠ 9) : x_adm b w p A is 23 k = A 23 k := by
  unfold x_adm
  split
  · rw [xu_k (by omega), xa_c (by omega), xa_c (by omega)]
  · rw [xu_k (by omega), xu_k (by omega), xu_c (by omega), xu_c (by omega), xu_c (by omega), xa_c (by omega)]
theorem yad_c {p is : Int} {B : xm_Mem} {c : Nat} (h : c ≠ 50 ∧ c ≠ 67 ∧ c ≠ 68 ∧ c ≠ 69) : y_adm p B is c = B c := by
  unfold y_adm
  split
  · rw [xu_c (by omega)]
  · rw [xu_c (by omega), xu_c (by omega), xu_c (by omega), xu_c (by omega), xu_c (by omega)]
theorem yad_k {p is k : Int} {B : xm_Mem} (h : k ≠ 32 ∧ k ≠ 36 ∧ k ≠ 37) : y_adm p B is 50 k = B 50 k := by
  unfold y_adm
  split
  · rw [xu_k (by omega)]
  · rw [xu_k (by omega), xu_k (by omega), xu_c (by omega), xu_c (by omega), xu_c (by omega)]
theorem T_adm {p is b w : Int} {A B : xm_Mem} (h : T_all p 0 0 0 A B) (his : is = 2 ∨ is = 3) (hb : b = B 50 3) (hw : w = B 50 4) : T_all p 0 0 0 (x_adm b w p A is) (y_adm p B is) := by
  have cp := T_cap h.1
  obtain ⟨x1, x2, x3⟩ := exc_iff h his hb hw
  obtain ⟨h1, h2, h3, h4, h5, h6⟩ := h
  have hp := h5.1.2.2
  refine ⟨?_, ?_, ?_, ?_, ?_, ?_⟩
  · unfold T_fix T_rt R_rtA at *
    rw [xad_c (c := 1) (by omega), xad_c (c := 2) (by omega), xad_c (c := 3) (by omega), xad_c (c := 11) (by omega), xad_c (c := 12) (by omega), xad_c (c := 13) (by omega), xad_c (c := 14) (by omega), xad_c (c := 15) (by omega), xad_c (c := 16) (by omega), xad_c (c := 37) (by omega), xad_c (c := 38) (by omega), xad_c (c := 39) (by omega), xad_c (c := 40) (by omega)]
    rw [yad_c (c := 51) (by omega), yad_c (c := 52) (by omega), yad_c (c := 53) (by omega), yad_c (c := 72) (by omega), yad_c (c := 75) (by omega), yad_c (c := 76) (by omega)]
    rw [yad_k (k := 0) (by omega), yad_k (k := 1) (by omega), yad_k (k := 2) (by omega), yad_k (k := 3) (by omega), yad_k (k := 4) (by omega), yad_k (k := 5) (by omega), yad_k (k := 9) (by omega), yad_k (k := 48) (by omega)]
    exact h1
  · obtain ⟨a1, a2, a3, a4, a5, a6, a7⟩ := h2
    unfold R_ask
    rw [xad_k (k := 5) (by omega), xad_k (k := 6) (by omega), xad_k (k := 7) (by omega), xad_k (k := 10) (by omega), xad_c (c := 27) (by omega), yad_c (c := 70) (by omega), yad_k (k := 38) (by omega), yad_k (k := 39) (by omega), yad_k (k := 41) (by omega), yad_k (k := 42) (by omega)]
    refine ⟨a1, a2, a3, a4, ?_, ?_, a7⟩
    · unfold x_adm y_adm
      by_cases c : 20 ≤ A 23 3 ∨ x_exc (x_ad A p (p + is) 1 28) b w p
      · rw [if_pos c, if_pos (x1.mp c), xu_k (by omega), xa_c (by omega), xa_c (by omega), xu_k (by omega)]
        exact a5
      · rw [if_neg c, if_neg (fun q => c (x1.mpr q)), xu_s, xu_s]
        omega
    · unfold x_adm y_adm
      by_cases c : 20 ≤ A 23 3 ∨ x_exc (x_ad A p (p + is) 1 28) b w p
      · rw [if_pos c, if_pos (x1.mp c), xu_s, xu_s]
        omega
      · rw [if_neg c, if_neg (fun q => c (x1.mpr q)), xu_k (by omega), xu_k (by omega), xu_c (by omega), xu_c (by omega), xu_c (by omega), xa_c (by omega), xu_k (by omega), xu_k (by omega), xu_c (by omega), xu_c (by omega), xu_c (by omega)]
        exact a6
  · obtain ⟨e1, e2, e3, e4, e5, e6, e7, e8⟩ := h3
    by_cases c : 20 ≤ A 23 3 ∨ x_exc (x_ad A p (p + is) 1 28) b w p
    · unfold x_adm y_adm
      rw [if_pos c, if_pos (x1.mp c), xa_back]
      unfold T_exp
      simp only [xu_c, xu_s, xu_k, ne_eq, Nat.reduceEqDiff, Int.reduceEq, not_false_eq_true]
      exact ⟨e1, e2, e3, e4, e5, e6, e7, e8⟩
    · have x3 := x3 c
      have cc : A 23 3 < 20 := by
        have : ¬ 20 ≤ A 23 3 := fun q => c (Or.inl q)
        omega
      have X3 : x_adm b w p A is 23 3 = A 23 3 + 1 := by
        unfold x_adm
        rw [if_neg c, xu_k (by omega), xu_s]
      have X24 : ∀ j : Int, x_adm b w p A is 24 j = if j = A 23 3 then is else A 24 j := fun j => by
        unfold x_adm
        rw [if_neg c, xu_c (by omega), xu_c (by omega), xu_c (by omega), xu_c (by omega)]
        by_cases e : j = A 23 3
        · rw [if_pos e, e, xu_s]
        · rw [if_neg e, xu_k e, xa_c (by omega)]
      have X25 : ∀ j : Int, x_adm b w p A is 25 j = if j = A 23 3 then p else A 25 j := fun j => by
        unfold x_adm
        rw [if_neg c, xu_c (by omega), xu_c (by omega), xu_c (by omega)]
        by_cases e : j = A 23 3
        · rw [if_pos e, e, xu_s]
        · rw [if_neg e, xu_k e, xu_c (by omega), xa_c (by omega)]
      have X26 : ∀ j : Int, x_adm b w p A is 26 j = if j = A 23 3 then 0 else A 26 j := fun j => by
        unfold x_adm
        rw [if_neg c, xu_c (by omega), xu_c (by omega)]
        by_cases e : j = A 23 3
        · rw [if_pos e, e, xu_s]
        · rw [if_neg e, xu_k e, xu_c (by omega), xu_c (by omega), xa_c (by omega)]
      have X28 : x_adm b w p A is 28 = x_ad A p (p + is) 1 28 := by
        unfold x_adm
        rw [if_neg c, xu_c (by omega), xu_c (by omega), xu_c (by omega), xu_c (by omega), xu_c (by omega)]
      have c' := fun q => c (x1.mpr q)
      have Y32 : y_adm p B is 50 32 = B 50 32 + 1 := by
        unfold y_adm
        rw [if_neg c', xu_k (by omega), xu_s]
      have Y67 : ∀ j : Int, y_adm p B is 67 j = if j = B 50 32 then is else B 67 j := fun j => by
        unfold y_adm
        rw [if_neg c', xu_c (by omega), xu_c (by omega), xu_c (by omega), xu_c (by omega)]
        by_cases e : j = B 50 32
        · rw [if_pos e, e, xu_s]
        · rw [if_neg e, xu_k e]
      have Y68 : ∀ j : Int, y_adm p B is 68 j = if j = B 50 32 then p else B 68 j := fun j => by
        unfold y_adm
        rw [if_neg c', xu_c (by omega), xu_c (by omega), xu_c (by omega)]
        by_cases e : j = B 50 32
        · rw [if_pos e, e, xu_s]
        · rw [if_neg e, xu_k e, xu_c (by omega)]
      have Y69 : ∀ j : Int, y_adm p B is 69 j = if j = B 50 32 then 0 else B 69 j := fun j => by
        unfold y_adm
        rw [if_neg c', xu_c (by omega), xu_c (by omega)]
        by_cases e : j = B 50 32
        · rw [if_pos e, e, xu_s]
        · rw [if_neg e, xu_k e, xu_c (by omega), xu_c (by omega)]
      unfold T_exp
      rw [X3, X28, Y32, yad_c (c := 59) (by omega), yad_k (k := 3) (by omega), yad_k (k := 4) (by omega), ← hb, ← hw]
      have ed : ∀ s : Int, x_due (x_adm b w p A is 25) (x_adm b w p A is 24) s (A 23 3 + 1).toNat = x_due (A 25) (A 24) s (A 23 3).toNat + if p ≤ s ∧ s < p + is then 1 else 0 := by
        intro s
        rw [show (A 23 3 + 1).toNat = (A 23 3).toNat + 1 by omega, x_due, show (((A 23 3).toNat : Nat) : Int) = A 23 3 by omega, X25, X24, if_pos rfl, if_pos rfl]
        rw [due_lo (bg := A 25) (kd := A 24) _ (fun j q r => by
          rw [X25, X24, if_neg (by omega), if_neg (by omega)]
          exact ⟨rfl, rfl⟩)]
      have nw : ∀ s : Int, p ≤ s → s < 2003 → x_ad A p (p + is) 1 28 s = x_due (x_adm b w p A is 25) (x_adm b w p A is 24) s (A 23 3 + 1).toNat := fun s q r => by
        rw [x2 s (by omega) r, ed, e7 s q r]
      refine ⟨by omega, by omega, fun j q r => ?_, fun s q r => ?_, e5, fun s q r => ?_, fun s q r => nw s q r, fun a q r => x3 a q r⟩
      · rw [X24, X25, X26, Y67, Y68, Y69]
        by_cases e : j = A 23 3
        · rw [if_pos e, if_pos e, if_pos e, if_pos (by omega), if_pos (by omega), if_pos (by omega), if_neg (by omega)]
          refine ⟨rfl, rfl, rfl, his, by omega, by omega, by omega, by omega, ?_⟩
          simp only [x_p2]
          omega
        · rw [if_neg e, if_neg e, if_neg e, if_neg (by omega), if_neg (by omega), if_neg (by omega)]
          exact e3 j q (by omega)
      · rw [x2 s q (by omega), if_neg (by omega), e4 s q r]
        omega
      · by_cases g : p ≤ s
        · rw [nw s g r]
          have := due_nn (bg := x_adm b w p A is 25) (kd := x_adm b w p A is 24) (s := s) (A 23 3 + 1).toNat
          omega
        · rw [x2 s q r, if_neg (by omega)]
          have := e6 s q r
          omega
  · unfold T_lin at *
    rw [xad_c (c := 17) (by omega), xad_c (c := 18) (by omega), xad_c (c := 19) (by omega), xad_c (c := 20) (by omega), xad_c (c := 21) (by omega), xad_c (c := 22) (by omega)]
    rw [yad_c (c := 62) (by omega), yad_c (c := 63) (by omega), yad_c (c := 64) (by omega), yad_c (c := 65) (by omega), yad_c (c := 66) (by omega)]
    rw [yad_k (k := 0) (by omega), yad_k (k := 24) (by omega), yad_k (k := 30) (by omega), yad_k (k := 31) (by omega)]
    exact h4
  · unfold T_rec at *
    rw [xad_c (c := 29) (by omega), xad_c (c := 30) (by omega), xad_c (c := 31) (by omega), xad_c (c := 32) (by omega), xad_c (c := 33) (by omega), yad_c (c := 60) (by omega), yad_c (c := 61) (by omega), yad_k (k := 20) (by omega)]
    exact h5
  · rw [xad_c (c := 35) (by omega), xad_c (c := 36) (by omega), yad_c (c := 71) (by omega)]
    exact h6

theorem xq_n1 {F G : Prop} (h : F) : xm_in 1 ∧ (((1 : Int) = 0 → G) ∧ ((1 : Int) ≠ 0 → F)) := ⟨by omega, fun e => absurd e (by omega), fun _ => h⟩
section AM
variable {d : Nat} {Q : xm_K}
theorem x_win_bd {f : Int → Int} {w last : Int} (hw : 1 ≤ w ∧ w ≤ 16) (hl : 0 ≤ last ∧ last < 2003) (hf : ∀ s : Int, 0 ≤ s → s < 2003 → 0 ≤ f s ∧ f s ≤ 21) : 0 ≤ x_win f w last ∧ x_win f w last ≤ 1000 := by
  unfold x_win
  by_cases c : last - w + 1 < 0
  · rw [if_pos c, if_pos c]
    have := x_sum_bd (f := f) (c := 21) (last + 1).toNat 0 (fun s q r => hf s q (by omega))
    omega
  · rw [if_neg c, if_neg c]
    have := x_sum_bd (f := f) (c := 21) w.toNat (last - w + 1) (fun s q r => hf s (by omega) (by omega))
    omega
theorem sp83w {A : xm_Mem} {last w : Int} (hl : 0 ≤ last ∧ last < 2003) (hw : 1 ≤ w ∧ w ≤ 16) (h : Q [.inl (x_win (A 28) w last)] A) : xm_call true (d + 2) 83 [.inr (.inr 23), .inl (last - w + 1), .inl last] A Q := by
  refine en83r23 (rg83r23_0 (sp27_28 (by omega) (by omega) (fun a n ha hn => xq_ki ?_)))
  unfold x_win at h
  have e2 : n = (if last - w + 1 < 0 then last + 1 else w).toNat := by omega
  rw [ha, e2]
  exact h
theorem sp81_11 {A : xm_Mem} {p b w : Int} (hp : 0 ≤ p ∧ p < 2000) (hw : A 11 4 = w ∧ 1 ≤ w ∧ w ≤ 16) (hb : A 11 3 = b ∧ 0 ≤ b ∧ b ≤ 20) (hf : ∀ s : Int, 0 ≤ s → s < 2003 → 0 ≤ A 28 s ∧ A 28 s ≤ 21) (h1 : x_exc (A 28) b w p → Q [.inl 1] A) (h0 : ¬ x_exc (A 28) b w p → Q [.inl 0] A) : xm_call true (d + 3) 81 [.inr (.inr 23), .inl p, .inr (.inr 11)] A Q := by
  have step : ∀ last : Int, p ≤ last → last < p + 3 → (b < x_win (A 28) w last → Q [.inl 1] A) → (¬ b < x_win (A 28) w last → wp81r23r11_2 (xm_call true (d + 2)) Q p (last + 1) A) → wp81r23r11_2 (xm_call true (d + 2)) Q p last A := by
    intro last q r k1 k0
    have bd := x_win_bd (f := A 28) hw.2 (last := last) (by omega) hf
    refine rg81r23r11_2 ⟨⟨by omega, by omega⟩, fun _ => by omega, fun _ => sp160r11 (xq_ki ?_)⟩
    rw [hw.1]
    refine sp83w (by omega) hw.2 (xq_ki (sp159r11 (xq_ki ?_)))
    rw [hb.1]
    exact ⟨⟨by omega, by omega⟩, fun g => k0 (by omega), fun g => ⟨Or.inr rfl, k1 g⟩⟩
  refine en81r23r11 (rg81r23r11_0 ?_)
  refine step p (by omega) (by omega) (fun g => h1 (Or.inl g)) (fun g0 => step (p + 1) (by omega) (by omega) (fun g => h1 (Or.inr (Or.inl g))) (fun g1 => step (p + 1 + 1) (by omega) (by omega) (fun g => h1 (Or.inr (Or.inr g))) (fun g2 => ?_)))
  refine rg81r23r11_2 ⟨⟨by omega, by omega⟩, fun _ => ⟨Or.inl rfl, h0 ?_⟩, fun _ => by omega⟩
  rintro (g | g | g)
  · exact g0 g
  · exact g1 g
  · exact g2 g
theorem sp79_11 {A B : xm_Mem} {p is b w : Int} (hT : T_all p 0 0 0 A B) (his : is = 2 ∨ is = 3) (hb : b = B 50 3) (hw : w = B 50 4) (gb : A 11 3 = b) (gw : A 11 4 = w) (h : Q [] (x_adm b w p A is)) : xm_call true (d + 4) 79 [.inr (.inr 23), .inl is, .inl p, .inr (.inr 11)] A Q := by
  have cp := T_cap hT.1
  have x2 := (exc_iff hT his hb hw).2.1
  obtain ⟨-, -, ⟨e1, e2, e3, e4, e5, e6, e7, e8⟩, -, h5, -⟩ := hT
  have hp := h5.1.2.2
  unfold x_adm at h
  refine en79r23r11 (rg79r23r11_0 (sp80 (by omega) (xq_kv ?_)))
  rw [xa_c (c := 23) (by omega)]
  refine ⟨⟨by omega, by omega⟩, fun g => sp80 (by omega) (xq_kv ?_), fun g => sp81_11 (b := b) (w := w) hp ⟨by rw [xa_c (by omega)]; exact gw, by omega⟩ ⟨by rw [xa_c (by omega)]; exact gb, by omega⟩ (fun s q r => ?_) (fun k => xq_ki (xq_n1 ?_)) (fun k => xq_ki ?_)⟩
  · rw [xa_c (c := 23) (by omega), xa_c (c := 23) (by omega)]
    rw [if_pos (Or.inl g)] at h
    exact h
  · have g1 := e6 s q r
    rw [x2 s q r]
    split <;> omega
  · refine sp80 (by omega) (xq_kv ?_)
    rw [xa_c (c := 23) (by omega), xa_c (c := 23) (by omega)]
    rw [if_pos (Or.inr k)] at h
    exact h
  · rw [if_neg (by
      rintro (q | q)
      · omega
      · exact k q)] at h
    rw [xa_c (c := 23) (by omega)]
    exact ⟨by omega, fun _ => ⟨by omega, by omega, by omega, h⟩, fun q => absurd rfl q⟩
theorem sp81_14 {A : xm_Mem} {p b w : Int} (hp : 0 ≤ p ∧ p < 2000) (hw : A 14 4 = w ∧ 1 ≤ w ∧ w ≤ 16) (hb : A 14 3 = b ∧ 0 ≤ b ∧ b ≤ 20) (hf : ∀ s : Int, 0 ≤ s → s < 2003 → 0 ≤ A 28 s ∧ A 28 s ≤ 21) (h1 : x_exc (A 28) b w p → Q [.inl 1] A) (h0 : ¬ x_exc (A 28) b w p → Q [.inl 0] A) : xm_call true (d + 3) 81 [.inr (.inr 23), .inl p, .inr (.inr 14)] A Q := by
  have step : ∀ last : Int, p ≤ last → last < p + 3 → (b < x_win (A 28) w last → Q [.inl 1] A) → (¬ b < x_win (A 28) w last → wp81r23r14_2 (xm_call true (d + 2)) Q p (last + 1) A) → wp81r23r14_2 (xm_call true (d + 2)) Q p last A := by
    intro last q r k1 k0
    have bd := x_win_bd (f := A 28) hw.2 (last := last) (by omega) hf
    refine rg81r23r14_2 ⟨⟨by omega, by omega⟩, fun _ => by omega, fun _ => sp160r14 (xq_ki ?_)⟩
    rw [hw.1]
    refine sp83w (by omega) hw.2 (xq_ki (sp159r14 (xq_ki ?_)))
    rw [hb.1]
    exact ⟨⟨by omega, by omega⟩, fun g => k0 (by omega), fun g => ⟨Or.inr rfl, k1 g⟩⟩
  refine en81r23r14 (rg81r23r14_0 ?_)
  refine step p (by omega) (by omega) (fun g => h1 (Or.inl g)) (fun g0 => step (p + 1) (by omega) (by omega) (fun g => h1 (Or.inr (Or.inl g))) (fun g1 => step (p + 1 + 1) (by omega) (by omega) (fun g => h1 (Or.inr (Or.inr g))) (fun g2 => ?_)))
  refine rg81r23r14_2 ⟨⟨by omega, by omega⟩, fun _ => ⟨Or.inl rfl, h0 ?_⟩, fun _ => by omega⟩
  rintro (g | g | g)
  · exact g0 g
  · exact g1 g
  · exact g2 g
theorem sp79_14 {A B : xm_Mem} {p is b w : Int} (hT : T_all p 0 0 0 A B) (his : is = 2 ∨ is = 3) (hb : b = B 50 3) (hw : w = B 50 4) (gb : A 14 3 = b) (gw : A 14 4 = w) (h : Q [] (x_adm b w p A is)) : xm_call true (d + 4) 79 [.inr (.inr 23), .inl is, .inl p, .inr (.inr 14)] A Q := by
  have cp := T_cap hT.1
  have x2 := (exc_iff hT his hb hw).2.1
  obtain ⟨-, -, ⟨e1, e2, e3, e4, e5, e6, e7, e8⟩, -, h5, -⟩ := hT
  have hp := h5.1.2.2
  unfold x_adm at h
  refine en79r23r14 (rg79r23r14_0 (sp80 (by omega) (xq_kv ?_)))
  rw [xa_c (c := 23) (by omega)]
  refine ⟨⟨by omega, by omega⟩, fun g => sp80 (by omega) (xq_kv ?_), fun g => sp81_14 (b := b) (w := w) hp ⟨by rw [xa_c (by omega)]; exact gw, by omega⟩ ⟨by rw [xa_c (by omega)]; exact gb, by omega⟩ (fun s q r => ?_) (fun k => xq_ki (xq_n1 ?_)) (fun k => xq_ki ?_)⟩
  · rw [xa_c (c := 23) (by omega), xa_c (c := 23) (by omega)]
    rw [if_pos (Or.inl g)] at h
    exact h
  · have g1 := e6 s q r
    rw [x2 s q r]
    split <;> omega
  · refine sp80 (by omega) (xq_kv ?_)
    rw [xa_c (c := 23) (by omega), xa_c (c := 23) (by omega)]
    rw [if_pos (Or.inr k)] at h
    exact h
  · rw [if_neg (by
      rintro (q | q)
      · omega
      · exact k q)] at h
    rw [xa_c (c := 23) (by omega)]
    exact ⟨by omega, fun _ => ⟨by omega, by omega, by omega, h⟩, fun q => absurd rfl q⟩
theorem lo214 {B : xm_Mem} {x : Int} (hx : 0 ≤ x ∧ x < 9999) (hn : 0 ≤ B 50 32 ∧ B 50 32 ≤ 20) (hb : ∀ j : Int, 0 ≤ j → j < B 50 32 → (B 67 j = 2 ∨ B 67 j = 3) ∧ 0 ≤ B 68 j ∧ B 68 j ≤ 2000) (h : Q [.inl (x_due (B 68) (B 67) x (B 50 32).toNat)] B) : ∀ (n k : Nat) (acc : Int), k + n = (B 50 32).toNat → acc = x_due (B 68) (B 67) x k → wp214r50_19 (xm_call true (d + 1)) Q x acc k B
  | 0, k, acc, h0, h1 => by
    have e : k = (B 50 32).toNat := by omega
    rw [← e, ← h1] at h
    exact rg214r50_19 ⟨⟨by omega, by omega⟩, fun _ => h, fun _ => by omega⟩
  | n + 1, k, acc, h0, h1 => by
    have ih := fun acc e => lo214 hx hn hb h n (k + 1) acc (by omega) e
    have g := hb k (by omega) (by omega)
    refine rg214r50_19 ⟨⟨by omega, by omega⟩, fun _ => by omega, fun _ => ⟨by omega, by omega, by omega, sp193 (by omega) (by omega) (by omega) (fun q => xq_ki ?_) (fun q => xq_ki ?_)⟩⟩
    · refine ⟨by omega, fun e => by omega, fun _ => ih _ ?_⟩
      rw [x_due, if_pos (by omega), h1]
    · refine ⟨by omega, fun _ => ih _ ?_, fun e => absurd rfl e⟩
      rw [x_due, if_neg (by omega), h1]
theorem sp214 {B : xm_Mem} {x p : Int} (hx : 0 ≤ x ∧ x < 9999) (hp : B 50 20 = p ∧ 0 ≤ p ∧ p < 2000) (hn : 0 ≤ B 50 32 ∧ B 50 32 ≤ 20) (hb : ∀ j : Int, 0 ≤ j → j < B 50 32 → (B 67 j = 2 ∨ B 67 j = 3) ∧ 0 ≤ B 68 j ∧ B 68 j ≤ 2000) (h : Q [.inl (y_pi B p x)] B) : xm_call true (d + 2) 214 [.inr (.inr 50), .inl x] B Q := by
  unfold y_pi at h
  refine en214r50 (rg214r50_0 ⟨⟨by omega, by omega⟩, fun g => ?_, fun g => ⟨by omega, ?_⟩⟩)
  · rw [if_neg (by omega)] at h
    exact lo214 hx hn hb h (B 50 32).toNat 0 0 (by omega) rfl
  · rw [if_pos (by omega)] at h
    exact h
theorem lo215_30 {B : xm_Mem} {p is x2 a : Int} (ha : 0 ≤ a ∧ a < 9000) (hw : 1 ≤ B 50 4 ∧ B 50 4 ≤ 16) (his : is = 2 ∨ is = 3) (hp : B 50 20 = p ∧ 0 ≤ p ∧ p < 2000) (hn : 0 ≤ B 50 32 ∧ B 50 32 ≤ 20) (hb : ∀ j : Int, 0 ≤ j → j < B 50 32 → (B 67 j = 2 ∨ B 67 j = 3) ∧ 0 ≤ B 68 j ∧ B 68 j ≤ 2000) (hbu : 0 ≤ B 50 3 ∧ B 50 3 ≤ 20) (h59 : ∀ s : Int, 0 ≤ s → s < p → 0 ≤ B 59 s ∧ B 59 s ≤ 20) (hx : x2 = 0 ∨ x2 = 1) (h : ∀ o4 o5, wp215r50_14 (xm_call true (d + 2)) Q is (if x2 ≠ 0 ∨ B 50 3 < x_sum (y_F B p is) a (B 50 4).toNat then 1 else 0) (a + 1) o4 o5 B) : ∀ (n k : Nat) (acc : Int), k + n = (B 50 4).toNat → acc = x_sum (y_F B p is) a k → wp215r50_30 (xm_call true (d + 2)) Q is x2 a acc (a + k) B
  | 0, k, acc, h0, h1 => by
    have e : k = (B 50 4).toNat := by omega
    have bd : 0 ≤ acc ∧ acc ≤ 21 * k := by
      rw [h1]
      refine x_sum_bd k a (fun s q r => ?_)
      unfold y_F y_pi
      have := due_nn (bg := B 68) (kd := B 67) (s := s) (B 50 32).toNat
      have := h59 s
      split <;> split <;> omega
    rw [← e, ← h1] at h
    refine rg215r50_30 ⟨⟨by omega, by omega⟩, fun _ => ⟨by omega, fun g => ?_, fun g => ⟨⟨by omega, by omega⟩, fun g2 => ?_, fun g2 => ?_⟩⟩, fun _ => by omega⟩
    · have := fun o4 o5 => h o4 o5
      rw [if_pos (Or.inl g)] at this
      exact this _ _
    · have := fun o4 o5 => h o4 o5
      rw [if_neg (by omega)] at this
      exact this _ _
    · have := fun o4 o5 => h o4 o5
      rw [if_pos (Or.inr g2)] at this
      exact this _ _
  | n + 1, k, acc, h0, h1 => by
    have ih := fun acc e => lo215_30 ha hw his hp hn hb hbu h59 hx h n (k + 1) acc (by omega) e
    refine rg215r50_30 ⟨⟨by omega, by omega⟩, fun _ => by omega, fun _ => ⟨by omega, fun _ => by omega, fun _ => ?_⟩⟩
    refine sp214 (by omega) hp hn hb (xq_ki ?_)
    rw [hp.1, show a + (k : Int) + 1 = a + ((k + 1 : Nat) : Int) by omega]
    refine sp193 (by omega) (by omega) (by omega) (fun q => xq_ki ⟨by omega, fun e => by omega, fun _ => ih _ ?_⟩) (fun q => xq_ki ⟨by omega, fun _ => ih _ ?_, fun e => absurd rfl e⟩)
    · rw [x_sum, h1, y_F, if_pos (by omega)]
    · rw [x_sum, h1, y_F, if_neg (by omega)]
theorem lo215_14 {B : xm_Mem} {p is : Int} (hw : 1 ≤ B 50 4 ∧ B 50 4 ≤ 16) (his : is = 2 ∨ is = 3) (hp : B 50 20 = p ∧ 0 ≤ p ∧ p < 2000) (hn : 0 ≤ B 50 32 ∧ B 50 32 ≤ 20) (hb : ∀ j : Int, 0 ≤ j → j < B 50 32 → (B 67 j = 2 ∨ B 67 j = 3) ∧ 0 ≤ B 68 j ∧ B 68 j ≤ 2000) (hbu : 0 ≤ B 50 3 ∧ B 50 3 ≤ 20) (h59 : ∀ s : Int, 0 ≤ s → s < p → 0 ≤ B 59 s ∧ B 59 s ≤ 20) (h : Q [.inl (y_ex (y_F B p is) (B 50 3) (B 50 4) (p - B 50 4 + 1) (B 50 4 + is - 1).toNat)] B) : ∀ (n k : Nat) (o4 o5 : Option xm_V), k + n = (B 50 4 + is - 1).toNat → wp215r50_14 (xm_call true (d + 2)) Q is (y_ex (y_F B p is) (B 50 3) (B 50 4) (p - B 50 4 + 1) k) (p - B 50 4 + 1 + k) o4 o5 B
  | 0, k, o4, o5, h0 => by
    have e : k = (B 50 4 + is - 1).toNat := by omega
    rw [← e] at h
    have bit := y_ex_bit (F := y_F B p is) (b := B 50 3) (w := B 50 4) (lo := p - B 50 4 + 1) k
    exact rg215r50_14 ⟨⟨by omega, by omega⟩, fun _ => ⟨bit, h⟩, fun _ => by omega⟩
  | n + 1, k, o4, o5, h0 => by
    have ih := fun o4 o5 => lo215_14 hw his hp hn hb hbu h59 h n (k + 1) o4 o5 (by omega)
    have bit := y_ex_bit (F := y_F B p is) (b := B 50 3) (w := B 50 4) (lo := p - B 50 4 + 1) k
    rw [y_ex, show p - B 50 4 + 1 + ((k + 1 : Nat) : Int) = p - B 50 4 + 1 + k + 1 by omega] at ih
    generalize y_ex (y_F B p is) (B 50 3) (B 50 4) (p - B 50 4 + 1) k = z at *
    refine rg215r50_14 ⟨⟨by omega, by omega⟩, fun _ => by omega, fun _ => ?_⟩
    by_cases c : 0 ≤ p - B 50 4 + 1 + k
    · have := lo215_30 (d := d) (Q := Q) (x2 := z) (a := p - B 50 4 + 1 + k) (by omega) hw his hp hn hb hbu h59 bit (fun o4 o5 => by
        have := ih o4 o5
        simp only [c, true_and] at this
        exact this) (B 50 4).toNat 0 0 (by omega) rfl
      rw [show p - B 50 4 + 1 + (k : Int) + ((0 : Nat) : Int) = p - B 50 4 + 1 + k by omega] at this
      exact this
    · refine rg215r50_30 ⟨⟨by omega, by omega⟩, fun _ => by omega, fun _ => ⟨by omega, fun _ => ⟨by omega, fun g => ?_, fun g => ⟨⟨by omega, by omega⟩, fun g2 => ?_, fun g2 => by omega⟩⟩, fun _ => by omega⟩⟩
      · have := fun o4 o5 => ih o4 o5
        rw [if_pos (Or.inl g)] at this
        exact this _ _
      · have := fun o4 o5 => ih o4 o5
        rw [if_neg (by
          rintro (q | q)
          · exact q g
          · exact c q.1)] at this
        exact this _ _
theorem sp216 {A B : xm_Mem} {p is : Int} (hT : T_all p 0 0 0 A B) (his : is = 2 ∨ is = 3) (h : Q [] (y_adm p B is)) : xm_call true (d + 4) 216 [.inr (.inr 50), .inl is] B Q := by
  have cp := T_cap hT.1
  obtain ⟨-, -, ⟨e1, e2, e3, e4, e5, e6, e7, e8⟩, -, h5, -⟩ := hT
  have hp := h5.1.2.2
  have hp2 := h5.1.2.1
  have bit := y_ex_bit (F := y_F B p is) (b := B 50 3) (w := B 50 4) (lo := p - B 50 4 + 1) (B 50 4 + is - 1).toNat
  unfold y_adm at h
  refine en216r50 (rg216r50_0 (en215r50 (rg215r50_0 ?_)))
  rw [hp2]
  have := lo215_14 (d := d) (p := p) (is := is) (B := B) (Q := fun v1 M2 => xm_ki (fun r3 => (xm_in r3) ∧ ((r3 = 0 → (0 ≤ (M2 50 32) ∧ (M2 50 32) < 24) ∧ (0 ≤ (M2 50 32) ∧ (M2 50 32) < 24) ∧ (0 ≤ (M2 50 32) ∧ (M2 50 32) < 24) ∧ Q [] (xm_up (xm_up (xm_up (xm_up (xm_up M2 67 (M2 50 32) is) 68 (M2 50 32) (M2 50 20)) 69 (M2 50 32) 0) 50 32 ((M2 50 32) + 1)) 50 36 ((M2 50 36) + 1))) ∧ (r3 ≠ 0 → Q [] (xm_up M2 50 37 ((M2 50 37) + 1))))) v1) (by omega) his ⟨hp2, hp⟩ (by omega) (fun j q r => by
    have := e3 j q (by omega)
    omega) (by omega) (fun s q r => by
    have := e4 s q r
    have := e6 s q (by omega)
    omega) (xq_ki ?_) (B 50 4 + is - 1).toNat 0 none none (by omega)
  · rw [show p - B 50 4 + 1 + ((0 : Nat) : Int) = p - B 50 4 + 1 by omega] at this
    exact this
  · generalize y_ex (y_F B p is) (B 50 3) (B 50 4) (p - B 50 4 + 1) (B 50 4 + is - 1).toNat = z at *
    refine ⟨by omega, fun g => ⟨by omega, by omega, by omega, ?_⟩, fun g => ?_⟩
    · rw [if_neg (by omega)] at h
      rw [hp2]
      exact h
    · rw [if_pos g] at h
      exact h
end AM
