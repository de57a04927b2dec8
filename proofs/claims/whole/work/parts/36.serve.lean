/-! a slot: packets leave -/
def x_lv1 (p : Int) (A : xm_Mem) : xm_Mem := xm_up (xm_up (if A 18 (A 17 5) = 4 then xm_up (xm_up (xm_up A 22 (A 18 (A 17 5)) (A 22 (A 18 (A 17 5)) + 1)) 17 7 (A 17 7 + (p - A 19 (A 17 5)))) 17 8 (if A 17 8 < p - A 19 (A 17 5) then p - A 19 (A 17 5) else A 17 8) else xm_up A 22 (A 18 (A 17 5)) (A 22 (A 18 (A 17 5)) + 1)) 17 5 ((A 17 5 + 1) % 40)) 17 6 (A 17 6 - 1)
def y_lv1 (p : Int) (B : xm_Mem) (j : Int) : xm_Mem := if B 62 j = 4 then xm_up (xm_up (xm_up B 66 (B 62 j) (B 66 (B 62 j) + 1)) 50 30 (B 50 30 + (p - B 63 j))) 50 31 (if B 50 31 < p - B 63 j then p - B 63 j else B 50 31) else xm_up B 66 (B 62 j) (B 66 (B 62 j) + 1)
def x_lvn (p : Int) (A : xm_Mem) : Nat → xm_Mem
  | 0 => A
  | n + 1 => x_lv1 p (x_lvn p A n)
def y_lvn (p : Int) (B : xm_Mem) : Nat → xm_Mem
  | 0 => B
  | n + 1 => y_lv1 p (y_lvn p B n) n
theorem of_head (f : Int → Int) (s : Int) : ∀ n : Nat, x_of f s (n + 1) = (if f 0 = s then 1 else 0) + x_of (fun i => f (i + 1)) s n
  | 0 => by
    rw [x_of, x_of, x_of]
    simp
  | n + 1 => by
    rw [x_of, of_head f s n, x_of]
    have e : ((n + 1 : Nat) : Int) = (n : Int) + 1 := by omega
    rw [e]
    omega
theorem yl_c {B : xm_Mem} {p j : Int} {c : Nat} (h : c ≠ 50 ∧ c ≠ 66) : y_lv1 p B j c = B c := by
  unfold y_lv1
  split
  · rw [xu_c (by omega), xu_c (by omega), xu_c (by omega)]
  · rw [xu_c (by omega)]
theorem yl_k {B : xm_Mem} {p j k : Int} (h : k ≠ 30 ∧ k ≠ 31) : y_lv1 p B j 50 k = B 50 k := by
  unfold y_lv1
  split
  · rw [xu_k (by omega), xu_k (by omega), xu_c (by omega)]
  · rw [xu_c (by omega)]
theorem xl_c {A : xm_Mem} {p : Int} {c : Nat} (h : c ≠ 17 ∧ c ≠ 22) : x_lv1 p A c = A c := by
  unfold x_lv1
  rw [xu_c (by omega), xu_c (by omega)]
  split
  · rw [xu_c (by omega), xu_c (by omega), xu_c (by omega)]
  · rw [xu_c (by omega)]
theorem T_lv1 {p cap o : Int} {A B : xm_Mem} (h : T_lin p cap o A B) (hp : 0 ≤ p ∧ p < 2000) (hw : 0 < A 17 6) : T_lin p cap (o + 1) (x_lv1 p A) (y_lv1 p B o) := by
  obtain ⟨l1, l2, l3, l4, l5, l6⟩ := h
  have g := l3 0 (by omega) hw
  rw [show (A 17 5 + 0) % 40 = A 17 5 by omega, Int.add_zero] at g
  have z5 : x_lv1 p A 17 5 = (A 17 5 + 1) % 40 := by
    unfold x_lv1
    rw [xu_k (by omega), xu_s]
  have z6 : x_lv1 p A 17 6 = A 17 6 - 1 := by
    unfold x_lv1
    rw [xu_s]
  unfold T_lin
  rw [z5, z6, xl_c (c := 18) (by omega), xl_c (c := 19) (by omega), xl_c (c := 20) (by omega), xl_c (c := 21) (by omega), yl_c (c := 62) (by omega), yl_c (c := 63) (by omega), yl_c (c := 64) (by omega), yl_c (c := 65) (by omega), yl_k (k := 24) (by omega)]
  refine ⟨by omega, by omega, fun i a b => ?_, fun s a b => ?_, ?_, ?_⟩
  · have q := l3 (i + 1) (by omega) (by omega)
    have e : ((A 17 5 + 1) % 40 + i) % 40 = (A 17 5 + (i + 1)) % 40 := by omega
    rw [e, show o + 1 + i = o + (i + 1) by omega]
    exact q
  · have q := l4 s a b
    have e : (A 17 6).toNat = (A 17 6 - 1).toNat + 1 := by omega
    rw [e, of_head] at q
    have e2 : (fun i : Int => B 62 (o + (i + 1))) = fun i => B 62 (o + 1 + i) := by
      funext i
      rw [show o + (i + 1) = o + 1 + i by omega]
    rw [e2, Int.add_zero] at q
    have ex : x_lv1 p A 22 s = if A 18 (A 17 5) = s then A 22 s + 1 else A 22 s := by
      unfold x_lv1
      rw [xu_c (by omega), xu_c (by omega)]
      by_cases c1 : A 18 (A 17 5) = s
      · rw [if_pos c1, c1]
        split
        · rw [xu_c (by omega), xu_c (by omega), xu_s]
        · rw [xu_s]
      · rw [if_neg c1]
        split
        · rw [xu_c (by omega), xu_c (by omega), xu_k (by omega)]
        · rw [xu_k (by omega)]
    have ey : y_lv1 p B o 66 s = if B 62 o = s then B 66 s + 1 else B 66 s := by
      unfold y_lv1
      by_cases c1 : B 62 o = s
      · rw [if_pos c1, c1]
        split
        · rw [xu_c (by omega), xu_c (by omega), xu_s]
        · rw [xu_s]
      · rw [if_neg c1]
        split
        · rw [xu_c (by omega), xu_c (by omega), xu_k (by omega)]
        · rw [xu_k (by omega)]
    rw [ex, ey, g.1]
    by_cases c1 : B 62 o = s
    · rw [if_pos c1] at q ⊢
      rw [if_pos c1]
      omega
    · rw [if_neg c1] at q ⊢
      rw [if_neg c1]
      omega
  · unfold x_lv1 y_lv1
    rw [xu_k (by omega), xu_k (by omega), g.1, g.2.1]
    split
    · rw [xu_k (by omega), xu_s, xu_k (by omega), xu_s]
      omega
    · rw [xu_c (by omega), xu_c (by omega)]
      exact l5
  · unfold x_lv1 y_lv1
    rw [xu_k (by omega), xu_k (by omega), g.1, g.2.1]
    split
    · rw [xu_s, xu_s]
      omega
    · rw [xu_c (by omega), xu_c (by omega)]
      exact l6
