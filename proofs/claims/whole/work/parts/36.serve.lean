/-! a slot: packets leave -/
def x_lv1 (p : Int) (A : xm_Mem) : xm_Mem := xm_up (xm_up (if A 18 (A 17 5) = 4 then xm_up (xm_up (xm_up A 22 (A 18 (A 17 5)) (A 22 (A 18 (A 17 5)) + 1)) 17 7 (A 17 7 + (p - A 19 (A 17 5)))) 17 8 (if A 17 8 < p - A 19 (A 17 5) then p - A 19 (A 17 5) else A 17 8) else xm_up A 22 (A 18 (A 17 5)) (A 22 (A 18 (A 17 5)) + 1)) 17 5 ((A 17 5 + 1) % 40)) 17 6 (A 17 6 - 1)
def y_lv1 (p : Int) (B : xm_Mem) (j : Int) : xm_Mem := if B 62 j = 4 then xm_up (xm_up (xm_up B 66 (B 62 j) (B 66 (B 62 j) + 1)) 50 30 (B 50 30 + (p - B 63 j))) 50 31 (if B 50 31 < p - B 63 j then p - B 63 j else B 50 31) else xm_up B 66 (B 62 j) (B 66 (B 62 j) + 1)
def x_lvn (p : Int) (A : xm_Mem) : Nat → xm_Mem
  | 0 => A
  | n + 1 => x_lv1 p (x_lvn p A n)
def y_lvn (p : Int) (B : xm_Mem) : Nat → xm_Mem
  | 0 => B
  | n + 1 => y_lv1 p (y_lvn p B n) n
theorem of_head (f : Int → Int) (s : Int) : ∀ n : Nat, x_of f s (n + 1) = (if f 0 = s then 1 else 0) + x_of (fun i => f (i + 1)) s n
  | 0 => by
    rw [x_of, x_of, x_of]
    simp
  | n + 1 => by
    rw [x_of, of_head f s n, x_of]
    have e : ((n + 1 : Nat) : Int) = (n : Int) + 1 := by omega
    rw [e]
    omega
theorem yl_c {B : xm_Mem} {p j : Int} {c : Nat} (h : c ≠ 50 ∧ c ≠ 66) : y_lv1 p B j c = B c := by
  unfold y_lv1
  split
  · rw [xu_c (by omega), xu_c (by omega), xu_c (by omega)]
  · rw [xu_c (by omega)]
theorem yl_k {B : xm_Mem} {p j k : Int} (h : k ≠ 30 ∧ k ≠ 31) : y_lv1 p B j 50 k = B 50 k := by
  unfold y_lv1
  split
  · rw [xu_k (by omega), xu_k (by omega), xu_c (by omega)]
  · rw [xu_c (by omega)]
theorem xl_c {A : xm_Mem} {p : Int} {c : Nat} (h : c ≠ 17 ∧ c ≠ 22) : x_lv1 p A c = A c := by
  unfold x_lv1
  rw [xu_c (by omega), xu_c (by omega)]
  split
  · rw [xu_c (by omega), xu_c (by omega), xu_c (by omega)]
  · rw [xu_c (by omega)]
theorem T_lv1 {p cap o : Int} {A B : xm_Mem} (h : T_lin p cap o A B) (hp : 0 ≤ p ∧ p < 2000) (hw : 0 < A 17 6) : T_lin p cap (o + 1) (x_lv1 p A) (y_lv1 p B o) := by
  obtain ⟨l1, l2, l3, l4, l5, l6⟩ := h
  have g := l3 0 (by omega) hw
  rw [show (A 17 5 + 0) % 40 = A 17 5 by omega, Int.add_zero] at g
  have z5 : x_lv1 p A 17 5 = (A 17 5 + 1) % 40 := by
    unfold x_lv1
    rw [xu_k (by omega), xu_s]
  have z6 : x_lv1 p A 17 6 = A 17 6 - 1 := by
    unfold x_lv1
    rw [xu_s]
  unfold T_lin
  rw [z5, z6, xl_c (c := 18) (by omega), xl_c (c := 19) (by omega), xl_c (c := 20) (by omega), xl_c (c := 21) (by omega), yl_c (c := 62) (by omega), yl_c (c := 63) (by omega), yl_c (c := 64) (by omega), yl_c (c := 65) (by omega), yl_k (k := 24) (by omega)]
  refine ⟨by omega, by omega, fun i a b => ?_, fun s a b => ?_, ?_, ?_⟩
  · have q := l3 (i + 1) (by omega) (by omega)
    have e : ((A 17 5 + 1) % 40 + i) % 40 = (A 17 5 + (i + 1)) % 40 := by omega
    rw [e, show o + 1 + i = o + (i + 1) by omega]
    exact q
  · have q := l4 s a b
    have e : (A 17 6).toNat = (A 17 6 - 1).toNat + 1 := by omega
    rw [e, of_head] at q
    have e2 : (fun i : Int => B 62 (o + (i + 1))) = fun i => B 62 (o + 1 + i) := by
      funext i
      rw [show o + (i + 1) = o + 1 + i by omega]
    rw [e2, Int.add_zero] at q
    have ex : x_lv1 p A 22 s = if A 18 (A 17 5) = s then A 22 s + 1 else A 22 s := by
      unfold x_lv1
      rw [xu_c (by omega), xu_c (by omega)]
      by_cases c1 : A 18 (A 17 5) = s
      · rw [if_pos c1, c1]
        split
        · rw [xu_c (by omega), xu_c (by omega), xu_s]
        · rw [xu_s]
      · rw [if_neg c1]
        split
        · rw [xu_c (by omega), xu_c (by omega), xu_k (by omega)]
        · rw [xu_k (by omega)]
    have ey : y_lv1 p B o 66 s = if B 62 o = s then B 66 s + 1 else B 66 s := by
      unfold y_lv1
      by_cases c1 : B 62 o = s
      · rw [if_pos c1, c1]
        split
        · rw [xu_c (by omega), xu_c (by omega), xu_s]
        · rw [xu_s]
      · rw [if_neg c1]
        split
        · rw [xu_c (by omega), xu_c (by omega), xu_k (by omega)]
        · rw [xu_k (by omega)]
    rw [ex, ey, g.1]
    by_cases c1 : B 62 o = s
    · rw [if_pos c1] at q ⊢
      rw [if_pos c1]
      omega
    · rw [if_neg c1] at q ⊢
      rw [if_neg c1]
      omega
  · unfold x_lv1 y_lv1
    rw [xu_k (by omega), xu_k (by omega), g.1, g.2.1]
    split
    · rw [xu_k (by omega), xu_s, xu_k (by omega), xu_s]
      omega
    · rw [xu_c (by omega), xu_c (by omega)]
      exact l5
  · unfold x_lv1 y_lv1
    rw [xu_k (by omega), xu_k (by omega), g.1, g.2.1]
    split
    · rw [xu_s, xu_s]
      omega
    · rw [xu_c (by omega), xu_c (by omega)]
      exact l6
theorem T_lvn {p cap : Int} {A B : xm_Mem} (h : T_lin p cap 0 A B) (hp : 0 ≤ p ∧ p < 2000) : ∀ n : Nat, n ≤ A 17 6 → T_lin p cap n (x_lvn p A n) (y_lvn p B n) ∧ x_lvn p A n 17 6 = A 17 6 - n
  | 0, _ => ⟨h, by rw [x_lvn]; omega⟩
  | n + 1, hn => by
    have ih := T_lvn h hp n (by omega)
    have := T_lv1 ih.1 hp (by omega)
    rw [x_lvn, y_lvn, show ((n + 1 : Nat) : Int) = n + 1 by omega]
    refine ⟨this, ?_⟩
    unfold x_lv1
    rw [xu_s, ih.2]
    omega
theorem yln_c {B : xm_Mem} {p : Int} {c : Nat} (h : c ≠ 50 ∧ c ≠ 66) : ∀ n : Nat, y_lvn p B n c = B c
  | 0 => rfl
  | n + 1 => by rw [y_lvn, yl_c h, yln_c h n]
theorem yln_k {B : xm_Mem} {p k : Int} (h : k ≠ 30 ∧ k ≠ 31) : ∀ n : Nat, y_lvn p B n 50 k = B 50 k
  | 0 => rfl
  | n + 1 => by rw [y_lvn, yl_k h, yln_k h n]
theorem xln_c {A : xm_Mem} {p : Int} {c : Nat} (h : c ≠ 17 ∧ c ≠ 22) : ∀ n : Nat, x_lvn p A n c = A c
  | 0 => rfl
  | n + 1 => by rw [x_lvn, xl_c h, xln_c h n]
/-- the reference's queue moved down by n, up to place k -/
def y_sh (M : xm_Mem) (n k : Int) : xm_Mem := fun c j => if (c = 62 ∨ c = 63) ∧ 0 ≤ j ∧ j < k then M c (j + n) else M c j
theorem yh_c {M : xm_Mem} {n k : Int} {c : Nat} (h : c ≠ 62 ∧ c ≠ 63) : y_sh M n k c = M c := by
  funext j
  unfold y_sh
  rw [if_neg (by omega)]
theorem yh_hi {M : xm_Mem} {n k j : Int} {c : Nat} (h : k ≤ j) : y_sh M n k c j = M c j := by
  unfold y_sh
  rw [if_neg (by omega)]
theorem yh_lo {M : xm_Mem} {n k j : Int} {c : Nat} (hc : c = 62 ∨ c = 63) (h : 0 ≤ j ∧ j < k) : y_sh M n k c j = M c (j + n) := by
  unfold y_sh
  rw [if_pos ⟨hc, h⟩]
theorem yh_0 {M : xm_Mem} {n : Int} : y_sh M n 0 = M := by
  funext c j
  unfold y_sh
  rw [if_neg (by omega)]
theorem yh_up {M : xm_Mem} {n k : Int} (h : 0 ≤ k) : xm_up (xm_up (y_sh M n k) 62 k (M 62 (k + n))) 63 k (M 63 (k + n)) = y_sh M n (k + 1) := by
  funext c j
  by_cases hj : j = k
  · subst hj
    by_cases h3 : c = 63
    · subst h3; rw [xu_s, yh_lo (by omega) (by omega)]
    · rw [xu_c h3]
      by_cases h2 : c = 62
      · subst h2; rw [xu_s, yh_lo (by omega) (by omega)]
      · rw [xu_c h2, yh_c ⟨h2, h3⟩, yh_c ⟨h2, h3⟩]
  · rw [xu_j hj, xu_j hj]
    by_cases g : (c = 62 ∨ c = 63) ∧ 0 ≤ j ∧ j < k
    · rw [yh_lo g.1 g.2, yh_lo g.1 (by omega)]
    · unfold y_sh
      rw [if_neg g, if_neg (by omega)]
/-- all that leaves in a slot -/
def y_lv (p : Int) (B : xm_Mem) (n : Nat) : xm_Mem := y_sh (xm_up (y_lvn p B n) 50 24 (B 50 24 - n)) n (B 50 24 - n)
theorem T_lv {p cap : Int} {A B : xm_Mem} (h : T_lin p cap 0 A B) (hp : 0 ≤ p ∧ p < 2000) {n : Nat} (hn : n ≤ A 17 6) : T_lin p cap 0 (x_lvn p A n) (y_lv p B n) := by
  have w0 := h.1
  obtain ⟨⟨l1, l2, l3, l4, l5, l6⟩, e6⟩ := T_lvn h hp n hn
  rw [yln_k (by omega)] at l1
  unfold T_lin y_lv
  rw [yh_c (c := 50) (by omega), yh_c (c := 64) (by omega), yh_c (c := 65) (by omega), yh_c (c := 66) (by omega), xu_s, xu_c (c' := 64) (by omega), xu_c (c' := 65) (by omega), xu_c (c' := 66) (by omega), xu_k (k' := 30) (by omega), xu_k (k' := 31) (by omega)]
  refine ⟨by omega, l2, fun i a b => ?_, fun s a b => ?_, l5, l6⟩
  · rw [yh_lo (by omega) (by omega), yh_lo (by omega) (by omega), xu_c (by omega), xu_c (by omega), show 0 + i + n = n + i by omega]
    exact l3 i a b
  · have q := l4 s a b
    have e : x_of (fun i => y_sh (xm_up (y_lvn p B n) 50 24 (B 50 24 - n)) n (B 50 24 - n) 62 (0 + i)) s (x_lvn p A n 17 6).toNat = x_of (fun i => y_lvn p B n 62 (n + i)) s (x_lvn p A n 17 6).toNat := of_congr _ (fun i a b => by
      rw [yh_lo (by omega) (by omega), xu_c (by omega), show 0 + i + n = n + i by omega])
    rw [e]
    exact q
section LV
variable {d : Nat} {Q : xm_K}
theorem sp100 {A : xm_Mem} {s w : Int} (hs : 0 ≤ s ∧ s ≤ 4) (hw : xm_in w) (h8 : xm_in (A 17 8)) (h : Q [] (if s = 4 then xm_up (xm_up (xm_up A 22 s (A 22 s + 1)) 17 7 (A 17 7 + w)) 17 8 (if A 17 8 < w then w else A 17 8) else xm_up A 22 s (A 22 s + 1))) : xm_call true (d + 2) 100 [.inr (.inr 17), .inl s, .inl w] A Q := by
  refine en100r17 (rg100r17_0 ?_)
  (repeat' (first | (with_reducible exact True.intro) | (with_reducible refine And.intro ?_ ?_) | (with_reducible intro) | (with_reducible refine xq_ki ?_) | (with_reducible refine xq_kl ?_) | (with_reducible refine xq_kv ?_) | (with_reducible refine xq_kq ?_) | (with_reducible refine en101 (rg101_0 ?_))))
  all_goals try omega
  · rw [if_pos (by assumption)] at h; exact h
  · rw [if_neg (by assumption)] at h; exact h
theorem lo99 {p cap rate : Int} {A B : xm_Mem} (hT : T_lin p cap 0 A B) (hp : 0 ≤ p ∧ p < 2000) (hr : 1 ≤ rate ∧ rate ≤ 9) {N : Nat} (hN : (N : Int) = if A 17 6 < rate then A 17 6 else rate) (h : Q [] (x_lvn p A N)) : ∀ (n k : Nat), k + n = N → wp99r17_2 (xm_call true (d + 2)) Q rate p k (x_lvn p A k)
  | 0, k, h0 => by
    have e : k = N := by omega
    subst e
    have z := T_lvn hT hp k (by omega)
    refine rg99r17_2 ⟨⟨by omega, by omega⟩, fun _ => h, fun _ => ⟨?_, fun _ => h, fun _ => ?_⟩⟩
    · have := hT.1; omega
    · omega
  | n + 1, k, h0 => by
    have ih := lo99 hT hp hr hN h n (k + 1) (by omega)
    obtain ⟨⟨l1, l2, l3, l4, l5, l6⟩, e6⟩ := T_lvn hT hp k (by omega)
    rw [x_lvn] at ih
    generalize x_lvn p A k = X at *
    have g := l3 0 (by omega) (by omega)
    rw [show (X 17 5 + 0) % 40 = X 17 5 by omega, Int.add_zero] at g
    refine rg99r17_2 ⟨⟨by omega, by omega⟩, fun _ => by omega, fun _ => ⟨by omega, fun _ => by omega, fun _ => ⟨by omega, fun _ => by omega, fun _ => ⟨⟨by omega, by omega⟩, fun _ => by omega, fun _ => ⟨⟨by omega, by omega⟩, fun _ => ⟨by omega, by omega, ?_⟩, fun _ => by omega⟩⟩⟩⟩⟩
    refine sp100 (by omega) (by omega) (by omega) (xq_kv ?_)
    unfold x_lv1 at ih
    have r5 : ∀ Y : xm_Mem, Y = (if X 18 (X 17 5) = 4 then xm_up (xm_up (xm_up X 22 (X 18 (X 17 5)) (X 22 (X 18 (X 17 5)) + 1)) 17 7 (X 17 7 + (p - X 19 (X 17 5)))) 17 8 (if X 17 8 < p - X 19 (X 17 5) then p - X 19 (X 17 5) else X 17 8) else xm_up X 22 (X 18 (X 17 5)) (X 22 (X 18 (X 17 5)) + 1)) → Y 17 5 = X 17 5 ∧ Y 17 6 = X 17 6 := by
      intro Y hY
      rw [hY]
      split
      · rw [xu_k (by omega), xu_k (by omega), xu_c (by omega), xu_k (by omega), xu_k (by omega), xu_c (by omega)]
        exact ⟨rfl, rfl⟩
      · rw [xu_c (by omega)]
        exact ⟨rfl, rfl⟩
    generalize hY : (if X 18 (X 17 5) = 4 then xm_up (xm_up (xm_up X 22 (X 18 (X 17 5)) (X 22 (X 18 (X 17 5)) + 1)) 17 7 (X 17 7 + (p - X 19 (X 17 5)))) 17 8 (if X 17 8 < p - X 19 (X 17 5) then p - X 19 (X 17 5) else X 17 8) else xm_up X 22 (X 18 (X 17 5)) (X 22 (X 18 (X 17 5)) + 1)) = Y at *
    have r := r5 Y rfl
    rw [r.1, r.2]
    refine ⟨⟨by omega, by omega, by omega⟩, ?_⟩
    rw [Int.tmod_eq_emod_of_nonneg (by omega)]
    exact ih
theorem sp99 {p cap rate : Int} {A B : xm_Mem} (hT : T_lin p cap 0 A B) (hp : 0 ≤ p ∧ p < 2000) (hr : 1 ≤ rate ∧ rate ≤ 9) (h : Q [] (x_lvn p A (if A 17 6 < rate then A 17 6 else rate).toNat)) : xm_call true (d + 3) 99 [.inr (.inr 17), .inl rate, .inl p] A Q := by
  have := hT.1
  refine en99r17 (rg99r17_0 ?_)
  exact lo99 hT hp hr (N := (if A 17 6 < rate then A 17 6 else rate).toNat) (by omega) h (if A 17 6 < rate then A 17 6 else rate).toNat 0 (by omega)
theorem lo220_115 {M : xm_Mem} {n W : Int} (hn : 0 ≤ n) (hW : M 50 24 = W) (hm : W + n ≤ 40) (h : Q [] (y_sh M n W)) : ∀ (m : Nat) (k : Int) (o : Option xm_V), 0 ≤ k → k + m = W → wp220r50_115 (xm_call true d) Q n k o (y_sh M n k)
  | 0, k, o, h0, h1 => by
    have e : k = W := by omega
    subst e
    refine rg220r50_115 ?_
    rw [yh_c (by omega), hW]
    exact ⟨⟨by omega, by omega⟩, fun _ => h, fun _ => by omega⟩
  | m + 1, k, o, h0, h1 => by
    have ih := fun o => lo220_115 (o := o) hn hW hm h m (k + 1) (by omega) (by omega)
    refine rg220r50_115 ?_
    rw [yh_c (by omega), hW, yh_hi (by omega), yh_hi (by omega), yh_up h0]
    exact ⟨⟨by omega, by omega⟩, fun _ => by omega, fun _ => ⟨by omega, by omega, by omega, by omega, ih o⟩⟩
theorem lo220_25 {p cap : Int} {A B : xm_Mem} (hT : T_lin p cap 0 A B) (hp : 0 ≤ p ∧ p < 2000) (h20 : B 50 20 = p) {N : Nat} (hN : N ≤ A 17 6) (h : Q [] (y_lv p B N)) : ∀ (n k : Nat) (o : Option xm_V), k + n = N → wp220r50_25 (xm_call true d) Q N k o (y_lvn p B k)
  | 0, k, o, h0 => by
    have e : k = N := by omega
    subst e
    have w0 := hT.1
    refine rg220r50_25 ⟨⟨by omega, by omega⟩, fun _ => ?_, fun _ => by omega⟩
    rw [yln_k (k := 24) (by omega)]
    have := lo220_115 (d := d) (Q := Q) (M := xm_up (y_lvn p B k) 50 24 (B 50 24 - k)) (n := k) (W := B 50 24 - k) (by omega) (by rw [xu_s]) (by omega) h (B 50 24 - k).toNat 0 o (by omega) (by omega)
    rw [yh_0] at this
    exact this
  | n + 1, k, o, h0 => by
    have ih := fun o => lo220_25 (o := o) hT hp h20 hN h n (k + 1) (by omega)
    obtain ⟨⟨l1, l2, l3, l4, l5, l6⟩, e6⟩ := T_lvn hT hp k (by omega)
    have w0 := hT.1
    have g := (l3 0 (by omega) (by omega)).2.2
    rw [Int.add_zero] at g
    have e20 : y_lvn p B k 50 20 = p := by rw [yln_k (by omega)]; exact h20
    rw [y_lvn] at ih
    generalize y_lvn p B k = Y at *
    unfold y_lv1 at ih
    refine rg220r50_25 ⟨⟨by omega, by omega⟩, fun _ => by omega, fun _ => ⟨by omega, by omega, by omega, by omega, ⟨by omega, by omega⟩, fun e => ?_, fun e => ⟨by omega, ⟨by omega, by omega⟩, fun e2 => ?_, fun e2 => ?_⟩⟩⟩
    · have i := ih o
      rw [if_neg e] at i
      exact i
    · have i := fun o => ih o
      rw [e20] at e2 ⊢
      simp only [if_pos e] at i
      have c : ¬ (Y 50 31 < p - Y 63 k) := by omega
      simp only [if_neg c] at i
      exact i _
    · have i := fun o => ih o
      rw [e20] at e2 ⊢
      simp only [if_pos e] at i
      simp only [if_pos e2] at i
      exact i _
theorem sp220 {p cap rate : Int} {A B : xm_Mem} (hT : T_lin p cap 0 A B) (hp : 0 ≤ p ∧ p < 2000) (h20 : B 50 20 = p) (hr : 1 ≤ rate ∧ rate ≤ 9) (hrr : B 50 1 = rate) (h : Q [] (y_lv p B (if A 17 6 < rate then A 17 6 else rate).toNat)) : xm_call true (d + 1) 220 [.inr (.inr 50)] B Q := by
  have w0 := hT.1
  refine en220r50 (rg220r50_0 ⟨⟨by omega, by omega⟩, fun g => ?_, fun g => ?_⟩)
  · have := lo220_25 (d := d) hT hp h20 (N := (if A 17 6 < rate then A 17 6 else rate).toNat) (by omega) h (if A 17 6 < rate then A 17 6 else rate).toNat 0 none (by omega)
    rw [show (((if A 17 6 < rate then A 17 6 else rate).toNat : Nat) : Int) = B 50 1 by omega] at this
    exact this
  · have := lo220_25 (d := d) hT hp h20 (N := (if A 17 6 < rate then A 17 6 else rate).toNat) (by omega) h (if A 17 6 < rate then A 17 6 else rate).toNat 0 none (by omega)
    rw [show (((if A 17 6 < rate then A 17 6 else rate).toNat : Nat) : Int) = B 50 24 by omega] at this
    exact this
end LV
