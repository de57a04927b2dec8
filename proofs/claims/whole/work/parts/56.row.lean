/-! a row is read in lockstep -/
/-- in the midst of a row -/
def x_rw (nu : Int → Int) (A B : xm_Mem) (row : Int) (D : Nat) (hs : Int) : Prop :=
  A 8 1 = D ∧ D ≤ 4 ∧ (∀ j : Nat, j ≤ D → 0 ≤ A 10 j ∧ A 10 j ≤ 400) ∧ (∀ j : Nat, j ≤ D → B 58 j = x_sum (A 10) 0 j) ∧ B 50 18 = x_sum (A 10) 0 (D + 1) ∧ (hs = if 1 ≤ A 10 D then 1 else 0) ∧
  ∀ k : Int, 0 ≤ k → k < B 50 18 → (k < 400 → nu (row * 400 + k) = B 57 k) ∧ x_alw row (B 57 k)
def x_fA (nu le c : Nat) (row : Int) (A A' : xm_Mem) : Prop :=
  (∀ q : Nat, q ≠ 4 → q ≠ 8 → q ≠ 10 → q ≠ nu → q ≠ le → q ≠ c → A' q = A q) ∧ (∀ k : Int, ¬ (row * 400 ≤ k ∧ k < row * 400 + 400) → A' nu k = A nu k) ∧ (∀ k : Int, k ≠ row → A' le k = A le k) ∧ (∀ k : Int, k ≠ 5 → A' c k = A c k) ∧ ∀ k : Int, k ≠ 4 → A' 4 k = A 4 k
def x_fB (row : Int) (B B' : xm_Mem) : Prop :=
  (∀ q : Nat, q ≠ 50 → q ≠ 55 → q ≠ 56 → q ≠ 57 → q ≠ 58 → B' q = B q) ∧ (∀ k : Int, k ≠ 10 → k ≠ 11 → k ≠ 18 → B' 50 k = B 50 k) ∧ (∀ k : Int, ¬ (400 * row ≤ k ∧ k < 400 * row + 400) → B' 55 k = B 55 k) ∧ ∀ k : Int, k ≠ row → B' 56 k = B 56 k
theorem fA_tr {nu le c : Nat} {row : Int} {A A1 A2 : xm_Mem} (h1 : x_fA nu le c row A A1) (h2 : x_fA nu le c row A1 A2) : x_fA nu le c row A A2 := by
  obtain ⟨a1, a2, a3, a4, a5⟩ := h1
  obtain ⟨b1, b2, b3, b4, b5⟩ := h2
  exact ⟨fun q x1 x2 x3 x4 x5 x6 => (b1 q x1 x2 x3 x4 x5 x6).trans (a1 q x1 x2 x3 x4 x5 x6), fun k x => (b2 k x).trans (a2 k x), fun k x => (b3 k x).trans (a3 k x), fun k x => (b4 k x).trans (a4 k x), fun k x => (b5 k x).trans (a5 k x)⟩
theorem fB_tr {row : Int} {A A1 A2 : xm_Mem} (h1 : x_fB row A A1) (h2 : x_fB row A1 A2) : x_fB row A A2 := by
  obtain ⟨a1, a2, a3, a4⟩ := h1
  obtain ⟨b1, b2, b3, b4⟩ := h2
  exact ⟨fun q x1 x2 x3 x4 x5 => (b1 q x1 x2 x3 x4 x5).trans (a1 q x1 x2 x3 x4 x5), fun k x1 x2 x3 => (b2 k x1 x2 x3).trans (a2 k x1 x2 x3), fun k x => (b3 k x).trans (a3 k x), fun k x => (b4 k x).trans (a4 k x)⟩
theorem fB_id {row : Int} {A : xm_Mem} : x_fB row A A := ⟨fun _ _ _ _ _ _ => rfl, fun _ _ _ _ => rfl, fun _ _ => rfl, fun _ _ => rfl⟩
theorem fA_id {nu le c : Nat} {row : Int} {A : xm_Mem} : x_fA nu le c row A A := ⟨fun _ _ _ _ _ _ _ => rfl, fun _ _ => rfl, fun _ _ => rfl, fun _ _ => rfl, fun _ _ => rfl⟩
theorem fB_50 {row k v : Int} {A A1 : xm_Mem} (h1 : x_fB row A A1) (hk : k = 10 ∨ k = 11 ∨ k = 18) : x_fB row A (xm_up A1 50 k v) := by
  obtain ⟨a1, a2, a3, a4⟩ := h1
  refine ⟨fun q x1 x2 x3 x4 x5 => ?_, fun j x1 x2 x3 => ?_, fun j x => ?_, fun j x => ?_⟩
  · rw [xu_c x1]; exact a1 q x1 x2 x3 x4 x5
  · rw [xu_k (by omega)]; exact a2 j x1 x2 x3
  · rw [xu_c (by omega)]; exact a3 j x
  · rw [xu_c (by omega)]; exact a4 j x
theorem fB_57 {row k v : Int} {c : Nat} {A A1 : xm_Mem} (h1 : x_fB row A A1) (hc : c = 57 ∨ c = 58) : x_fB row A (xm_up A1 c k v) := by
  obtain ⟨a1, a2, a3, a4⟩ := h1
  refine ⟨fun q x1 x2 x3 x4 x5 => ?_, fun j x1 x2 x3 => ?_, fun j x => ?_, fun j x => ?_⟩
  · rw [xu_c (by omega)]; exact a1 q x1 x2 x3 x4 x5
  · rw [xu_c (by omega)]; exact a2 j x1 x2 x3
  · rw [xu_c (by omega)]; exact a3 j x
  · rw [xu_c (by omega)]; exact a4 j x
theorem fB_56 {row v : Int} {A A1 : xm_Mem} (h1 : x_fB row A A1) : x_fB row A (xm_up A1 56 row v) := by
  obtain ⟨a1, a2, a3, a4⟩ := h1
  refine ⟨fun q x1 x2 x3 x4 x5 => ?_, fun j x1 x2 x3 => ?_, fun j x => ?_, fun j x => ?_⟩
  · rw [xu_c x3]; exact a1 q x1 x2 x3 x4 x5
  · rw [xu_c (by omega)]; exact a2 j x1 x2 x3
  · rw [xu_c (by omega)]; exact a3 j x
  · rw [xu_k x]; exact a4 j x
theorem fB_rp {row many : Int} {A A1 : xm_Mem} (h1 : x_fB row A A1) : ∀ K : Nat, x_fB row A (y_rp A1 many K)
  | 0 => h1
  | K + 1 => by
    rw [y_rp]
    exact fB_50 (fB_57 (fB_rp h1 K) (Or.inl rfl)) (by omega)
theorem fB_cy {row : Int} {A A1 : xm_Mem} (h1 : x_fB row A A1) : ∀ K : Nat, K ≤ 400 → x_fB row A (y_cy A1 row K)
  | 0, _ => h1
  | K + 1, hK => by
    obtain ⟨a1, a2, a3, a4⟩ := fB_cy h1 K (by omega)
    rw [y_cy]
    refine ⟨fun q x1 x2 x3 x4 x5 => ?_, fun j x1 x2 x3 => ?_, fun j x => ?_, fun j x => ?_⟩
    · rw [xu_c x2]; exact a1 q x1 x2 x3 x4 x5
    · rw [xu_c (by omega)]; exact a2 j x1 x2 x3
    · rw [xu_k (by omega)]; exact a3 j x
    · rw [xu_c (by omega)]; exact a4 j x
theorem x_sum_ext {f g : Int → Int} {n : Nat} (h : ∀ j : Nat, j < n → f j = g j) : x_sum f 0 n = x_sum g 0 n := x_sum_congr n 0 (fun s a b => by
  have := h s.toNat (by omega)
  rw [show ((s.toNat : Nat) : Int) = s by omega] at this
  exact this)
theorem x_sum_1 (f : Int → Int) (n : Nat) : x_sum f 0 (n + 1) = x_sum f 0 n + f n := by
  rw [x_sum, show (0 : Int) + (n : Int) = n by omega]
/-- the reference comes from B (at the loop's head) to B' (at the method's end) -/
def y_go (d : Nat) (row D hs : Int) (B B' : xm_Mem) : Prop := ∀ (N : xm_Mem) (R : xm_K) (o : Option xm_V), R [] (x_mx N B') → wp203r50_19 (xm_call true (d + 5)) R row D 1 hs o (x_mx N B)
theorem mtx {N B : xm_Mem} {t : Int → Int} {n : Int} (h : y_txt B t n) : y_txt (x_mx N B) t n := by
  unfold y_txt
  rw [mx_r (by omega), mx_r (by omega)]
  exact h
theorem mx_rp {N B : xm_Mem} {many : Int} : ∀ K : Nat, y_rp (x_mx N B) many K = x_mx N (y_rp B many K)
  | 0 => rfl
  | K + 1 => by
    rw [y_rp, mx_rp K, y_rp, mx_r (by omega), mx_r (by omega), mx_up (by omega), mx_up (by omega)]
theorem mx_cy {N B : xm_Mem} {row : Int} : ∀ K : Nat, y_cy (x_mx N B) row K = x_mx N (y_cy B row K)
  | 0 => rfl
  | K + 1 => by
    rw [y_cy, mx_cy K, y_cy, mx_r (by omega), mx_up (by omega)]
section LR
variable {d : Nat} {Q : xm_K} {t : Int → Int} {n m : Int} {E : Int → Int}
theorem lo130_11 {row : Int} (hr : 0 ≤ row ∧ row ≤ 4) {A0 B0 : xm_Mem} {e : Nat} {D0 hs0 : Int}
    (h1 : ∀ (A' B' : xm_Mem) (i' : Int), x_cur A' t n m E i' → i' ≤ m → 1 ≤ i' → A' 5 (i' - 1) = 5 → x_fA 12 13 11 row A0 A' → x_fB row B0 B' → (1 ≤ A' 13 row ∧ A' 13 row ≤ 400) → (row = 4 → A' 11 5 = A0 11 5) → (row ≠ 4 → A' 11 5 = row + 1) → B' 56 row = A' 13 row → (∀ k : Int, 0 ≤ k → k < A' 13 row → A' 12 (row * 400 + k) = B' 55 (400 * row + k) ∧ x_alw row (B' 55 (400 * row + k))) → B' 50 11 = 0 → B' 50 10 = A' 6 (i' - 1) → y_go e row D0 hs0 B0 B' → Q [.inl 1] A')
    (h0 : ∀ (A' B' : xm_Mem) (i' : Int), x_cur A' t n m E i' → x_fA 12 13 11 row A0 A' → x_fB row B0 B' → B' 50 10 = A' 6 i' → (B' 50 11 = 1 ∨ B' 50 11 = 0 ∧ A' 5 i' ≠ 5) → y_go e row D0 hs0 B0 B' → Q [.inl 0] A') :
    ∀ (fuel : Nat) (A B : xm_Mem) (i hs x5 : Int) (D : Nat), m - i < fuel → 0 ≤ x5 ∧ x5 ≤ i → x_cur A t n m E i → y_txt B t n → B 50 11 = 0 → y_nx t n (B 50 10) (A 6 i) → x_rw (A 12) A B row D hs → x_fA 12 13 11 row A0 A → A 13 = A0 13 → A 11 = A0 11 → x_fB row B0 B → (∀ B' : xm_Mem, y_go e row D hs B B' → y_go e row D0 hs0 B0 B') → wp130r8r4r11_18 (xm_call true (d + 3)) Q row 1 x5 A := by
  intro fuel
  induction fuel with
  | zero =>
    intro A B i hs x5 D hfu _ hc
    have := hc.2.2.2.2
    omega
  | succ fuel ih =>
    intro A B i hs x5 D hfu hx5 hc hT hf hx hrw hfA hle hcc hfB hgo
    obtain ⟨w1, w2, w3, w4, w5, w6, w7⟩ := id hrw
    have k := cur_tok hc
    have im := hc.2.2.2.2
    have i0 := hc.2.2.2.1
    have m2 := hc.2.1.2.1.2
    have hT0 := hc.1
    have sb := sum_bd w2 w3
    have wD := w3 D (Nat.le_refl _)
    have h58 : B 50 18 - B 58 D = A 10 D := by rw [w5, w4 D (Nat.le_refl _), x_sum_1]; omega
    have hh : hs = 0 ∨ hs = 1 := by rw [w6]; split <;> omega
    have s0 := k.1
    -- the class ends with 0 at the cursor: the reference leaves its loop
    have err : ∀ (A' : xm_Mem) (i' : Int) (B' : xm_Mem), x_cur A' t n m E i' → x_fA 12 13 11 row A0 A' → x_fB row B B' → B' 50 10 = A' 6 i' → (B' 50 11 = 1 ∨ B' 50 11 = 0 ∧ A' 5 i' ≠ 5) → y_go e row D hs B B' → Q [.inl 0] A' := fun A' i' B' a1 a2 a3 a4 a5 a6 => h0 A' B' i' a1 a2 (fB_tr hfB a3) a4 a5 (hgo B' a6)
    -- the reference's way out at an odd token
    have out : ¬ (A 6 i < n ∧ x_kn (t (A 6 i)) = 2) → ¬ (A 6 i < n ∧ t (A 6 i) = 40 ∧ D < 4) → ¬ (A 6 i < n ∧ t (A 6 i) = 41 ∧ 1 ≤ D ∧ hs = 1) → ((D = 0 ∧ hs = 1) → A 5 i ≠ 5) → Q [.inl 0] A := fun g1 g2 g3 g4 => by
      by_cases z : D = 0 ∧ hs = 1
      · have le4 : B 50 18 ≤ 400 := by
          rw [w5, z.1]
          have := w3 0 (by omega)
          rw [x_sum_1]
          simp only [x_sum]
          rw [z.1] at wD
          omega
        have ek : B 50 18 = ((B 50 18).toNat : Int) := by omega
        refine err A i (xm_up (y_cy (xm_up B 50 10 (A 6 i)) row (B 50 18).toNat) 56 row ((B 50 18).toNat : Int)) hc hfA (fB_56 (fB_cy (fB_50 fB_id (by omega)) _ (by omega))) ?_ ?_ ?_
        · rw [xu_c (by omega), cy_c (by omega), xu_s]
        · rw [xu_c (by omega), cy_c (by omega), xu_k (by omega)]
          exact Or.inr ⟨hf, g4 z⟩
        · intro N R o hR
          refine lo203s (s := A 6 i) hr (mtx hT) (by rw [mx_r (by omega)]) hx (by rw [mx_r (by omega)]; exact hf) w2 hh (by rw [mx_r (by omega)]; omega) (by rw [mx_r (by omega), mx_r (by omega)]; omega) (fun a b => absurd ⟨a, b⟩ g1) (fun a b q => absurd ⟨a, b, q⟩ g2) (fun a b q r => absurd ⟨a, b, q, r⟩ g3) (fun _ _ _ o => ?_)
          rw [mx_up (by omega)]
          refine lo203x hr (by omega) (Or.inl rfl) (by rw [mx_r (by omega), xu_k (by omega)]; exact Or.inl hf) hh (by rw [mx_r (by omega), xu_k (by omega)]; omega) (fun q => ?_) (fun _ _ _ => ⟨by rw [mx_r (by omega), xu_k (by omega)]; exact le4, fun K hK => ?_⟩)
          · rw [mx_r (by omega), xu_k (by omega), hf] at q
            omega
          · rw [mx_r (by omega), xu_k (by omega)] at hK
            have : K = (B 50 18).toNat := by omega
            rw [mx_cy, mx_up (by omega), this]
            exact hR
      · refine err A i (xm_up (xm_up (xm_up B 50 10 (A 6 i)) 50 11 1) 56 row (B 50 18)) hc hfA (fB_56 (fB_50 (fB_50 fB_id (by omega)) (by omega))) ?_ ?_ ?_
        · rw [xu_c (by omega), xu_k (by omega), xu_s]
        · rw [xu_c (by omega), xu_s]; exact Or.inl rfl
        · intro N R o hR
          refine lo203s (s := A 6 i) hr (mtx hT) (by rw [mx_r (by omega)]) hx (by rw [mx_r (by omega)]; exact hf) w2 hh (by rw [mx_r (by omega)]; omega) (by rw [mx_r (by omega), mx_r (by omega)]; omega) (fun a b => absurd ⟨a, b⟩ g1) (fun a b q => absurd ⟨a, b, q⟩ g2) (fun a b q r => absurd ⟨a, b, q, r⟩ g3) (fun _ _ _ o => ?_)
          rw [mx_up (by omega)]
          refine lo203x hr (by omega) (Or.inl rfl) (by rw [mx_r (by omega), xu_k (by omega)]; exact Or.inl hf) hh (by rw [mx_r (by omega), xu_k (by omega)]; omega) (fun _ => ?_) (fun _ q1 q2 => absurd ⟨by omega, q2⟩ z)
          rw [mx_r (by omega), xu_k (by omega), mx_up (by omega), mx_up (by omega)]
          exact hR
    -- no error so far: the class's loop
    refine rg130r8r4r11_18 ⟨⟨by omega, by omega⟩, fun _ => by omega, fun _ => ⟨by omega, fun q => by omega, fun _ => sp188 hc (xq_ki ⟨by omega, ⟨fun g => ?_, fun g => ?_, fun g => ?_, fun g => ?_, trivial⟩, fun g => ?_⟩)⟩⟩
    · -- a number
      have hi : i < m := by
        by_cases q : i = m
        · have := k.2.2.1 q; omega
        · omega
      obtain ⟨k1, k2, k3, k4, k5, k6, k7⟩ := k.2.2.2 hi
      have kk : x_kn (t (A 6 i)) = 2 := by omega
      have v := k5.1 kk
      have un := fun a b => te_one (e := a) (e' := b) hT0 s0.1
      refine sp131_11 hc hi g hr w1 w2 w3 (fun al rm => xq_ki ?_) (fun z => xq_ki ?_)
      · have hc1 : x_cur (xm_up (xm_up (if x_sum (A 10) 0 (D + 1) < 400 then xm_up A 12 (row * 400 + x_sum (A 10) 0 (D + 1)) (A 7 i) else A) 10 D (A 10 D + 1)) 4 4 (i + 1)) t n m E (i + 1) := by
          refine cur_next (cur_keep hc ?_ ?_ ?_ ?_) hi
          all_goals
            rw [xu_c (by omega)]
            split
            · rw [xu_c (by omega)]
            · rfl
        have e8 : xm_up (xm_up (if x_sum (A 10) 0 (D + 1) < 400 then xm_up A 12 (row * 400 + x_sum (A 10) 0 (D + 1)) (A 7 i) else A) 10 D (A 10 D + 1)) 4 4 (i + 1) 8 = A 8 := by
          rw [xu_c (by omega), xu_c (by omega)]; split; rw [xu_c (by omega)]; rfl
        have e10 : ∀ j : Int, xm_up (xm_up (if x_sum (A 10) 0 (D + 1) < 400 then xm_up A 12 (row * 400 + x_sum (A 10) 0 (D + 1)) (A 7 i) else A) 10 D (A 10 D + 1)) 4 4 (i + 1) 10 j = if j = D then A 10 D + 1 else A 10 j := fun j => by
          rw [xu_c (by omega)]
          by_cases q : j = D
          · rw [if_pos q, q, xu_s]
          · rw [if_neg q, xu_k q]; split; rw [xu_c (by omega)]; rfl
        have enu : ∀ j : Int, xm_up (xm_up (if x_sum (A 10) 0 (D + 1) < 400 then xm_up A 12 (row * 400 + x_sum (A 10) 0 (D + 1)) (A 7 i) else A) 10 D (A 10 D + 1)) 4 4 (i + 1) 12 j = if x_sum (A 10) 0 (D + 1) < 400 ∧ j = row * 400 + x_sum (A 10) 0 (D + 1) then A 7 i else A 12 j := fun j => by
          rw [xu_c (by omega), xu_c (by omega)]
          by_cases q : x_sum (A 10) 0 (D + 1) < 400
          · rw [if_pos q]
            by_cases q2 : j = row * 400 + x_sum (A 10) 0 (D + 1)
            · rw [if_pos ⟨q, q2⟩, q2, xu_s]
            · rw [if_neg (fun z => q2 z.2), xu_k q2]
          · rw [if_neg q, if_neg (fun z => q z.1)]
        have eoth : ∀ q : Nat, q ≠ 4 → q ≠ 10 → q ≠ 12 → xm_up (xm_up (if x_sum (A 10) 0 (D + 1) < 400 then xm_up A 12 (row * 400 + x_sum (A 10) 0 (D + 1)) (A 7 i) else A) 10 D (A 10 D + 1)) 4 4 (i + 1) q = A q := fun q a b z => by
          rw [xu_c a, xu_c b]; split; rw [xu_c z]; rfl
        have e4 : ∀ j : Int, j ≠ 4 → xm_up (xm_up (if x_sum (A 10) 0 (D + 1) < 400 then xm_up A 12 (row * 400 + x_sum (A 10) 0 (D + 1)) (A 7 i) else A) 10 D (A 10 D + 1)) 4 4 (i + 1) 4 j = A 4 j := fun j a => by
          rw [xu_k a, xu_c (by omega)]; split; rw [xu_c (by omega)]; rfl
        generalize xm_up (xm_up (if x_sum (A 10) 0 (D + 1) < 400 then xm_up A 12 (row * 400 + x_sum (A 10) 0 (D + 1)) (A 7 i) else A) 10 D (A 10 D + 1)) 4 4 (i + 1) = A1 at *
        have e6 : A1 6 = A 6 := eoth 6 (by omega) (by omega) (by omega)
        have esum : x_sum (A1 10) 0 D = x_sum (A 10) 0 D := x_sum_ext (fun j hj => by rw [e10, if_neg (by omega)])
        have y18 : y_tk (xm_up B 50 10 (A 6 i)) (A 7 i) (E i) 50 18 = B 50 18 + 1 := by
          unfold y_tk
          rw [xu_k (by omega), xu_s, xu_k (by omega)]
        have y57 : ∀ j : Int, y_tk (xm_up B 50 10 (A 6 i)) (A 7 i) (E i) 57 j = if j = B 50 18 then A 7 i else B 57 j := fun j => by
          unfold y_tk
          rw [xu_c (by omega), xu_c (by omega), xu_k (k' := 18) (by omega)]
          by_cases q : j = B 50 18
          · rw [if_pos q, q, xu_s]
          · rw [if_neg q, xu_k q, xu_c (by omega)]
        have y58 : y_tk (xm_up B 50 10 (A 6 i)) (A 7 i) (E i) 58 = B 58 := by
          unfold y_tk
          rw [xu_c (by omega), xu_c (by omega), xu_c (by omega), xu_c (by omega)]
        have y10 : y_tk (xm_up B 50 10 (A 6 i)) (A 7 i) (E i) 50 10 = E i := by unfold y_tk; rw [xu_s]
        have y11 : y_tk (xm_up B 50 10 (A 6 i)) (A 7 i) (E i) 50 11 = 0 := by
          unfold y_tk
          rw [xu_k (by omega), xu_k (by omega), xu_c (by omega), xu_k (by omega)]; exact hf
        have yT : y_txt (y_tk (xm_up B 50 10 (A 6 i)) (A 7 i) (E i)) t n := by
          unfold y_tk
          exact ytx_up (ytx_up (ytx_up (ytx_up hT ⟨by omega, fun _ => by omega⟩) ⟨by omega, fun _ => by omega⟩) ⟨by omega, fun _ => by omega⟩) ⟨by omega, fun _ => by omega⟩
        have yF : x_fB row B (y_tk (xm_up B 50 10 (A 6 i)) (A 7 i) (E i)) := by
          unfold y_tk
          exact fB_50 (fB_50 (fB_57 (fB_50 fB_id (by omega)) (by omega)) (by omega)) (by omega)
        have hgo2 : ∀ B' : xm_Mem, y_go e row D 1 (y_tk (xm_up B 50 10 (A 6 i)) (A 7 i) (E i)) B' → y_go e row D hs B B' := fun B' hb N R o hR => by
          refine lo203s (s := A 6 i) hr (mtx hT) (by rw [mx_r (by omega)]) hx (by rw [mx_r (by omega)]; exact hf) w2 hh (by rw [mx_r (by omega)]; omega) (by rw [mx_r (by omega), mx_r (by omega)]; omega) (fun _ _ => ⟨E i, k3, fun _ _ o => ?_, fun z => absurd ⟨by rw [← v]; exact al, by rw [mx_r (by omega), mx_r (by omega)]; omega⟩ z⟩) (fun a b q => by rw [b] at kk; exact absurd kk (by decide)) (fun a b q r => by rw [b] at kk; exact absurd kk (by decide)) (fun z => absurd ⟨k1, kk⟩ z)
          have := hb N R o hR
          rw [← v]
          have em : y_tk (xm_up (x_mx N B) 50 10 (A 6 i)) (A 7 i) (E i) = x_mx N (y_tk (xm_up B 50 10 (A 6 i)) (A 7 i) (E i)) := by
            unfold y_tk
            rw [mx_up (by omega), mx_r (by omega), mx_up (by omega), mx_up (by omega), mx_up (by omega)]
          rw [em]
          exact this
        generalize y_tk (xm_up B 50 10 (A 6 i)) (A 7 i) (E i) = B1 at *
        have gp := k7
        have k' := cur_tok hc1
        rw [e6] at k'
        have kc' : A 6 (i + 1) < n → t (A 6 (i + 1)) ≠ 32 := fun q => by
          by_cases z : i + 1 = m
          · have := (k'.2.2.1 z).2; omega
          · exact (k'.2.2.2 (by omega)).2.1
        refine ih A1 B1 (i + 1) 1 (x5 + 1) D (by omega) (by omega) hc1 yT y11 ?_ ⟨by rw [e8]; exact w1, w2, fun j hj => ?_, fun j hj => ?_, ?_, ?_, fun q q1 q2 => ?_⟩ (fA_tr hfA ⟨fun q a b z f _ _ => eoth q a z f, fun j hj => ?_, fun j _ => by rw [eoth 13 (by omega) (by omega) (by omega)], fun j _ => by rw [eoth 11 (by omega) (by omega) (by omega)], e4⟩) (by rw [eoth 13 (by omega) (by omega) (by omega)]; exact hle) (by rw [eoth 11 (by omega) (by omega) (by omega)]; exact hcc) (fB_tr hfB yF) (fun B' hb => hgo B' (hgo2 B' hb))
        · rw [y10, e6]
          have := k3.1
          exact ⟨by omega, gp, k'.1.2, kc'⟩
        · rw [e10]
          split
          · omega
          · exact w3 j hj
        · rw [y58, w4 j hj]
          exact (x_sum_ext (fun q hq => by rw [e10, if_neg (by omega)])).symm
        · rw [y18, w5, x_sum_1, x_sum_1, esum, e10, if_pos rfl]; omega
        · rw [e10, if_pos rfl, if_pos (by omega)]
        · rw [y18] at q2
          rw [y57, enu, ← w5]
          by_cases z : q = B 50 18
          · rw [if_pos z]
            refine ⟨fun q4 => ?_, al⟩
            rw [if_pos ⟨by omega, by omega⟩]
          · rw [if_neg z, if_neg (by omega)]
            exact w7 q q1 (by omega)
        · rw [enu, if_neg (by omega)]
      · -- refused
        have ef : ∀ N : xm_Mem, y_ft (xm_up (x_mx N B) 50 10 (A 6 i)) (A 6 i) = x_mx N (xm_up (xm_up B 50 10 (A 6 i)) 50 11 1) := fun N => by
          unfold y_ft
          rw [xu_u, mx_up (by omega), mx_up (by omega)]
        refine rg130r8r4r11_18 ⟨⟨by omega, by omega⟩, fun _ => ⟨Or.inl rfl, ?_⟩, fun _ => ⟨by omega, fun _ => ⟨Or.inl rfl, ?_⟩, fun q => absurd rfl q⟩⟩
        all_goals
          refine err A i (xm_up (xm_up (xm_up B 50 10 (A 6 i)) 50 11 1) 56 row (B 50 18)) hc hfA (fB_56 (fB_50 (fB_50 fB_id (by omega)) (by omega))) ?_ ?_ ?_
          · rw [xu_c (by omega), xu_k (by omega), xu_s]
          · rw [xu_c (by omega), xu_s]; exact Or.inl rfl
          · intro N R o hR
            refine lo203s (s := A 6 i) hr (mtx hT) (by rw [mx_r (by omega)]) hx (by rw [mx_r (by omega)]; exact hf) w2 hh (by rw [mx_r (by omega)]; omega) (by rw [mx_r (by omega), mx_r (by omega)]; omega) (fun _ _ => ⟨E i, k3, fun a1 a2 o => absurd ⟨by rw [v]; exact a1, by rw [mx_r (by omega), mx_r (by omega)] at a2; omega⟩ z, fun _ o => ?_⟩) (fun a b q => by rw [b] at kk; exact absurd kk (by decide)) (fun a b q r => by rw [b] at kk; exact absurd kk (by decide)) (fun z => absurd ⟨k1, kk⟩ z)
            rw [ef]
            refine lo203x hr (by omega) (Or.inr ⟨rfl, by rw [mx_r (by omega), xu_s]⟩) (by rw [mx_r (by omega), xu_s]; exact Or.inr rfl) (Or.inr rfl) (by rw [mx_r (by omega), xu_k (by omega), xu_k (by omega)]; omega) (fun _ => ?_) (fun q => by rw [mx_r (by omega), xu_s] at q; omega)
            have e1 : x_mx N (xm_up (xm_up B 50 10 (A 6 i)) 50 11 1) 50 18 = B 50 18 := by rw [mx_r (by omega), xu_k (by omega), xu_k (by omega)]
            rw [e1, mx_up (by omega), xu_u, mx_up (by omega)]
            exact hR
    · sorry
    · sorry
    · sorry
    · sorry
theorem lo130_14 {row : Int} (hr : 0 ≤ row ∧ row ≤ 4) {A0 B0 : xm_Mem} {e : Nat} {D0 hs0 : Int}
    (h1 : ∀ (A' B' : xm_Mem) (i' : Int), x_cur A' t n m E i' → i' ≤ m → 1 ≤ i' → A' 5 (i' - 1) = 5 → x_fA 15 16 14 row A0 A' → x_fB row B0 B' → (1 ≤ A' 16 row ∧ A' 16 row ≤ 400) → (row = 4 → A' 14 5 = A0 14 5) → (row ≠ 4 → A' 14 5 = row + 1) → B' 56 row = A' 16 row → (∀ k : Int, 0 ≤ k → k < A' 16 row → A' 15 (row * 400 + k) = B' 55 (400 * row + k) ∧ x_alw row (B' 55 (400 * row + k))) → B' 50 11 = 0 → B' 50 10 = A' 6 (i' - 1) → y_go e row D0 hs0 B0 B' → Q [.inl 1] A')
    (h0 : ∀ (A' B' : xm_Mem) (i' : Int), x_cur A' t n m E i' → x_fA 15 16 14 row A0 A' → x_fB row B0 B' → B' 50 10 = A' 6 i' → (B' 50 11 = 1 ∨ B' 50 11 = 0 ∧ A' 5 i' ≠ 5) → y_go e row D0 hs0 B0 B' → Q [.inl 0] A') :
    ∀ (fuel : Nat) (A B : xm_Mem) (i hs x5 : Int) (D : Nat), m - i < fuel → 0 ≤ x5 ∧ x5 ≤ i → x_cur A t n m E i → y_txt B t n → B 50 11 = 0 → y_nx t n (B 50 10) (A 6 i) → x_rw (A 15) A B row D hs → x_fA 15 16 14 row A0 A → A 16 = A0 16 → A 14 = A0 14 → x_fB row B0 B → (∀ B' : xm_Mem, y_go e row D hs B B' → y_go e row D0 hs0 B0 B') → wp130r8r4r14_18 (xm_call true (d + 3)) Q row 1 x5 A := by
  intro fuel
  induction fuel with
  | zero =>
    intro A B i hs x5 D hfu _ hc
    have := hc.2.2.2.2
    omega
  | succ fuel ih =>
    intro A B i hs x5 D hfu hx5 hc hT hf hx hrw hfA hle hcc hfB hgo
    obtain ⟨w1, w2, w3, w4, w5, w6, w7⟩ := id hrw
    have k := cur_tok hc
    have im := hc.2.2.2.2
    have i0 := hc.2.2.2.1
    have m2 := hc.2.1.2.1.2
    have hT0 := hc.1
    have sb := sum_bd w2 w3
    have wD := w3 D (Nat.le_refl _)
    have h58 : B 50 18 - B 58 D = A 10 D := by rw [w5, w4 D (Nat.le_refl _), x_sum_1]; omega
    have hh : hs = 0 ∨ hs = 1 := by rw [w6]; split <;> omega
    have s0 := k.1
    -- the class ends with 0 at the cursor: the reference leaves its loop
    have err : ∀ (A' : xm_Mem) (i' : Int) (B' : xm_Mem), x_cur A' t n m E i' → x_fA 15 16 14 row A0 A' → x_fB row B B' → B' 50 10 = A' 6 i' → (B' 50 11 = 1 ∨ B' 50 11 = 0 ∧ A' 5 i' ≠ 5) → y_go e row D hs B B' → Q [.inl 0] A' := fun A' i' B' a1 a2 a3 a4 a5 a6 => h0 A' B' i' a1 a2 (fB_tr hfB a3) a4 a5 (hgo B' a6)
    -- the reference's way out at an odd token
    have out : ¬ (A 6 i < n ∧ x_kn (t (A 6 i)) = 2) → ¬ (A 6 i < n ∧ t (A 6 i) = 40 ∧ D < 4) → ¬ (A 6 i < n ∧ t (A 6 i) = 41 ∧ 1 ≤ D ∧ hs = 1) → ((D = 0 ∧ hs = 1) → A 5 i ≠ 5) → Q [.inl 0] A := fun g1 g2 g3 g4 => by
      by_cases z : D = 0 ∧ hs = 1
      · have le4 : B 50 18 ≤ 400 := by
          rw [w5, z.1]
          have := w3 0 (by omega)
          rw [x_sum_1]
          simp only [x_sum]
          rw [z.1] at wD
          omega
        have ek : B 50 18 = ((B 50 18).toNat : Int) := by omega
        refine err A i (xm_up (y_cy (xm_up B 50 10 (A 6 i)) row (B 50 18).toNat) 56 row ((B 50 18).toNat : Int)) hc hfA (fB_56 (fB_cy (fB_50 fB_id (by omega)) _ (by omega))) ?_ ?_ ?_
        · rw [xu_c (by omega), cy_c (by omega), xu_s]
        · rw [xu_c (by omega), cy_c (by omega), xu_k (by omega)]
          exact Or.inr ⟨hf, g4 z⟩
        · intro N R o hR
          refine lo203s (s := A 6 i) hr (mtx hT) (by rw [mx_r (by omega)]) hx (by rw [mx_r (by omega)]; exact hf) w2 hh (by rw [mx_r (by omega)]; omega) (by rw [mx_r (by omega), mx_r (by omega)]; omega) (fun a b => absurd ⟨a, b⟩ g1) (fun a b q => absurd ⟨a, b, q⟩ g2) (fun a b q r => absurd ⟨a, b, q, r⟩ g3) (fun _ _ _ o => ?_)
          rw [mx_up (by omega)]
          refine lo203x hr (by omega) (Or.inl rfl) (by rw [mx_r (by omega), xu_k (by omega)]; exact Or.inl hf) hh (by rw [mx_r (by omega), xu_k (by omega)]; omega) (fun q => ?_) (fun _ _ _ => ⟨by rw [mx_r (by omega), xu_k (by omega)]; exact le4, fun K hK => ?_⟩)
          · rw [mx_r (by omega), xu_k (by omega), hf] at q
            omega
          · rw [mx_r (by omega), xu_k (by omega)] at hK
            have : K = (B 50 18).toNat := by omega
            rw [mx_cy, mx_up (by omega), this]
            exact hR
      · refine err A i (xm_up (xm_up (xm_up B 50 10 (A 6 i)) 50 11 1) 56 row (B 50 18)) hc hfA (fB_56 (fB_50 (fB_50 fB_id (by omega)) (by omega))) ?_ ?_ ?_
        · rw [xu_c (by omega), xu_k (by omega), xu_s]
        · rw [xu_c (by omega), xu_s]; exact Or.inl rfl
        · intro N R o hR
          refine lo203s (s := A 6 i) hr (mtx hT) (by rw [mx_r (by omega)]) hx (by rw [mx_r (by omega)]; exact hf) w2 hh (by rw [mx_r (by omega)]; omega) (by rw [mx_r (by omega), mx_r (by omega)]; omega) (fun a b => absurd ⟨a, b⟩ g1) (fun a b q => absurd ⟨a, b, q⟩ g2) (fun a b q r => absurd ⟨a, b, q, r⟩ g3) (fun _ _ _ o => ?_)
          rw [mx_up (by omega)]
          refine lo203x hr (by omega) (Or.inl rfl) (by rw [mx_r (by omega), xu_k (by omega)]; exact Or.inl hf) hh (by rw [mx_r (by omega), xu_k (by omega)]; omega) (fun _ => ?_) (fun _ q1 q2 => absurd ⟨by omega, q2⟩ z)
          rw [mx_r (by omega), xu_k (by omega), mx_up (by omega), mx_up (by omega)]
          exact hR
    -- no error so far: the class's loop
    refine rg130r8r4r14_18 ⟨⟨by omega, by omega⟩, fun _ => by omega, fun _ => ⟨by omega, fun q => by omega, fun _ => sp188 hc (xq_ki ⟨by omega, ⟨fun g => ?_, fun g => ?_, fun g => ?_, fun g => ?_, trivial⟩, fun g => ?_⟩)⟩⟩
    · -- a number
      have hi : i < m := by
        by_cases q : i = m
        · have := k.2.2.1 q; omega
        · omega
      obtain ⟨k1, k2, k3, k4, k5, k6, k7⟩ := k.2.2.2 hi
      have kk : x_kn (t (A 6 i)) = 2 := by omega
      have v := k5.1 kk
      have un := fun a b => te_one (e := a) (e' := b) hT0 s0.1
      refine sp131_14 hc hi g hr w1 w2 w3 (fun al rm => xq_ki ?_) (fun z => xq_ki ?_)
      · have hc1 : x_cur (xm_up (xm_up (if x_sum (A 10) 0 (D + 1) < 400 then xm_up A 15 (row * 400 + x_sum (A 10) 0 (D + 1)) (A 7 i) else A) 10 D (A 10 D + 1)) 4 4 (i + 1)) t n m E (i + 1) := by
          refine cur_next (cur_keep hc ?_ ?_ ?_ ?_) hi
          all_goals
            rw [xu_c (by omega)]
            split
            · rw [xu_c (by omega)]
            · rfl
        have e8 : xm_up (xm_up (if x_sum (A 10) 0 (D + 1) < 400 then xm_up A 15 (row * 400 + x_sum (A 10) 0 (D + 1)) (A 7 i) else A) 10 D (A 10 D + 1)) 4 4 (i + 1) 8 = A 8 := by
          rw [xu_c (by omega), xu_c (by omega)]; split; rw [xu_c (by omega)]; rfl
        have e10 : ∀ j : Int, xm_up (xm_up (if x_sum (A 10) 0 (D + 1) < 400 then xm_up A 15 (row * 400 + x_sum (A 10) 0 (D + 1)) (A 7 i) else A) 10 D (A 10 D + 1)) 4 4 (i + 1) 10 j = if j = D then A 10 D + 1 else A 10 j := fun j => by
          rw [xu_c (by omega)]
          by_cases q : j = D
          · rw [if_pos q, q, xu_s]
          · rw [if_neg q, xu_k q]; split; rw [xu_c (by omega)]; rfl
        have enu : ∀ j : Int, xm_up (xm_up (if x_sum (A 10) 0 (D + 1) < 400 then xm_up A 15 (row * 400 + x_sum (A 10) 0 (D + 1)) (A 7 i) else A) 10 D (A 10 D + 1)) 4 4 (i + 1) 15 j = if x_sum (A 10) 0 (D + 1) < 400 ∧ j = row * 400 + x_sum (A 10) 0 (D + 1) then A 7 i else A 15 j := fun j => by
          rw [xu_c (by omega), xu_c (by omega)]
          by_cases q : x_sum (A 10) 0 (D + 1) < 400
          · rw [if_pos q]
            by_cases q2 : j = row * 400 + x_sum (A 10) 0 (D + 1)
            · rw [if_pos ⟨q, q2⟩, q2, xu_s]
            · rw [if_neg (fun z => q2 z.2), xu_k q2]
          · rw [if_neg q, if_neg (fun z => q z.1)]
        have eoth : ∀ q : Nat, q ≠ 4 → q ≠ 10 → q ≠ 15 → xm_up (xm_up (if x_sum (A 10) 0 (D + 1) < 400 then xm_up A 15 (row * 400 + x_sum (A 10) 0 (D + 1)) (A 7 i) else A) 10 D (A 10 D + 1)) 4 4 (i + 1) q = A q := fun q a b z => by
          rw [xu_c a, xu_c b]; split; rw [xu_c z]; rfl
        have e4 : ∀ j : Int, j ≠ 4 → xm_up (xm_up (if x_sum (A 10) 0 (D + 1) < 400 then xm_up A 15 (row * 400 + x_sum (A 10) 0 (D + 1)) (A 7 i) else A) 10 D (A 10 D + 1)) 4 4 (i + 1) 4 j = A 4 j := fun j a => by
          rw [xu_k a, xu_c (by omega)]; split; rw [xu_c (by omega)]; rfl
        generalize xm_up (xm_up (if x_sum (A 10) 0 (D + 1) < 400 then xm_up A 15 (row * 400 + x_sum (A 10) 0 (D + 1)) (A 7 i) else A) 10 D (A 10 D + 1)) 4 4 (i + 1) = A1 at *
        have e6 : A1 6 = A 6 := eoth 6 (by omega) (by omega) (by omega)
        have esum : x_sum (A1 10) 0 D = x_sum (A 10) 0 D := x_sum_ext (fun j hj => by rw [e10, if_neg (by omega)])
        have y18 : y_tk (xm_up B 50 10 (A 6 i)) (A 7 i) (E i) 50 18 = B 50 18 + 1 := by
          unfold y_tk
          rw [xu_k (by omega), xu_s, xu_k (by omega)]
        have y57 : ∀ j : Int, y_tk (xm_up B 50 10 (A 6 i)) (A 7 i) (E i) 57 j = if j = B 50 18 then A 7 i else B 57 j := fun j => by
          unfold y_tk
          rw [xu_c (by omega), xu_c (by omega), xu_k (k' := 18) (by omega)]
          by_cases q : j = B 50 18
          · rw [if_pos q, q, xu_s]
          · rw [if_neg q, xu_k q, xu_c (by omega)]
        have y58 : y_tk (xm_up B 50 10 (A 6 i)) (A 7 i) (E i) 58 = B 58 := by
          unfold y_tk
          rw [xu_c (by omega), xu_c (by omega), xu_c (by omega), xu_c (by omega)]
        have y10 : y_tk (xm_up B 50 10 (A 6 i)) (A 7 i) (E i) 50 10 = E i := by unfold y_tk; rw [xu_s]
        have y11 : y_tk (xm_up B 50 10 (A 6 i)) (A 7 i) (E i) 50 11 = 0 := by
          unfold y_tk
          rw [xu_k (by omega), xu_k (by omega), xu_c (by omega), xu_k (by omega)]; exact hf
        have yT : y_txt (y_tk (xm_up B 50 10 (A 6 i)) (A 7 i) (E i)) t n := by
          unfold y_tk
          exact ytx_up (ytx_up (ytx_up (ytx_up hT ⟨by omega, fun _ => by omega⟩) ⟨by omega, fun _ => by omega⟩) ⟨by omega, fun _ => by omega⟩) ⟨by omega, fun _ => by omega⟩
        have yF : x_fB row B (y_tk (xm_up B 50 10 (A 6 i)) (A 7 i) (E i)) := by
          unfold y_tk
          exact fB_50 (fB_50 (fB_57 (fB_50 fB_id (by omega)) (by omega)) (by omega)) (by omega)
        have hgo2 : ∀ B' : xm_Mem, y_go e row D 1 (y_tk (xm_up B 50 10 (A 6 i)) (A 7 i) (E i)) B' → y_go e row D hs B B' := fun B' hb N R o hR => by
          refine lo203s (s := A 6 i) hr (mtx hT) (by rw [mx_r (by omega)]) hx (by rw [mx_r (by omega)]; exact hf) w2 hh (by rw [mx_r (by omega)]; omega) (by rw [mx_r (by omega), mx_r (by omega)]; omega) (fun _ _ => ⟨E i, k3, fun _ _ o => ?_, fun z => absurd ⟨by rw [← v]; exact al, by rw [mx_r (by omega), mx_r (by omega)]; omega⟩ z⟩) (fun a b q => by rw [b] at kk; exact absurd kk (by decide)) (fun a b q r => by rw [b] at kk; exact absurd kk (by decide)) (fun z => absurd ⟨k1, kk⟩ z)
          have := hb N R o hR
          rw [← v]
          have em : y_tk (xm_up (x_mx N B) 50 10 (A 6 i)) (A 7 i) (E i) = x_mx N (y_tk (xm_up B 50 10 (A 6 i)) (A 7 i) (E i)) := by
            unfold y_tk
            rw [mx_up (by omega), mx_r (by omega), mx_up (by omega), mx_up (by omega), mx_up (by omega)]
          rw [em]
          exact this
        generalize y_tk (xm_up B 50 10 (A 6 i)) (A 7 i) (E i) = B1 at *
        have gp := k7
        have k' := cur_tok hc1
        rw [e6] at k'
        have kc' : A 6 (i + 1) < n → t (A 6 (i + 1)) ≠ 32 := fun q => by
          by_cases z : i + 1 = m
          · have := (k'.2.2.1 z).2; omega
          · exact (k'.2.2.2 (by omega)).2.1
        refine ih A1 B1 (i + 1) 1 (x5 + 1) D (by omega) (by omega) hc1 yT y11 ?_ ⟨by rw [e8]; exact w1, w2, fun j hj => ?_, fun j hj => ?_, ?_, ?_, fun q q1 q2 => ?_⟩ (fA_tr hfA ⟨fun q a b z f _ _ => eoth q a z f, fun j hj => ?_, fun j _ => by rw [eoth 16 (by omega) (by omega) (by omega)], fun j _ => by rw [eoth 14 (by omega) (by omega) (by omega)], e4⟩) (by rw [eoth 16 (by omega) (by omega) (by omega)]; exact hle) (by rw [eoth 14 (by omega) (by omega) (by omega)]; exact hcc) (fB_tr hfB yF) (fun B' hb => hgo B' (hgo2 B' hb))
        · rw [y10, e6]
          have := k3.1
          exact ⟨by omega, gp, k'.1.2, kc'⟩
        · rw [e10]
          split
          · omega
          · exact w3 j hj
        · rw [y58, w4 j hj]
          exact (x_sum_ext (fun q hq => by rw [e10, if_neg (by omega)])).symm
        · rw [y18, w5, x_sum_1, x_sum_1, esum, e10, if_pos rfl]; omega
        · rw [e10, if_pos rfl, if_pos (by omega)]
        · rw [y18] at q2
          rw [y57, enu, ← w5]
          by_cases z : q = B 50 18
          · rw [if_pos z]
            refine ⟨fun q4 => ?_, al⟩
            rw [if_pos ⟨by omega, by omega⟩]
          · rw [if_neg z, if_neg (by omega)]
            exact w7 q q1 (by omega)
        · rw [enu, if_neg (by omega)]
      · -- refused
        have ef : ∀ N : xm_Mem, y_ft (xm_up (x_mx N B) 50 10 (A 6 i)) (A 6 i) = x_mx N (xm_up (xm_up B 50 10 (A 6 i)) 50 11 1) := fun N => by
          unfold y_ft
          rw [xu_u, mx_up (by omega), mx_up (by omega)]
        refine rg130r8r4r14_18 ⟨⟨by omega, by omega⟩, fun _ => ⟨Or.inl rfl, ?_⟩, fun _ => ⟨by omega, fun _ => ⟨Or.inl rfl, ?_⟩, fun q => absurd rfl q⟩⟩
        all_goals
          refine err A i (xm_up (xm_up (xm_up B 50 10 (A 6 i)) 50 11 1) 56 row (B 50 18)) hc hfA (fB_56 (fB_50 (fB_50 fB_id (by omega)) (by omega))) ?_ ?_ ?_
          · rw [xu_c (by omega), xu_k (by omega), xu_s]
          · rw [xu_c (by omega), xu_s]; exact Or.inl rfl
          · intro N R o hR
            refine lo203s (s := A 6 i) hr (mtx hT) (by rw [mx_r (by omega)]) hx (by rw [mx_r (by omega)]; exact hf) w2 hh (by rw [mx_r (by omega)]; omega) (by rw [mx_r (by omega), mx_r (by omega)]; omega) (fun _ _ => ⟨E i, k3, fun a1 a2 o => absurd ⟨by rw [v]; exact a1, by rw [mx_r (by omega), mx_r (by omega)] at a2; omega⟩ z, fun _ o => ?_⟩) (fun a b q => by rw [b] at kk; exact absurd kk (by decide)) (fun a b q r => by rw [b] at kk; exact absurd kk (by decide)) (fun z => absurd ⟨k1, kk⟩ z)
            rw [ef]
            refine lo203x hr (by omega) (Or.inr ⟨rfl, by rw [mx_r (by omega), xu_s]⟩) (by rw [mx_r (by omega), xu_s]; exact Or.inr rfl) (Or.inr rfl) (by rw [mx_r (by omega), xu_k (by omega), xu_k (by omega)]; omega) (fun _ => ?_) (fun q => by rw [mx_r (by omega), xu_s] at q; omega)
            have e1 : x_mx N (xm_up (xm_up B 50 10 (A 6 i)) 50 11 1) 50 18 = B 50 18 := by rw [mx_r (by omega), xu_k (by omega), xu_k (by omega)]
            rw [e1, mx_up (by omega), xu_u, mx_up (by omega)]
            exact hR
    · sorry
    · sorry
    · sorry
    · sorry
end LR
