/-! a row is read in lockstep -/
/-- in the midst of a row -/
def x_rw (nu : Int → Int) (A B : xm_Mem) (row : Int) (D : Nat) (hs : Int) : Prop :=
  A 8 1 = D ∧ D ≤ 4 ∧ (∀ j : Nat, j ≤ D → 0 ≤ A 10 j ∧ A 10 j ≤ 400) ∧ (∀ j : Nat, j ≤ D → B 58 j = x_sum (A 10) 0 j) ∧ B 50 18 = x_sum (A 10) 0 (D + 1) ∧ (hs = if 1 ≤ A 10 D then 1 else 0) ∧
  ∀ k : Int, 0 ≤ k → k < B 50 18 → (k < 400 → nu (row * 400 + k) = B 57 k) ∧ x_alw row (B 57 k)
def x_fA (nu le c : Nat) (row : Int) (A A' : xm_Mem) : Prop :=
  (∀ q : Nat, q ≠ 4 → q ≠ 8 → q ≠ 10 → q ≠ nu → q ≠ le → q ≠ c → A' q = A q) ∧ (∀ k : Int, ¬ (row * 400 ≤ k ∧ k < row * 400 + 400) → A' nu k = A nu k) ∧ (∀ k : Int, k ≠ row → A' le k = A le k) ∧ (∀ k : Int, k ≠ 5 → A' c k = A c k) ∧ ∀ k : Int, k ≠ 4 → A' 4 k = A 4 k
def x_fB (row : Int) (B B' : xm_Mem) : Prop :=
  (∀ q : Nat, q ≠ 50 → q ≠ 55 → q ≠ 56 → q ≠ 57 → q ≠ 58 → B' q = B q) ∧ (∀ k : Int, k ≠ 10 → k ≠ 11 → k ≠ 18 → B' 50 k = B 50 k) ∧ (∀ k : Int, ¬ (400 * row ≤ k ∧ k < 400 * row + 400) → B' 55 k = B 55 k) ∧ ∀ k : Int, k ≠ row → B' 56 k = B 56 k
theorem fA_tr {nu le c : Nat} {row : Int} {A A1 A2 : xm_Mem} (h1 : x_fA nu le c row A A1) (h2 : x_fA nu le c row A1 A2) : x_fA nu le c row A A2 := by
  obtain ⟨a1, a2, a3, a4, a5⟩ := h1
  obtain ⟨b1, b2, b3, b4, b5⟩ := h2
  exact ⟨fun q x1 x2 x3 x4 x5 x6 => (b1 q x1 x2 x3 x4 x5 x6).trans (a1 q x1 x2 x3 x4 x5 x6), fun k x => (b2 k x).trans (a2 k x), fun k x => (b3 k x).trans (a3 k x), fun k x => (b4 k x).trans (a4 k x), fun k x => (b5 k x).trans (a5 k x)⟩
theorem fB_tr {row : Int} {A A1 A2 : xm_Mem} (h1 : x_fB row A A1) (h2 : x_fB row A1 A2) : x_fB row A A2 := by
  obtain ⟨a1, a2, a3, a4⟩ := h1
  obtain ⟨b1, b2, b3, b4⟩ := h2
  exact ⟨fun q x1 x2 x3 x4 x5 => (b1 q x1 x2 x3 x4 x5).trans (a1 q x1 x2 x3 x4 x5), fun k x1 x2 x3 => (b2 k x1 x2 x3).trans (a2 k x1 x2 x3), fun k x => (b3 k x).trans (a3 k x), fun k x => (b4 k x).trans (a4 k x)⟩
theorem fB_id {row : Int} {A : xm_Mem} : x_fB row A A := ⟨fun _ _ _ _ _ _ => rfl, fun _ _ _ _ => rfl, fun _ _ => rfl, fun _ _ => rfl⟩
theorem fA_id {nu le c : Nat} {row : Int} {A : xm_Mem} : x_fA nu le c row A A := ⟨fun _ _ _ _ _ _ _ => rfl, fun _ _ => rfl, fun _ _ => rfl, fun _ _ => rfl, fun _ _ => rfl⟩
theorem fB_50 {row k v : Int} {A A1 : xm_Mem} (h1 : x_fB row A A1) (hk : k = 10 ∨ k = 11 ∨ k = 18) : x_fB row A (xm_up A1 50 k v) := by
  obtain ⟨a1, a2, a3, a4⟩ := h1
  refine ⟨fun q x1 x2 x3 x4 x5 => ?_, fun j x1 x2 x3 => ?_, fun j x => ?_, fun j x => ?_⟩
  · rw [xu_c x1]; exact a1 q x1 x2 x3 x4 x5
  · rw [xu_k (by omega)]; exact a2 j x1 x2 x3
  · rw [xu_c (by omega)]; exact a3 j x
  · rw [xu_c (by omega)]; exact a4 j x
theorem fB_57 {row k v : Int} {c : Nat} {A A1 : xm_Mem} (h1 : x_fB row A A1) (hc : c = 57 ∨ c = 58) : x_fB row A (xm_up A1 c k v) := by
  obtain ⟨a1, a2, a3, a4⟩ := h1
  refine ⟨fun q x1 x2 x3 x4 x5 => ?_, fun j x1 x2 x3 => ?_, fun j x => ?_, fun j x => ?_⟩
  · rw [xu_c (by omega)]; exact a1 q x1 x2 x3 x4 x5
  · rw [xu_c (by omega)]; exact a2 j x1 x2 x3
  · rw [xu_c (by omega)]; exact a3 j x
  · rw [xu_c (by omega)]; exact a4 j x
theorem fB_56 {row v : Int} {A A1 : xm_Mem} (h1 : x_fB row A A1) : x_fB row A (xm_up A1 56 row v) := by
  obtain ⟨a1, a2, a3, a4⟩ := h1
  refine ⟨fun q x1 x2 x3 x4 x5 => ?_, fun j x1 x2 x3 => ?_, fun j x => ?_, fun j x => ?_⟩
  · rw [xu_c x3]; exact a1 q x1 x2 x3 x4 x5
  · rw [xu_c (by omega)]; exact a2 j x1 x2 x3
  · rw [xu_c (by omega)]; exact a3 j x
  · rw [xu_k x]; exact a4 j x
theorem fB_rp {row many : Int} {A A1 : xm_Mem} (h1 : x_fB row A A1) : ∀ K : Nat, x_fB row A (y_rp A1 many K)
  | 0 => h1
  | K + 1 => by
    rw [y_rp]
    exact fB_50 (fB_57 (fB_rp h1 K) (Or.inl rfl)) (by omega)
theorem fB_cy {row : Int} {A A1 : xm_Mem} (h1 : x_fB row A A1) : ∀ K : Nat, K ≤ 400 → x_fB row A (y_cy A1 row K)
  | 0, _ => h1
  | K + 1, hK => by
    obtain ⟨a1, a2, a3, a4⟩ := fB_cy h1 K (by omega)
    rw [y_cy]
    refine ⟨fun q x1 x2 x3 x4 x5 => ?_, fun j x1 x2 x3 => ?_, fun j x => ?_, fun j x => ?_⟩
    · rw [xu_c x2]; exact a1 q x1 x2 x3 x4 x5
    · rw [xu_c (by omega)]; exact a2 j x1 x2 x3
    · rw [xu_k (by omega)]; exact a3 j x
    · rw [xu_c (by omega)]; exact a4 j x
theorem x_sum_ext {f g : Int → Int} {n : Nat} (h : ∀ j : Nat, j < n → f j = g j) : x_sum f 0 n = x_sum g 0 n := x_sum_congr n 0 (fun s a b => by
  have := h s.toNat (by omega)
  rw [show ((s.toNat : Nat) : Int) = s by omega] at this
  exact this)
theorem x_sum_1 (f : Int → Int) (n : Nat) : x_sum f 0 (n + 1) = x_sum f 0 n + f n := by
  rw [x_sum, show (0 : Int) + (n : Int) = n by omega]
/-- the reference comes from B (at the loop's head) to B' (at the method's end) -/
def y_go (d : Nat) (row D hs : Int) (B B' : xm_Mem) : Prop := ∀ (N : xm_Mem) (R : xm_K) (o : Option xm_V), R [] (x_mx N B') → wp203r50_19 (xm_call true (d + 5)) R row D 1 hs o (x_mx N B)
theorem mtx {N B : xm_Mem} {t : Int → Int} {n : Int} (h : y_txt B t n) : y_txt (x_mx N B) t n := by
  unfold y_txt
  rw [mx_r (by omega), mx_r (by omega)]
  exact h
theorem mx_rp {N B : xm_Mem} {many : Int} : ∀ K : Nat, y_rp (x_mx N B) many K = x_mx N (y_rp B many K)
  | 0 => rfl
  | K + 1 => by
    rw [y_rp, mx_rp K, y_rp, mx_r (by omega), mx_r (by omega), mx_up (by omega), mx_up (by omega)]
theorem mx_cy {N B : xm_Mem} {row : Int} : ∀ K : Nat, y_cy (x_mx N B) row K = x_mx N (y_cy B row K)
  | 0 => rfl
  | K + 1 => by
    rw [y_cy, mx_cy K, y_cy, mx_r (by omega), mx_up (by omega)]
theorem kn_3 {c : Int} (h : x_kn c = 3) : c = 40 := by
  unfold x_kn at h
  split at h
  · omega
  · split at h
    · omega
    · split at h
      · omega
      · split at h
        · omega
        · split at h
          · omega
          · split at h <;> omega
theorem kn_4 {c : Int} (h : x_kn c = 4) : c = 41 := by
  unfold x_kn at h
  split at h
  · omega
  · split at h
    · omega
    · split at h
      · omega
      · split at h
        · omega
        · split at h
          · omega
          · split at h <;> omega
theorem kn_5 {c : Int} (h : x_kn c = 5) : c = 59 := by
  unfold x_kn at h
  split at h
  · omega
  · split at h
    · omega
    · split at h
      · omega
      · split at h
        · omega
        · split at h
          · omega
          · split at h <;> omega
section LR
variable {d : Nat} {Q : xm_K} {t : Int → Int} {n m : Int} {E : Int → Int}
theorem lo130_11 {row : Int} (hr : 0 ≤ row ∧ row ≤ 4) {A0 B0 : xm_Mem} {e : Nat} {D0 hs0 i0 : Int}
    (h1 : ∀ (A' B' : xm_Mem) (i' : Int), x_cur A' t n m E i' → i' ≤ m → 1 ≤ i' ∧ i0 < i' → A' 5 (i' - 1) = 5 → x_fA 12 13 11 row A0 A' → x_fB row B0 B' → (1 ≤ A' 13 row ∧ A' 13 row ≤ 400) → (row = 4 → A' 11 5 = A0 11 5) → (row ≠ 4 → A' 11 5 = row + 1) → B' 56 row = A' 13 row → (∀ k : Int, 0 ≤ k → k < A' 13 row → A' 12 (row * 400 + k) = B' 55 (400 * row + k) ∧ x_alw row (B' 55 (400 * row + k))) → B' 50 11 = 0 → B' 50 10 = A' 6 (i' - 1) → y_go e row D0 hs0 B0 B' → Q [.inl 1] A')
    (h0 : ∀ (A' B' : xm_Mem) (i' : Int), x_cur A' t n m E i' → x_fA 12 13 11 row A0 A' → x_fB row B0 B' → B' 50 10 = A' 6 i' → (B' 50 11 = 1 ∨ B' 50 11 = 0 ∧ A' 5 i' ≠ 5) → y_go e row D0 hs0 B0 B' → Q [.inl 0] A') :
    ∀ (fuel : Nat) (A B : xm_Mem) (i hs x5 : Int) (D : Nat), m - i < fuel → 0 ≤ x5 ∧ x5 ≤ i ∧ i0 ≤ i → x_cur A t n m E i → y_txt B t n → B 50 11 = 0 → y_nx t n (B 50 10) (A 6 i) → x_rw (A 12) A B row D hs → x_fA 12 13 11 row A0 A → A 13 = A0 13 → A 11 = A0 11 → x_fB row B0 B → (∀ B' : xm_Mem, y_go e row D hs B B' → y_go e row D0 hs0 B0 B') → wp130r8r4r11_18 (xm_call true (d + 3)) Q row 1 x5 A := by
  intro fuel
  induction fuel with
  | zero =>
    intro A B i hs x5 D hfu _ hc
    have := hc.2.2.2.2
    omega
  | succ fuel ih =>
    intro A B i hs x5 D hfu hx5 hc hT hf hx hrw hfA hle hcc hfB hgo
    obtain ⟨w1, w2, w3, w4, w5, w6, w7⟩ := id hrw
    have k := cur_tok hc
    have im := hc.2.2.2.2
    have ipos := hc.2.2.2.1
    have m2 := hc.2.1.2.1.2
    have hT0 := hc.1
    have sb := sum_bd w2 w3
    have wD := w3 D (Nat.le_refl _)
    have h58 : B 50 18 - B 58 D = A 10 D := by rw [w5, w4 D (Nat.le_refl _), x_sum_1]; omega
    have hh : hs = 0 ∨ hs = 1 := by rw [w6]; split <;> omega
    have s0 := k.1
    -- the class ends with 0 at the cursor: the reference leaves its loop
    have err : ∀ (A' : xm_Mem) (i' : Int) (B' : xm_Mem), x_cur A' t n m E i' → x_fA 12 13 11 row A0 A' → x_fB row B B' → B' 50 10 = A' 6 i' → (B' 50 11 = 1 ∨ B' 50 11 = 0 ∧ A' 5 i' ≠ 5) → y_go e row D hs B B' → Q [.inl 0] A' := fun A' i' B' a1 a2 a3 a4 a5 a6 => h0 A' B' i' a1 a2 (fB_tr hfB a3) a4 a5 (hgo B' a6)
    -- the reference's way out at an odd token
    have out : ¬ (A 6 i < n ∧ x_kn (t (A 6 i)) = 2) → ¬ (A 6 i < n ∧ t (A 6 i) = 40 ∧ D < 4) → ¬ (A 6 i < n ∧ t (A 6 i) = 41 ∧ 1 ≤ D ∧ hs = 1) → ((D = 0 ∧ hs = 1) → A 5 i ≠ 5) → Q [.inl 0] A := fun g1 g2 g3 g4 => by
      by_cases z : D = 0 ∧ hs = 1
      · have le4 : B 50 18 ≤ 400 := by
          rw [w5, z.1]
          have := w3 0 (by omega)
          rw [x_sum_1]
          simp only [x_sum]
          rw [z.1] at wD
          omega
        have ek : B 50 18 = ((B 50 18).toNat : Int) := by omega
        refine err A i (xm_up (y_cy (xm_up B 50 10 (A 6 i)) row (B 50 18).toNat) 56 row ((B 50 18).toNat : Int)) hc hfA (fB_56 (fB_cy (fB_50 fB_id (by omega)) _ (by omega))) ?_ ?_ ?_
        · rw [xu_c (by omega), cy_c (by omega), xu_s]
        · rw [xu_c (by omega), cy_c (by omega), xu_k (by omega)]
          exact Or.inr ⟨hf, g4 z⟩
        · intro N R o hR
          refine lo203s (s := A 6 i) hr (mtx hT) (by rw [mx_r (by omega)]) hx (by rw [mx_r (by omega)]; exact hf) w2 hh (by rw [mx_r (by omega)]; omega) (by rw [mx_r (by omega), mx_r (by omega)]; omega) (fun a b => absurd ⟨a, b⟩ g1) (fun a b q => absurd ⟨a, b, q⟩ g2) (fun a b q r => absurd ⟨a, b, q, r⟩ g3) (fun _ _ _ o => ?_)
          rw [mx_up (by omega)]
          refine lo203x hr (by omega) (Or.inl rfl) (by rw [mx_r (by omega), xu_k (by omega)]; exact Or.inl hf) hh (by rw [mx_r (by omega), xu_k (by omega)]; omega) (fun q => ?_) (fun _ _ _ => ⟨by rw [mx_r (by omega), xu_k (by omega)]; exact le4, fun K hK => ?_⟩)
          · rw [mx_r (by omega), xu_k (by omega), hf] at q
            omega
          · rw [mx_r (by omega), xu_k (by omega)] at hK
            have : K = (B 50 18).toNat := by omega
            rw [mx_cy, mx_up (by omega), this]
            exact hR
      · refine err A i (xm_up (xm_up (xm_up B 50 10 (A 6 i)) 50 11 1) 56 row (B 50 18)) hc hfA (fB_56 (fB_50 (fB_50 fB_id (by omega)) (by omega))) ?_ ?_ ?_
        · rw [xu_c (by omega), xu_k (by omega), xu_s]
        · rw [xu_c (by omega), xu_s]; exact Or.inl rfl
        · intro N R o hR
          refine lo203s (s := A 6 i) hr (mtx hT) (by rw [mx_r (by omega)]) hx (by rw [mx_r (by omega)]; exact hf) w2 hh (by rw [mx_r (by omega)]; omega) (by rw [mx_r (by omega), mx_r (by omega)]; omega) (fun a b => absurd ⟨a, b⟩ g1) (fun a b q => absurd ⟨a, b, q⟩ g2) (fun a b q r => absurd ⟨a, b, q, r⟩ g3) (fun _ _ _ o => ?_)
          rw [mx_up (by omega)]
          refine lo203x hr (by omega) (Or.inl rfl) (by rw [mx_r (by omega), xu_k (by omega)]; exact Or.inl hf) hh (by rw [mx_r (by omega), xu_k (by omega)]; omega) (fun _ => ?_) (fun _ q1 q2 => absurd ⟨by omega, q2⟩ z)
          rw [mx_r (by omega), xu_k (by omega), mx_up (by omega), mx_up (by omega)]
          exact hR
    have stop : Q [.inl 0] A → wp130r8r4r11_18 (xm_call true (d + 3)) Q row 0 (x5 + 1) A := fun z => rg130r8r4r11_18 ⟨⟨by omega, by omega⟩, fun _ => ⟨Or.inl rfl, z⟩, fun _ => ⟨by omega, fun _ => ⟨Or.inl rfl, z⟩, fun q => absurd rfl q⟩⟩
    have stop2 : Q [.inl 0] (xm_up A 4 4 (i + 1)) → wp130r8r4r11_18 (xm_call true (d + 3)) Q row 0 (x5 + 1) (xm_up A 4 4 (i + 1)) := fun z => rg130r8r4r11_18 ⟨⟨by omega, by omega⟩, fun _ => ⟨Or.inl rfl, z⟩, fun _ => ⟨by omega, fun _ => ⟨Or.inl rfl, z⟩, fun q => absurd rfl q⟩⟩
    -- no error so far: the class's loop
    refine rg130r8r4r11_18 ⟨⟨by omega, by omega⟩, fun _ => by omega, fun _ => ⟨by omega, fun q => by omega, fun _ => sp188 hc (xq_ki ⟨by omega, ⟨fun g => ?_, fun g => ?_, fun g => ?_, fun g => ?_, trivial⟩, fun g => ?_⟩)⟩⟩
    · -- a number
      have hi : i < m := by
        by_cases q : i = m
        · have := k.2.2.1 q; omega
        · omega
      obtain ⟨k1, k2, k3, k4, k5, k6, k7⟩ := k.2.2.2 hi
      have kk : x_kn (t (A 6 i)) = 2 := by omega
      have v := k5.1 kk
      have un := fun a b => te_one (e := a) (e' := b) hT0 s0.1
      refine sp131_11 hc hi g hr w1 w2 w3 (fun al rm => xq_ki ?_) (fun z => xq_ki ?_)
      · have hc1 : x_cur (xm_up (xm_up (if x_sum (A 10) 0 (D + 1) < 400 then xm_up A 12 (row * 400 + x_sum (A 10) 0 (D + 1)) (A 7 i) else A) 10 D (A 10 D + 1)) 4 4 (i + 1)) t n m E (i + 1) := by
          refine cur_next (cur_keep hc ?_ ?_ ?_ ?_) hi
          all_goals
            rw [xu_c (by omega)]
            split
            · rw [xu_c (by omega)]
            · rfl
        have e8 : xm_up (xm_up (if x_sum (A 10) 0 (D + 1) < 400 then xm_up A 12 (row * 400 + x_sum (A 10) 0 (D + 1)) (A 7 i) else A) 10 D (A 10 D + 1)) 4 4 (i + 1) 8 = A 8 := by
          rw [xu_c (by omega), xu_c (by omega)]; split; rw [xu_c (by omega)]; rfl
        have e10 : ∀ j : Int, xm_up (xm_up (if x_sum (A 10) 0 (D + 1) < 400 then xm_up A 12 (row * 400 + x_sum (A 10) 0 (D + 1)) (A 7 i) else A) 10 D (A 10 D + 1)) 4 4 (i + 1) 10 j = if j = D then A 10 D + 1 else A 10 j := fun j => by
          rw [xu_c (by omega)]
          by_cases q : j = D
          · rw [if_pos q, q, xu_s]
          · rw [if_neg q, xu_k q]; split; rw [xu_c (by omega)]; rfl
        have enu : ∀ j : Int, xm_up (xm_up (if x_sum (A 10) 0 (D + 1) < 400 then xm_up A 12 (row * 400 + x_sum (A 10) 0 (D + 1)) (A 7 i) else A) 10 D (A 10 D + 1)) 4 4 (i + 1) 12 j = if x_sum (A 10) 0 (D + 1) < 400 ∧ j = row * 400 + x_sum (A 10) 0 (D + 1) then A 7 i else A 12 j := fun j => by
          rw [xu_c (by omega), xu_c (by omega)]
          by_cases q : x_sum (A 10) 0 (D + 1) < 400
          · rw [if_pos q]
            by_cases q2 : j = row * 400 + x_sum (A 10) 0 (D + 1)
            · rw [if_pos ⟨q, q2⟩, q2, xu_s]
            · rw [if_neg (fun z => q2 z.2), xu_k q2]
          · rw [if_neg q, if_neg (fun z => q z.1)]
        have eoth : ∀ q : Nat, q ≠ 4 → q ≠ 10 → q ≠ 12 → xm_up (xm_up (if x_sum (A 10) 0 (D + 1) < 400 then xm_up A 12 (row * 400 + x_sum (A 10) 0 (D + 1)) (A 7 i) else A) 10 D (A 10 D + 1)) 4 4 (i + 1) q = A q := fun q a b z => by
          rw [xu_c a, xu_c b]; split; rw [xu_c z]; rfl
        have e4 : ∀ j : Int, j ≠ 4 → xm_up (xm_up (if x_sum (A 10) 0 (D + 1) < 400 then xm_up A 12 (row * 400 + x_sum (A 10) 0 (D + 1)) (A 7 i) else A) 10 D (A 10 D + 1)) 4 4 (i + 1) 4 j = A 4 j := fun j a => by
          rw [xu_k a, xu_c (by omega)]; split; rw [xu_c (by omega)]; rfl
        generalize xm_up (xm_up (if x_sum (A 10) 0 (D + 1) < 400 then xm_up A 12 (row * 400 + x_sum (A 10) 0 (D + 1)) (A 7 i) else A) 10 D (A 10 D + 1)) 4 4 (i + 1) = A1 at *
        have e6 : A1 6 = A 6 := eoth 6 (by omega) (by omega) (by omega)
        have esum : x_sum (A1 10) 0 D = x_sum (A 10) 0 D := x_sum_ext (fun j hj => by rw [e10, if_neg (by omega)])
        have y18 : y_tk (xm_up B 50 10 (A 6 i)) (A 7 i) (E i) 50 18 = B 50 18 + 1 := by
          unfold y_tk
          rw [xu_k (by omega), xu_s, xu_k (by omega)]
        have y57 : ∀ j : Int, y_tk (xm_up B 50 10 (A 6 i)) (A 7 i) (E i) 57 j = if j = B 50 18 then A 7 i else B 57 j := fun j => by
          unfold y_tk
          rw [xu_c (by omega), xu_c (by omega), xu_k (k' := 18) (by omega)]
          by_cases q : j = B 50 18
          · rw [if_pos q, q, xu_s]
          · rw [if_neg q, xu_k q, xu_c (by omega)]
        have y58 : y_tk (xm_up B 50 10 (A 6 i)) (A 7 i) (E i) 58 = B 58 := by
          unfold y_tk
          rw [xu_c (by omega), xu_c (by omega), xu_c (by omega), xu_c (by omega)]
        have y10 : y_tk (xm_up B 50 10 (A 6 i)) (A 7 i) (E i) 50 10 = E i := by unfold y_tk; rw [xu_s]
        have y11 : y_tk (xm_up B 50 10 (A 6 i)) (A 7 i) (E i) 50 11 = 0 := by
          unfold y_tk
          rw [xu_k (by omega), xu_k (by omega), xu_c (by omega), xu_k (by omega)]; exact hf
        have yT : y_txt (y_tk (xm_up B 50 10 (A 6 i)) (A 7 i) (E i)) t n := by
          unfold y_tk
          exact ytx_up (ytx_up (ytx_up (ytx_up hT ⟨by omega, fun _ => by omega⟩) ⟨by omega, fun _ => by omega⟩) ⟨by omega, fun _ => by omega⟩) ⟨by omega, fun _ => by omega⟩
        have yF : x_fB row B (y_tk (xm_up B 50 10 (A 6 i)) (A 7 i) (E i)) := by
          unfold y_tk
          exact fB_50 (fB_50 (fB_57 (fB_50 fB_id (by omega)) (by omega)) (by omega)) (by omega)
        have hgo2 : ∀ B' : xm_Mem, y_go e row D 1 (y_tk (xm_up B 50 10 (A 6 i)) (A 7 i) (E i)) B' → y_go e row D hs B B' := fun B' hb N R o hR => by
          refine lo203s (s := A 6 i) hr (mtx hT) (by rw [mx_r (by omega)]) hx (by rw [mx_r (by omega)]; exact hf) w2 hh (by rw [mx_r (by omega)]; omega) (by rw [mx_r (by omega), mx_r (by omega)]; omega) (fun _ _ => ⟨E i, k3, fun _ _ o => ?_, fun z => absurd ⟨by rw [← v]; exact al, by rw [mx_r (by omega), mx_r (by omega)]; omega⟩ z⟩) (fun a b q => by rw [b] at kk; exact absurd kk (by decide)) (fun a b q r => by rw [b] at kk; exact absurd kk (by decide)) (fun z => absurd ⟨k1, kk⟩ z)
          have := hb N R o hR
          rw [← v]
          have em : y_tk (xm_up (x_mx N B) 50 10 (A 6 i)) (A 7 i) (E i) = x_mx N (y_tk (xm_up B 50 10 (A 6 i)) (A 7 i) (E i)) := by
            unfold y_tk
            rw [mx_up (by omega), mx_r (by omega), mx_up (by omega), mx_up (by omega), mx_up (by omega)]
          rw [em]
          exact this
        generalize y_tk (xm_up B 50 10 (A 6 i)) (A 7 i) (E i) = B1 at *
        have gp := k7
        have k' := cur_tok hc1
        rw [e6] at k'
        have kc' : A 6 (i + 1) < n → t (A 6 (i + 1)) ≠ 32 := fun q => by
          by_cases z : i + 1 = m
          · have := (k'.2.2.1 z).2; omega
          · exact (k'.2.2.2 (by omega)).2.1
        refine ih A1 B1 (i + 1) 1 (x5 + 1) D (by omega) (by omega) hc1 yT y11 ?_ ⟨by rw [e8]; exact w1, w2, fun j hj => ?_, fun j hj => ?_, ?_, ?_, fun q q1 q2 => ?_⟩ (fA_tr hfA ⟨fun q a b z f _ _ => eoth q a z f, fun j hj => ?_, fun j _ => by rw [eoth 13 (by omega) (by omega) (by omega)], fun j _ => by rw [eoth 11 (by omega) (by omega) (by omega)], e4⟩) (by rw [eoth 13 (by omega) (by omega) (by omega)]; exact hle) (by rw [eoth 11 (by omega) (by omega) (by omega)]; exact hcc) (fB_tr hfB yF) (fun B' hb => hgo B' (hgo2 B' hb))
        · rw [y10, e6]
          have := k3.1
          exact ⟨by omega, gp, k'.1.2, kc'⟩
        · rw [e10]
          split
          · omega
          · exact w3 j hj
        · rw [y58, w4 j hj]
          exact (x_sum_ext (fun q hq => by rw [e10, if_neg (by omega)])).symm
        · rw [y18, w5, x_sum_1, x_sum_1, esum, e10, if_pos rfl]; omega
        · rw [e10, if_pos rfl, if_pos (by omega)]
        · rw [y18] at q2
          rw [y57, enu, ← w5]
          by_cases z : q = B 50 18
          · rw [if_pos z]
            refine ⟨fun q4 => ?_, al⟩
            rw [if_pos ⟨by omega, by omega⟩]
          · rw [if_neg z, if_neg (by omega)]
            exact w7 q q1 (by omega)
        · rw [enu, if_neg (by omega)]
      · -- refused
        have ef : ∀ N : xm_Mem, y_ft (xm_up (x_mx N B) 50 10 (A 6 i)) (A 6 i) = x_mx N (xm_up (xm_up B 50 10 (A 6 i)) 50 11 1) := fun N => by
          unfold y_ft
          rw [xu_u, mx_up (by omega), mx_up (by omega)]
        refine rg130r8r4r11_18 ⟨⟨by omega, by omega⟩, fun _ => ⟨Or.inl rfl, ?_⟩, fun _ => ⟨by omega, fun _ => ⟨Or.inl rfl, ?_⟩, fun q => absurd rfl q⟩⟩
        all_goals
          refine err A i (xm_up (xm_up (xm_up B 50 10 (A 6 i)) 50 11 1) 56 row (B 50 18)) hc hfA (fB_56 (fB_50 (fB_50 fB_id (by omega)) (by omega))) ?_ ?_ ?_
          · rw [xu_c (by omega), xu_k (by omega), xu_s]
          · rw [xu_c (by omega), xu_s]; exact Or.inl rfl
          · intro N R o hR
            refine lo203s (s := A 6 i) hr (mtx hT) (by rw [mx_r (by omega)]) hx (by rw [mx_r (by omega)]; exact hf) w2 hh (by rw [mx_r (by omega)]; omega) (by rw [mx_r (by omega), mx_r (by omega)]; omega) (fun _ _ => ⟨E i, k3, fun a1 a2 o => absurd ⟨by rw [v]; exact a1, by rw [mx_r (by omega), mx_r (by omega)] at a2; omega⟩ z, fun _ o => ?_⟩) (fun a b q => by rw [b] at kk; exact absurd kk (by decide)) (fun a b q r => by rw [b] at kk; exact absurd kk (by decide)) (fun z => absurd ⟨k1, kk⟩ z)
            rw [ef]
            refine lo203x hr (by omega) (Or.inr ⟨rfl, by rw [mx_r (by omega), xu_s]⟩) (by rw [mx_r (by omega), xu_s]; exact Or.inr rfl) (Or.inr rfl) (by rw [mx_r (by omega), xu_k (by omega), xu_k (by omega)]; omega) (fun _ => ?_) (fun q => by rw [mx_r (by omega), xu_s] at q; omega)
            have e1 : x_mx N (xm_up (xm_up B 50 10 (A 6 i)) 50 11 1) 50 18 = B 50 18 := by rw [mx_r (by omega), xu_k (by omega), xu_k (by omega)]
            rw [e1, mx_up (by omega), xu_u, mx_up (by omega)]
            exact hR
    · -- a group opens
      have hi : i < m := by
        by_cases q : i = m
        · have := k.2.2.1 q; omega
        · omega
      obtain ⟨k1, k2, k3, k4, k5, k6, k7⟩ := k.2.2.2 hi
      have ts := kn_3 (c := t (A 6 i)) (by omega)
      have es : E i = A 6 i + 1 := k3.2.2.2 (by omega) (by omega)
      refine sp132 hc hi w1 w2 (fun d4 => xq_ki ?_) (fun d4 => xq_ki (stop ?_))
      · have hc1 : x_cur (xm_up (xm_up (xm_up A 8 1 ((D : Int) + 1)) 10 ((D : Int) + 1) 0) 4 4 (i + 1)) t n m E (i + 1) := by
          refine cur_next (cur_keep hc ?_ ?_ ?_ ?_) hi
          all_goals rw [xu_c (by omega), xu_c (by omega)]
        have k' := cur_tok hc1
        have e6 : xm_up (xm_up (xm_up A 8 1 ((D : Int) + 1)) 10 ((D : Int) + 1) 0) 4 4 (i + 1) 6 = A 6 := by rw [xu_c (by omega), xu_c (by omega), xu_c (by omega)]
        have e10 : ∀ j : Int, xm_up (xm_up (xm_up A 8 1 ((D : Int) + 1)) 10 ((D : Int) + 1) 0) 4 4 (i + 1) 10 j = if j = (D : Int) + 1 then 0 else A 10 j := fun j => by
          rw [xu_c (by omega)]
          by_cases q : j = (D : Int) + 1
          · rw [if_pos q, q, xu_s]
          · rw [if_neg q, xu_k q, xu_c (by omega)]
        have e8 : xm_up (xm_up (xm_up A 8 1 ((D : Int) + 1)) 10 ((D : Int) + 1) 0) 4 4 (i + 1) 8 1 = (D : Int) + 1 := by rw [xu_c (by omega), xu_c (by omega), xu_s]
        have eoth : ∀ q : Nat, q ≠ 4 → q ≠ 8 → q ≠ 10 → xm_up (xm_up (xm_up A 8 1 ((D : Int) + 1)) 10 ((D : Int) + 1) 0) 4 4 (i + 1) q = A q := fun q a b z => by rw [xu_c a, xu_c z, xu_c b]
        have e4 : ∀ j : Int, j ≠ 4 → xm_up (xm_up (xm_up A 8 1 ((D : Int) + 1)) 10 ((D : Int) + 1) 0) 4 4 (i + 1) 4 j = A 4 j := fun j a => by rw [xu_k a, xu_c (by omega), xu_c (by omega)]
        rw [e6] at k'
        generalize xm_up (xm_up (xm_up A 8 1 ((D : Int) + 1)) 10 ((D : Int) + 1) 0) 4 4 (i + 1) = A1 at *
        have kc' : A 6 (i + 1) < n → t (A 6 (i + 1)) ≠ 32 := fun q => by
          by_cases z : i + 1 = m
          · have := (k'.2.2.1 z).2; omega
          · exact (k'.2.2.2 (by omega)).2.1
        have hgo2 : ∀ B' : xm_Mem, y_go e row ((D : Int) + 1) 0 (xm_up (xm_up (xm_up B 50 10 (A 6 i)) 58 ((D : Int) + 1) (B 50 18)) 50 10 (A 6 i + 1)) B' → y_go e row D hs B B' := fun B' hb N R o hR => by
          refine lo203s (s := A 6 i) hr (mtx hT) (by rw [mx_r (by omega)]) hx (by rw [mx_r (by omega)]; exact hf) w2 hh (by rw [mx_r (by omega)]; omega) (by rw [mx_r (by omega), mx_r (by omega)]; omega) (fun _ b => by omega) (fun _ _ _ o => ?_) (fun a b q r => by omega) (fun _ z => absurd ⟨k1, ts, d4⟩ z)
          have := hb N R o hR
          rw [mx_r (by omega), mx_up (by omega), mx_up (by omega), mx_up (by omega)]
          exact this
        refine ih A1 (xm_up (xm_up (xm_up B 50 10 (A 6 i)) 58 ((D : Int) + 1) (B 50 18)) 50 10 (A 6 i + 1)) (i + 1) 0 (x5 + 1) (D + 1) (by omega) (by omega) hc1 ?_ ?_ ?_ ⟨by rw [e8]; omega, by omega, fun j hj => ?_, fun j hj => ?_, ?_, ?_, fun q q1 q2 => ?_⟩ (fA_tr hfA ⟨fun q a b z _ _ _ => eoth q a b z, fun j _ => by rw [eoth 12 (by omega) (by omega) (by omega)], fun j _ => by rw [eoth 13 (by omega) (by omega) (by omega)], fun j _ => by rw [eoth 11 (by omega) (by omega) (by omega)], e4⟩) (by rw [eoth 13 (by omega) (by omega) (by omega)]; exact hle) (by rw [eoth 11 (by omega) (by omega) (by omega)]; exact hcc) (fB_tr hfB (fB_50 (fB_57 (fB_50 fB_id (by omega)) (by omega)) (by omega))) (fun B' hb => hgo B' (hgo2 B' hb))
        · exact ytx_up (ytx_up (ytx_up hT ⟨by omega, fun _ => by omega⟩) ⟨by omega, fun _ => by omega⟩) ⟨by omega, fun _ => by omega⟩
        · rw [xu_k (by omega), xu_c (by omega), xu_k (by omega)]; exact hf
        · rw [xu_s, e6, ← es]
          have := k3.1
          exact ⟨by omega, k7, k'.1.2, kc'⟩
        · rw [e10]
          split
          · omega
          · exact w3 j (by omega)
        · rw [xu_c (by omega)]
          have es1 : ∀ a : Nat, a ≤ D + 1 → x_sum (A1 10) 0 a = x_sum (A 10) 0 a := fun a ha => x_sum_ext (fun q hq => by rw [e10, if_neg (by omega)])
          rw [es1 j hj]
          by_cases z : j = D + 1
          · subst z
            rw [show ((D + 1 : Nat) : Int) = (D : Int) + 1 by omega, xu_s]
            exact w5
          · rw [xu_k (by omega), xu_c (by omega)]
            exact w4 j (by omega)
        · rw [xu_k (by omega), xu_c (by omega), xu_k (by omega), w5, x_sum_1 (A1 10), e10, if_pos (by omega)]
          have es1 : x_sum (A1 10) 0 (D + 1) = x_sum (A 10) 0 (D + 1) := x_sum_ext (fun q hq => by rw [e10, if_neg (by omega)])
          rw [es1]; omega
        · have z0 : A1 10 ((D + 1 : Nat) : Int) = 0 := by rw [e10, if_pos (by omega)]
          rw [z0]; rfl
        · rw [xu_k (by omega), xu_c (by omega), xu_k (by omega)] at q2
          rw [xu_c (by omega), xu_c (by omega), xu_c (by omega), eoth 12 (by omega) (by omega) (by omega)]
          exact w7 q q1 q2
      · exact out (fun q => by omega) (fun q => d4 q.2.2) (fun q => by omega) (fun _ => by omega)
    · -- a group is shut
      have hi : i < m := by
        by_cases q : i = m
        · have := k.2.2.1 q; omega
        · omega
      obtain ⟨k1, k2, k3, k4, k5, k6, k7⟩ := k.2.2.2 hi
      have ts := kn_4 (c := t (A 6 i)) (by omega)
      have es : E i = A 6 i + 1 := k3.2.2.2 (by omega) (by omega)
      have hc1 := cur_next hc hi
      have k' := cur_tok hc1
      rw [xu_c (c' := 5) (by omega), xu_c (c' := 6) (by omega), xu_c (c' := 7) (by omega)] at k'
      have kc' : A 6 (i + 1) < n → t (A 6 (i + 1)) ≠ 32 := fun q => by
        by_cases z : i + 1 = m
        · have := (k'.2.2.1 z).2; omega
        · exact (k'.2.2.2 (by omega)).2.1
      have i1m : A 6 (i + 1) < n → i + 1 < m := fun q => by
        by_cases z : i + 1 = m
        · have := (k'.2.2.1 z).2; omega
        · omega
      have nx2 : y_nx t n (A 6 i + 1) (A 6 (i + 1)) := ⟨by omega, by rw [← es]; exact k7, k'.1.2, kc'⟩
      have un2 := fun a b => te_one (e := a) (e' := b) hT0 k'.1.1
      have hsD : 1 ≤ A 10 D → hs = 1 := fun q => by rw [w6, if_pos q]
      -- the reference shuts the group
      have shut : 1 ≤ D → 1 ≤ A 10 D → ∀ (N : xm_Mem) (R : xm_K), (A 6 (i + 1) < n → x_kn (t (A 6 (i + 1))) = 2 → 1 ≤ A 7 (i + 1) ∧ A 7 (i + 1) ≤ 9 → A 10 ((D : Int) - 1) + A 10 D * A 7 (i + 1) ≤ 400 → ∀ K : Nat, (K : Int) = A 10 D * (A 7 (i + 1) - 1) → R [] (x_mx N (y_rp (xm_up B 50 10 (E (i + 1))) (A 10 D) K))) → (¬ (x_isn A (i + 1) 1 9 ∧ A 10 ((D : Int) - 1) + A 10 D * A 7 (i + 1) ≤ 400) → R [] (x_mx N (xm_up (xm_up B 50 10 (A 6 (i + 1))) 50 11 1))) → xm_call true (e + 5) 202 [.inr (.inr 50), .inl (D : Int)] (xm_up (x_mx N B) 50 10 (A 6 i)) R := by
        intro d1 a1 N R q1 q0
        have wP := w3 (D - 1) (by omega)
        have p4 := w4 (D - 1) (by omega)
        have p4' := w4 D (Nat.le_refl _)
        have sD : x_sum (A 10) 0 D = x_sum (A 10) 0 (D - 1) + A 10 ((D - 1 : Nat) : Int) := by
          have := x_sum_1 (A 10) (D - 1)
          rw [show D - 1 + 1 = D by omega] at this
          exact this
        have b0 := x_sum_bd (f := A 10) (c := 400) (D - 1) 0 (fun s a b => by
          have := w3 s.toNat (by omega)
          rw [show ((s.toNat : Nat) : Int) = s by omega] at this
          exact this)
        rw [show ((D - 1 : Nat) : Int) = (D : Int) - 1 by omega] at p4 wP sD
        have f18 : xm_up (x_mx N B) 50 10 (A 6 i) 50 18 = B 50 18 := by rw [xu_k (by omega), mx_r (by omega)]
        have f58 : xm_up (x_mx N B) 50 10 (A 6 i) 58 = B 58 := by rw [xu_c (by omega), mx_r (by omega)]
        have pd : B 58 D - B 58 ((D : Int) - 1) = A 10 ((D : Int) - 1) := by omega
        refine sp202 (s := A 6 i) (s2 := A 6 (i + 1)) (ytx_up (mtx hT) ⟨by omega, fun _ => by omega⟩) xu_s ⟨s0.1, k1, ts⟩ nx2 (by rw [xu_k (by omega), mx_r (by omega)]; exact hf) ⟨d1, w2⟩ (by rw [f18]; omega) (by rw [f18, f58]; omega) (by rw [f58]; omega) (fun q => ⟨E (i + 1), (k'.2.2.2 (i1m q)).2.2.1⟩) (fun e2 z1 z2 z3 z4 z5 K hK => ?_) (fun z => ?_)
        · have kk := k'.2.2.2 (i1m z1)
          have ee := un2 _ _ z3 kk.2.2.1
          subst ee
          have vv := kk.2.2.2.2.1.1 z2
          rw [f18, f58, h58, ← vv] at hK
          rw [f58, f18, h58, pd, ← vv] at z5
          rw [← vv] at z4
          rw [f18, f58, h58, xu_u, mx_up (by omega), mx_rp]
          exact q1 z1 z2 z4 z5 K hK
        · rw [f18, f58, h58, pd] at z
          have fe : y_ft (xm_up (x_mx N B) 50 10 (A 6 i)) (A 6 (i + 1)) = x_mx N (xm_up (xm_up B 50 10 (A 6 (i + 1))) 50 11 1) := by
            unfold y_ft
            rw [xu_u, mx_up (by omega), mx_up (by omega)]
          rw [fe]
          refine q0 (fun zz => ?_)
          obtain ⟨⟨y1, y2, y3⟩, y4⟩ := zz
          have im' : i + 1 < m := by
            by_cases q : i + 1 = m
            · have := (k'.2.2.1 q).1; omega
            · omega
          have kk := k'.2.2.2 im'
          have vv := kk.2.2.2.2.1.1 (by omega)
          have := z kk.1 (by omega) _ kk.2.2.1
          rw [← vv] at this
          exact this ⟨⟨y2, y3⟩, y4⟩
      refine sp133_11 hc hi hr w1 w2 w3 (fun z => xq_ki (stop ?_)) (fun d1 a1 z => xq_ki (stop2 ?_)) (fun N d1 a1 i2 isn room f1 f4 f8 f10 f2 f3 => xq_ki ?_)
      · refine out (fun q => by omega) (fun q => by omega) (fun q => z ⟨q.2.2.1, ?_⟩) (fun _ => by omega)
        by_cases y : 1 ≤ A 10 D
        · exact y
        · rw [w6, if_neg y] at q; omega
      · refine err (xm_up A 4 4 (i + 1)) (i + 1) (xm_up (xm_up (xm_up B 50 10 (A 6 (i + 1))) 50 11 1) 56 row (B 50 18)) hc1 (fA_tr hfA ⟨fun q a _ _ _ _ _ => xu_c a, fun _ _ => by rw [xu_c (by omega)], fun _ _ => by rw [xu_c (by omega)], fun _ _ => by rw [xu_c (by omega)], fun j a => xu_k a⟩) (fB_56 (fB_50 (fB_50 fB_id (by omega)) (by omega))) ?_ ?_ ?_
        · rw [xu_c (by omega), xu_k (by omega), xu_s, xu_c (by omega)]
        · rw [xu_c (by omega), xu_s]; exact Or.inl rfl
        · intro N R o hR
          refine lo203s (s := A 6 i) hr (mtx hT) (by rw [mx_r (by omega)]) hx (by rw [mx_r (by omega)]; exact hf) w2 hh (by rw [mx_r (by omega)]; omega) (by rw [mx_r (by omega), mx_r (by omega)]; omega) (fun _ b => by omega) (fun _ b _ => by omega) (fun _ _ _ _ o => ?_) (fun _ _ z => absurd ⟨k1, ts, d1, hsD a1⟩ z)
          refine shut d1 a1 N _ (fun y1 y2 y3 y4 => absurd ⟨⟨by rw [(k'.2.2.2 (i1m y1)).2.2.2.1]; exact y2, y3.1, y3.2⟩, y4⟩ z) (fun _ => xq_kv ?_)
          refine lo203x hr (by omega) (Or.inr ⟨rfl, by rw [mx_r (by omega), xu_s]⟩) (by rw [mx_r (by omega), xu_s]; exact Or.inr rfl) hh (by rw [mx_r (by omega), xu_k (by omega), xu_k (by omega)]; omega) (fun _ => ?_) (fun q => by rw [mx_r (by omega), xu_s] at q; omega)
          have e1 : x_mx N (xm_up (xm_up B 50 10 (A 6 (i + 1))) 50 11 1) 50 18 = B 50 18 := by rw [mx_r (by omega), xu_k (by omega), xu_k (by omega)]
          rw [e1, mx_up (by omega), xu_u, mx_up (by omega)]
          exact hR
      · obtain ⟨y1, y2, y3⟩ := isn
        have kk := k'.2.2.2 i2
        have n6 : N 6 = A 6 := f1 6 (by omega) (by omega) (by omega) (by omega)
        have n5 : N 5 = A 5 := f1 5 (by omega) (by omega) (by omega) (by omega)
        have n7 : N 7 = A 7 := f1 7 (by omega) (by omega) (by omega) (by omega)
        have hc2 : x_cur N t n m E (i + 2) := by
          obtain ⟨hTc, ⟨p1, p2, p3, p4, p5, p6⟩, c1, c2, c3⟩ := hc
          refine ⟨hTc, ⟨?_, p2, ?_, p4, ?_, ?_⟩, f4.1, by omega, by omega⟩
          · rw [f4.2 3 (by omega)]; exact p1
          · rw [n5, n6, n7]; exact p3
          · rw [n6]; exact p5
          · rw [n5]; exact p6
        have k'' := cur_tok hc2
        rw [n6] at k''
        have kc'' : A 6 (i + 2) < n → t (A 6 (i + 2)) ≠ 32 := fun q => by
          by_cases z : i + 2 = m
          · have := (k''.2.2.1 z).2; omega
          · exact (k''.2.2.2 (by omega)).2.1
        have LT : 1 * 1 ≤ A 10 D * A 7 (i + 1) := Int.mul_le_mul a1 y2 (by omega) (by omega)
        have LT0 : 0 ≤ A 10 D * (A 7 (i + 1) - 1) := Int.mul_nonneg (by omega) (by omega)
        have LTe : A 10 D * (A 7 (i + 1) - 1) = A 10 D * A 7 (i + 1) - A 10 D := by rw [Int.mul_sub, Int.mul_one]
        have hK : (((A 10 D * (A 7 (i + 1) - 1)).toNat : Nat) : Int) = A 10 D * A 7 (i + 1) - A 10 D := by omega
        have hgo2 : ∀ B' : xm_Mem, y_go e row ((D : Int) - 1) 1 (y_rp (xm_up B 50 10 (E (i + 1))) (A 10 D) (A 10 D * (A 7 (i + 1) - 1)).toNat) B' → y_go e row D hs B B' := fun B' hb P R o hR => by
          refine lo203s (s := A 6 i) hr (mtx hT) (by rw [mx_r (by omega)]) hx (by rw [mx_r (by omega)]; exact hf) w2 hh (by rw [mx_r (by omega)]; omega) (by rw [mx_r (by omega), mx_r (by omega)]; omega) (fun _ b => by omega) (fun _ b _ => by omega) (fun _ _ _ _ o => ?_) (fun _ _ z => absurd ⟨k1, ts, d1, hsD a1⟩ z)
          refine shut d1 a1 P _ (fun _ _ _ _ K hK2 => xq_kv ?_) (fun z => absurd ⟨⟨y1, y2, y3⟩, room⟩ z)
          have ek : K = (A 10 D * (A 7 (i + 1) - 1)).toNat := by omega
          rw [ek, hsD a1, show (D : Int) + (-1) = (D : Int) - 1 by omega]
          exact hb P R _ hR
        have r18 := rp_18 (M := xm_up B 50 10 (E (i + 1))) (many := A 10 D) (A 10 D * (A 7 (i + 1) - 1)).toNat
        rw [xu_k (k := 10) (k' := 18) (by omega), hK] at r18
        have r58 : y_rp (xm_up B 50 10 (E (i + 1))) (A 10 D) (A 10 D * (A 7 (i + 1) - 1)).toNat 58 = B 58 := by rw [rp_c (by omega), xu_c (by omega)]
        have r10 : y_rp (xm_up B 50 10 (E (i + 1))) (A 10 D) (A 10 D * (A 7 (i + 1) - 1)).toNat 50 10 = E (i + 1) := by rw [rp_k (by omega), xu_s]
        have r11 : y_rp (xm_up B 50 10 (E (i + 1))) (A 10 D) (A 10 D * (A 7 (i + 1) - 1)).toNat 50 11 = 0 := by rw [rp_k (by omega), xu_k (by omega)]; exact hf
        have rlo : ∀ q : Int, q < B 50 18 → y_rp (xm_up B 50 10 (E (i + 1))) (A 10 D) (A 10 D * (A 7 (i + 1) - 1)).toNat 57 q = B 57 q := fun q hq => by
          rw [rp_lo (by rw [xu_k (by omega)]; exact hq), xu_c (by omega)]
        have rhi : ∀ q : Int, B 50 18 ≤ q → q < B 50 18 + (A 10 D * A 7 (i + 1) - A 10 D) → y_rp (xm_up B 50 10 (E (i + 1))) (A 10 D) (A 10 D * (A 7 (i + 1) - 1)).toNat 57 q = y_rp (xm_up B 50 10 (E (i + 1))) (A 10 D) (A 10 D * (A 7 (i + 1) - 1)).toNat 57 (q - A 10 D) := fun q h1 h2 =>
          rp_hi a1 _ q (by rw [xu_k (by omega)]; exact h1) (by rw [xu_k (by omega), hK]; exact h2)
        have rT : y_txt (y_rp (xm_up B 50 10 (E (i + 1))) (A 10 D) (A 10 D * (A 7 (i + 1) - 1)).toNat) t n := by
          refine ⟨hT0, ?_, ?_⟩
          · rw [rp_k (by omega), xu_k (by omega)]; exact hT.2.1
          · rw [rp_c (by omega), xu_c (by omega)]; exact hT.2.2
        have rF : x_fB row B (y_rp (xm_up B 50 10 (E (i + 1))) (A 10 D) (A 10 D * (A 7 (i + 1) - 1)).toNat) := fB_rp (fB_50 fB_id (by omega)) _
        generalize y_rp (xm_up B 50 10 (E (i + 1))) (A 10 D) (A 10 D * (A 7 (i + 1) - 1)).toNat = B1 at *
        have e10 : ∀ j : Nat, j + 1 < D → N 10 j = A 10 j := fun j hj => f10.2 j (by omega)
        have sN : ∀ a : Nat, a + 1 ≤ D → x_sum (N 10) 0 a = x_sum (A 10) 0 a := fun a ha => x_sum_ext (fun q hq => e10 q (by omega))
        have sD : x_sum (A 10) 0 D = x_sum (A 10) 0 (D - 1) + A 10 ((D : Int) - 1) := by
          have := x_sum_1 (A 10) (D - 1)
          rw [show D - 1 + 1 = D by omega, show ((D - 1 : Nat) : Int) = (D : Int) - 1 by omega] at this
          exact this
        have sND : x_sum (N 10) 0 D = x_sum (N 10) 0 (D - 1) + N 10 ((D : Int) - 1) := by
          have := x_sum_1 (N 10) (D - 1)
          rw [show D - 1 + 1 = D by omega, show ((D - 1 : Nat) : Int) = (D : Int) - 1 by omega] at this
          exact this
        have wP := w3 (D - 1) (by omega)
        rw [show ((D - 1 : Nat) : Int) = (D : Int) - 1 by omega] at wP
        have sDD := x_sum_1 (A 10) D
        have bgb := x_sum_bd (f := A 10) (c := 400) D 0 (fun s a b => by
          have := w3 s.toNat (by omega)
          rw [show ((s.toNat : Nat) : Int) = s by omega] at this
          exact this)
        have cont : ∀ (q : Nat), (q : Int) < B1 50 18 → ((q : Int) < 400 → N 12 (row * 400 + q) = B1 57 q) ∧ x_alw row (B1 57 q) := by
          intro q
          induction q using Nat.strongRecOn with
          | _ q ihq =>
            intro hq
            by_cases z : (q : Int) < B 50 18
            · have g7 := w7 q (by omega) z
              rw [rlo q z]
              refine ⟨fun q4 => ?_, g7.2⟩
              rw [f2 _ (by omega)]
              exact g7.1 q4
            · have g7 := ihq (q - (A 10 D).toNat) (by omega) (by omega)
              rw [show ((q - (A 10 D).toNat : Nat) : Int) = (q : Int) - A 10 D by omega] at g7
              rw [rhi q (by omega) (by omega)]
              refine ⟨fun q4 => ?_, g7.2⟩
              rw [f3 q (by omega) (by omega) q4, show row * 400 + (q : Int) - A 10 D = row * 400 + ((q : Int) - A 10 D) by omega]
              exact g7.1 (by omega)
        have ed : ((D - 1 : Nat) : Int) = (D : Int) - 1 := by omega
        refine ih N B1 (i + 2) 1 (x5 + 1) (D - 1) (by omega) (by omega) hc2 rT r11 ?_ ⟨by rw [f8, ed], by omega, fun j hj => ?_, fun j hj => ?_, ?_, ?_, fun q q1 q2 => ?_⟩ (fA_tr hfA ⟨fun q a b z f _ _ => f1 q f a b z, fun j hj => f2 j (by omega), fun j _ => by rw [f1 13 (by omega) (by omega) (by omega) (by omega)], fun j _ => by rw [f1 11 (by omega) (by omega) (by omega) (by omega)], f4.2⟩) (by rw [f1 13 (by omega) (by omega) (by omega) (by omega)]; exact hle) (by rw [f1 11 (by omega) (by omega) (by omega) (by omega)]; exact hcc) (fB_tr hfB rF) (fun B' hb => hgo B' (hgo2 B' (by rw [ed] at hb; exact hb)))
        · rw [r10, n6]
          have g1 := kk.2.2.1.1
          have g2 := kk.2.2.2.2.2.2
          rw [show i + 1 + 1 = i + 2 by omega] at g2
          exact ⟨by omega, g2, k''.1.2, kc''⟩
        · by_cases z : j + 1 = D
          · rw [show (j : Int) = (D : Int) - 1 by omega, f10.1]; omega
          · rw [e10 j (by omega)]; exact w3 j (by omega)
        · rw [r58, w4 j (by omega), sN j (by omega)]
        · rw [r18, show D - 1 + 1 = D by omega, sND, sN (D - 1) (by omega), f10.1, w5]
          omega
        · rw [ed, f10.1, if_pos (by omega)]
        · have := cont q.toNat (by omega)
          rw [show ((q.toNat : Nat) : Int) = q by omega] at this
          exact this
    · -- the row ends
      have hi : i < m := by
        by_cases q : i = m
        · have := k.2.2.1 q; omega
        · omega
      obtain ⟨k1, k2, k3, k4, k5, k6, k7⟩ := k.2.2.2 hi
      refine sp134_11 hc hi hr w1 (w3 0 (by omega)) (fun d0 a1 => xq_ki ⟨Or.inr rfl, ?_⟩) (fun z => xq_ki ⟨Or.inl rfl, ?_⟩) w2
      · have hs1 : hs = 1 := by
          rw [w6, d0]
          exact if_pos a1
        have s18 : B 50 18 = A 10 0 := by
          rw [w5, d0, x_sum_1]
          simp only [x_sum]
          show 0 + A 10 0 = A 10 0
          omega
        have a4 := (w3 0 (by omega)).2
        have a4' : A 10 0 ≤ 400 := a4
        have ek : B 50 18 = ((A 10 0).toNat : Int) := by omega
        have eoth : ∀ q : Nat, q ≠ 4 → q ≠ 13 → q ≠ 11 → xm_up (if row = 4 then xm_up A 13 row (A 10 0) else xm_up (xm_up A 13 row (A 10 0)) 11 5 (row + 1)) 4 4 (i + 1) q = A q := fun q a b z => by
          rw [xu_c a]
          split
          · rw [xu_c b]
          · rw [xu_c z, xu_c b]
        have ele : ∀ j : Int, xm_up (if row = 4 then xm_up A 13 row (A 10 0) else xm_up (xm_up A 13 row (A 10 0)) 11 5 (row + 1)) 4 4 (i + 1) 13 j = if j = row then A 10 0 else A 13 j := fun j => by
          rw [xu_c (by omega)]
          by_cases q : j = row
          · rw [if_pos q, q]
            split
            · rw [xu_s]
            · rw [xu_c (by omega), xu_s]
          · rw [if_neg q]
            split
            · rw [xu_k q]
            · rw [xu_c (by omega), xu_k q]
        have ec : ∀ j : Int, xm_up (if row = 4 then xm_up A 13 row (A 10 0) else xm_up (xm_up A 13 row (A 10 0)) 11 5 (row + 1)) 4 4 (i + 1) 11 j = if j = 5 ∧ row ≠ 4 then row + 1 else A 11 j := fun j => by
          rw [xu_c (by omega)]
          by_cases q : row = 4
          · rw [if_pos q, if_neg (fun z => z.2 q), xu_c (by omega)]
          · rw [if_neg q]
            by_cases q2 : j = 5
            · rw [if_pos ⟨q2, q⟩, q2, xu_s]
            · rw [if_neg (fun z => q2 z.1), xu_k q2, xu_c (by omega)]
        have e4 : ∀ j : Int, j ≠ 4 → xm_up (if row = 4 then xm_up A 13 row (A 10 0) else xm_up (xm_up A 13 row (A 10 0)) 11 5 (row + 1)) 4 4 (i + 1) 4 j = A 4 j := fun j a => by
          rw [xu_k a]
          split
          · rw [xu_c (by omega)]
          · rw [xu_c (by omega), xu_c (by omega)]
        have hc1 : x_cur (xm_up (if row = 4 then xm_up A 13 row (A 10 0) else xm_up (xm_up A 13 row (A 10 0)) 11 5 (row + 1)) 4 4 (i + 1)) t n m E (i + 1) := by
          refine cur_next (cur_keep hc ?_ ?_ ?_ ?_) hi
          all_goals
            split
            · rw [xu_c (by omega)]
            · rw [xu_c (by omega), xu_c (by omega)]
        generalize xm_up (if row = 4 then xm_up A 13 row (A 10 0) else xm_up (xm_up A 13 row (A 10 0)) 11 5 (row + 1)) 4 4 (i + 1) = A1 at *
        have i1 : i + 1 - 1 = i := by omega
        refine h1 A1 (xm_up (y_cy (xm_up B 50 10 (A 6 i)) row (A 10 0).toNat) 56 row ((A 10 0).toNat : Int)) (i + 1) hc1 (by omega) (by omega) ?_ (fA_tr hfA ⟨fun q a b z f y x => eoth q a y x, fun j _ => by rw [eoth 12 (by omega) (by omega) (by omega)], fun j a => by rw [ele, if_neg a], fun j a => by rw [ec, if_neg (fun z => a z.1)], e4⟩) (fB_tr hfB (fB_56 (fB_cy (fB_50 fB_id (by omega)) _ (by omega)))) ?_ (fun q => ?_) (fun q => ?_) ?_ (fun q q1 q2 => ?_) ?_ ?_ (hgo _ ?_)
        · rw [i1, eoth 5 (by omega) (by omega) (by omega)]; exact g
        · rw [ele, if_pos rfl]; omega
        · rw [ec, if_neg (fun z => z.2 q), hcc]
        · rw [ec, if_pos ⟨rfl, q⟩]
        · rw [xu_s, ele, if_pos rfl]; omega
        · rw [ele, if_pos rfl] at q2
          have g7 := w7 q q1 (by omega)
          rw [eoth 12 (by omega) (by omega) (by omega), xu_c (by omega), cy_in _ q1 (by omega), xu_c (by omega)]
          exact ⟨g7.1 (by omega), g7.2⟩
        · rw [xu_c (by omega), cy_c (by omega), xu_k (by omega)]; exact hf
        · rw [xu_c (by omega), cy_c (by omega), xu_s, i1, eoth 6 (by omega) (by omega) (by omega)]
        · intro N R o hR
          refine lo203s (s := A 6 i) hr (mtx hT) (by rw [mx_r (by omega)]) hx (by rw [mx_r (by omega)]; exact hf) w2 hh (by rw [mx_r (by omega)]; omega) (by rw [mx_r (by omega), mx_r (by omega)]; omega) (fun _ b => by omega) (fun _ b _ => by rw [b] at k4; exact absurd (k4.symm.trans g) (by decide)) (fun _ b _ _ => by rw [b] at k4; exact absurd (k4.symm.trans g) (by decide)) (fun _ _ _ o => ?_)
          rw [mx_up (by omega)]
          refine lo203x hr (by omega) (Or.inl rfl) (by rw [mx_r (by omega), xu_k (by omega)]; exact Or.inl hf) hh (by rw [mx_r (by omega), xu_k (by omega)]; omega) (fun q => ?_) (fun _ _ _ => ⟨by rw [mx_r (by omega), xu_k (by omega)]; omega, fun K hK => ?_⟩)
          · rw [mx_r (by omega), xu_k (by omega), hf] at q
            omega
          · rw [mx_r (by omega), xu_k (by omega)] at hK
            have : K = (A 10 0).toNat := by omega
            rw [mx_cy, mx_up (by omega), this]
            exact hR
      · refine out (fun q => by omega) (fun q => by rw [q.2.1] at k4; exact absurd (k4.symm.trans g) (by decide)) (fun q => by rw [q.2.1] at k4; exact absurd (k4.symm.trans g) (by decide)) (fun q => absurd ⟨q.1, ?_⟩ z)
        have q2 := q.2
        rw [w6, q.1] at q2
        by_cases y : 1 ≤ A 10 ((0 : Nat) : Int)
        · exact y
        · rw [if_neg y] at q2; omega
    · -- anything else
      have kq : ∀ w : Int, A 6 i < n → t (A 6 i) = w → A 5 i = x_kn w := fun w q1 q2 => by
        have hi : i < m := by
          by_cases q : i = m
          · have := k.2.2.1 q; omega
          · omega
        rw [(k.2.2.2 hi).2.2.2.1, q2]
      have kn : A 6 i < n → A 5 i = x_kn (t (A 6 i)) := fun q1 => kq _ q1 rfl
      refine stop (out (fun q => ?_) (fun q => ?_) (fun q => ?_) (fun _ => by omega))
      · have := kn q.1; omega
      · have := kq 40 q.1 q.2.1
        rw [show x_kn 40 = 3 from rfl] at this
        omega
      · have := kq 41 q.1 q.2.1
        rw [show x_kn 41 = 4 from rfl] at this
        omega
theorem lo130_14 {row : Int} (hr : 0 ≤ row ∧ row ≤ 4) {A0 B0 : xm_Mem} {e : Nat} {D0 hs0 i0 : Int}
    (h1 : ∀ (A' B' : xm_Mem) (i' : Int), x_cur A' t n m E i' → i' ≤ m → 1 ≤ i' ∧ i0 < i' → A' 5 (i' - 1) = 5 → x_fA 15 16 14 row A0 A' → x_fB row B0 B' → (1 ≤ A' 16 row ∧ A' 16 row ≤ 400) → (row = 4 → A' 14 5 = A0 14 5) → (row ≠ 4 → A' 14 5 = row + 1) → B' 56 row = A' 16 row → (∀ k : Int, 0 ≤ k → k < A' 16 row → A' 15 (row * 400 + k) = B' 55 (400 * row + k) ∧ x_alw row (B' 55 (400 * row + k))) → B' 50 11 = 0 → B' 50 10 = A' 6 (i' - 1) → y_go e row D0 hs0 B0 B' → Q [.inl 1] A')
    (h0 : ∀ (A' B' : xm_Mem) (i' : Int), x_cur A' t n m E i' → x_fA 15 16 14 row A0 A' → x_fB row B0 B' → B' 50 10 = A' 6 i' → (B' 50 11 = 1 ∨ B' 50 11 = 0 ∧ A' 5 i' ≠ 5) → y_go e row D0 hs0 B0 B' → Q [.inl 0] A') :
    ∀ (fuel : Nat) (A B : xm_Mem) (i hs x5 : Int) (D : Nat), m - i < fuel → 0 ≤ x5 ∧ x5 ≤ i ∧ i0 ≤ i → x_cur A t n m E i → y_txt B t n → B 50 11 = 0 → y_nx t n (B 50 10) (A 6 i) → x_rw (A 15) A B row D hs → x_fA 15 16 14 row A0 A → A 16 = A0 16 → A 14 = A0 14 → x_fB row B0 B → (∀ B' : xm_Mem, y_go e row D hs B B' → y_go e row D0 hs0 B0 B') → wp130r8r4r14_18 (xm_call true (d + 3)) Q row 1 x5 A := by
  intro fuel
  induction fuel with
  | zero =>
    intro A B i hs x5 D hfu _ hc
    have := hc.2.2.2.2
    omega
  | succ fuel ih =>
    intro A B i hs x5 D hfu hx5 hc hT hf hx hrw hfA hle hcc hfB hgo
    obtain ⟨w1, w2, w3, w4, w5, w6, w7⟩ := id hrw
    have k := cur_tok hc
    have im := hc.2.2.2.2
    have ipos := hc.2.2.2.1
    have m2 := hc.2.1.2.1.2
    have hT0 := hc.1
    have sb := sum_bd w2 w3
    have wD := w3 D (Nat.le_refl _)
    have h58 : B 50 18 - B 58 D = A 10 D := by rw [w5, w4 D (Nat.le_refl _), x_sum_1]; omega
    have hh : hs = 0 ∨ hs = 1 := by rw [w6]; split <;> omega
    have s0 := k.1
    -- the class ends with 0 at the cursor: the reference leaves its loop
    have err : ∀ (A' : xm_Mem) (i' : Int) (B' : xm_Mem), x_cur A' t n m E i' → x_fA 15 16 14 row A0 A' → x_fB row B B' → B' 50 10 = A' 6 i' → (B' 50 11 = 1 ∨ B' 50 11 = 0 ∧ A' 5 i' ≠ 5) → y_go e row D hs B B' → Q [.inl 0] A' := fun A' i' B' a1 a2 a3 a4 a5 a6 => h0 A' B' i' a1 a2 (fB_tr hfB a3) a4 a5 (hgo B' a6)
    -- the reference's way out at an odd token
    have out : ¬ (A 6 i < n ∧ x_kn (t (A 6 i)) = 2) → ¬ (A 6 i < n ∧ t (A 6 i) = 40 ∧ D < 4) → ¬ (A 6 i < n ∧ t (A 6 i) = 41 ∧ 1 ≤ D ∧ hs = 1) → ((D = 0 ∧ hs = 1) → A 5 i ≠ 5) → Q [.inl 0] A := fun g1 g2 g3 g4 => by
      by_cases z : D = 0 ∧ hs = 1
      · have le4 : B 50 18 ≤ 400 := by
          rw [w5, z.1]
          have := w3 0 (by omega)
          rw [x_sum_1]
          simp only [x_sum]
          rw [z.1] at wD
          omega
        have ek : B 50 18 = ((B 50 18).toNat : Int) := by omega
        refine err A i (xm_up (y_cy (xm_up B 50 10 (A 6 i)) row (B 50 18).toNat) 56 row ((B 50 18).toNat : Int)) hc hfA (fB_56 (fB_cy (fB_50 fB_id (by omega)) _ (by omega))) ?_ ?_ ?_
        · rw [xu_c (by omega), cy_c (by omega), xu_s]
        · rw [xu_c (by omega), cy_c (by omega), xu_k (by omega)]
          exact Or.inr ⟨hf, g4 z⟩
        · intro N R o hR
          refine lo203s (s := A 6 i) hr (mtx hT) (by rw [mx_r (by omega)]) hx (by rw [mx_r (by omega)]; exact hf) w2 hh (by rw [mx_r (by omega)]; omega) (by rw [mx_r (by omega), mx_r (by omega)]; omega) (fun a b => absurd ⟨a, b⟩ g1) (fun a b q => absurd ⟨a, b, q⟩ g2) (fun a b q r => absurd ⟨a, b, q, r⟩ g3) (fun _ _ _ o => ?_)
          rw [mx_up (by omega)]
          refine lo203x hr (by omega) (Or.inl rfl) (by rw [mx_r (by omega), xu_k (by omega)]; exact Or.inl hf) hh (by rw [mx_r (by omega), xu_k (by omega)]; omega) (fun q => ?_) (fun _ _ _ => ⟨by rw [mx_r (by omega), xu_k (by omega)]; exact le4, fun K hK => ?_⟩)
          · rw [mx_r (by omega), xu_k (by omega), hf] at q
            omega
          · rw [mx_r (by omega), xu_k (by omega)] at hK
            have : K = (B 50 18).toNat := by omega
            rw [mx_cy, mx_up (by omega), this]
            exact hR
      · refine err A i (xm_up (xm_up (xm_up B 50 10 (A 6 i)) 50 11 1) 56 row (B 50 18)) hc hfA (fB_56 (fB_50 (fB_50 fB_id (by omega)) (by omega))) ?_ ?_ ?_
        · rw [xu_c (by omega), xu_k (by omega), xu_s]
        · rw [xu_c (by omega), xu_s]; exact Or.inl rfl
        · intro N R o hR
          refine lo203s (s := A 6 i) hr (mtx hT) (by rw [mx_r (by omega)]) hx (by rw [mx_r (by omega)]; exact hf) w2 hh (by rw [mx_r (by omega)]; omega) (by rw [mx_r (by omega), mx_r (by omega)]; omega) (fun a b => absurd ⟨a, b⟩ g1) (fun a b q => absurd ⟨a, b, q⟩ g2) (fun a b q r => absurd ⟨a, b, q, r⟩ g3) (fun _ _ _ o => ?_)
          rw [mx_up (by omega)]
          refine lo203x hr (by omega) (Or.inl rfl) (by rw [mx_r (by omega), xu_k (by omega)]; exact Or.inl hf) hh (by rw [mx_r (by omega), xu_k (by omega)]; omega) (fun _ => ?_) (fun _ q1 q2 => absurd ⟨by omega, q2⟩ z)
          rw [mx_r (by omega), xu_k (by omega), mx_up (by omega), mx_up (by omega)]
          exact hR
    have stop : Q [.inl 0] A → wp130r8r4r14_18 (xm_call true (d + 3)) Q row 0 (x5 + 1) A := fun z => rg130r8r4r14_18 ⟨⟨by omega, by omega⟩, fun _ => ⟨Or.inl rfl, z⟩, fun _ => ⟨by omega, fun _ => ⟨Or.inl rfl, z⟩, fun q => absurd rfl q⟩⟩
    have stop2 : Q [.inl 0] (xm_up A 4 4 (i + 1)) → wp130r8r4r14_18 (xm_call true (d + 3)) Q row 0 (x5 + 1) (xm_up A 4 4 (i + 1)) := fun z => rg130r8r4r14_18 ⟨⟨by omega, by omega⟩, fun _ => ⟨Or.inl rfl, z⟩, fun _ => ⟨by omega, fun _ => ⟨Or.inl rfl, z⟩, fun q => absurd rfl q⟩⟩
    -- no error so far: the class's loop
    refine rg130r8r4r14_18 ⟨⟨by omega, by omega⟩, fun _ => by omega, fun _ => ⟨by omega, fun q => by omega, fun _ => sp188 hc (xq_ki ⟨by omega, ⟨fun g => ?_, fun g => ?_, fun g => ?_, fun g => ?_, trivial⟩, fun g => ?_⟩)⟩⟩
    · -- a number
      have hi : i < m := by
        by_cases q : i = m
        · have := k.2.2.1 q; omega
        · omega
      obtain ⟨k1, k2, k3, k4, k5, k6, k7⟩ := k.2.2.2 hi
      have kk : x_kn (t (A 6 i)) = 2 := by omega
      have v := k5.1 kk
      have un := fun a b => te_one (e := a) (e' := b) hT0 s0.1
      refine sp131_14 hc hi g hr w1 w2 w3 (fun al rm => xq_ki ?_) (fun z => xq_ki ?_)
      · have hc1 : x_cur (xm_up (xm_up (if x_sum (A 10) 0 (D + 1) < 400 then xm_up A 15 (row * 400 + x_sum (A 10) 0 (D + 1)) (A 7 i) else A) 10 D (A 10 D + 1)) 4 4 (i + 1)) t n m E (i + 1) := by
          refine cur_next (cur_keep hc ?_ ?_ ?_ ?_) hi
          all_goals
            rw [xu_c (by omega)]
            split
            · rw [xu_c (by omega)]
            · rfl
        have e8 : xm_up (xm_up (if x_sum (A 10) 0 (D + 1) < 400 then xm_up A 15 (row * 400 + x_sum (A 10) 0 (D + 1)) (A 7 i) else A) 10 D (A 10 D + 1)) 4 4 (i + 1) 8 = A 8 := by
          rw [xu_c (by omega), xu_c (by omega)]; split; rw [xu_c (by omega)]; rfl
        have e10 : ∀ j : Int, xm_up (xm_up (if x_sum (A 10) 0 (D + 1) < 400 then xm_up A 15 (row * 400 + x_sum (A 10) 0 (D + 1)) (A 7 i) else A) 10 D (A 10 D + 1)) 4 4 (i + 1) 10 j = if j = D then A 10 D + 1 else A 10 j := fun j => by
          rw [xu_c (by omega)]
          by_cases q : j = D
          · rw [if_pos q, q, xu_s]
          · rw [if_neg q, xu_k q]; split; rw [xu_c (by omega)]; rfl
        have enu : ∀ j : Int, xm_up (xm_up (if x_sum (A 10) 0 (D + 1) < 400 then xm_up A 15 (row * 400 + x_sum (A 10) 0 (D + 1)) (A 7 i) else A) 10 D (A 10 D + 1)) 4 4 (i + 1) 15 j = if x_sum (A 10) 0 (D + 1) < 400 ∧ j = row * 400 + x_sum (A 10) 0 (D + 1) then A 7 i else A 15 j := fun j => by
          rw [xu_c (by omega), xu_c (by omega)]
          by_cases q : x_sum (A 10) 0 (D + 1) < 400
          · rw [if_pos q]
            by_cases q2 : j = row * 400 + x_sum (A 10) 0 (D + 1)
            · rw [if_pos ⟨q, q2⟩, q2, xu_s]
            · rw [if_neg (fun z => q2 z.2), xu_k q2]
          · rw [if_neg q, if_neg (fun z => q z.1)]
        have eoth : ∀ q : Nat, q ≠ 4 → q ≠ 10 → q ≠ 15 → xm_up (xm_up (if x_sum (A 10) 0 (D + 1) < 400 then xm_up A 15 (row * 400 + x_sum (A 10) 0 (D + 1)) (A 7 i) else A) 10 D (A 10 D + 1)) 4 4 (i + 1) q = A q := fun q a b z => by
          rw [xu_c a, xu_c b]; split; rw [xu_c z]; rfl
        have e4 : ∀ j : Int, j ≠ 4 → xm_up (xm_up (if x_sum (A 10) 0 (D + 1) < 400 then xm_up A 15 (row * 400 + x_sum (A 10) 0 (D + 1)) (A 7 i) else A) 10 D (A 10 D + 1)) 4 4 (i + 1) 4 j = A 4 j := fun j a => by
          rw [xu_k a, xu_c (by omega)]; split; rw [xu_c (by omega)]; rfl
        generalize xm_up (xm_up (if x_sum (A 10) 0 (D + 1) < 400 then xm_up A 15 (row * 400 + x_sum (A 10) 0 (D + 1)) (A 7 i) else A) 10 D (A 10 D + 1)) 4 4 (i + 1) = A1 at *
        have e6 : A1 6 = A 6 := eoth 6 (by omega) (by omega) (by omega)
        have esum : x_sum (A1 10) 0 D = x_sum (A 10) 0 D := x_sum_ext (fun j hj => by rw [e10, if_neg (by omega)])
        have y18 : y_tk (xm_up B 50 10 (A 6 i)) (A 7 i) (E i) 50 18 = B 50 18 + 1 := by
          unfold y_tk
          rw [xu_k (by omega), xu_s, xu_k (by omega)]
        have y57 : ∀ j : Int, y_tk (xm_up B 50 10 (A 6 i)) (A 7 i) (E i) 57 j = if j = B 50 18 then A 7 i else B 57 j := fun j => by
          unfold y_tk
          rw [xu_c (by omega), xu_c (by omega), xu_k (k' := 18) (by omega)]
          by_cases q : j = B 50 18
          · rw [if_pos q, q, xu_s]
          · rw [if_neg q, xu_k q, xu_c (by omega)]
        have y58 : y_tk (xm_up B 50 10 (A 6 i)) (A 7 i) (E i) 58 = B 58 := by
          unfold y_tk
          rw [xu_c (by omega), xu_c (by omega), xu_c (by omega), xu_c (by omega)]
        have y10 : y_tk (xm_up B 50 10 (A 6 i)) (A 7 i) (E i) 50 10 = E i := by unfold y_tk; rw [xu_s]
        have y11 : y_tk (xm_up B 50 10 (A 6 i)) (A 7 i) (E i) 50 11 = 0 := by
          unfold y_tk
          rw [xu_k (by omega), xu_k (by omega), xu_c (by omega), xu_k (by omega)]; exact hf
        have yT : y_txt (y_tk (xm_up B 50 10 (A 6 i)) (A 7 i) (E i)) t n := by
          unfold y_tk
          exact ytx_up (ytx_up (ytx_up (ytx_up hT ⟨by omega, fun _ => by omega⟩) ⟨by omega, fun _ => by omega⟩) ⟨by omega, fun _ => by omega⟩) ⟨by omega, fun _ => by omega⟩
        have yF : x_fB row B (y_tk (xm_up B 50 10 (A 6 i)) (A 7 i) (E i)) := by
          unfold y_tk
          exact fB_50 (fB_50 (fB_57 (fB_50 fB_id (by omega)) (by omega)) (by omega)) (by omega)
        have hgo2 : ∀ B' : xm_Mem, y_go e row D 1 (y_tk (xm_up B 50 10 (A 6 i)) (A 7 i) (E i)) B' → y_go e row D hs B B' := fun B' hb N R o hR => by
          refine lo203s (s := A 6 i) hr (mtx hT) (by rw [mx_r (by omega)]) hx (by rw [mx_r (by omega)]; exact hf) w2 hh (by rw [mx_r (by omega)]; omega) (by rw [mx_r (by omega), mx_r (by omega)]; omega) (fun _ _ => ⟨E i, k3, fun _ _ o => ?_, fun z => absurd ⟨by rw [← v]; exact al, by rw [mx_r (by omega), mx_r (by omega)]; omega⟩ z⟩) (fun a b q => by rw [b] at kk; exact absurd kk (by decide)) (fun a b q r => by rw [b] at kk; exact absurd kk (by decide)) (fun z => absurd ⟨k1, kk⟩ z)
          have := hb N R o hR
          rw [← v]
          have em : y_tk (xm_up (x_mx N B) 50 10 (A 6 i)) (A 7 i) (E i) = x_mx N (y_tk (xm_up B 50 10 (A 6 i)) (A 7 i) (E i)) := by
            unfold y_tk
            rw [mx_up (by omega), mx_r (by omega), mx_up (by omega), mx_up (by omega), mx_up (by omega)]
          rw [em]
          exact this
        generalize y_tk (xm_up B 50 10 (A 6 i)) (A 7 i) (E i) = B1 at *
        have gp := k7
        have k' := cur_tok hc1
        rw [e6] at k'
        have kc' : A 6 (i + 1) < n → t (A 6 (i + 1)) ≠ 32 := fun q => by
          by_cases z : i + 1 = m
          · have := (k'.2.2.1 z).2; omega
          · exact (k'.2.2.2 (by omega)).2.1
        refine ih A1 B1 (i + 1) 1 (x5 + 1) D (by omega) (by omega) hc1 yT y11 ?_ ⟨by rw [e8]; exact w1, w2, fun j hj => ?_, fun j hj => ?_, ?_, ?_, fun q q1 q2 => ?_⟩ (fA_tr hfA ⟨fun q a b z f _ _ => eoth q a z f, fun j hj => ?_, fun j _ => by rw [eoth 16 (by omega) (by omega) (by omega)], fun j _ => by rw [eoth 14 (by omega) (by omega) (by omega)], e4⟩) (by rw [eoth 16 (by omega) (by omega) (by omega)]; exact hle) (by rw [eoth 14 (by omega) (by omega) (by omega)]; exact hcc) (fB_tr hfB yF) (fun B' hb => hgo B' (hgo2 B' hb))
        · rw [y10, e6]
          have := k3.1
          exact ⟨by omega, gp, k'.1.2, kc'⟩
        · rw [e10]
          split
          · omega
          · exact w3 j hj
        · rw [y58, w4 j hj]
          exact (x_sum_ext (fun q hq => by rw [e10, if_neg (by omega)])).symm
        · rw [y18, w5, x_sum_1, x_sum_1, esum, e10, if_pos rfl]; omega
        · rw [e10, if_pos rfl, if_pos (by omega)]
        · rw [y18] at q2
          rw [y57, enu, ← w5]
          by_cases z : q = B 50 18
          · rw [if_pos z]
            refine ⟨fun q4 => ?_, al⟩
            rw [if_pos ⟨by omega, by omega⟩]
          · rw [if_neg z, if_neg (by omega)]
            exact w7 q q1 (by omega)
        · rw [enu, if_neg (by omega)]
      · -- refused
        have ef : ∀ N : xm_Mem, y_ft (xm_up (x_mx N B) 50 10 (A 6 i)) (A 6 i) = x_mx N (xm_up (xm_up B 50 10 (A 6 i)) 50 11 1) := fun N => by
          unfold y_ft
          rw [xu_u, mx_up (by omega), mx_up (by omega)]
        refine rg130r8r4r14_18 ⟨⟨by omega, by omega⟩, fun _ => ⟨Or.inl rfl, ?_⟩, fun _ => ⟨by omega, fun _ => ⟨Or.inl rfl, ?_⟩, fun q => absurd rfl q⟩⟩
        all_goals
          refine err A i (xm_up (xm_up (xm_up B 50 10 (A 6 i)) 50 11 1) 56 row (B 50 18)) hc hfA (fB_56 (fB_50 (fB_50 fB_id (by omega)) (by omega))) ?_ ?_ ?_
          · rw [xu_c (by omega), xu_k (by omega), xu_s]
          · rw [xu_c (by omega), xu_s]; exact Or.inl rfl
          · intro N R o hR
            refine lo203s (s := A 6 i) hr (mtx hT) (by rw [mx_r (by omega)]) hx (by rw [mx_r (by omega)]; exact hf) w2 hh (by rw [mx_r (by omega)]; omega) (by rw [mx_r (by omega), mx_r (by omega)]; omega) (fun _ _ => ⟨E i, k3, fun a1 a2 o => absurd ⟨by rw [v]; exact a1, by rw [mx_r (by omega), mx_r (by omega)] at a2; omega⟩ z, fun _ o => ?_⟩) (fun a b q => by rw [b] at kk; exact absurd kk (by decide)) (fun a b q r => by rw [b] at kk; exact absurd kk (by decide)) (fun z => absurd ⟨k1, kk⟩ z)
            rw [ef]
            refine lo203x hr (by omega) (Or.inr ⟨rfl, by rw [mx_r (by omega), xu_s]⟩) (by rw [mx_r (by omega), xu_s]; exact Or.inr rfl) (Or.inr rfl) (by rw [mx_r (by omega), xu_k (by omega), xu_k (by omega)]; omega) (fun _ => ?_) (fun q => by rw [mx_r (by omega), xu_s] at q; omega)
            have e1 : x_mx N (xm_up (xm_up B 50 10 (A 6 i)) 50 11 1) 50 18 = B 50 18 := by rw [mx_r (by omega), xu_k (by omega), xu_k (by omega)]
            rw [e1, mx_up (by omega), xu_u, mx_up (by omega)]
            exact hR
    · -- a group opens
      have hi : i < m := by
        by_cases q : i = m
        · have := k.2.2.1 q; omega
        · omega
      obtain ⟨k1, k2, k3, k4, k5, k6, k7⟩ := k.2.2.2 hi
      have ts := kn_3 (c := t (A 6 i)) (by omega)
      have es : E i = A 6 i + 1 := k3.2.2.2 (by omega) (by omega)
      refine sp132 hc hi w1 w2 (fun d4 => xq_ki ?_) (fun d4 => xq_ki (stop ?_))
      · have hc1 : x_cur (xm_up (xm_up (xm_up A 8 1 ((D : Int) + 1)) 10 ((D : Int) + 1) 0) 4 4 (i + 1)) t n m E (i + 1) := by
          refine cur_next (cur_keep hc ?_ ?_ ?_ ?_) hi
          all_goals rw [xu_c (by omega), xu_c (by omega)]
        have k' := cur_tok hc1
        have e6 : xm_up (xm_up (xm_up A 8 1 ((D : Int) + 1)) 10 ((D : Int) + 1) 0) 4 4 (i + 1) 6 = A 6 := by rw [xu_c (by omega), xu_c (by omega), xu_c (by omega)]
        have e10 : ∀ j : Int, xm_up (xm_up (xm_up A 8 1 ((D : Int) + 1)) 10 ((D : Int) + 1) 0) 4 4 (i + 1) 10 j = if j = (D : Int) + 1 then 0 else A 10 j := fun j => by
          rw [xu_c (by omega)]
          by_cases q : j = (D : Int) + 1
          · rw [if_pos q, q, xu_s]
          · rw [if_neg q, xu_k q, xu_c (by omega)]
        have e8 : xm_up (xm_up (xm_up A 8 1 ((D : Int) + 1)) 10 ((D : Int) + 1) 0) 4 4 (i + 1) 8 1 = (D : Int) + 1 := by rw [xu_c (by omega), xu_c (by omega), xu_s]
        have eoth : ∀ q : Nat, q ≠ 4 → q ≠ 8 → q ≠ 10 → xm_up (xm_up (xm_up A 8 1 ((D : Int) + 1)) 10 ((D : Int) + 1) 0) 4 4 (i + 1) q = A q := fun q a b z => by rw [xu_c a, xu_c z, xu_c b]
        have e4 : ∀ j : Int, j ≠ 4 → xm_up (xm_up (xm_up A 8 1 ((D : Int) + 1)) 10 ((D : Int) + 1) 0) 4 4 (i + 1) 4 j = A 4 j := fun j a => by rw [xu_k a, xu_c (by omega), xu_c (by omega)]
        rw [e6] at k'
        generalize xm_up (xm_up (xm_up A 8 1 ((D : Int) + 1)) 10 ((D : Int) + 1) 0) 4 4 (i + 1) = A1 at *
        have kc' : A 6 (i + 1) < n → t (A 6 (i + 1)) ≠ 32 := fun q => by
          by_cases z : i + 1 = m
          · have := (k'.2.2.1 z).2; omega
          · exact (k'.2.2.2 (by omega)).2.1
        have hgo2 : ∀ B' : xm_Mem, y_go e row ((D : Int) + 1) 0 (xm_up (xm_up (xm_up B 50 10 (A 6 i)) 58 ((D : Int) + 1) (B 50 18)) 50 10 (A 6 i + 1)) B' → y_go e row D hs B B' := fun B' hb N R o hR => by
          refine lo203s (s := A 6 i) hr (mtx hT) (by rw [mx_r (by omega)]) hx (by rw [mx_r (by omega)]; exact hf) w2 hh (by rw [mx_r (by omega)]; omega) (by rw [mx_r (by omega), mx_r (by omega)]; omega) (fun _ b => by omega) (fun _ _ _ o => ?_) (fun a b q r => by omega) (fun _ z => absurd ⟨k1, ts, d4⟩ z)
          have := hb N R o hR
          rw [mx_r (by omega), mx_up (by omega), mx_up (by omega), mx_up (by omega)]
          exact this
        refine ih A1 (xm_up (xm_up (xm_up B 50 10 (A 6 i)) 58 ((D : Int) + 1) (B 50 18)) 50 10 (A 6 i + 1)) (i + 1) 0 (x5 + 1) (D + 1) (by omega) (by omega) hc1 ?_ ?_ ?_ ⟨by rw [e8]; omega, by omega, fun j hj => ?_, fun j hj => ?_, ?_, ?_, fun q q1 q2 => ?_⟩ (fA_tr hfA ⟨fun q a b z _ _ _ => eoth q a b z, fun j _ => by rw [eoth 15 (by omega) (by omega) (by omega)], fun j _ => by rw [eoth 16 (by omega) (by omega) (by omega)], fun j _ => by rw [eoth 14 (by omega) (by omega) (by omega)], e4⟩) (by rw [eoth 16 (by omega) (by omega) (by omega)]; exact hle) (by rw [eoth 14 (by omega) (by omega) (by omega)]; exact hcc) (fB_tr hfB (fB_50 (fB_57 (fB_50 fB_id (by omega)) (by omega)) (by omega))) (fun B' hb => hgo B' (hgo2 B' hb))
        · exact ytx_up (ytx_up (ytx_up hT ⟨by omega, fun _ => by omega⟩) ⟨by omega, fun _ => by omega⟩) ⟨by omega, fun _ => by omega⟩
        · rw [xu_k (by omega), xu_c (by omega), xu_k (by omega)]; exact hf
        · rw [xu_s, e6, ← es]
          have := k3.1
          exact ⟨by omega, k7, k'.1.2, kc'⟩
        · rw [e10]
          split
          · omega
          · exact w3 j (by omega)
        · rw [xu_c (by omega)]
          have es1 : ∀ a : Nat, a ≤ D + 1 → x_sum (A1 10) 0 a = x_sum (A 10) 0 a := fun a ha => x_sum_ext (fun q hq => by rw [e10, if_neg (by omega)])
          rw [es1 j hj]
          by_cases z : j = D + 1
          · subst z
            rw [show ((D + 1 : Nat) : Int) = (D : Int) + 1 by omega, xu_s]
            exact w5
          · rw [xu_k (by omega), xu_c (by omega)]
            exact w4 j (by omega)
        · rw [xu_k (by omega), xu_c (by omega), xu_k (by omega), w5, x_sum_1 (A1 10), e10, if_pos (by omega)]
          have es1 : x_sum (A1 10) 0 (D + 1) = x_sum (A 10) 0 (D + 1) := x_sum_ext (fun q hq => by rw [e10, if_neg (by omega)])
          rw [es1]; omega
        · have z0 : A1 10 ((D + 1 : Nat) : Int) = 0 := by rw [e10, if_pos (by omega)]
          rw [z0]; rfl
        · rw [xu_k (by omega), xu_c (by omega), xu_k (by omega)] at q2
          rw [xu_c (by omega), xu_c (by omega), xu_c (by omega), eoth 15 (by omega) (by omega) (by omega)]
          exact w7 q q1 q2
      · exact out (fun q => by omega) (fun q => d4 q.2.2) (fun q => by omega) (fun _ => by omega)
    · -- a group is shut
      have hi : i < m := by
        by_cases q : i = m
        · have := k.2.2.1 q; omega
        · omega
      obtain ⟨k1, k2, k3, k4, k5, k6, k7⟩ := k.2.2.2 hi
      have ts := kn_4 (c := t (A 6 i)) (by omega)
      have es : E i = A 6 i + 1 := k3.2.2.2 (by omega) (by omega)
      have hc1 := cur_next hc hi
      have k' := cur_tok hc1
      rw [xu_c (c' := 5) (by omega), xu_c (c' := 6) (by omega), xu_c (c' := 7) (by omega)] at k'
      have kc' : A 6 (i + 1) < n → t (A 6 (i + 1)) ≠ 32 := fun q => by
        by_cases z : i + 1 = m
        · have := (k'.2.2.1 z).2; omega
        · exact (k'.2.2.2 (by omega)).2.1
      have i1m : A 6 (i + 1) < n → i + 1 < m := fun q => by
        by_cases z : i + 1 = m
        · have := (k'.2.2.1 z).2; omega
        · omega
      have nx2 : y_nx t n (A 6 i + 1) (A 6 (i + 1)) := ⟨by omega, by rw [← es]; exact k7, k'.1.2, kc'⟩
      have un2 := fun a b => te_one (e := a) (e' := b) hT0 k'.1.1
      have hsD : 1 ≤ A 10 D → hs = 1 := fun q => by rw [w6, if_pos q]
      -- the reference shuts the group
      have shut : 1 ≤ D → 1 ≤ A 10 D → ∀ (N : xm_Mem) (R : xm_K), (A 6 (i + 1) < n → x_kn (t (A 6 (i + 1))) = 2 → 1 ≤ A 7 (i + 1) ∧ A 7 (i + 1) ≤ 9 → A 10 ((D : Int) - 1) + A 10 D * A 7 (i + 1) ≤ 400 → ∀ K : Nat, (K : Int) = A 10 D * (A 7 (i + 1) - 1) → R [] (x_mx N (y_rp (xm_up B 50 10 (E (i + 1))) (A 10 D) K))) → (¬ (x_isn A (i + 1) 1 9 ∧ A 10 ((D : Int) - 1) + A 10 D * A 7 (i + 1) ≤ 400) → R [] (x_mx N (xm_up (xm_up B 50 10 (A 6 (i + 1))) 50 11 1))) → xm_call true (e + 5) 202 [.inr (.inr 50), .inl (D : Int)] (xm_up (x_mx N B) 50 10 (A 6 i)) R := by
        intro d1 a1 N R q1 q0
        have wP := w3 (D - 1) (by omega)
        have p4 := w4 (D - 1) (by omega)
        have p4' := w4 D (Nat.le_refl _)
        have sD : x_sum (A 10) 0 D = x_sum (A 10) 0 (D - 1) + A 10 ((D - 1 : Nat) : Int) := by
          have := x_sum_1 (A 10) (D - 1)
          rw [show D - 1 + 1 = D by omega] at this
          exact this
        have b0 := x_sum_bd (f := A 10) (c := 400) (D - 1) 0 (fun s a b => by
          have := w3 s.toNat (by omega)
          rw [show ((s.toNat : Nat) : Int) = s by omega] at this
          exact this)
        rw [show ((D - 1 : Nat) : Int) = (D : Int) - 1 by omega] at p4 wP sD
        have f18 : xm_up (x_mx N B) 50 10 (A 6 i) 50 18 = B 50 18 := by rw [xu_k (by omega), mx_r (by omega)]
        have f58 : xm_up (x_mx N B) 50 10 (A 6 i) 58 = B 58 := by rw [xu_c (by omega), mx_r (by omega)]
        have pd : B 58 D - B 58 ((D : Int) - 1) = A 10 ((D : Int) - 1) := by omega
        refine sp202 (s := A 6 i) (s2 := A 6 (i + 1)) (ytx_up (mtx hT) ⟨by omega, fun _ => by omega⟩) xu_s ⟨s0.1, k1, ts⟩ nx2 (by rw [xu_k (by omega), mx_r (by omega)]; exact hf) ⟨d1, w2⟩ (by rw [f18]; omega) (by rw [f18, f58]; omega) (by rw [f58]; omega) (fun q => ⟨E (i + 1), (k'.2.2.2 (i1m q)).2.2.1⟩) (fun e2 z1 z2 z3 z4 z5 K hK => ?_) (fun z => ?_)
        · have kk := k'.2.2.2 (i1m z1)
          have ee := un2 _ _ z3 kk.2.2.1
          subst ee
          have vv := kk.2.2.2.2.1.1 z2
          rw [f18, f58, h58, ← vv] at hK
          rw [f58, f18, h58, pd, ← vv] at z5
          rw [← vv] at z4
          rw [f18, f58, h58, xu_u, mx_up (by omega), mx_rp]
          exact q1 z1 z2 z4 z5 K hK
        · rw [f18, f58, h58, pd] at z
          have fe : y_ft (xm_up (x_mx N B) 50 10 (A 6 i)) (A 6 (i + 1)) = x_mx N (xm_up (xm_up B 50 10 (A 6 (i + 1))) 50 11 1) := by
            unfold y_ft
            rw [xu_u, mx_up (by omega), mx_up (by omega)]
          rw [fe]
          refine q0 (fun zz => ?_)
          obtain ⟨⟨y1, y2, y3⟩, y4⟩ := zz
          have im' : i + 1 < m := by
            by_cases q : i + 1 = m
            · have := (k'.2.2.1 q).1; omega
            · omega
          have kk := k'.2.2.2 im'
          have vv := kk.2.2.2.2.1.1 (by omega)
          have := z kk.1 (by omega) _ kk.2.2.1
          rw [← vv] at this
          exact this ⟨⟨y2, y3⟩, y4⟩
      refine sp133_14 hc hi hr w1 w2 w3 (fun z => xq_ki (stop ?_)) (fun d1 a1 z => xq_ki (stop2 ?_)) (fun N d1 a1 i2 isn room f1 f4 f8 f10 f2 f3 => xq_ki ?_)
      · refine out (fun q => by omega) (fun q => by omega) (fun q => z ⟨q.2.2.1, ?_⟩) (fun _ => by omega)
        by_cases y : 1 ≤ A 10 D
        · exact y
        · rw [w6, if_neg y] at q; omega
      · refine err (xm_up A 4 4 (i + 1)) (i + 1) (xm_up (xm_up (xm_up B 50 10 (A 6 (i + 1))) 50 11 1) 56 row (B 50 18)) hc1 (fA_tr hfA ⟨fun q a _ _ _ _ _ => xu_c a, fun _ _ => by rw [xu_c (by omega)], fun _ _ => by rw [xu_c (by omega)], fun _ _ => by rw [xu_c (by omega)], fun j a => xu_k a⟩) (fB_56 (fB_50 (fB_50 fB_id (by omega)) (by omega))) ?_ ?_ ?_
        · rw [xu_c (by omega), xu_k (by omega), xu_s, xu_c (by omega)]
        · rw [xu_c (by omega), xu_s]; exact Or.inl rfl
        · intro N R o hR
          refine lo203s (s := A 6 i) hr (mtx hT) (by rw [mx_r (by omega)]) hx (by rw [mx_r (by omega)]; exact hf) w2 hh (by rw [mx_r (by omega)]; omega) (by rw [mx_r (by omega), mx_r (by omega)]; omega) (fun _ b => by omega) (fun _ b _ => by omega) (fun _ _ _ _ o => ?_) (fun _ _ z => absurd ⟨k1, ts, d1, hsD a1⟩ z)
          refine shut d1 a1 N _ (fun y1 y2 y3 y4 => absurd ⟨⟨by rw [(k'.2.2.2 (i1m y1)).2.2.2.1]; exact y2, y3.1, y3.2⟩, y4⟩ z) (fun _ => xq_kv ?_)
          refine lo203x hr (by omega) (Or.inr ⟨rfl, by rw [mx_r (by omega), xu_s]⟩) (by rw [mx_r (by omega), xu_s]; exact Or.inr rfl) hh (by rw [mx_r (by omega), xu_k (by omega), xu_k (by omega)]; omega) (fun _ => ?_) (fun q => by rw [mx_r (by omega), xu_s] at q; omega)
          have e1 : x_mx N (xm_up (xm_up B 50 10 (A 6 (i + 1))) 50 11 1) 50 18 = B 50 18 := by rw [mx_r (by omega), xu_k (by omega), xu_k (by omega)]
          rw [e1, mx_up (by omega), xu_u, mx_up (by omega)]
          exact hR
      · obtain ⟨y1, y2, y3⟩ := isn
        have kk := k'.2.2.2 i2
        have n6 : N 6 = A 6 := f1 6 (by omega) (by omega) (by omega) (by omega)
        have n5 : N 5 = A 5 := f1 5 (by omega) (by omega) (by omega) (by omega)
        have n7 : N 7 = A 7 := f1 7 (by omega) (by omega) (by omega) (by omega)
        have hc2 : x_cur N t n m E (i + 2) := by
          obtain ⟨hTc, ⟨p1, p2, p3, p4, p5, p6⟩, c1, c2, c3⟩ := hc
          refine ⟨hTc, ⟨?_, p2, ?_, p4, ?_, ?_⟩, f4.1, by omega, by omega⟩
          · rw [f4.2 3 (by omega)]; exact p1
          · rw [n5, n6, n7]; exact p3
          · rw [n6]; exact p5
          · rw [n5]; exact p6
        have k'' := cur_tok hc2
        rw [n6] at k''
        have kc'' : A 6 (i + 2) < n → t (A 6 (i + 2)) ≠ 32 := fun q => by
          by_cases z : i + 2 = m
          · have := (k''.2.2.1 z).2; omega
          · exact (k''.2.2.2 (by omega)).2.1
        have LT : 1 * 1 ≤ A 10 D * A 7 (i + 1) := Int.mul_le_mul a1 y2 (by omega) (by omega)
        have LT0 : 0 ≤ A 10 D * (A 7 (i + 1) - 1) := Int.mul_nonneg (by omega) (by omega)
        have LTe : A 10 D * (A 7 (i + 1) - 1) = A 10 D * A 7 (i + 1) - A 10 D := by rw [Int.mul_sub, Int.mul_one]
        have hK : (((A 10 D * (A 7 (i + 1) - 1)).toNat : Nat) : Int) = A 10 D * A 7 (i + 1) - A 10 D := by omega
        have hgo2 : ∀ B' : xm_Mem, y_go e row ((D : Int) - 1) 1 (y_rp (xm_up B 50 10 (E (i + 1))) (A 10 D) (A 10 D * (A 7 (i + 1) - 1)).toNat) B' → y_go e row D hs B B' := fun B' hb P R o hR => by
          refine lo203s (s := A 6 i) hr (mtx hT) (by rw [mx_r (by omega)]) hx (by rw [mx_r (by omega)]; exact hf) w2 hh (by rw [mx_r (by omega)]; omega) (by rw [mx_r (by omega), mx_r (by omega)]; omega) (fun _ b => by omega) (fun _ b _ => by omega) (fun _ _ _ _ o => ?_) (fun _ _ z => absurd ⟨k1, ts, d1, hsD a1⟩ z)
          refine shut d1 a1 P _ (fun _ _ _ _ K hK2 => xq_kv ?_) (fun z => absurd ⟨⟨y1, y2, y3⟩, room⟩ z)
          have ek : K = (A 10 D * (A 7 (i + 1) - 1)).toNat := by omega
          rw [ek, hsD a1, show (D : Int) + (-1) = (D : Int) - 1 by omega]
          exact hb P R _ hR
        have r18 := rp_18 (M := xm_up B 50 10 (E (i + 1))) (many := A 10 D) (A 10 D * (A 7 (i + 1) - 1)).toNat
        rw [xu_k (k := 10) (k' := 18) (by omega), hK] at r18
        have r58 : y_rp (xm_up B 50 10 (E (i + 1))) (A 10 D) (A 10 D * (A 7 (i + 1) - 1)).toNat 58 = B 58 := by rw [rp_c (by omega), xu_c (by omega)]
        have r10 : y_rp (xm_up B 50 10 (E (i + 1))) (A 10 D) (A 10 D * (A 7 (i + 1) - 1)).toNat 50 10 = E (i + 1) := by rw [rp_k (by omega), xu_s]
        have r11 : y_rp (xm_up B 50 10 (E (i + 1))) (A 10 D) (A 10 D * (A 7 (i + 1) - 1)).toNat 50 11 = 0 := by rw [rp_k (by omega), xu_k (by omega)]; exact hf
        have rlo : ∀ q : Int, q < B 50 18 → y_rp (xm_up B 50 10 (E (i + 1))) (A 10 D) (A 10 D * (A 7 (i + 1) - 1)).toNat 57 q = B 57 q := fun q hq => by
          rw [rp_lo (by rw [xu_k (by omega)]; exact hq), xu_c (by omega)]
        have rhi : ∀ q : Int, B 50 18 ≤ q → q < B 50 18 + (A 10 D * A 7 (i + 1) - A 10 D) → y_rp (xm_up B 50 10 (E (i + 1))) (A 10 D) (A 10 D * (A 7 (i + 1) - 1)).toNat 57 q = y_rp (xm_up B 50 10 (E (i + 1))) (A 10 D) (A 10 D * (A 7 (i + 1) - 1)).toNat 57 (q - A 10 D) := fun q h1 h2 =>
          rp_hi a1 _ q (by rw [xu_k (by omega)]; exact h1) (by rw [xu_k (by omega), hK]; exact h2)
        have rT : y_txt (y_rp (xm_up B 50 10 (E (i + 1))) (A 10 D) (A 10 D * (A 7 (i + 1) - 1)).toNat) t n := by
          refine ⟨hT0, ?_, ?_⟩
          · rw [rp_k (by omega), xu_k (by omega)]; exact hT.2.1
          · rw [rp_c (by omega), xu_c (by omega)]; exact hT.2.2
        have rF : x_fB row B (y_rp (xm_up B 50 10 (E (i + 1))) (A 10 D) (A 10 D * (A 7 (i + 1) - 1)).toNat) := fB_rp (fB_50 fB_id (by omega)) _
        generalize y_rp (xm_up B 50 10 (E (i + 1))) (A 10 D) (A 10 D * (A 7 (i + 1) - 1)).toNat = B1 at *
        have e10 : ∀ j : Nat, j + 1 < D → N 10 j = A 10 j := fun j hj => f10.2 j (by omega)
        have sN : ∀ a : Nat, a + 1 ≤ D → x_sum (N 10) 0 a = x_sum (A 10) 0 a := fun a ha => x_sum_ext (fun q hq => e10 q (by omega))
        have sD : x_sum (A 10) 0 D = x_sum (A 10) 0 (D - 1) + A 10 ((D : Int) - 1) := by
          have := x_sum_1 (A 10) (D - 1)
          rw [show D - 1 + 1 = D by omega, show ((D - 1 : Nat) : Int) = (D : Int) - 1 by omega] at this
          exact this
        have sND : x_sum (N 10) 0 D = x_sum (N 10) 0 (D - 1) + N 10 ((D : Int) - 1) := by
          have := x_sum_1 (N 10) (D - 1)
          rw [show D - 1 + 1 = D by omega, show ((D - 1 : Nat) : Int) = (D : Int) - 1 by omega] at this
          exact this
        have wP := w3 (D - 1) (by omega)
        rw [show ((D - 1 : Nat) : Int) = (D : Int) - 1 by omega] at wP
        have sDD := x_sum_1 (A 10) D
        have bgb := x_sum_bd (f := A 10) (c := 400) D 0 (fun s a b => by
          have := w3 s.toNat (by omega)
          rw [show ((s.toNat : Nat) : Int) = s by omega] at this
          exact this)
        have cont : ∀ (q : Nat), (q : Int) < B1 50 18 → ((q : Int) < 400 → N 15 (row * 400 + q) = B1 57 q) ∧ x_alw row (B1 57 q) := by
          intro q
          induction q using Nat.strongRecOn with
          | _ q ihq =>
            intro hq
            by_cases z : (q : Int) < B 50 18
            · have g7 := w7 q (by omega) z
              rw [rlo q z]
              refine ⟨fun q4 => ?_, g7.2⟩
              rw [f2 _ (by omega)]
              exact g7.1 q4
            · have g7 := ihq (q - (A 10 D).toNat) (by omega) (by omega)
              rw [show ((q - (A 10 D).toNat : Nat) : Int) = (q : Int) - A 10 D by omega] at g7
              rw [rhi q (by omega) (by omega)]
              refine ⟨fun q4 => ?_, g7.2⟩
              rw [f3 q (by omega) (by omega) q4, show row * 400 + (q : Int) - A 10 D = row * 400 + ((q : Int) - A 10 D) by omega]
              exact g7.1 (by omega)
        have ed : ((D - 1 : Nat) : Int) = (D : Int) - 1 := by omega
        refine ih N B1 (i + 2) 1 (x5 + 1) (D - 1) (by omega) (by omega) hc2 rT r11 ?_ ⟨by rw [f8, ed], by omega, fun j hj => ?_, fun j hj => ?_, ?_, ?_, fun q q1 q2 => ?_⟩ (fA_tr hfA ⟨fun q a b z f _ _ => f1 q f a b z, fun j hj => f2 j (by omega), fun j _ => by rw [f1 16 (by omega) (by omega) (by omega) (by omega)], fun j _ => by rw [f1 14 (by omega) (by omega) (by omega) (by omega)], f4.2⟩) (by rw [f1 16 (by omega) (by omega) (by omega) (by omega)]; exact hle) (by rw [f1 14 (by omega) (by omega) (by omega) (by omega)]; exact hcc) (fB_tr hfB rF) (fun B' hb => hgo B' (hgo2 B' (by rw [ed] at hb; exact hb)))
        · rw [r10, n6]
          have g1 := kk.2.2.1.1
          have g2 := kk.2.2.2.2.2.2
          rw [show i + 1 + 1 = i + 2 by omega] at g2
          exact ⟨by omega, g2, k''.1.2, kc''⟩
        · by_cases z : j + 1 = D
          · rw [show (j : Int) = (D : Int) - 1 by omega, f10.1]; omega
          · rw [e10 j (by omega)]; exact w3 j (by omega)
        · rw [r58, w4 j (by omega), sN j (by omega)]
        · rw [r18, show D - 1 + 1 = D by omega, sND, sN (D - 1) (by omega), f10.1, w5]
          omega
        · rw [ed, f10.1, if_pos (by omega)]
        · have := cont q.toNat (by omega)
          rw [show ((q.toNat : Nat) : Int) = q by omega] at this
          exact this
    · -- the row ends
      have hi : i < m := by
        by_cases q : i = m
        · have := k.2.2.1 q; omega
        · omega
      obtain ⟨k1, k2, k3, k4, k5, k6, k7⟩ := k.2.2.2 hi
      refine sp134_14 hc hi hr w1 (w3 0 (by omega)) (fun d0 a1 => xq_ki ⟨Or.inr rfl, ?_⟩) (fun z => xq_ki ⟨Or.inl rfl, ?_⟩) w2
      · have hs1 : hs = 1 := by
          rw [w6, d0]
          exact if_pos a1
        have s18 : B 50 18 = A 10 0 := by
          rw [w5, d0, x_sum_1]
          simp only [x_sum]
          show 0 + A 10 0 = A 10 0
          omega
        have a4 := (w3 0 (by omega)).2
        have a4' : A 10 0 ≤ 400 := a4
        have ek : B 50 18 = ((A 10 0).toNat : Int) := by omega
        have eoth : ∀ q : Nat, q ≠ 4 → q ≠ 16 → q ≠ 14 → xm_up (if row = 4 then xm_up A 16 row (A 10 0) else xm_up (xm_up A 16 row (A 10 0)) 14 5 (row + 1)) 4 4 (i + 1) q = A q := fun q a b z => by
          rw [xu_c a]
          split
          · rw [xu_c b]
          · rw [xu_c z, xu_c b]
        have ele : ∀ j : Int, xm_up (if row = 4 then xm_up A 16 row (A 10 0) else xm_up (xm_up A 16 row (A 10 0)) 14 5 (row + 1)) 4 4 (i + 1) 16 j = if j = row then A 10 0 else A 16 j := fun j => by
          rw [xu_c (by omega)]
          by_cases q : j = row
          · rw [if_pos q, q]
            split
            · rw [xu_s]
            · rw [xu_c (by omega), xu_s]
          · rw [if_neg q]
            split
            · rw [xu_k q]
            · rw [xu_c (by omega), xu_k q]
        have ec : ∀ j : Int, xm_up (if row = 4 then xm_up A 16 row (A 10 0) else xm_up (xm_up A 16 row (A 10 0)) 14 5 (row + 1)) 4 4 (i + 1) 14 j = if j = 5 ∧ row ≠ 4 then row + 1 else A 14 j := fun j => by
          rw [xu_c (by omega)]
          by_cases q : row = 4
          · rw [if_pos q, if_neg (fun z => z.2 q), xu_c (by omega)]
          · rw [if_neg q]
            by_cases q2 : j = 5
            · rw [if_pos ⟨q2, q⟩, q2, xu_s]
            · rw [if_neg (fun z => q2 z.1), xu_k q2, xu_c (by omega)]
        have e4 : ∀ j : Int, j ≠ 4 → xm_up (if row = 4 then xm_up A 16 row (A 10 0) else xm_up (xm_up A 16 row (A 10 0)) 14 5 (row + 1)) 4 4 (i + 1) 4 j = A 4 j := fun j a => by
          rw [xu_k a]
          split
          · rw [xu_c (by omega)]
          · rw [xu_c (by omega), xu_c (by omega)]
        have hc1 : x_cur (xm_up (if row = 4 then xm_up A 16 row (A 10 0) else xm_up (xm_up A 16 row (A 10 0)) 14 5 (row + 1)) 4 4 (i + 1)) t n m E (i + 1) := by
          refine cur_next (cur_keep hc ?_ ?_ ?_ ?_) hi
          all_goals
            split
            · rw [xu_c (by omega)]
            · rw [xu_c (by omega), xu_c (by omega)]
        generalize xm_up (if row = 4 then xm_up A 16 row (A 10 0) else xm_up (xm_up A 16 row (A 10 0)) 14 5 (row + 1)) 4 4 (i + 1) = A1 at *
        have i1 : i + 1 - 1 = i := by omega
        refine h1 A1 (xm_up (y_cy (xm_up B 50 10 (A 6 i)) row (A 10 0).toNat) 56 row ((A 10 0).toNat : Int)) (i + 1) hc1 (by omega) (by omega) ?_ (fA_tr hfA ⟨fun q a b z f y x => eoth q a y x, fun j _ => by rw [eoth 15 (by omega) (by omega) (by omega)], fun j a => by rw [ele, if_neg a], fun j a => by rw [ec, if_neg (fun z => a z.1)], e4⟩) (fB_tr hfB (fB_56 (fB_cy (fB_50 fB_id (by omega)) _ (by omega)))) ?_ (fun q => ?_) (fun q => ?_) ?_ (fun q q1 q2 => ?_) ?_ ?_ (hgo _ ?_)
        · rw [i1, eoth 5 (by omega) (by omega) (by omega)]; exact g
        · rw [ele, if_pos rfl]; omega
        · rw [ec, if_neg (fun z => z.2 q), hcc]
        · rw [ec, if_pos ⟨rfl, q⟩]
        · rw [xu_s, ele, if_pos rfl]; omega
        · rw [ele, if_pos rfl] at q2
          have g7 := w7 q q1 (by omega)
          rw [eoth 15 (by omega) (by omega) (by omega), xu_c (by omega), cy_in _ q1 (by omega), xu_c (by omega)]
          exact ⟨g7.1 (by omega), g7.2⟩
        · rw [xu_c (by omega), cy_c (by omega), xu_k (by omega)]; exact hf
        · rw [xu_c (by omega), cy_c (by omega), xu_s, i1, eoth 6 (by omega) (by omega) (by omega)]
        · intro N R o hR
          refine lo203s (s := A 6 i) hr (mtx hT) (by rw [mx_r (by omega)]) hx (by rw [mx_r (by omega)]; exact hf) w2 hh (by rw [mx_r (by omega)]; omega) (by rw [mx_r (by omega), mx_r (by omega)]; omega) (fun _ b => by omega) (fun _ b _ => by rw [b] at k4; exact absurd (k4.symm.trans g) (by decide)) (fun _ b _ _ => by rw [b] at k4; exact absurd (k4.symm.trans g) (by decide)) (fun _ _ _ o => ?_)
          rw [mx_up (by omega)]
          refine lo203x hr (by omega) (Or.inl rfl) (by rw [mx_r (by omega), xu_k (by omega)]; exact Or.inl hf) hh (by rw [mx_r (by omega), xu_k (by omega)]; omega) (fun q => ?_) (fun _ _ _ => ⟨by rw [mx_r (by omega), xu_k (by omega)]; omega, fun K hK => ?_⟩)
          · rw [mx_r (by omega), xu_k (by omega), hf] at q
            omega
          · rw [mx_r (by omega), xu_k (by omega)] at hK
            have : K = (A 10 0).toNat := by omega
            rw [mx_cy, mx_up (by omega), this]
            exact hR
      · refine out (fun q => by omega) (fun q => by rw [q.2.1] at k4; exact absurd (k4.symm.trans g) (by decide)) (fun q => by rw [q.2.1] at k4; exact absurd (k4.symm.trans g) (by decide)) (fun q => absurd ⟨q.1, ?_⟩ z)
        have q2 := q.2
        rw [w6, q.1] at q2
        by_cases y : 1 ≤ A 10 ((0 : Nat) : Int)
        · exact y
        · rw [if_neg y] at q2; omega
    · -- anything else
      have kq : ∀ w : Int, A 6 i < n → t (A 6 i) = w → A 5 i = x_kn w := fun w q1 q2 => by
        have hi : i < m := by
          by_cases q : i = m
          · have := k.2.2.1 q; omega
          · omega
        rw [(k.2.2.2 hi).2.2.2.1, q2]
      have kn : A 6 i < n → A 5 i = x_kn (t (A 6 i)) := fun q1 => kq _ q1 rfl
      refine stop (out (fun q => ?_) (fun q => ?_) (fun q => ?_) (fun _ => by omega))
      · have := kn q.1; omega
      · have := kq 40 q.1 q.2.1
        rw [show x_kn 40 = 3 from rfl] at this
        omega
      · have := kq 41 q.1 q.2.1
        rw [show x_kn 41 = 4 from rfl] at this
        omega
end LR
