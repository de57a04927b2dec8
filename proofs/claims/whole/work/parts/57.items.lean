/-! items are read in lockstep -/
def x_pt (f nu le g : Int → Int) (src : Int) (r55 l56 : Int → Int) : Prop :=
  (f 0 = g 0 ∧ 1 ≤ f 0 ∧ f 0 ≤ 40) ∧ (f 1 = g 1 ∧ 1 ≤ f 1 ∧ f 1 ≤ 9) ∧ (f 2 = g 2 ∧ 0 ≤ f 2 ∧ f 2 ≤ 40) ∧ (f 3 = g 3 ∧ 0 ≤ f 3 ∧ f 3 ≤ 20) ∧ (f 4 = g 4 ∧ 1 ≤ f 4 ∧ f 4 ≤ 16) ∧ (f 5 = src ∧ 0 ≤ f 5 ∧ f 5 ≤ 4) ∧
  (∀ s : Int, 0 ≤ s → s < f 5 → le s = l56 s ∧ 1 ≤ le s ∧ le s ≤ 400) ∧ (∀ s : Int, f 5 ≤ s → s < 4 → le s = 0) ∧ (le 4 = l56 4 ∧ 0 ≤ le 4 ∧ le 4 ≤ 400) ∧
  ∀ s i : Int, (0 ≤ s ∧ s < f 5 ∨ s = 4) → 0 ≤ i → i < le s → nu (s * 400 + i) = r55 (400 * s + i) ∧ x_alw s (r55 (400 * s + i))
def x_told (a9 : Int → Int) (T : Int) (src le4 : Int) : Prop := ∃ b : Nat, T = (b : Int) ∧ b < 32 ∧ (∀ w : Nat, w < 5 → a9 w = if b.testBit w = true then 1 else 0) ∧ a9 5 = src ∧ (b.testBit 4 = false → le4 = 0)
def x_it (nu le c : Nat) (t : Int → Int) (n m : Int) (E : Int → Int) (i : Int) (A B : xm_Mem) : Prop :=
  x_cur A t n m E i ∧ y_txt B t n ∧ B 50 11 = 0 ∧ y_nx t n (B 50 10) (A 6 i) ∧ x_pt (A c) (A nu) (A le) (B 54) (B 50 14) (B 55) (B 56) ∧ x_told (A 9) (B 50 13) (B 50 14) (A le 4)
/-- what items leave alone -/
def x_gA (nu le c : Nat) (A A' : xm_Mem) : Prop := (∀ q : Nat, q ≠ 4 → q ≠ 8 → q ≠ 9 → q ≠ 10 → q ≠ nu → q ≠ le → q ≠ c → A' q = A q) ∧ ∀ k : Int, k ≠ 4 → A' 4 k = A 4 k
def x_gB (B B' : xm_Mem) : Prop := (∀ q : Nat, q ≠ 50 → q ≠ 54 → q ≠ 55 → q ≠ 56 → q ≠ 57 → q ≠ 58 → B' q = B q) ∧ ∀ k : Int, k ≠ 10 → k ≠ 11 → k ≠ 13 → k ≠ 14 → k ≠ 18 → B' 50 k = B 50 k
theorem gA_tr {nu le c : Nat} {A A1 A2 : xm_Mem} (h1 : x_gA nu le c A A1) (h2 : x_gA nu le c A1 A2) : x_gA nu le c A A2 := by
  obtain ⟨a1, a5⟩ := h1
  obtain ⟨b1, b5⟩ := h2
  exact ⟨fun q x1 x2 x3 x4 x5 x6 x7 => (b1 q x1 x2 x3 x4 x5 x6 x7).trans (a1 q x1 x2 x3 x4 x5 x6 x7), fun k x => (b5 k x).trans (a5 k x)⟩
theorem gB_tr {A A1 A2 : xm_Mem} (h1 : x_gB A A1) (h2 : x_gB A1 A2) : x_gB A A2 := by
  obtain ⟨a1, a5⟩ := h1
  obtain ⟨b1, b5⟩ := h2
  exact ⟨fun q x1 x2 x3 x4 x5 x6 => (b1 q x1 x2 x3 x4 x5 x6).trans (a1 q x1 x2 x3 x4 x5 x6), fun k x1 x2 x3 x4 x5 => (b5 k x1 x2 x3 x4 x5).trans (a5 k x1 x2 x3 x4 x5)⟩
theorem gA_id {nu le c : Nat} {A : xm_Mem} : x_gA nu le c A A := ⟨fun _ _ _ _ _ _ _ _ => rfl, fun _ _ => rfl⟩
theorem gB_id {A : xm_Mem} : x_gB A A := ⟨fun _ _ _ _ _ _ _ => rfl, fun _ _ _ _ _ _ => rfl⟩
theorem gA_f {nu le c : Nat} {row : Int} {A A1 : xm_Mem} (h : x_fA nu le c row A A1) : x_gA nu le c A A1 := ⟨fun q x1 x2 _ x4 x5 x6 x7 => h.1 q x1 x2 x4 x5 x6 x7, h.2.2.2.2⟩
theorem gB_f {row : Int} {A A1 : xm_Mem} (h : x_fB row A A1) : x_gB A A1 := ⟨fun q x1 _ x3 x4 x5 x6 => h.1 q x1 x3 x4 x5 x6, fun k x1 x2 _ _ x5 => h.2.1 k x1 x2 x5⟩
theorem gA_4 {nu le c : Nat} {A A1 : xm_Mem} {v : Int} (h : x_gA nu le c A A1) : x_gA nu le c A (xm_up A1 4 4 v) := ⟨fun q x1 x2 x3 x4 x5 x6 x7 => by rw [xu_c x1]; exact h.1 q x1 x2 x3 x4 x5 x6 x7, fun k x => by rw [xu_k x]; exact h.2 k x⟩
theorem gA_q {nu le c q : Nat} {A A1 : xm_Mem} {k v : Int} (h : x_gA nu le c A A1) (hq : q ≠ 4) (hq2 : q = 9 ∨ q = c) : x_gA nu le c A (xm_up A1 q k v) := ⟨fun p x1 x2 x3 x4 x5 x6 x7 => by rw [xu_c (by omega)]; exact h.1 p x1 x2 x3 x4 x5 x6 x7, fun j x => by rw [xu_c (by omega)]; exact h.2 j x⟩
theorem gB_50 {A A1 : xm_Mem} {k v : Int} (h : x_gB A A1) (hk : k = 10 ∨ k = 11 ∨ k = 13 ∨ k = 14) : x_gB A (xm_up A1 50 k v) := ⟨fun q x1 x2 x3 x4 x5 x6 => by rw [xu_c x1]; exact h.1 q x1 x2 x3 x4 x5 x6, fun j x1 x2 x3 x4 x5 => by rw [xu_k (by omega)]; exact h.2 j x1 x2 x3 x4 x5⟩
theorem gB_54 {A A1 : xm_Mem} {k v : Int} (h : x_gB A A1) : x_gB A (xm_up A1 54 k v) := ⟨fun q x1 x2 x3 x4 x5 x6 => by rw [xu_c x2]; exact h.1 q x1 x2 x3 x4 x5 x6, fun j x1 x2 x3 x4 x5 => by rw [xu_c (by omega)]; exact h.2 j x1 x2 x3 x4 x5⟩
section IT
variable {d : Nat} {Q : xm_K} {t : Int → Int} {n m : Int} {E : Int → Int}
/-- the reference takes the number that stands at token j -/
theorem nstep {A M : xm_Mem} {j l u : Int} (hc : x_cur A t n m E j) (hT : y_txt M t n) (hx : y_nx t n (M 50 10) (A 6 j)) (hf : M 50 11 = 0) (hl : 0 ≤ l ∧ l ≤ u ∧ u ≤ 9999) (h1 : x_isn A j l u → j < m → Q [.inl (A 7 j)] (xm_up M 50 10 (E j))) (h0 : ¬ x_isn A j l u → Q [.inl l] (xm_up (xm_up M 50 10 (A 6 j)) 50 11 1)) : xm_call true (d + 3) 199 [.inr (.inr 50), .inl l, .inl u] M Q := by
  have k := cur_tok hc
  have jm : A 6 j < n → j < m := fun q => by
    have := hc.2.2.2.2
    by_cases z : j = m
    · have := (k.2.2.1 z).2; omega
    · omega
  have un := fun a b => te_one (e := a) (e' := b) hc.1 k.1.1
  refine sp199 hT rfl hx hf hl (fun e q1 q2 he b => ?_) (fun z => h0 (fun q => ?_)) (fun q => ⟨E j, (k.2.2.2 (jm q)).2.2.1⟩) un
  · obtain ⟨k1, k2, k3, k4, k5, k6, k7⟩ := k.2.2.2 (jm q1)
    have ee := un _ _ he k3
    subst ee
    have v := k5.1 q2
    rw [← v] at b ⊢
    exact h1 ⟨by omega, b.1, b.2⟩ (jm q1)
  · obtain ⟨y1, y2, y3⟩ := q
    have hj : j < m := by
      have := hc.2.2.2.2
      by_cases q : j = m
      · have := (k.2.2.1 q).1; omega
      · omega
    obtain ⟨k1, k2, k3, k4, k5, k6, k7⟩ := k.2.2.2 hj
    have v := k5.1 (by omega)
    have := z k1 (by omega) _ k3
    rw [← v] at this
    exact this ⟨y2, y3⟩
/-- the reference takes the semicolon at token j -/
theorem sstep {A M : xm_Mem} {j : Int} (hc : x_cur A t n m E j) (hT : y_txt M t n) (hx : y_nx t n (M 50 10) (A 6 j)) (hf : M 50 11 = 0) (h1 : A 5 j = 5 → j < m → Q [] (xm_up M 50 10 (E j))) (h0 : A 5 j ≠ 5 → Q [] (xm_up (xm_up M 50 10 (A 6 j)) 50 11 1)) : xm_call true (d + 2) 198 [.inr (.inr 50), .inl 59] M Q := by
  have k := cur_tok hc
  have jm : A 6 j < n → j < m := fun q => by
    have := hc.2.2.2.2
    by_cases z : j = m
    · have := (k.2.2.1 z).2; omega
    · omega
  refine sp198 hT rfl hx hf (by omega) (fun q1 q2 => ?_) (fun z => h0 (fun q => z ?_))
  · obtain ⟨k1, k2, k3, k4, k5, k6, k7⟩ := k.2.2.2 (jm q1)
    have kk : x_kn (t (A 6 j)) = 5 := by rw [q2]; rfl
    have ee := k3.2.2.2 (by omega) (by omega)
    rw [← ee]
    exact h1 (by omega) (jm q1)
  · have hj : j < m := by
      have := hc.2.2.2.2
      by_cases z : j = m
      · have := (k.2.2.1 z).1; omega
      · omega
    obtain ⟨k1, k2, k3, k4, k5, k6, k7⟩ := k.2.2.2 hj
    exact ⟨k1, kn_5 (by omega)⟩
theorem nx_next {A : xm_Mem} {j : Int} (hc : x_cur A t n m E j) (hj : j < m) : y_nx t n (E j) (A 6 (j + 1)) := by
  have k := cur_tok hc
  obtain ⟨k1, k2, k3, k4, k5, k6, k7⟩ := k.2.2.2 hj
  have hc1 := cur_next hc hj
  have k' := cur_tok hc1
  rw [xu_c (c' := 6) (by omega)] at k'
  have := k3.1
  refine ⟨by omega, k7, k'.1.2, fun q => ?_⟩
  by_cases z : j + 1 = m
  · have := (k'.2.2.1 z).2; omega
  · exact (k'.2.2.2 (by omega)).2.1
theorem sp207 {w : Int} {M : xm_Mem} (hw : 0 ≤ w ∧ w < 6) (h : Q [.inl (if w = 3 then 6 else if w = 5 then 5 else 4)] M) : xm_call true (d + 1) 207 [.inl w] M Q := by
  refine en207 (rg207_0 ⟨⟨by omega, by omega⟩, fun g => ⟨⟨by omega, by omega⟩, fun g2 => ?_, fun g2 => ?_⟩, fun g => ?_⟩)
  · rw [if_neg g, if_neg g2] at h; exact h
  · rw [if_neg g, if_pos g2] at h; exact h
  · rw [if_pos g] at h; exact h
/-- a whole row, both -/
def y_rgo (d : Nat) (row : Int) (B B' : xm_Mem) : Prop := ∀ (N : xm_Mem) (R : xm_K), R [] (x_mx N B') → xm_call true (d + 6) 203 [.inr (.inr 50), .inl row] (x_mx N B) R
theorem sp130_11 {row i : Int} {A B : xm_Mem} {e : Nat} (hr : 0 ≤ row ∧ row ≤ 4) (hc : x_cur A t n m E i) (hT : y_txt B t n) (hf : B 50 11 = 0) (hx : y_nx t n (B 50 10) (A 6 i))
    (h1 : ∀ (A' B' : xm_Mem) (i' : Int), x_cur A' t n m E i' → i' ≤ m → 1 ≤ i' ∧ i < i' → A' 5 (i' - 1) = 5 → x_fA 12 13 11 row A A' → x_fB row B B' → (1 ≤ A' 13 row ∧ A' 13 row ≤ 400) → (row = 4 → A' 11 5 = A 11 5) → (row ≠ 4 → A' 11 5 = row + 1) → B' 56 row = A' 13 row → (∀ k : Int, 0 ≤ k → k < A' 13 row → A' 12 (row * 400 + k) = B' 55 (400 * row + k) ∧ x_alw row (B' 55 (400 * row + k))) → B' 50 11 = 0 → B' 50 10 = A' 6 (i' - 1) → y_rgo e row B B' → Q [.inl 1] A')
    (h0 : ∀ (A' B' : xm_Mem) (i' : Int), x_cur A' t n m E i' → x_fA 12 13 11 row A A' → x_fB row B B' → B' 50 10 = A' 6 i' → (B' 50 11 = 1 ∨ B' 50 11 = 0 ∧ A' 5 i' ≠ 5) → y_rgo e row B B' → Q [.inl 0] A') : xm_call true (d + 4) 130 [.inr (.inr 8), .inr (.inr 4), .inr (.inr 11), .inl row] A Q := by
  have go : ∀ B' : xm_Mem, y_go e row 0 0 (xm_up (xm_up B 50 18 0) 58 0 0) B' → y_rgo e row B B' := fun B' hb N R hR => by
    refine en203r50 (rg203r50_0 ⟨by omega, ?_⟩)
    rw [mx_up (by omega), mx_up (by omega)]
    exact hb N R none hR
  have fB : x_fB row B (xm_up (xm_up B 50 18 0) 58 0 0) := fB_57 (fB_50 fB_id (by omega)) (by omega)
  have fA : x_fA 12 13 11 row A (xm_up (xm_up A 8 1 0) 10 0 0) := ⟨fun q a b z _ _ _ => by rw [xu_c z, xu_c b], fun k _ => by rw [xu_c (by omega), xu_c (by omega)], fun k _ => by rw [xu_c (by omega), xu_c (by omega)], fun k _ => by rw [xu_c (by omega), xu_c (by omega)], fun k _ => by rw [xu_c (by omega), xu_c (by omega)]⟩
  have i0 := hc.2.2.2.1
  refine en130r8r4r11 (rg130r8r4r11_0 ⟨by omega, ?_⟩)
  refine lo130_11 (A0 := A) (B0 := xm_up (xm_up B 50 18 0) 58 0 0) (D0 := 0) (hs0 := 0) (i0 := i) (e := e) hr (fun A' B' i' a1 a2 a3 a4 a5 a6 a7 a8 a9 a10 a11 a12 a13 a14 => h1 A' B' i' a1 a2 a3 a4 a5 (fB_tr fB a6) a7 a8 a9 a10 a11 a12 a13 (go B' a14)) (fun A' B' i' a1 a2 a3 a4 a5 a6 => h0 A' B' i' a1 a2 (fB_tr fB a3) a4 a5 (go B' a6)) (m - i + 1).toNat (xm_up (xm_up A 8 1 0) 10 0 0) (xm_up (xm_up B 50 18 0) 58 0 0) i 0 0 0 (by have := hc.2.2.2.2; omega) (by omega) (cur_keep hc ?_ ?_ ?_ ?_) (ytx_up (ytx_up hT ⟨by omega, fun _ => by omega⟩) ⟨by omega, fun _ => by omega⟩) ?_ ?_ ⟨?_, by omega, fun j hj => ?_, fun j hj => ?_, ?_, ?_, fun k q1 q2 => ?_⟩ fA ?_ ?_ fB_id (fun B' hb => hb)
  · rw [xu_c (by omega), xu_c (by omega)]
  · rw [xu_c (by omega), xu_c (by omega)]
  · rw [xu_c (by omega), xu_c (by omega)]
  · rw [xu_c (by omega), xu_c (by omega)]
  · rw [xu_c (by omega), xu_k (by omega)]; exact hf
  · rw [xu_c (by omega), xu_k (by omega), xu_c (by omega), xu_c (by omega)]; exact hx
  · rw [xu_c (by omega), xu_s]; rfl
  · rw [show (j : Int) = 0 by omega, xu_s]; omega
  · rw [show (j : Int) = 0 by omega, xu_s, show j = 0 by omega]; rfl
  · rw [xu_c (by omega), xu_s, x_sum_1]
    simp only [x_sum]
    show (0 : Int) = 0 + xm_up (xm_up A 8 1 0) 10 0 0 10 0
    rw [xu_s]; rfl
  · show (0 : Int) = if 1 ≤ xm_up (xm_up A 8 1 0) 10 0 0 10 0 then 1 else 0
    rw [xu_s]; rfl
  · rw [xu_c (by omega), xu_s] at q2; omega
  · rw [xu_c (by omega), xu_c (by omega)]
  · rw [xu_c (by omega), xu_c (by omega)]
theorem sp130_14 {row i : Int} {A B : xm_Mem} {e : Nat} (hr : 0 ≤ row ∧ row ≤ 4) (hc : x_cur A t n m E i) (hT : y_txt B t n) (hf : B 50 11 = 0) (hx : y_nx t n (B 50 10) (A 6 i))
    (h1 : ∀ (A' B' : xm_Mem) (i' : Int), x_cur A' t n m E i' → i' ≤ m → 1 ≤ i' ∧ i < i' → A' 5 (i' - 1) = 5 → x_fA 15 16 14 row A A' → x_fB row B B' → (1 ≤ A' 16 row ∧ A' 16 row ≤ 400) → (row = 4 → A' 14 5 = A 14 5) → (row ≠ 4 → A' 14 5 = row + 1) → B' 56 row = A' 16 row → (∀ k : Int, 0 ≤ k → k < A' 16 row → A' 15 (row * 400 + k) = B' 55 (400 * row + k) ∧ x_alw row (B' 55 (400 * row + k))) → B' 50 11 = 0 → B' 50 10 = A' 6 (i' - 1) → y_rgo e row B B' → Q [.inl 1] A')
    (h0 : ∀ (A' B' : xm_Mem) (i' : Int), x_cur A' t n m E i' → x_fA 15 16 14 row A A' → x_fB row B B' → B' 50 10 = A' 6 i' → (B' 50 11 = 1 ∨ B' 50 11 = 0 ∧ A' 5 i' ≠ 5) → y_rgo e row B B' → Q [.inl 0] A') : xm_call true (d + 4) 130 [.inr (.inr 8), .inr (.inr 4), .inr (.inr 14), .inl row] A Q := by
  have go : ∀ B' : xm_Mem, y_go e row 0 0 (xm_up (xm_up B 50 18 0) 58 0 0) B' → y_rgo e row B B' := fun B' hb N R hR => by
    refine en203r50 (rg203r50_0 ⟨by omega, ?_⟩)
    rw [mx_up (by omega), mx_up (by omega)]
    exact hb N R none hR
  have fB : x_fB row B (xm_up (xm_up B 50 18 0) 58 0 0) := fB_57 (fB_50 fB_id (by omega)) (by omega)
  have fA : x_fA 15 16 14 row A (xm_up (xm_up A 8 1 0) 10 0 0) := ⟨fun q a b z _ _ _ => by rw [xu_c z, xu_c b], fun k _ => by rw [xu_c (by omega), xu_c (by omega)], fun k _ => by rw [xu_c (by omega), xu_c (by omega)], fun k _ => by rw [xu_c (by omega), xu_c (by omega)], fun k _ => by rw [xu_c (by omega), xu_c (by omega)]⟩
  have i0 := hc.2.2.2.1
  refine en130r8r4r14 (rg130r8r4r14_0 ⟨by omega, ?_⟩)
  refine lo130_14 (A0 := A) (B0 := xm_up (xm_up B 50 18 0) 58 0 0) (D0 := 0) (hs0 := 0) (i0 := i) (e := e) hr (fun A' B' i' a1 a2 a3 a4 a5 a6 a7 a8 a9 a10 a11 a12 a13 a14 => h1 A' B' i' a1 a2 a3 a4 a5 (fB_tr fB a6) a7 a8 a9 a10 a11 a12 a13 (go B' a14)) (fun A' B' i' a1 a2 a3 a4 a5 a6 => h0 A' B' i' a1 a2 (fB_tr fB a3) a4 a5 (go B' a6)) (m - i + 1).toNat (xm_up (xm_up A 8 1 0) 10 0 0) (xm_up (xm_up B 50 18 0) 58 0 0) i 0 0 0 (by have := hc.2.2.2.2; omega) (by omega) (cur_keep hc ?_ ?_ ?_ ?_) (ytx_up (ytx_up hT ⟨by omega, fun _ => by omega⟩) ⟨by omega, fun _ => by omega⟩) ?_ ?_ ⟨?_, by omega, fun j hj => ?_, fun j hj => ?_, ?_, ?_, fun k q1 q2 => ?_⟩ fA ?_ ?_ fB_id (fun B' hb => hb)
  · rw [xu_c (by omega), xu_c (by omega)]
  · rw [xu_c (by omega), xu_c (by omega)]
  · rw [xu_c (by omega), xu_c (by omega)]
  · rw [xu_c (by omega), xu_c (by omega)]
  · rw [xu_c (by omega), xu_k (by omega)]; exact hf
  · rw [xu_c (by omega), xu_k (by omega), xu_c (by omega), xu_c (by omega)]; exact hx
  · rw [xu_c (by omega), xu_s]; rfl
  · rw [show (j : Int) = 0 by omega, xu_s]; omega
  · rw [show (j : Int) = 0 by omega, xu_s, show j = 0 by omega]; rfl
  · rw [xu_c (by omega), xu_s, x_sum_1]
    simp only [x_sum]
    show (0 : Int) = 0 + xm_up (xm_up A 8 1 0) 10 0 0 10 0
    rw [xu_s]; rfl
  · show (0 : Int) = if 1 ≤ xm_up (xm_up A 8 1 0) 10 0 0 10 0 then 1 else 0
    rw [xu_s]; rfl
  · rw [xu_c (by omega), xu_s] at q2; omega
  · rw [xu_c (by omega), xu_c (by omega)]
  · rw [xu_c (by omega), xu_c (by omega)]
end IT
