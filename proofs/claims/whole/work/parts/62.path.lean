/-! a path is read, both -/
def x_209 (e : Nat) (B : xm_Mem) (k' : Int) (B' : xm_Mem) : Prop := ∀ (N : xm_Mem) (R : xm_K), R [.inl k'] (x_mx N B') → xm_call true (e + 8) 209 [.inr (.inr 50)] (x_mx N B) R
section PA
variable {d : Nat} {Q : xm_K} {t : Int → Int} {n m : Int} {E : Int → Int}
theorem pgo_209 {e : Nat} {B : xm_Mem} {k' : Int} {B' : xm_Mem} (h : y_pgo e 0 (xm_up (xm_up (xm_up (xm_up (xm_up (xm_up (xm_up (xm_up (xm_up (xm_up B 50 10 0) 50 11 0) 50 13 0) 50 14 0) 56 4 0) 54 0 10) 54 1 1) 54 2 40) 54 3 20) 54 4 1) k' B') : x_209 e B k' B' := fun N R hR => by
  refine en209r50 (rg209r50_0 ⟨Or.inl rfl, by omega, by omega, by omega, by omega, by omega, by omega, ?_⟩)
  rw [mx_up (by omega), mx_up (by omega), mx_up (by omega), mx_up (by omega), mx_up (by omega), mx_up (by omega), mx_up (by omega), mx_up (by omega), mx_up (by omega), mx_up (by omega)]
  exact h N R hR
theorem gB_56 {A A1 : xm_Mem} {k v : Int} (h : x_gB A A1) : x_gB A (xm_up A1 56 k v) := ⟨fun q x1 x2 x3 x4 x5 x6 => by rw [xu_c x4]; exact h.1 q x1 x2 x3 x4 x5 x6, fun j x1 x2 x3 x4 x5 => by rw [xu_c (by omega)]; exact h.2 j x1 x2 x3 x4 x5⟩
theorem sp125_11 {e : Nat} {A B : xm_Mem} (hc : x_cur A t n m E 0) (hB : y_txt B t n)
    (h1 : ∀ (A' B' : xm_Mem) (k' : Int), x_it 12 13 11 t n m E m A' B' → x_gA 12 13 11 A A' → x_gB B B' → 0 ≤ k' ∧ k' ≤ m → x_209 e B k' B' → Q [.inl k'] A')
    (h0 : ∀ (A' B' : xm_Mem) (i' k' : Int), x_cur A' t n m E i' → x_gA 12 13 11 A A' → x_gB B B' → B' 50 11 = 1 → B' 50 10 = A' 6 i' → x_209 e B k' B' → Q [.inl (-10 - A' 6 i')] A') : xm_call true (d + 6) 125 [.inr (.inr 8), .inr (.inr 4), .inr (.inr 11)] A Q := by
  refine en125r8r4r11 (rg125r8r4r11_0 ?_)
  refine en155r11 (rg155r11_0 (sp278_13 (xq_kv (xq_kv (sp278_9 (xq_kv ?_))))))
  have b0 : x_gB B (xm_up (xm_up (xm_up (xm_up (xm_up (xm_up (xm_up (xm_up (xm_up (xm_up B 50 10 0) 50 11 0) 50 13 0) 50 14 0) 56 4 0) 54 0 10) 54 1 1) 54 2 40) 54 3 20) 54 4 1) := gB_54 (gB_54 (gB_54 (gB_54 (gB_54 (gB_56 (gB_50 (gB_50 (gB_50 (gB_50 gB_id (by omega)) (by omega)) (by omega)) (by omega)))))))
  have a0 : x_gA 12 13 11 A (x_fill (x_fill (xm_up (xm_up (xm_up (xm_up (xm_up (xm_up A 11 0 10) 11 1 1) 11 2 40) 11 3 20) 11 4 1) 11 5 0) 13 5 0) 9 6 0) := by
    have g : x_gA 12 13 11 A (xm_up (xm_up (xm_up (xm_up (xm_up (xm_up A 11 0 10) 11 1 1) 11 2 40) 11 3 20) 11 4 1) 11 5 0) := gA_q (gA_q (gA_q (gA_q (gA_q (gA_q gA_id (by omega) (by omega)) (by omega) (by omega)) (by omega) (by omega)) (by omega) (by omega)) (by omega) (by omega)) (by omega) (by omega)
    exact ⟨fun q x1 x2 x3 x4 x5 x6 x7 => by rw [xf_c x3, xf_c x6]; exact g.1 q x1 x2 x3 x4 x5 x6 x7, fun k x => by rw [xf_c (by omega), xf_c (by omega)]; exact g.2 k x⟩
  refine lo125_11 (A0 := A) (B0 := xm_up (xm_up (xm_up (xm_up (xm_up (xm_up (xm_up (xm_up (xm_up (xm_up B 50 10 0) 50 11 0) 50 13 0) 50 14 0) 56 4 0) 54 0 10) 54 1 1) 54 2 40) 54 3 20) 54 4 1) (e := e) (fun A' B' k' a1 a2 a3 a4 a5 => h1 A' B' k' a1 a2 (gB_tr b0 a3) a4 (pgo_209 a5)) (fun A' B' i' k' a1 a2 a3 a4 a5 a6 => h0 A' B' i' k' a1 a2 (gB_tr b0 a3) a4 a5 (pgo_209 a6)) (m + 1).toNat _ _ 0 0 (by have := hc.2.2.2.2; omega) ⟨cur_keep hc ?_ ?_ ?_ ?_, ?_, ?_, ?_, ?_, ?_⟩ (by omega) a0 gB_id (fun _ _ hh => hh)
  · rw [xf_c (by omega), xf_c (by omega), xu_c (by omega), xu_c (by omega), xu_c (by omega), xu_c (by omega), xu_c (by omega), xu_c (by omega)]
  · rw [xf_c (by omega), xf_c (by omega), xu_c (by omega), xu_c (by omega), xu_c (by omega), xu_c (by omega), xu_c (by omega), xu_c (by omega)]
  · rw [xf_c (by omega), xf_c (by omega), xu_c (by omega), xu_c (by omega), xu_c (by omega), xu_c (by omega), xu_c (by omega), xu_c (by omega)]
  · rw [xf_c (by omega), xf_c (by omega), xu_c (by omega), xu_c (by omega), xu_c (by omega), xu_c (by omega), xu_c (by omega), xu_c (by omega)]
  · exact ytx_up (ytx_up (ytx_up (ytx_up (ytx_up (ytx_up (ytx_up (ytx_up (ytx_up (ytx_up hB ⟨by omega, fun _ => by omega⟩) ⟨by omega, fun _ => by omega⟩) ⟨by omega, fun _ => by omega⟩) ⟨by omega, fun _ => by omega⟩) ⟨by omega, fun _ => by omega⟩) ⟨by omega, fun _ => by omega⟩) ⟨by omega, fun _ => by omega⟩) ⟨by omega, fun _ => by omega⟩) ⟨by omega, fun _ => by omega⟩) ⟨by omega, fun _ => by omega⟩
  · simp only [xu_c, xu_s, xu_k, ne_eq, Nat.reduceEqDiff, Int.reduceEq, not_false_eq_true]
  · have g : xm_up (xm_up (xm_up (xm_up (xm_up (xm_up (xm_up (xm_up (xm_up (xm_up B 50 10 0) 50 11 0) 50 13 0) 50 14 0) 56 4 0) 54 0 10) 54 1 1) 54 2 40) 54 3 20) 54 4 1 50 10 = 0 := by simp only [xu_c, xu_s, xu_k, ne_eq, Nat.reduceEqDiff, Int.reduceEq, not_false_eq_true]
    have g2 : x_fill (x_fill (xm_up (xm_up (xm_up (xm_up (xm_up (xm_up A 11 0 10) 11 1 1) 11 2 40) 11 3 20) 11 4 1) 11 5 0) 13 5 0) 9 6 0 6 = A 6 := by simp only [xf_c, xu_c, xu_s, xu_k, ne_eq, Nat.reduceEqDiff, Int.reduceEq, not_false_eq_true]
    rw [g, g2]
    have K := cur_tok hc
    obtain ⟨-, ⟨p1, p2, p3, p4, p5, p6⟩, c1, c2, c3⟩ := id hc
    have gp : x_gap t 0 (A 6 0) := by
      by_cases z : m = 0
      · subst z
        have q := p3.1
        have := p4
        rw [show (0 : Int) - 1 = -1 by omega, q] at this
        rw [p5]; exact this
      · have := (p3.2 0 (by omega) (by omega)).1
        rw [show (0 : Int) - 1 = -1 by omega, p3.1] at this
        exact this
    refine ⟨by omega, gp, K.1.2, fun q => ?_⟩
    by_cases z : 0 = m
    · have := (K.2.2.1 z).2; omega
    · exact (K.2.2.2 (by omega)).2.1
  · simp only [xf_c, xu_c, xu_s, xu_k, ne_eq, Nat.reduceEqDiff, Int.reduceEq, not_false_eq_true]
    refine ⟨⟨by simp only [xu_c, xu_s, xu_k, ne_eq, Nat.reduceEqDiff, Int.reduceEq, not_false_eq_true], by simp only [xu_c, xu_s, xu_k, ne_eq, Nat.reduceEqDiff, Int.reduceEq, not_false_eq_true]; omega⟩, ⟨by simp only [xu_c, xu_s, xu_k, ne_eq, Nat.reduceEqDiff, Int.reduceEq, not_false_eq_true], by simp only [xu_c, xu_s, xu_k, ne_eq, Nat.reduceEqDiff, Int.reduceEq, not_false_eq_true]; omega⟩, ⟨by simp only [xu_c, xu_s, xu_k, ne_eq, Nat.reduceEqDiff, Int.reduceEq, not_false_eq_true], by simp only [xu_c, xu_s, xu_k, ne_eq, Nat.reduceEqDiff, Int.reduceEq, not_false_eq_true]; omega⟩, ⟨by simp only [xu_c, xu_s, xu_k, ne_eq, Nat.reduceEqDiff, Int.reduceEq, not_false_eq_true], by simp only [xu_c, xu_s, xu_k, ne_eq, Nat.reduceEqDiff, Int.reduceEq, not_false_eq_true]; omega⟩, ⟨by simp only [xu_c, xu_s, xu_k, ne_eq, Nat.reduceEqDiff, Int.reduceEq, not_false_eq_true], by simp only [xu_c, xu_s, xu_k, ne_eq, Nat.reduceEqDiff, Int.reduceEq, not_false_eq_true]; omega⟩, ⟨by simp only [xu_c, xu_s, xu_k, ne_eq, Nat.reduceEqDiff, Int.reduceEq, not_false_eq_true], by simp only [xu_c, xu_s, xu_k, ne_eq, Nat.reduceEqDiff, Int.reduceEq, not_false_eq_true]; omega⟩, fun s q1 q2 => ?_, fun s q1 q2 => ?_, ?_, fun s i q1 q2 q3 => ?_⟩
    · simp only [xu_c, xu_s, xu_k, ne_eq, Nat.reduceEqDiff, Int.reduceEq, not_false_eq_true] at q2; omega
    · rw [xu_s] at q1; rw [xf_s (by omega)]
    · rw [xf_s (by omega), xu_s]; omega
    · exfalso
      rcases q1 with q | q
      · have := q.2
        simp only [xu_c, xu_s, xu_k, ne_eq, Nat.reduceEqDiff, Int.reduceEq, not_false_eq_true] at this; omega
      · rw [q, xf_s (by omega)] at q3; omega
  · refine ⟨0, by simp only [xu_c, xu_s, xu_k, ne_eq, Nat.reduceEqDiff, Int.reduceEq, not_false_eq_true]; rfl, by omega, fun w hw => ?_, ?_, fun _ => ?_⟩
    · rw [xf_s (by omega), Nat.zero_testBit]; rfl
    · rw [xf_s (by omega)]; simp only [xu_c, xu_s, xu_k, ne_eq, Nat.reduceEqDiff, Int.reduceEq, not_false_eq_true]
    · rw [xf_c (by omega), xf_s (by omega)]
theorem sp125_14 {e : Nat} {A B : xm_Mem} (hc : x_cur A t n m E 0) (hB : y_txt B t n)
    (h1 : ∀ (A' B' : xm_Mem) (k' : Int), x_it 15 16 14 t n m E m A' B' → x_gA 15 16 14 A A' → x_gB B B' → 0 ≤ k' ∧ k' ≤ m → x_209 e B k' B' → Q [.inl k'] A')
    (h0 : ∀ (A' B' : xm_Mem) (i' k' : Int), x_cur A' t n m E i' → x_gA 15 16 14 A A' → x_gB B B' → B' 50 11 = 1 → B' 50 10 = A' 6 i' → x_209 e B k' B' → Q [.inl (-10 - A' 6 i')] A') : xm_call true (d + 6) 125 [.inr (.inr 8), .inr (.inr 4), .inr (.inr 14)] A Q := by
  refine en125r8r4r14 (rg125r8r4r14_0 ?_)
  refine en155r14 (rg155r14_0 (sp278_16 (xq_kv (xq_kv (sp278_9 (xq_kv ?_))))))
  have b0 : x_gB B (xm_up (xm_up (xm_up (xm_up (xm_up (xm_up (xm_up (xm_up (xm_up (xm_up B 50 10 0) 50 11 0) 50 13 0) 50 14 0) 56 4 0) 54 0 10) 54 1 1) 54 2 40) 54 3 20) 54 4 1) := gB_54 (gB_54 (gB_54 (gB_54 (gB_54 (gB_56 (gB_50 (gB_50 (gB_50 (gB_50 gB_id (by omega)) (by omega)) (by omega)) (by omega)))))))
  have a0 : x_gA 15 16 14 A (x_fill (x_fill (xm_up (xm_up (xm_up (xm_up (xm_up (xm_up A 14 0 10) 14 1 1) 14 2 40) 14 3 20) 14 4 1) 14 5 0) 16 5 0) 9 6 0) := by
    have g : x_gA 15 16 14 A (xm_up (xm_up (xm_up (xm_up (xm_up (xm_up A 14 0 10) 14 1 1) 14 2 40) 14 3 20) 14 4 1) 14 5 0) := gA_q (gA_q (gA_q (gA_q (gA_q (gA_q gA_id (by omega) (by omega)) (by omega) (by omega)) (by omega) (by omega)) (by omega) (by omega)) (by omega) (by omega)) (by omega) (by omega)
    exact ⟨fun q x1 x2 x3 x4 x5 x6 x7 => by rw [xf_c x3, xf_c x6]; exact g.1 q x1 x2 x3 x4 x5 x6 x7, fun k x => by rw [xf_c (by omega), xf_c (by omega)]; exact g.2 k x⟩
  refine lo125_14 (A0 := A) (B0 := xm_up (xm_up (xm_up (xm_up (xm_up (xm_up (xm_up (xm_up (xm_up (xm_up B 50 10 0) 50 11 0) 50 13 0) 50 14 0) 56 4 0) 54 0 10) 54 1 1) 54 2 40) 54 3 20) 54 4 1) (e := e) (fun A' B' k' a1 a2 a3 a4 a5 => h1 A' B' k' a1 a2 (gB_tr b0 a3) a4 (pgo_209 a5)) (fun A' B' i' k' a1 a2 a3 a4 a5 a6 => h0 A' B' i' k' a1 a2 (gB_tr b0 a3) a4 a5 (pgo_209 a6)) (m + 1).toNat _ _ 0 0 (by have := hc.2.2.2.2; omega) ⟨cur_keep hc ?_ ?_ ?_ ?_, ?_, ?_, ?_, ?_, ?_⟩ (by omega) a0 gB_id (fun _ _ hh => hh)
  · rw [xf_c (by omega), xf_c (by omega), xu_c (by omega), xu_c (by omega), xu_c (by omega), xu_c (by omega), xu_c (by omega), xu_c (by omega)]
  · rw [xf_c (by omega), xf_c (by omega), xu_c (by omega), xu_c (by omega), xu_c (by omega), xu_c (by omega), xu_c (by omega), xu_c (by omega)]
  · rw [xf_c (by omega), xf_c (by omega), xu_c (by omega), xu_c (by omega), xu_c (by omega), xu_c (by omega), xu_c (by omega), xu_c (by omega)]
  · rw [xf_c (by omega), xf_c (by omega), xu_c (by omega), xu_c (by omega), xu_c (by omega), xu_c (by omega), xu_c (by omega), xu_c (by omega)]
  · exact ytx_up (ytx_up (ytx_up (ytx_up (ytx_up (ytx_up (ytx_up (ytx_up (ytx_up (ytx_up hB ⟨by omega, fun _ => by omega⟩) ⟨by omega, fun _ => by omega⟩) ⟨by omega, fun _ => by omega⟩) ⟨by omega, fun _ => by omega⟩) ⟨by omega, fun _ => by omega⟩) ⟨by omega, fun _ => by omega⟩) ⟨by omega, fun _ => by omega⟩) ⟨by omega, fun _ => by omega⟩) ⟨by omega, fun _ => by omega⟩) ⟨by omega, fun _ => by omega⟩
  · simp only [xu_c, xu_s, xu_k, ne_eq, Nat.reduceEqDiff, Int.reduceEq, not_false_eq_true]
  · have g : xm_up (xm_up (xm_up (xm_up (xm_up (xm_up (xm_up (xm_up (xm_up (xm_up B 50 10 0) 50 11 0) 50 13 0) 50 14 0) 56 4 0) 54 0 10) 54 1 1) 54 2 40) 54 3 20) 54 4 1 50 10 = 0 := by simp only [xu_c, xu_s, xu_k, ne_eq, Nat.reduceEqDiff, Int.reduceEq, not_false_eq_true]
    have g2 : x_fill (x_fill (xm_up (xm_up (xm_up (xm_up (xm_up (xm_up A 14 0 10) 14 1 1) 14 2 40) 14 3 20) 14 4 1) 14 5 0) 16 5 0) 9 6 0 6 = A 6 := by simp only [xf_c, xu_c, xu_s, xu_k, ne_eq, Nat.reduceEqDiff, Int.reduceEq, not_false_eq_true]
    rw [g, g2]
    have K := cur_tok hc
    obtain ⟨-, ⟨p1, p2, p3, p4, p5, p6⟩, c1, c2, c3⟩ := id hc
    have gp : x_gap t 0 (A 6 0) := by
      by_cases z : m = 0
      · subst z
        have q := p3.1
        have := p4
        rw [show (0 : Int) - 1 = -1 by omega, q] at this
        rw [p5]; exact this
      · have := (p3.2 0 (by omega) (by omega)).1
        rw [show (0 : Int) - 1 = -1 by omega, p3.1] at this
        exact this
    refine ⟨by omega, gp, K.1.2, fun q => ?_⟩
    by_cases z : 0 = m
    · have := (K.2.2.1 z).2; omega
    · exact (K.2.2.2 (by omega)).2.1
  · simp only [xf_c, xu_c, xu_s, xu_k, ne_eq, Nat.reduceEqDiff, Int.reduceEq, not_false_eq_true]
    refine ⟨⟨by simp only [xu_c, xu_s, xu_k, ne_eq, Nat.reduceEqDiff, Int.reduceEq, not_false_eq_true], by simp only [xu_c, xu_s, xu_k, ne_eq, Nat.reduceEqDiff, Int.reduceEq, not_false_eq_true]; omega⟩, ⟨by simp only [xu_c, xu_s, xu_k, ne_eq, Nat.reduceEqDiff, Int.reduceEq, not_false_eq_true], by simp only [xu_c, xu_s, xu_k, ne_eq, Nat.reduceEqDiff, Int.reduceEq, not_false_eq_true]; omega⟩, ⟨by simp only [xu_c, xu_s, xu_k, ne_eq, Nat.reduceEqDiff, Int.reduceEq, not_false_eq_true], by simp only [xu_c, xu_s, xu_k, ne_eq, Nat.reduceEqDiff, Int.reduceEq, not_false_eq_true]; omega⟩, ⟨by simp only [xu_c, xu_s, xu_k, ne_eq, Nat.reduceEqDiff, Int.reduceEq, not_false_eq_true], by simp only [xu_c, xu_s, xu_k, ne_eq, Nat.reduceEqDiff, Int.reduceEq, not_false_eq_true]; omega⟩, ⟨by simp only [xu_c, xu_s, xu_k, ne_eq, Nat.reduceEqDiff, Int.reduceEq, not_false_eq_true], by simp only [xu_c, xu_s, xu_k, ne_eq, Nat.reduceEqDiff, Int.reduceEq, not_false_eq_true]; omega⟩, ⟨by simp only [xu_c, xu_s, xu_k, ne_eq, Nat.reduceEqDiff, Int.reduceEq, not_false_eq_true], by simp only [xu_c, xu_s, xu_k, ne_eq, Nat.reduceEqDiff, Int.reduceEq, not_false_eq_true]; omega⟩, fun s q1 q2 => ?_, fun s q1 q2 => ?_, ?_, fun s i q1 q2 q3 => ?_⟩
    · simp only [xu_c, xu_s, xu_k, ne_eq, Nat.reduceEqDiff, Int.reduceEq, not_false_eq_true] at q2; omega
    · rw [xu_s] at q1; rw [xf_s (by omega)]
    · rw [xf_s (by omega), xu_s]; omega
    · exfalso
      rcases q1 with q | q
      · have := q.2
        simp only [xu_c, xu_s, xu_k, ne_eq, Nat.reduceEqDiff, Int.reduceEq, not_false_eq_true] at this; omega
      · rw [q, xf_s (by omega)] at q3; omega
  · refine ⟨0, by simp only [xu_c, xu_s, xu_k, ne_eq, Nat.reduceEqDiff, Int.reduceEq, not_false_eq_true]; rfl, by omega, fun w hw => ?_, ?_, fun _ => ?_⟩
    · rw [xf_s (by omega), Nat.zero_testBit]; rfl
    · rw [xf_s (by omega)]; simp only [xu_c, xu_s, xu_k, ne_eq, Nat.reduceEqDiff, Int.reduceEq, not_false_eq_true]
    · rw [xf_c (by omega), xf_s (by omega)]
/-- the numbers are copied -/
def x_cp (M : xm_Mem) (c c2 : Nat) (n : Int) : xm_Mem := fun c' k => if c' = c ∧ 0 ≤ k ∧ k < n then M c2 k else M c' k
theorem cp_c {M : xm_Mem} {c c2 c' : Nat} {n : Int} (h : c' ≠ c) : x_cp M c c2 n c' = M c' := by
  funext k
  unfold x_cp
  rw [if_neg (fun h' => h h'.1)]
theorem cp_s {M : xm_Mem} {c c2 : Nat} {n k : Int} (h : 0 ≤ k ∧ k < n) : x_cp M c c2 n c k = M c2 k := by
  unfold x_cp
  rw [if_pos ⟨rfl, h⟩]
theorem cp_0 {M : xm_Mem} {c c2 : Nat} : x_cp M c c2 0 = M := by
  funext c' k
  unfold x_cp
  rw [if_neg (by omega)]
theorem cp_up {M : xm_Mem} {c c2 : Nat} {n : Int} (h : 0 ≤ n) (hc : c2 ≠ c) : xm_up (x_cp M c c2 n) c n (x_cp M c c2 n c2 n) = x_cp M c c2 (n + 1) := by
  rw [cp_c hc]
  funext c' k
  simp only [xm_up, x_cp]
  repeat' split
  all_goals first | rfl | omega | (exfalso; omega) | (congr 1; omega)
theorem lo210_85 {cs : xm_C} {M : xm_Mem} {x1 : Int} (h : wp210r50_112 cs Q x1 0 (x_cp M 51 55 2000)) : ∀ (k : Nat) (i : Int), 0 ≤ i → i + k = 2000 → wp210r50_85 cs Q x1 i (x_cp M 51 55 i)
  | 0, i, h0, h1 => by
    have e : i = 2000 := by omega
    subst e
    exact rg210r50_85 ⟨by omega, fun _ => h, fun q => by omega⟩
  | k + 1, i, h0, h1 => by
    refine rg210r50_85 ⟨by omega, fun q => by omega, fun _ => ⟨by omega, by omega, ?_⟩⟩
    rw [cp_up h0 (by omega)]
    exact lo210_85 h k (i + 1) (by omega) (by omega)
/-- the lengths that count -/
def x_lns (M : xm_Mem) (n : Int) : xm_Mem := fun c k => if c = 52 ∧ 0 ≤ k ∧ k < n then (if k < M 50 5 ∨ k = 4 then M 56 k else 0) else M c k
theorem ln_c {M : xm_Mem} {c : Nat} {n : Int} (h : c ≠ 52) : x_lns M n c = M c := by
  funext k
  unfold x_lns
  rw [if_neg (fun h' => h h'.1)]
theorem ln_s {M : xm_Mem} {n k : Int} (h : 0 ≤ k ∧ k < n) : x_lns M n 52 k = if k < M 50 5 ∨ k = 4 then M 56 k else 0 := by
  unfold x_lns
  rw [if_pos ⟨rfl, h⟩]
theorem ln_0 {M : xm_Mem} : x_lns M 0 = M := by
  funext c' k
  unfold x_lns
  rw [if_neg (by omega)]
theorem ln_up {M : xm_Mem} {n v : Int} (h : 0 ≤ n) (hv : v = if n < M 50 5 ∨ n = 4 then M 56 n else 0) : xm_up (x_lns M n) 52 n v = x_lns M (n + 1) := by
  subst hv
  funext c' k
  by_cases e : k = n
  · subst e
    by_cases e2 : c' = 52
    · subst e2
      rw [xu_s, ln_s (by omega)]
    · rw [xu_c e2, ln_c e2, ln_c e2]
  · have g : ∀ v : Int, xm_up (x_lns M n) 52 n v c' k = x_lns M n c' k := fun v => by
      by_cases e2 : c' = 52
      · subst e2; rw [xu_k e]
      · rw [xu_c e2]
    rw [g]
    unfold x_lns
    by_cases e2 : c' = 52 ∧ 0 ≤ k ∧ k < n
    · have e3 : c' = 52 ∧ 0 ≤ k ∧ k < n + 1 := ⟨e2.1, e2.2.1, by omega⟩
      simp only [e2, e3, if_true]
    · have e3 : ¬ (c' = 52 ∧ 0 ≤ k ∧ k < n + 1) := by omega
      simp only [e2, e3, if_false]
theorem lo210_112 {cs : xm_C} {M : xm_Mem} {x1 : Int} (hb : xm_in (M 50 5)) (h : cs 213 [.inr (.inr 50)] (x_lns M 5) (fun v1 M2 => xm_kv (Q [.inl x1] (xm_up M2 50 9 0)) v1)) : ∀ (k : Nat) (i : Int), 0 ≤ i → i + k = 5 → wp210r50_112 cs Q x1 i (x_lns M i)
  | 0, i, h0, h1 => by
    have e : i = 5 := by omega
    subst e
    exact rg210r50_112 ⟨by omega, fun _ => h, fun q => by omega⟩
  | k + 1, i, h0, h1 => by
    refine rg210r50_112 ?_
    rw [ln_c (c := 50) (by omega), ln_c (c := 56) (by omega)]
    refine ⟨by omega, fun q => by omega, fun _ => ⟨by omega, fun g => ⟨by omega, by omega, ?_⟩, fun g => ⟨by omega, fun g2 => ⟨by omega, ?_⟩, fun g2 => ⟨by omega, by omega, ?_⟩⟩⟩⟩
    · rw [ln_up h0 (by rw [if_pos (Or.inl g)])]
      exact lo210_112 hb h k (i + 1) (by omega) (by omega)
    · rw [ln_up h0 (by rw [if_neg (by omega)])]
      exact lo210_112 hb h k (i + 1) (by omega) (by omega)
    · rw [ln_up h0 (by rw [if_pos (Or.inr g2)])]
      exact lo210_112 hb h k (i + 1) (by omega) (by omega)
/-- three lists of five -/
def x_f3 (M : xm_Mem) (n : Int) : xm_Mem := fun c k => if (c = 64 ∨ c = 65 ∨ c = 66) ∧ 0 ≤ k ∧ k < n then 0 else M c k
theorem f3_c {M : xm_Mem} {c : Nat} {n : Int} (h : c ≠ 64 ∧ c ≠ 65 ∧ c ≠ 66) : x_f3 M n c = M c := by
  funext k
  unfold x_f3
  rw [if_neg (by omega)]
theorem f3_s {M : xm_Mem} {c : Nat} {n k : Int} (hc : c = 64 ∨ c = 65 ∨ c = 66) (h : 0 ≤ k ∧ k < n) : x_f3 M n c k = 0 := by
  unfold x_f3
  rw [if_pos ⟨hc, h⟩]
theorem f3_0 {M : xm_Mem} : x_f3 M 0 = M := by
  funext c' k
  unfold x_f3
  rw [if_neg (by omega)]
theorem f3_up {M : xm_Mem} {n : Int} (h : 0 ≤ n) : xm_up (xm_up (xm_up (x_f3 M n) 64 n 0) 65 n 0) 66 n 0 = x_f3 M (n + 1) := by
  funext c' k
  simp only [xm_up, x_f3]
  repeat' split
  all_goals first | rfl | omega | (exfalso; omega)
theorem lo213_112 {cs : xm_C} {M : xm_Mem} (h : Q [] (x_fill M 72 4 9999)) : ∀ (k : Nat) (i : Int), 0 ≤ i → i + k = 4 → wp213r50_112 cs Q i (x_fill M 72 i 9999)
  | 0, i, h0, h1 => by
    have e : i = 4 := by omega
    subst e
    exact rg213r50_112 ⟨by omega, fun _ => h, fun q => by omega⟩
  | k + 1, i, h0, h1 => by
    refine rg213r50_112 ⟨by omega, fun q => by omega, fun _ => ⟨by omega, ?_⟩⟩
    rw [xf_up h0]
    exact lo213_112 h k (i + 1) (by omega) (by omega)
theorem lo213_91 {cs : xm_C} {M : xm_Mem} (h : wp213r50_112 cs Q 0 (x_fill M 71 12 0)) : ∀ (k : Nat) (i : Int), 0 ≤ i → i + k = 12 → wp213r50_91 cs Q i (x_fill M 71 i 0)
  | 0, i, h0, h1 => by
    have e : i = 12 := by omega
    subst e
    exact rg213r50_91 ⟨by omega, fun _ => h, fun q => by omega⟩
  | k + 1, i, h0, h1 => by
    refine rg213r50_91 ⟨by omega, fun q => by omega, fun _ => ⟨by omega, ?_⟩⟩
    rw [xf_up h0]
    exact lo213_91 h k (i + 1) (by omega) (by omega)
theorem lo213_57 {cs : xm_C} {M : xm_Mem} (h : wp213r50_91 cs Q 0 (x_f3 M 5)) : ∀ (k : Nat) (i : Int), 0 ≤ i → i + k = 5 → wp213r50_57 cs Q i (x_f3 M i)
  | 0, i, h0, h1 => by
    have e : i = 5 := by omega
    subst e
    exact rg213r50_57 ⟨by omega, fun _ => h, fun q => by omega⟩
  | k + 1, i, h0, h1 => by
    refine rg213r50_57 ⟨by omega, fun q => by omega, fun _ => ⟨by omega, by omega, by omega, ?_⟩⟩
    rw [f3_up h0]
    exact lo213_57 h k (i + 1) (by omega) (by omega)
/-- the reference begins -/
def x_213 (M : xm_Mem) : xm_Mem := x_fill (x_fill (x_f3 (xm_up (xm_up (xm_up (xm_up (xm_up (xm_up (xm_up (xm_up (xm_up (xm_up (xm_up M 50 20 0) 50 24 0) 50 30 0) 50 31 0) 50 32 0) 50 36 0) 50 37 0) 50 38 0) 50 39 0) 50 41 0) 50 42 0) 5) 71 12 0) 72 4 9999
theorem sp213 {M : xm_Mem} (h : Q [] (x_213 M)) : xm_call true (d + 1) 213 [.inr (.inr 50)] M Q := by
  refine en213r50 (rg213r50_0 ?_)
  have k := lo213_57 (cs := xm_call true d) (M := xm_up (xm_up (xm_up (xm_up (xm_up (xm_up (xm_up (xm_up (xm_up (xm_up (xm_up M 50 20 0) 50 24 0) 50 30 0) 50 31 0) 50 32 0) 50 36 0) 50 37 0) 50 38 0) 50 39 0) 50 41 0) 50 42 0) (Q := Q) ?_ 5 0 (by omega) (by omega)
  · rw [f3_0] at k; exact k
  · rw [← xf_0 (M := x_f3 _ 5) (c := 71) (v := 0)]
    refine lo213_91 ?_ 12 0 (by omega) (by omega)
    rw [← xf_0 (M := x_fill _ 71 12 0) (c := 72) (v := 9999)]
    exact lo213_112 h 4 0 (by omega) (by omega)
/-- the class begins -/
def x_4 (M : xm_Mem) : xm_Mem := x_fill (x_fill (x_fill (xm_up (xm_up (xm_up (x_fill (x_fill (x_fill (xm_up (xm_up (xm_up (xm_up (xm_up (xm_up (xm_up (xm_up (xm_up (xm_up (xm_up (x_fill (x_fill (x_fill M 20 5 0) 21 5 0) 22 5 0) 17 5 0) 17 6 0) 17 7 0) 17 8 0) 23 3 0) 23 5 0) 23 6 0) 23 7 0) 23 8 0) 23 9 0) 23 10 0) 28 2003 0) 30 2000 0) 31 2000 0) 29 2 0) 29 3 0) 29 4 0) 35 4 0) 36 8 0) 37 4 9999
theorem sp4 {M : xm_Mem} (h : Q [] (x_4 M)) : xm_call true (d + 3) 4 [.inr (.inr 1)] M Q := by
  refine en4r1 (rg4r1_0 ?_)
  refine en97r17 (rg97r17_0 (sp278_20 (xq_kv (sp278_21 (xq_kv (sp278_22 (xq_kv (xq_kv ?_))))))))
  refine en70r23 (rg70r23_0 (sp278_28 (xq_kv (xq_kv ?_))))
  refine en139r29 (rg139r29_0 (sp278_30 (xq_kv (sp278_31 (xq_kv (xq_kv ?_))))))
  refine en111r34 (rg111r34_0 (sp279_35 (xq_kv (sp279_36 (xq_kv (xq_kv ?_))))))
  exact sp278_37 (xq_kv h)
end PA
