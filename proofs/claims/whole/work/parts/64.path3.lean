/-! the pair of path, whole -/
theorem path_no_14 {M N : xm_Mem} (hR : R_all M) (hs : M 1 3 = 11 ∧ M 1 4 = 14) (g : ∀ q : Nat, x_live q → q ≠ 15 → q ≠ 16 → q ≠ 14 → N q = M q) (h50 : ∀ k : Int, (0 ≤ k ∧ k < 10) ∨ (20 ≤ k ∧ k < 45) ∨ k = 48 → N 50 k = M 50 k) : R_all N := by
  obtain ⟨c1, c2, c3, c4, c5, c6, c7, c8, c9⟩ := hR
  have g' : ∀ q : Nat, (q < 4 ∨ (10 < q ∧ q < 41) ∨ (50 < q ∧ q < 54) ∨ (58 < q ∧ q < 73) ∨ q = 75 ∨ q = 76) ∧ q ≠ 15 ∧ q ≠ 16 ∧ q ≠ 14 → N q = M q := fun q z => g q z.1 z.2.1 z.2.2.1 z.2.2.2
  unfold R_all
  refine ⟨?_, ?_, ?_, ?_, ?_, ?_, ?_, ?_, ?_⟩
  · rw [g' 2 (by omega), g' 3 (by omega), g' 53 (by omega), h50 9 (by omega)]; exact c1
  · have c2' : R_rtA (M 11) (M (11 + 1)) (M (11 + 2)) (M 50) (M 51) (M 52) := by
      rcases c2 with q | q
      · first | exact q.2.2 | exact absurd q.1 (by omega)
      · first | exact q.2.2 | exact absurd q.1 (by omega)
    refine Or.inl ⟨by rw [g' 1 (by omega)]; exact hs.1, by rw [g' 1 (by omega)]; exact hs.2, ?_⟩
    unfold R_rtA at *
    rw [← g' 11 (by omega), ← g' (11 + 1) (by omega), ← g' (11 + 2) (by omega), ← g' 51 (by omega), ← g' 52 (by omega), ← h50 0 (by omega), ← h50 1 (by omega), ← h50 2 (by omega), ← h50 3 (by omega), ← h50 4 (by omega), ← h50 5 (by omega)] at c2'
    exact c2'
  · rw [g' 29 (by omega), g' 30 (by omega), g' 31 (by omega), g' 32 (by omega), g' 33 (by omega), g' 60 (by omega), g' 61 (by omega), h50 20 (by omega)]; exact c3
  · rw [g' 29 (by omega), g' 23 (by omega), g' 24 (by omega), g' 25 (by omega), g' 26 (by omega), g' 28 (by omega), g' 67 (by omega), g' 68 (by omega), g' 69 (by omega), g' 59 (by omega), h50 4 (by omega), h50 3 (by omega), h50 32 (by omega)]; exact c4
  · unfold R_ask at *
    rw [g' 23 (by omega), g' 27 (by omega), g' 70 (by omega), h50 39 (by omega), h50 41 (by omega), h50 42 (by omega), h50 36 (by omega), h50 37 (by omega), h50 38 (by omega)]; exact c5
  · unfold R_lin at *
    rw [g' 29 (by omega), g' 17 (by omega), g' 18 (by omega), g' 19 (by omega), g' 20 (by omega), g' 21 (by omega), g' 22 (by omega), g' 62 (by omega), g' 63 (by omega), g' 64 (by omega), g' 65 (by omega), g' 66 (by omega), h50 0 (by omega), h50 24 (by omega), h50 30 (by omega), h50 31 (by omega)]; exact c6
  · rw [g' 29 (by omega), g' 35 (by omega), g' 36 (by omega), g' 71 (by omega)]; exact c7
  · rw [g' 37 (by omega), g' 72 (by omega)]; exact c8
  · rw [g' 38 (by omega), g' 39 (by omega), g' 40 (by omega), g' 75 (by omega), g' 76 (by omega), h50 48 (by omega)]; exact c9
theorem path_no_11 {M N : xm_Mem} (hR : R_all M) (hs : M 1 3 = 14 ∧ M 1 4 = 11) (g : ∀ q : Nat, x_live q → q ≠ 12 → q ≠ 13 → q ≠ 11 → N q = M q) (h50 : ∀ k : Int, (0 ≤ k ∧ k < 10) ∨ (20 ≤ k ∧ k < 45) ∨ k = 48 → N 50 k = M 50 k) : R_all N := by
  obtain ⟨c1, c2, c3, c4, c5, c6, c7, c8, c9⟩ := hR
  have g' : ∀ q : Nat, (q < 4 ∨ (10 < q ∧ q < 41) ∨ (50 < q ∧ q < 54) ∨ (58 < q ∧ q < 73) ∨ q = 75 ∨ q = 76) ∧ q ≠ 12 ∧ q ≠ 13 ∧ q ≠ 11 → N q = M q := fun q z => g q z.1 z.2.1 z.2.2.1 z.2.2.2
  unfold R_all
  refine ⟨?_, ?_, ?_, ?_, ?_, ?_, ?_, ?_, ?_⟩
  · rw [g' 2 (by omega), g' 3 (by omega), g' 53 (by omega), h50 9 (by omega)]; exact c1
  · have c2' : R_rtA (M 14) (M (14 + 1)) (M (14 + 2)) (M 50) (M 51) (M 52) := by
      rcases c2 with q | q
      · first | exact q.2.2 | exact absurd q.1 (by omega)
      · first | exact q.2.2 | exact absurd q.1 (by omega)
    refine Or.inr ⟨by rw [g' 1 (by omega)]; exact hs.1, by rw [g' 1 (by omega)]; exact hs.2, ?_⟩
    unfold R_rtA at *
    rw [← g' 14 (by omega), ← g' (14 + 1) (by omega), ← g' (14 + 2) (by omega), ← g' 51 (by omega), ← g' 52 (by omega), ← h50 0 (by omega), ← h50 1 (by omega), ← h50 2 (by omega), ← h50 3 (by omega), ← h50 4 (by omega), ← h50 5 (by omega)] at c2'
    exact c2'
  · rw [g' 29 (by omega), g' 30 (by omega), g' 31 (by omega), g' 32 (by omega), g' 33 (by omega), g' 60 (by omega), g' 61 (by omega), h50 20 (by omega)]; exact c3
  · rw [g' 29 (by omega), g' 23 (by omega), g' 24 (by omega), g' 25 (by omega), g' 26 (by omega), g' 28 (by omega), g' 67 (by omega), g' 68 (by omega), g' 69 (by omega), g' 59 (by omega), h50 4 (by omega), h50 3 (by omega), h50 32 (by omega)]; exact c4
  · unfold R_ask at *
    rw [g' 23 (by omega), g' 27 (by omega), g' 70 (by omega), h50 39 (by omega), h50 41 (by omega), h50 42 (by omega), h50 36 (by omega), h50 37 (by omega), h50 38 (by omega)]; exact c5
  · unfold R_lin at *
    rw [g' 29 (by omega), g' 17 (by omega), g' 18 (by omega), g' 19 (by omega), g' 20 (by omega), g' 21 (by omega), g' 22 (by omega), g' 62 (by omega), g' 63 (by omega), g' 64 (by omega), g' 65 (by omega), g' 66 (by omega), h50 0 (by omega), h50 24 (by omega), h50 30 (by omega), h50 31 (by omega)]; exact c6
  · rw [g' 29 (by omega), g' 35 (by omega), g' 36 (by omega), g' 71 (by omega)]; exact c7
  · rw [g' 37 (by omega), g' 72 (by omega)]; exact c8
  · rw [g' 38 (by omega), g' 39 (by omega), g' 40 (by omega), g' 75 (by omega), g' 76 (by omega), h50 48 (by omega)]; exact c9
theorem pr_path : R_pair 3 210 [] := by
  intro M hR
  obtain ⟨hT, hRt, -⟩ := id hR
  obtain ⟨t1, t2, t3, t4⟩ := hT
  have hx : x_txt (M 2 1) (M 3) := ⟨t2, t3, fun i q1 q2 => (t4 i q1 q2).2⟩
  have hB : y_txt M (M 3) (M 2 1) := ⟨hx, t1.symm, fun i q1 q2 => (t4 i q1 q2).1.symm⟩
  refine en3r1 (rg3r1_0 (sp182 hx ⟨rfl, rfl⟩ (fun N m E n1 n2 n3 => xq_kv ?_)))
  have hc : x_cur N (M 3) (M 2 1) m E 0 := ⟨hx, n2, n3, by omega, n2.2.1.1⟩
  rw [n1 1 (by omega) (by omega) (by omega) (by omega)]
  rcases hRt with ⟨r1, r2, -⟩ | ⟨r1, r2, -⟩
  · rw [r2]
    have fin : ∀ A' B' : xm_Mem, x_gA 15 16 14 N A' → ∀ q : Nat, q ≠ 4 → q ≠ 5 → q ≠ 6 → q ≠ 7 → q ≠ 8 → q ≠ 9 → q ≠ 10 → q ≠ 15 → q ≠ 16 → q ≠ 14 → A' q = M q := fun A' B' a2 q x1 x2 x3 x4 x5 x6 x7 x8 x9 x10 => (a2.1 q x1 x5 x6 x7 x8 x9 x10).trans (n1 q x1 x2 x3 x4)
    have ok : ∀ (A' B' : xm_Mem) (k' : Int), x_it 15 16 14 (M 3) (M 2 1) m E m A' B' → x_gA 15 16 14 N A' → x_gB M B' → 0 ≤ k' ∧ k' ≤ m → x_209 2 M k' B' → xm_call true 11 210 [.inr (.inr 50)] (x_4 (xm_up (xm_up (xm_up A' 1 3 ((14 : Nat) : Int)) 1 4 ((11 : Nat) : Int)) 2 1 0)) (fun w M2 => R_end [.inl k'] w M2) := fun A' B' k' a1 a2 a3 a4 a5 => by
      have e : x_4 (xm_up (xm_up (xm_up A' 1 3 ((14 : Nat) : Int)) 1 4 ((11 : Nat) : Int)) 2 1 0) = x_mx (x_4 (xm_up (xm_up (xm_up A' 1 3 ((14 : Nat) : Int)) 1 4 ((11 : Nat) : Int)) 2 1 0)) M := mx_hi (fun c hc => by rw [x4_hi hc, xu_c (by omega), xu_c (by omega), xu_c (by omega), fin A' B' a2 c (by omega) (by omega) (by omega) (by omega) (by omega) (by omega) (by omega) (by omega) (by omega) (by omega)])
      have src := a1.2.2.2.2.1.2.2.2.2.2.1
      refine pend_ok (N := x_4 (xm_up (xm_up (xm_up A' 1 3 ((14 : Nat) : Int)) 1 4 ((11 : Nat) : Int)) 2 1 0)) a1.2.2.1 (by omega) ⟨rfl, path_ok_14 hR (fin A' B' a2) a3 a1⟩ (fun R hR' => ?_)
      rw [e]
      exact a5 _ R hR'
    have no : ∀ (A' B' : xm_Mem) (i' k' : Int), x_cur A' (M 3) (M 2 1) m E i' → x_gA 15 16 14 N A' → x_gB M B' → B' 50 11 = 1 → B' 50 10 = A' 6 i' → x_209 2 M k' B' → xm_call true 11 210 [.inr (.inr 50)] A' (fun w M2 => R_end [.inl (-10 - A' 6 i')] w M2) := fun A' B' i' k' a1 a2 a3 a4 a5 a6 => by
      have e : A' = x_mx A' M := mx_hi (fun c hc => fin A' B' a2 c (by omega) (by omega) (by omega) (by omega) (by omega) (by omega) (by omega) (by omega) (by omega) (by omega))
      have hT' : y_txt B' (M 3) (M 2 1) := ⟨hx, by rw [a3.2 9 (by omega) (by omega) (by omega) (by omega) (by omega)]; exact hB.2.1, by rw [a3.1 53 (by omega) (by omega) (by omega) (by omega) (by omega) (by omega)]; exact hB.2.2⟩
      refine pend_no (N := A') (k := k') hT' a4 a5 (nx_cur a1) ⟨rfl, path_no_14 hR ⟨r1, r2⟩ (fun q q1 q2 q3 q4 => ?_) (fun k hk => ?_)⟩ (fun R hR' => ?_)
      · unfold x_live at q1
        by_cases z : q < 50
        · rw [mx_l z]
          exact fin A' B' a2 q (by omega) (by omega) (by omega) (by omega) (by omega) (by omega) (by omega) q2 q3 q4
        · rw [mx_r (by omega), xu_c (by omega)]
          exact a3.1 q (by omega) (by omega) (by omega) (by omega) (by omega) (by omega)
      · rw [mx_r (by omega), xu_k (by omega)]
        exact a3.2 k (by omega) (by omega) (by omega) (by omega) (by omega)
      · have := a6 A' R hR'
        rw [← e] at this
        exact this
    refine ⟨by omega, fun q => ?_, fun q => ?_⟩
    all_goals first | exact absurd q (by omega) | skip
    refine sp125_14 (e := 2) hc hB (fun A' B' k' a1 a2 a3 a4 a5 => xq_ki ?_) (fun A' B' i' k' a1 a2 a3 a4 a5 a6 => xq_ki ?_)
    · have m2 := hc.2.1.2.1
      have e1 : A' 1 = M 1 := fin A' B' a2 1 (by omega) (by omega) (by omega) (by omega) (by omega) (by omega) (by omega) (by omega) (by omega) (by omega)
      rw [e1, r1, r2]
      refine ⟨by omega, fun _ => ⟨by omega, fun q => ?_, fun q => ?_⟩, fun q => by omega⟩
      all_goals first | exact absurd q (by omega) | skip
      refine ⟨by omega, fun q => ?_, fun q => ?_⟩
      all_goals first | exact absurd q (by omega) | skip
      exact en178r2 (rg178r2_0 (xq_ki (sp4 (xq_kv (ok A' B' k' a1 a2 a3 a4 a5)))))
    · have K := cur_tok a1
      have n0 := hx.2.1
      exact ⟨by omega, fun q => by omega, fun _ => no A' B' i' k' a1 a2 a3 a4 a5 a6⟩
  · rw [r2]
    have fin : ∀ A' B' : xm_Mem, x_gA 12 13 11 N A' → ∀ q : Nat, q ≠ 4 → q ≠ 5 → q ≠ 6 → q ≠ 7 → q ≠ 8 → q ≠ 9 → q ≠ 10 → q ≠ 12 → q ≠ 13 → q ≠ 11 → A' q = M q := fun A' B' a2 q x1 x2 x3 x4 x5 x6 x7 x8 x9 x10 => (a2.1 q x1 x5 x6 x7 x8 x9 x10).trans (n1 q x1 x2 x3 x4)
    have ok : ∀ (A' B' : xm_Mem) (k' : Int), x_it 12 13 11 (M 3) (M 2 1) m E m A' B' → x_gA 12 13 11 N A' → x_gB M B' → 0 ≤ k' ∧ k' ≤ m → x_209 2 M k' B' → xm_call true 11 210 [.inr (.inr 50)] (x_4 (xm_up (xm_up (xm_up A' 1 3 ((11 : Nat) : Int)) 1 4 ((14 : Nat) : Int)) 2 1 0)) (fun w M2 => R_end [.inl k'] w M2) := fun A' B' k' a1 a2 a3 a4 a5 => by
      have e : x_4 (xm_up (xm_up (xm_up A' 1 3 ((11 : Nat) : Int)) 1 4 ((14 : Nat) : Int)) 2 1 0) = x_mx (x_4 (xm_up (xm_up (xm_up A' 1 3 ((11 : Nat) : Int)) 1 4 ((14 : Nat) : Int)) 2 1 0)) M := mx_hi (fun c hc => by rw [x4_hi hc, xu_c (by omega), xu_c (by omega), xu_c (by omega), fin A' B' a2 c (by omega) (by omega) (by omega) (by omega) (by omega) (by omega) (by omega) (by omega) (by omega) (by omega)])
      have src := a1.2.2.2.2.1.2.2.2.2.2.1
      refine pend_ok (N := x_4 (xm_up (xm_up (xm_up A' 1 3 ((11 : Nat) : Int)) 1 4 ((14 : Nat) : Int)) 2 1 0)) a1.2.2.1 (by omega) ⟨rfl, path_ok_11 hR (fin A' B' a2) a3 a1⟩ (fun R hR' => ?_)
      rw [e]
      exact a5 _ R hR'
    have no : ∀ (A' B' : xm_Mem) (i' k' : Int), x_cur A' (M 3) (M 2 1) m E i' → x_gA 12 13 11 N A' → x_gB M B' → B' 50 11 = 1 → B' 50 10 = A' 6 i' → x_209 2 M k' B' → xm_call true 11 210 [.inr (.inr 50)] A' (fun w M2 => R_end [.inl (-10 - A' 6 i')] w M2) := fun A' B' i' k' a1 a2 a3 a4 a5 a6 => by
      have e : A' = x_mx A' M := mx_hi (fun c hc => fin A' B' a2 c (by omega) (by omega) (by omega) (by omega) (by omega) (by omega) (by omega) (by omega) (by omega) (by omega))
      have hT' : y_txt B' (M 3) (M 2 1) := ⟨hx, by rw [a3.2 9 (by omega) (by omega) (by omega) (by omega) (by omega)]; exact hB.2.1, by rw [a3.1 53 (by omega) (by omega) (by omega) (by omega) (by omega) (by omega)]; exact hB.2.2⟩
      refine pend_no (N := A') (k := k') hT' a4 a5 (nx_cur a1) ⟨rfl, path_no_11 hR ⟨r1, r2⟩ (fun q q1 q2 q3 q4 => ?_) (fun k hk => ?_)⟩ (fun R hR' => ?_)
      · unfold x_live at q1
        by_cases z : q < 50
        · rw [mx_l z]
          exact fin A' B' a2 q (by omega) (by omega) (by omega) (by omega) (by omega) (by omega) (by omega) q2 q3 q4
        · rw [mx_r (by omega), xu_c (by omega)]
          exact a3.1 q (by omega) (by omega) (by omega) (by omega) (by omega) (by omega)
      · rw [mx_r (by omega), xu_k (by omega)]
        exact a3.2 k (by omega) (by omega) (by omega) (by omega) (by omega)
      · have := a6 A' R hR'
        rw [← e] at this
        exact this
    refine ⟨by omega, fun q => ?_, fun q => ?_⟩
    all_goals first | exact absurd q (by omega) | skip
    refine sp125_11 (e := 2) hc hB (fun A' B' k' a1 a2 a3 a4 a5 => xq_ki ?_) (fun A' B' i' k' a1 a2 a3 a4 a5 a6 => xq_ki ?_)
    · have m2 := hc.2.1.2.1
      have e1 : A' 1 = M 1 := fin A' B' a2 1 (by omega) (by omega) (by omega) (by omega) (by omega) (by omega) (by omega) (by omega) (by omega) (by omega)
      rw [e1, r1, r2]
      refine ⟨by omega, fun _ => ⟨by omega, fun q => ?_, fun q => ?_⟩, fun q => by omega⟩
      all_goals first | exact absurd q (by omega) | skip
      refine ⟨by omega, fun q => ?_, fun q => ?_⟩
      all_goals first | exact absurd q (by omega) | skip
      exact en178r2 (rg178r2_0 (xq_ki (sp4 (xq_kv (ok A' B' k' a1 a2 a3 a4 a5)))))
    · have K := cur_tok a1
      have n0 := hx.2.1
      exact ⟨by omega, fun q => by omega, fun _ => no A' B' i' k' a1 a2 a3 a4 a5 a6⟩
