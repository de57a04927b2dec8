/-! one item: budget, plan, cross; and all of them -/
section I3
variable {d : Nat} {Q : xm_K} {t : Int → Int} {n m : Int} {E : Int → Int}
theorem it_11_3 {e : Nat} {i : Int} {A B : xm_Mem} {b : Nat} (hit : x_it 12 13 11 t n m E i A B) (h10 : B 50 10 = A 6 i) (hi : i < m) (hk1 : A 5 i = 1) (hs : x_say t n (A 6 i) (E i) (xm_sby.getD 3 [])) (hb : B 50 13 = b ∧ b < 32) (hw : ∀ w : Nat, w < 5 → A 9 w = if b.testBit w = true then 1 else 0) (h4 : b.testBit 4 = false → A 13 4 = 0) (hlt : A 9 3 < 1)
    (h1 : ∀ (A' B' : xm_Mem) (i' : Int), x_it 12 13 11 t n m E i' A' B' → i < i' → x_gA 12 13 11 A A' → x_gB B B' → y_igo e B B' → Q [.inl 1] A')
    (h0 : ∀ (A' B' : xm_Mem) (i' : Int), x_cur A' t n m E i' → x_gA 12 13 11 A A' → x_gB B B' → B' 50 11 = 1 → B' 50 10 = A' 6 i' → y_igo e B B' → Q [.inl 0] A') : x_rest_11 (d + 4) 3 (xm_up (xm_up A 9 (3 : Nat) (A 9 (3 : Nat) + 1)) 4 4 (i + 1)) Q := by
  obtain ⟨hc, hT, hf, hx, hp, htd⟩ := hit
  have w0 : A 9 (3 : Nat) = if b.testBit 3 = true then 1 else 0 := hw 3 (by omega)
  have bit : b.testBit 3 = false := by
    cases q : b.testBit 3 with
    | false => rfl
    | true =>
      rw [q, if_pos rfl] at w0
      have : A 9 (3 : Nat) < 1 := hlt
      omega
  rw [bit, if_neg Bool.false_ne_true] at w0
  have td5 : A 9 5 = B 50 14 := by obtain ⟨_, _, _, _, z, _⟩ := htd; exact z
  have src := hp.2.2.2.2.2.1
  have hc9 : x_cur (xm_up A 9 (3 : Nat) (A 9 (3 : Nat) + 1)) t n m E i := cur_keep hc (by rw [xu_c (by omega)]) (by rw [xu_c (by omega)]) (by rw [xu_c (by omega)]) (by rw [xu_c (by omega)])
  have hc1 := cur_next hc9 hi
  have gA1 : x_gA 12 13 11 A (xm_up (xm_up A 9 (3 : Nat) (A 9 (3 : Nat) + 1)) 4 4 (i + 1)) := gA_4 (gA_q gA_id (by omega) (by omega))
  have hx1 := nx_next hc hi
  have i0 := hc.2.2.2.1
  have ig := fun B' hh => igo_of (e := e) (k := 3) (b := b) (B' := B') hc hT h10 hf hi hk1 (by omega) hs hb (fun _ => bit) (fun q => by omega) hh
  have A16 : xm_up (xm_up A 9 (3 : Nat) (A 9 (3 : Nat) + 1)) 4 4 (i + 1) 6 = A 6 := by rw [xu_c (by omega), xu_c (by omega)]
  have A15 : xm_up (xm_up A 9 (3 : Nat) (A 9 (3 : Nat) + 1)) 4 4 (i + 1) 5 = A 5 := by rw [xu_c (by omega), xu_c (by omega)]
  have A17 : xm_up (xm_up A 9 (3 : Nat) (A 9 (3 : Nat) + 1)) 4 4 (i + 1) 7 = A 7 := by rw [xu_c (by omega), xu_c (by omega)]
  have A19 : ∀ j : Int, j ≠ (3 : Nat) → xm_up (xm_up A 9 (3 : Nat) (A 9 (3 : Nat) + 1)) 4 4 (i + 1) 9 j = A 9 j := fun j q => by rw [xu_c (by omega), xu_k q]
  have A19k : xm_up (xm_up A 9 (3 : Nat) (A 9 (3 : Nat) + 1)) 4 4 (i + 1) 9 (3 : Nat) = 1 := by rw [xu_c (by omega), xu_s, w0]; rfl
  have A1o : ∀ q : Nat, q ≠ 4 → q ≠ 9 → xm_up (xm_up A 9 (3 : Nat) (A 9 (3 : Nat) + 1)) 4 4 (i + 1) q = A q := fun q a z => by rw [xu_c a, xu_c z]
  generalize xm_up (xm_up A 9 (3 : Nat) (A 9 (3 : Nat) + 1)) 4 4 (i + 1) = A1 at *
  have hT1 : y_txt (xm_up (xm_up B 50 10 (E i)) 50 13 ((y_T2 b 3 : Nat) : Int)) t n := ytx_up (ytx_up hT ⟨by omega, fun _ => by omega⟩) ⟨by omega, fun _ => by omega⟩
  have gB1 : x_gB B (xm_up (xm_up B 50 10 (E i)) 50 13 ((y_T2 b 3 : Nat) : Int)) := gB_50 (gB_50 gB_id (by omega)) (by omega)
  have B10 : xm_up (xm_up B 50 10 (E i)) 50 13 ((y_T2 b 3 : Nat) : Int) 50 10 = E i := by rw [xu_k (by omega), xu_s]
  have B11 : xm_up (xm_up B 50 10 (E i)) 50 13 ((y_T2 b 3 : Nat) : Int) 50 11 = 0 := by rw [xu_k (by omega), xu_k (by omega)]; exact hf
  have B13 : xm_up (xm_up B 50 10 (E i)) 50 13 ((y_T2 b 3 : Nat) : Int) 50 13 = ((y_T2 b 3 : Nat) : Int) := by rw [xu_s]
  have B14 : xm_up (xm_up B 50 10 (E i)) 50 13 ((y_T2 b 3 : Nat) : Int) 50 14 = B 50 14 := by rw [xu_k (by omega), xu_k (by omega)]
  have B1o : ∀ q : Nat, q ≠ 50 → xm_up (xm_up B 50 10 (E i)) 50 13 ((y_T2 b 3 : Nat) : Int) q = B q := fun q a => by rw [xu_c a, xu_c a]
  generalize xm_up (xm_up B 50 10 (E i)) 50 13 ((y_T2 b 3 : Nat) : Int) = B1 at *
  have nx1 : y_nx t n (B1 50 10) (A1 6 (i + 1)) := by rw [B10, A16]; exact hx1
  show xm_call true (d + 4) 127 [.inr (.inr 4), .inr (.inr 11), .inl ((3 : Nat) : Int)] A1 _
  refine en127r4r11 (rg127r4r11_0 ⟨by omega, ⟨fun q => by omega, fun q => by omega, fun q => by omega, fun _ => ?_, trivial⟩, fun q => by omega⟩)
  refine sp128 hc1 ⟨by omega, by omega⟩ (fun isn i2 => xq_ki ?_) (fun nisn => xq_ki ?_)
  · obtain ⟨y1, y2, y3⟩ := id isn
    refine en165r11 (rg165r11_0 ⟨by omega, fun _ => ⟨Or.inr rfl, xq_ki ⟨by omega, fun q => by omega, fun _ => ?_⟩⟩, fun q => by omega⟩)
    have hc2 : x_cur (xm_up (xm_up A1 4 4 (i + 1 + 1)) 11 3 (A1 7 (i + 1))) t n m E (i + 1 + 1) := cur_keep (cur_next hc1 i2) (by rw [xu_c (by omega)]) (by rw [xu_c (by omega)]) (by rw [xu_c (by omega)]) (by rw [xu_c (by omega)])
    have gA2 : x_gA 12 13 11 A (xm_up (xm_up A1 4 4 (i + 1 + 1)) 11 3 (A1 7 (i + 1))) := gA_q (gA_4 gA1) (by omega) (by omega)
    have hx2 := nx_next hc1 i2
    have A26 : xm_up (xm_up A1 4 4 (i + 1 + 1)) 11 3 (A1 7 (i + 1)) 6 = A1 6 := by rw [xu_c (by omega), xu_c (by omega)]
    have A2o : ∀ q : Nat, q ≠ 4 → q ≠ 11 → xm_up (xm_up A1 4 4 (i + 1 + 1)) 11 3 (A1 7 (i + 1)) q = A1 q := fun q a z => by rw [xu_c z, xu_c a]
    have A2c : ∀ j : Int, j ≠ 3 → xm_up (xm_up A1 4 4 (i + 1 + 1)) 11 3 (A1 7 (i + 1)) 11 j = A 11 j := fun j a => by rw [xu_k a, xu_c (by omega), A1o 11 (by omega) (by omega)]
    have A2k : xm_up (xm_up A1 4 4 (i + 1 + 1)) 11 3 (A1 7 (i + 1)) 11 3 = A1 7 (i + 1) := xu_s
    generalize xm_up (xm_up A1 4 4 (i + 1 + 1)) 11 3 (A1 7 (i + 1)) = A2 at *
    have hT2 : y_txt (xm_up (xm_up B1 50 10 (E (i + 1))) 54 3 (A1 7 (i + 1))) t n := ytx_up (ytx_up hT1 ⟨by omega, fun _ => by omega⟩) ⟨by omega, fun _ => by omega⟩
    have x2 : xm_up (xm_up B1 50 10 (E (i + 1))) 54 3 (A1 7 (i + 1)) 50 10 = E (i + 1) := by rw [xu_c (by omega), xu_s]
    have f2 : xm_up (xm_up B1 50 10 (E (i + 1))) 54 3 (A1 7 (i + 1)) 50 11 = 0 := by rw [xu_c (by omega), xu_k (by omega)]; exact B11
    have t2 : xm_up (xm_up B1 50 10 (E (i + 1))) 54 3 (A1 7 (i + 1)) 50 13 = B1 50 13 := by rw [xu_c (by omega), xu_k (by omega)]
    have s2 : xm_up (xm_up B1 50 10 (E (i + 1))) 54 3 (A1 7 (i + 1)) 50 14 = B1 50 14 := by rw [xu_c (by omega), xu_k (by omega)]
    have gB2 : x_gB B (xm_up (xm_up B1 50 10 (E (i + 1))) 54 3 (A1 7 (i + 1))) := gB_54 (gB_50 gB1 (by omega))
    have B2o : ∀ q : Nat, q ≠ 50 → q ≠ 54 → xm_up (xm_up B1 50 10 (E (i + 1))) 54 3 (A1 7 (i + 1)) q = B q := fun q a z => by rw [xu_c z, xu_c a]; exact B1o q a
    have B254 : ∀ j : Int, xm_up (xm_up B1 50 10 (E (i + 1))) 54 3 (A1 7 (i + 1)) 54 j = if j = 3 then A1 7 (i + 1) else B 54 j := fun j => by
      by_cases q : j = 3
      · rw [if_pos q, q, xu_s]
      · rw [if_neg q, xu_k q, xu_c (by omega), B1o 54 (by omega)]
    have num1 : ∀ (N : xm_Mem) (R : xm_K), xm_call true (e + 6) 199 [.inr (.inr 50), .inl 1, .inl 16] (x_mx N (xm_up (xm_up B1 50 10 (E (i + 1))) 54 3 (A1 7 (i + 1)))) (fun v28 M29 => xm_ki (fun r30 => (0 ≤ (4 : Int) ∧ (4 : Int) < 5) ∧ wp208r50_223 (xm_call true (e + 6)) R ((3 : Nat) : Int) (xm_up M29 54 4 r30)) v28) → y_rest e 3 (x_mx N B1) R := fun N R hR => by
      show xm_call true (e + 6) 199 [.inr (.inr 50), .inl 0, .inl 20] (x_mx N B1) _
      refine nstep (A := A1) (j := i + 1) hc1 (mtx hT1) (by rw [mx_r (by omega)]; exact nx1) (by rw [mx_r (by omega)]; exact B11) (by omega) (fun _ _ => xq_ki ⟨by omega, ?_⟩) (fun q => absurd isn q)
      rw [mx_up (by omega), mx_up (by omega)]
      exact hR
    generalize xm_up (xm_up B1 50 10 (E (i + 1))) 54 3 (A1 7 (i + 1)) = B2 at *
    have nx2 : y_nx t n (B2 50 10) (A2 6 (i + 1 + 1)) := by rw [x2, A26]; exact hx2
    refine sp128 hc2 ⟨by omega, by omega⟩ (fun isn2 i3 => xq_ki ?_) (fun nisn => xq_ki ?_)
    · obtain ⟨z1, z2, z3⟩ := id isn2
      refine en166r11 (rg166r11_0 ⟨by omega, fun _ => ⟨Or.inr rfl, xq_ki ⟨by omega, fun q => by omega, fun _ => ⟨Or.inr rfl, xq_ki (xq_n1 ?_)⟩⟩⟩, fun q => by omega⟩)
      have hc3 : x_cur (xm_up (xm_up A2 4 4 (i + 1 + 1 + 1)) 11 4 (A2 7 (i + 1 + 1))) t n m E (i + 1 + 1 + 1) := cur_keep (cur_next hc2 i3) (by rw [xu_c (by omega)]) (by rw [xu_c (by omega)]) (by rw [xu_c (by omega)]) (by rw [xu_c (by omega)])
      have gA3 : x_gA 12 13 11 A (xm_up (xm_up A2 4 4 (i + 1 + 1 + 1)) 11 4 (A2 7 (i + 1 + 1))) := gA_q (gA_4 gA2) (by omega) (by omega)
      have hx3 := nx_next hc2 i3
      have A36 : xm_up (xm_up A2 4 4 (i + 1 + 1 + 1)) 11 4 (A2 7 (i + 1 + 1)) 6 = A2 6 := by rw [xu_c (by omega), xu_c (by omega)]
      have A3o : ∀ q : Nat, q ≠ 4 → q ≠ 11 → xm_up (xm_up A2 4 4 (i + 1 + 1 + 1)) 11 4 (A2 7 (i + 1 + 1)) q = A2 q := fun q a z => by rw [xu_c z, xu_c a]
      have A3c : ∀ j : Int, j ≠ 4 → xm_up (xm_up A2 4 4 (i + 1 + 1 + 1)) 11 4 (A2 7 (i + 1 + 1)) 11 j = A2 11 j := fun j a => by rw [xu_k a, xu_c (by omega)]
      have A3k : xm_up (xm_up A2 4 4 (i + 1 + 1 + 1)) 11 4 (A2 7 (i + 1 + 1)) 11 4 = A2 7 (i + 1 + 1) := xu_s
      generalize xm_up (xm_up A2 4 4 (i + 1 + 1 + 1)) 11 4 (A2 7 (i + 1 + 1)) = A3 at *
      have hT3 : y_txt (xm_up (xm_up B2 50 10 (E (i + 1 + 1))) 54 4 (A2 7 (i + 1 + 1))) t n := ytx_up (ytx_up hT2 ⟨by omega, fun _ => by omega⟩) ⟨by omega, fun _ => by omega⟩
      have x3 : xm_up (xm_up B2 50 10 (E (i + 1 + 1))) 54 4 (A2 7 (i + 1 + 1)) 50 10 = E (i + 1 + 1) := by rw [xu_c (by omega), xu_s]
      have f3 : xm_up (xm_up B2 50 10 (E (i + 1 + 1))) 54 4 (A2 7 (i + 1 + 1)) 50 11 = 0 := by rw [xu_c (by omega), xu_k (by omega)]; exact f2
      have nx3 : y_nx t n (xm_up (xm_up B2 50 10 (E (i + 1 + 1))) 54 4 (A2 7 (i + 1 + 1)) 50 10) (A3 6 (i + 1 + 1 + 1)) := by rw [x3, A36]; exact hx3
      have num2 : ∀ (N : xm_Mem) (R : xm_K), wp208r50_223 (xm_call true (e + 6)) R ((3 : Nat) : Int) (x_mx N (xm_up (xm_up B2 50 10 (E (i + 1 + 1))) 54 4 (A2 7 (i + 1 + 1)))) → y_rest e 3 (x_mx N B1) R := fun N R hR => by
        refine num1 N R (nstep (A := A2) (j := i + 1 + 1) hc2 (mtx hT2) (by rw [mx_r (by omega)]; exact nx2) (by rw [mx_r (by omega)]; exact f2) (by omega) (fun _ _ => xq_ki ⟨by omega, ?_⟩) (fun q => absurd isn2 q))
        rw [mx_up (by omega), mx_up (by omega)]
        exact hR
      refine sp129 hc3 (fun g5 i4 => xq_ki ⟨by omega, fun q => by omega, fun _ => ⟨Or.inr rfl, ?_⟩⟩) (fun g5 => xq_ki ⟨by omega, fun _ => ⟨Or.inl rfl, ?_⟩, fun q => absurd rfl q⟩)
      · refine h1 _ (xm_up (xm_up (xm_up B2 50 10 (E (i + 1 + 1))) 54 4 (A2 7 (i + 1 + 1))) 50 10 (E (i + 1 + 1 + 1))) (i + 1 + 1 + 1 + 1) ⟨cur_next hc3 i4, ytx_up hT3 ⟨by omega, fun _ => by omega⟩, by rw [xu_k (by omega)]; exact f3, ?_, ?_, ?_⟩ (by omega) (gA_4 gA3) (gB_50 (gB_54 (gB_50 gB2 (by omega))) (by omega)) (ig _ (fun N R hR => num2 N R (tail_1 hc3 hT3 nx3 f3 g5 hR)))
        · rw [xu_s, xu_c (by omega)]
          exact nx_next hc3 i4
        · rw [xu_c (c' := 11) (by omega), xu_c (c' := 12) (by omega), xu_c (c' := 13) (by omega), xu_c (c' := 54) (by omega), xu_c (c' := 55) (by omega), xu_c (c' := 56) (by omega), xu_k (k' := 14) (by omega), xu_c (c := 54) (c' := 50) (by omega), xu_k (k := 10) (k' := 14) (by omega), xu_c (c := 54) (c' := 55) (by omega), xu_c (c := 50) (c' := 55) (by omega), xu_c (c := 54) (c' := 56) (by omega), xu_c (c := 50) (c' := 56) (by omega), s2, B14, B2o 55 (by omega) (by omega), B2o 56 (by omega) (by omega), A3o 12 (by omega) (by omega), A3o 13 (by omega) (by omega), A2o 12 (by omega) (by omega), A2o 13 (by omega) (by omega), A1o 12 (by omega) (by omega), A1o 13 (by omega) (by omega)]
          have p3 : x_pt (A2 11) (A 12) (A 13) (B2 54) (B 50 14) (B 55) (B 56) := pt_set (k := 3) (v := A1 7 (i + 1)) hp (by omega) (fun j q => ⟨A2c j q, by rw [B254, if_neg q]⟩) ⟨A2k, by rw [B254, if_pos rfl]⟩ (by omega)
          refine pt_set (k := 4) (v := A2 7 (i + 1 + 1)) p3 (by omega) (fun j q => ⟨A3c j q, ?_⟩) ⟨A3k, xu_s⟩ (by omega)
          rw [xu_k q, xu_c (by omega)]
        · rw [xu_c (c' := 9) (by omega), xu_c (c' := 13) (by omega), A3o 9 (by omega) (by omega), A3o 13 (by omega) (by omega), A2o 9 (by omega) (by omega), A2o 13 (by omega) (by omega), A1o 13 (by omega) (by omega), xu_k (k' := 13) (by omega), xu_k (k' := 14) (by omega), xu_c (c := 54) (c' := 50) (by omega), xu_k (k := 10) (k' := 13) (by omega), xu_k (k := 10) (k' := 14) (by omega), t2, s2, B13, B14]
          refine told_2 (a9 := A 9) (src := 0) (le4 := 0) hw hb.2 (k := 3) (by omega) ?_ (fun w _ q => A19 _ (by omega)) (fun _ => A19k) rfl (fun q => h4 ?_)
          · rw [A19 5 (by omega)]; exact td5
          · rw [tb_T2 (by omega)] at q
            exact (Bool.or_eq_false_iff.mp q).1
      · refine h0 A3 (xm_up (xm_up (xm_up (xm_up B2 50 10 (E (i + 1 + 1))) 54 4 (A2 7 (i + 1 + 1))) 50 10 (A3 6 (i + 1 + 1 + 1))) 50 11 1) (i + 1 + 1 + 1) hc3 gA3 (gB_50 (gB_50 (gB_54 (gB_50 gB2 (by omega))) (by omega)) (by omega)) xu_s (by rw [xu_k (by omega), xu_s]) (ig _ (fun N R hR => num2 N R (tail_2 hc3 hT3 nx3 f3 g5 hR)))
    · refine en166r11 (rg166r11_0 ⟨by omega, fun q => by omega, fun _ => ⟨Or.inl rfl, xq_ki ⟨by omega, fun _ => ⟨Or.inl rfl, xq_ki (xq_b3 ⟨Or.inl rfl, ?_⟩)⟩, fun q => absurd rfl q⟩⟩⟩)
      refine h0 A2 (xm_up (xm_up (xm_up B2 50 10 (A2 6 (i + 1 + 1))) 50 11 1) 54 4 1) (i + 1 + 1) hc2 gA2 (gB_54 (gB_50 (gB_50 gB2 (by omega)) (by omega))) (by rw [xu_c (by omega), xu_s]) (by rw [xu_c (by omega), xu_k (by omega), xu_s]) (ig _ (fun N R hR => num1 N R ?_))
      refine nstep (A := A2) (j := i + 1 + 1) hc2 (mtx hT2) (by rw [mx_r (by omega)]; exact nx2) (by rw [mx_r (by omega)]; exact f2) (by omega) (fun q _ => absurd q nisn) (fun _ => xq_ki ⟨by omega, ?_⟩)
      rw [mx_up (by omega), mx_up (by omega), mx_up (by omega)]
      exact tail_3 (by rw [xu_c (by omega), xu_s]) hR
  · refine en165r11 (rg165r11_0 ⟨by omega, fun q => by omega, fun _ => ⟨Or.inl rfl, xq_ki ⟨by omega, fun _ => ⟨Or.inl rfl, xq_ki (xq_b3 ⟨Or.inl rfl, ?_⟩)⟩, fun q => absurd rfl q⟩⟩⟩)
    refine h0 A1 (xm_up (xm_up (xm_up (xm_up B1 50 10 (A1 6 (i + 1))) 50 11 1) 54 3 0) 54 4 1) (i + 1) hc1 gA1 (gB_54 (gB_54 (gB_50 (gB_50 gB1 (by omega)) (by omega)))) (by rw [xu_c (by omega), xu_c (by omega), xu_s]) (by rw [xu_c (by omega), xu_c (by omega), xu_k (by omega), xu_s]) (ig _ (fun N R hR => ?_))
    show xm_call true (e + 6) 199 [.inr (.inr 50), .inl 0, .inl 20] (x_mx N B1) _
    refine nstep (A := A1) (j := i + 1) hc1 (mtx hT1) (by rw [mx_r (by omega)]; exact nx1) (by rw [mx_r (by omega)]; exact B11) (by omega) (fun q _ => absurd q nisn) (fun _ => xq_ki ⟨by omega, ?_⟩)
    rw [mx_up (by omega), mx_up (by omega), mx_up (by omega)]
    refine sp199f (by rw [mx_r (by omega), xu_c (by omega), xu_s]) (xq_ki ⟨by omega, ?_⟩)
    rw [mx_up (by omega)]
    exact tail_3 (by rw [xu_c (by omega), xu_c (by omega), xu_s]) hR
theorem it_11_4 {e : Nat} {i : Int} {A B : xm_Mem} {b : Nat} (hit : x_it 12 13 11 t n m E i A B) (h10 : B 50 10 = A 6 i) (hi : i < m) (hk1 : A 5 i = 1) (hs : x_say t n (A 6 i) (E i) (xm_sby.getD 4 [])) (hb : B 50 13 = b ∧ b < 32) (hw : ∀ w : Nat, w < 5 → A 9 w = if b.testBit w = true then 1 else 0) (h4 : b.testBit 4 = false → A 13 4 = 0) (hlt : A 9 4 < 1)
    (h1 : ∀ (A' B' : xm_Mem) (i' : Int), x_it 12 13 11 t n m E i' A' B' → i < i' → x_gA 12 13 11 A A' → x_gB B B' → y_igo e B B' → Q [.inl 1] A')
    (h0 : ∀ (A' B' : xm_Mem) (i' : Int), x_cur A' t n m E i' → x_gA 12 13 11 A A' → x_gB B B' → B' 50 11 = 1 → B' 50 10 = A' 6 i' → y_igo e B B' → Q [.inl 0] A') : x_rest_11 (d + 4) 4 (xm_up (xm_up A 9 (4 : Nat) (A 9 (4 : Nat) + 1)) 4 4 (i + 1)) Q := by
  obtain ⟨hc, hT, hf, hx, hp, htd⟩ := hit
  have w0 : A 9 (4 : Nat) = if b.testBit 4 = true then 1 else 0 := hw 4 (by omega)
  have bit : b.testBit 4 = false := by
    cases q : b.testBit 4 with
    | false => rfl
    | true =>
      rw [q, if_pos rfl] at w0
      have : A 9 (4 : Nat) < 1 := hlt
      omega
  rw [bit, if_neg Bool.false_ne_true] at w0
  have td5 : A 9 5 = B 50 14 := by obtain ⟨_, _, _, _, z, _⟩ := htd; exact z
  have src := hp.2.2.2.2.2.1
  have hc9 : x_cur (xm_up A 9 (4 : Nat) (A 9 (4 : Nat) + 1)) t n m E i := cur_keep hc (by rw [xu_c (by omega)]) (by rw [xu_c (by omega)]) (by rw [xu_c (by omega)]) (by rw [xu_c (by omega)])
  have hc1 := cur_next hc9 hi
  have gA1 : x_gA 12 13 11 A (xm_up (xm_up A 9 (4 : Nat) (A 9 (4 : Nat) + 1)) 4 4 (i + 1)) := gA_4 (gA_q gA_id (by omega) (by omega))
  have hx1 := nx_next hc hi
  have i0 := hc.2.2.2.1
  have ig := fun B' hh => igo_of (e := e) (k := 4) (b := b) (B' := B') hc hT h10 hf hi hk1 (by omega) hs hb (fun _ => bit) (fun q => by omega) hh
  have A16 : xm_up (xm_up A 9 (4 : Nat) (A 9 (4 : Nat) + 1)) 4 4 (i + 1) 6 = A 6 := by rw [xu_c (by omega), xu_c (by omega)]
  have A15 : xm_up (xm_up A 9 (4 : Nat) (A 9 (4 : Nat) + 1)) 4 4 (i + 1) 5 = A 5 := by rw [xu_c (by omega), xu_c (by omega)]
  have A17 : xm_up (xm_up A 9 (4 : Nat) (A 9 (4 : Nat) + 1)) 4 4 (i + 1) 7 = A 7 := by rw [xu_c (by omega), xu_c (by omega)]
  have A19 : ∀ j : Int, j ≠ (4 : Nat) → xm_up (xm_up A 9 (4 : Nat) (A 9 (4 : Nat) + 1)) 4 4 (i + 1) 9 j = A 9 j := fun j q => by rw [xu_c (by omega), xu_k q]
  have A19k : xm_up (xm_up A 9 (4 : Nat) (A 9 (4 : Nat) + 1)) 4 4 (i + 1) 9 (4 : Nat) = 1 := by rw [xu_c (by omega), xu_s, w0]; rfl
  have A1o : ∀ q : Nat, q ≠ 4 → q ≠ 9 → xm_up (xm_up A 9 (4 : Nat) (A 9 (4 : Nat) + 1)) 4 4 (i + 1) q = A q := fun q a z => by rw [xu_c a, xu_c z]
  generalize xm_up (xm_up A 9 (4 : Nat) (A 9 (4 : Nat) + 1)) 4 4 (i + 1) = A1 at *
  have hT1 : y_txt (xm_up (xm_up B 50 10 (E i)) 50 13 ((y_T2 b 4 : Nat) : Int)) t n := ytx_up (ytx_up hT ⟨by omega, fun _ => by omega⟩) ⟨by omega, fun _ => by omega⟩
  have gB1 : x_gB B (xm_up (xm_up B 50 10 (E i)) 50 13 ((y_T2 b 4 : Nat) : Int)) := gB_50 (gB_50 gB_id (by omega)) (by omega)
  have B10 : xm_up (xm_up B 50 10 (E i)) 50 13 ((y_T2 b 4 : Nat) : Int) 50 10 = E i := by rw [xu_k (by omega), xu_s]
  have B11 : xm_up (xm_up B 50 10 (E i)) 50 13 ((y_T2 b 4 : Nat) : Int) 50 11 = 0 := by rw [xu_k (by omega), xu_k (by omega)]; exact hf
  have B13 : xm_up (xm_up B 50 10 (E i)) 50 13 ((y_T2 b 4 : Nat) : Int) 50 13 = ((y_T2 b 4 : Nat) : Int) := by rw [xu_s]
  have B14 : xm_up (xm_up B 50 10 (E i)) 50 13 ((y_T2 b 4 : Nat) : Int) 50 14 = B 50 14 := by rw [xu_k (by omega), xu_k (by omega)]
  have B1o : ∀ q : Nat, q ≠ 50 → xm_up (xm_up B 50 10 (E i)) 50 13 ((y_T2 b 4 : Nat) : Int) q = B q := fun q a => by rw [xu_c a, xu_c a]
  generalize xm_up (xm_up B 50 10 (E i)) 50 13 ((y_T2 b 4 : Nat) : Int) = B1 at *
  have nx1 : y_nx t n (B1 50 10) (A1 6 (i + 1)) := by rw [B10, A16]; exact hx1
  show xm_call true (d + 4) 130 [.inr (.inr 8), .inr (.inr 4), .inr (.inr 11), .inl 4] A1 _
  have le0 := h4 bit
  refine sp130_11 (e := e) (row := 4) (by omega) hc1 hT1 B11 nx1 (fun A' B' i' a1 a2 a3 a4 a5 a6 a7 a8 _ a10 a11 a12 a13 a14 => xq_ki ⟨Or.inr rfl, ?_⟩) (fun A' B' i' a1 a5 a6 a13 a12 a14 => xq_ki ⟨Or.inl rfl, ?_⟩)
  · have cA := cur_at a1 (j := i' - 1) ⟨by omega, by omega⟩
    have nx' := nx_next cA (by omega)
    rw [show i' - 1 + 1 = i' by omega, xu_c (c' := 6) (by omega)] at nx'
    have hT' : y_txt B' t n := ⟨hT.1, by rw [a6.2.1 9 (by omega) (by omega) (by omega)]; exact hT1.2.1, by rw [a6.1 53 (by omega) (by omega) (by omega) (by omega) (by omega)]; exact hT1.2.2⟩
    have n1 : y_nx t n (B' 50 10) (xm_up A' 4 4 (i' - 1) 6 (i' - 1)) := by
      rw [xu_c (by omega), a13]
      have k' := cur_tok cA
      rw [xu_c (c' := 6) (by omega), xu_c (c' := 5) (by omega), xu_c (c' := 7) (by omega)] at k'
      exact nx_id hT.1 k'.1 (fun _ => (k'.2.2.2 (by omega)).2.1)
    refine h1 A' (xm_up B' 50 10 (E (i' - 1))) i' ⟨a1, ytx_up hT' ⟨by omega, fun _ => by omega⟩, by rw [xu_k (by omega)]; exact a12, by rw [xu_s]; exact nx', ?_, ?_⟩ (by omega) (gA_tr gA1 (gA_f a5)) (gB_50 (gB_tr gB1 (gB_f a6)) (by omega)) (ig _ (fun N R hR => ?_))
    · rw [xu_c (c' := 54) (by omega), xu_c (c' := 55) (by omega), xu_c (c' := 56) (by omega), xu_k (k' := 14) (by omega), a6.1 54 (by omega) (by omega) (by omega) (by omega) (by omega), a6.2.1 14 (by omega) (by omega) (by omega), B14, B1o 54 (by omega)]
      obtain ⟨p0, p1, p2, p3, p4, p5, p6, p7, p8, p9⟩ := hp
      have ac : ∀ k : Int, A' 11 k = A 11 k := fun k => by
        by_cases z : k = 5
        · rw [z, a8 rfl, A1o 11 (by omega) (by omega)]
        · rw [a5.2.2.2.1 k z, A1o 11 (by omega) (by omega)]
      have ale : ∀ s : Int, s ≠ 4 → A' 13 s = A 13 s := fun s z => by rw [a5.2.2.1 s z, A1o 13 (by omega) (by omega)]
      have b56 : ∀ s : Int, s ≠ 4 → B' 56 s = B 56 s := fun s z => by rw [a6.2.2.2 s z, B1o 56 (by omega)]
      refine ⟨by rw [ac]; exact p0, by rw [ac]; exact p1, by rw [ac]; exact p2, by rw [ac]; exact p3, by rw [ac]; exact p4, by rw [ac]; exact p5, fun s q1 q2 => ?_, fun s q1 q2 => ?_, ?_, fun s j q1 q2 q3 => ?_⟩
      · rw [ac] at q2
        rw [ale s (by omega), b56 s (by omega)]
        exact p6 s q1 q2
      · rw [ac] at q1
        rw [ale s (by omega)]
        exact p7 s q1 q2
      · rw [a10]; omega
      · rw [ac] at q1
        by_cases z : s = 4
        · subst z
          exact a11 j q2 q3
        · rw [ale s z] at q3
          have lb := p6 s (by omega) (by omega)
          have g := p9 s j q1 q2 q3
          rw [a5.2.1 _ (by omega), A1o 12 (by omega) (by omega), a6.2.2.1 _ (by omega), B1o 55 (by omega)]
          exact g
    · rw [xu_k (k' := 13) (by omega), xu_k (k' := 14) (by omega), a6.2.1 13 (by omega) (by omega) (by omega), a6.2.1 14 (by omega) (by omega) (by omega), B13, B14, a5.1 9 (by omega) (by omega) (by omega) (by omega) (by omega) (by omega)]
      refine told_2 (a9 := A 9) (src := 0) (le4 := 0) hw hb.2 (k := 4) (by omega) ?_ (fun w _ q => A19 _ (by omega)) (fun _ => A19k) rfl (fun q => ?_)
      · rw [A19 5 (by omega)]; exact td5
      · rw [tb_T2 (by omega)] at q
        have := (Bool.or_eq_false_iff.mp q).2
        exact absurd this (by decide)
    · show xm_call true (e + 6) 203 [.inr (.inr 50), .inl 4] (x_mx N B1) _
      exact a14 N _ (xq_kv (tail_1 cA hT' n1 a12 (by rw [xu_c (by omega)]; exact a4) hR))
  · have hT' : y_txt B' t n := ⟨hT.1, by rw [a6.2.1 9 (by omega) (by omega) (by omega)]; exact hT1.2.1, by rw [a6.1 53 (by omega) (by omega) (by omega) (by omega) (by omega)]; exact hT1.2.2⟩
    have k' := cur_tok a1
    have n1 : y_nx t n (B' 50 10) (A' 6 i') := by
      rw [a13]
      refine nx_id hT.1 k'.1 (fun q => ?_)
      have := a1.2.2.2.2
      by_cases z : i' = m
      · have := (k'.2.2.1 z).2; omega
      · exact (k'.2.2.2 (by omega)).2.1
    rcases a12 with g | ⟨g, g5⟩
    · exact h0 A' B' i' a1 (gA_tr gA1 (gA_f a5)) (gB_tr gB1 (gB_f a6)) g a13 (ig _ (fun N R hR => a14 N _ (xq_kv (tail_3 g hR))))
    · refine h0 A' (xm_up (xm_up B' 50 10 (A' 6 i')) 50 11 1) i' a1 (gA_tr gA1 (gA_f a5)) (gB_50 (gB_50 (gB_tr gB1 (gB_f a6)) (by omega)) (by omega)) xu_s (by rw [xu_k (by omega), xu_s]) (ig _ (fun N R hR => ?_))
      show xm_call true (e + 6) 203 [.inr (.inr 50), .inl 4] (x_mx N B1) _
      exact a14 N _ (xq_kv (tail_2 a1 hT' n1 g g5 hR))
theorem it_11_5 {e : Nat} {i : Int} {A B : xm_Mem} {b : Nat} (hit : x_it 12 13 11 t n m E i A B) (h10 : B 50 10 = A 6 i) (hi : i < m) (hk1 : A 5 i = 1) (hs : x_say t n (A 6 i) (E i) (xm_sby.getD 5 [])) (hb : B 50 13 = b ∧ b < 32) (hw : ∀ w : Nat, w < 5 → A 9 w = if b.testBit w = true then 1 else 0) (h4 : b.testBit 4 = false → A 13 4 = 0) (hlt : A 9 5 < 4)
    (h1 : ∀ (A' B' : xm_Mem) (i' : Int), x_it 12 13 11 t n m E i' A' B' → i < i' → x_gA 12 13 11 A A' → x_gB B B' → y_igo e B B' → Q [.inl 1] A')
    (h0 : ∀ (A' B' : xm_Mem) (i' : Int), x_cur A' t n m E i' → x_gA 12 13 11 A A' → x_gB B B' → B' 50 11 = 1 → B' 50 10 = A' 6 i' → y_igo e B B' → Q [.inl 0] A') : x_rest_11 (d + 4) 5 (xm_up (xm_up A 9 (5 : Nat) (A 9 (5 : Nat) + 1)) 4 4 (i + 1)) Q := by
  obtain ⟨hc, hT, hf, hx, hp, htd⟩ := hit
  have td5 : A 9 5 = B 50 14 := by obtain ⟨_, _, _, _, z, _⟩ := htd; exact z
  have src := hp.2.2.2.2.2.1
  have hc9 : x_cur (xm_up A 9 (5 : Nat) (A 9 (5 : Nat) + 1)) t n m E i := cur_keep hc (by rw [xu_c (by omega)]) (by rw [xu_c (by omega)]) (by rw [xu_c (by omega)]) (by rw [xu_c (by omega)])
  have hc1 := cur_next hc9 hi
  have gA1 : x_gA 12 13 11 A (xm_up (xm_up A 9 (5 : Nat) (A 9 (5 : Nat) + 1)) 4 4 (i + 1)) := gA_4 (gA_q gA_id (by omega) (by omega))
  have hx1 := nx_next hc hi
  have i0 := hc.2.2.2.1
  have ig := fun B' hh => igo_of (e := e) (k := 5) (b := b) (B' := B') hc hT h10 hf hi hk1 (by omega) hs hb (fun q => by omega) (fun _ => ⟨by omega, by omega⟩) hh
  have A16 : xm_up (xm_up A 9 (5 : Nat) (A 9 (5 : Nat) + 1)) 4 4 (i + 1) 6 = A 6 := by rw [xu_c (by omega), xu_c (by omega)]
  have A15 : xm_up (xm_up A 9 (5 : Nat) (A 9 (5 : Nat) + 1)) 4 4 (i + 1) 5 = A 5 := by rw [xu_c (by omega), xu_c (by omega)]
  have A17 : xm_up (xm_up A 9 (5 : Nat) (A 9 (5 : Nat) + 1)) 4 4 (i + 1) 7 = A 7 := by rw [xu_c (by omega), xu_c (by omega)]
  have A19 : ∀ j : Int, j ≠ (5 : Nat) → xm_up (xm_up A 9 (5 : Nat) (A 9 (5 : Nat) + 1)) 4 4 (i + 1) 9 j = A 9 j := fun j q => by rw [xu_c (by omega), xu_k q]
  have A19k : xm_up (xm_up A 9 (5 : Nat) (A 9 (5 : Nat) + 1)) 4 4 (i + 1) 9 (5 : Nat) = A 9 5 + 1 := by rw [xu_c (by omega), xu_s]; rfl
  have A1o : ∀ q : Nat, q ≠ 4 → q ≠ 9 → xm_up (xm_up A 9 (5 : Nat) (A 9 (5 : Nat) + 1)) 4 4 (i + 1) q = A q := fun q a z => by rw [xu_c a, xu_c z]
  generalize xm_up (xm_up A 9 (5 : Nat) (A 9 (5 : Nat) + 1)) 4 4 (i + 1) = A1 at *
  have hT1 : y_txt (xm_up (xm_up B 50 10 (E i)) 50 13 ((y_T2 b 5 : Nat) : Int)) t n := ytx_up (ytx_up hT ⟨by omega, fun _ => by omega⟩) ⟨by omega, fun _ => by omega⟩
  have gB1 : x_gB B (xm_up (xm_up B 50 10 (E i)) 50 13 ((y_T2 b 5 : Nat) : Int)) := gB_50 (gB_50 gB_id (by omega)) (by omega)
  have B10 : xm_up (xm_up B 50 10 (E i)) 50 13 ((y_T2 b 5 : Nat) : Int) 50 10 = E i := by rw [xu_k (by omega), xu_s]
  have B11 : xm_up (xm_up B 50 10 (E i)) 50 13 ((y_T2 b 5 : Nat) : Int) 50 11 = 0 := by rw [xu_k (by omega), xu_k (by omega)]; exact hf
  have B13 : xm_up (xm_up B 50 10 (E i)) 50 13 ((y_T2 b 5 : Nat) : Int) 50 13 = ((y_T2 b 5 : Nat) : Int) := by rw [xu_s]
  have B14 : xm_up (xm_up B 50 10 (E i)) 50 13 ((y_T2 b 5 : Nat) : Int) 50 14 = B 50 14 := by rw [xu_k (by omega), xu_k (by omega)]
  have B1o : ∀ q : Nat, q ≠ 50 → xm_up (xm_up B 50 10 (E i)) 50 13 ((y_T2 b 5 : Nat) : Int) q = B q := fun q a => by rw [xu_c a, xu_c a]
  generalize xm_up (xm_up B 50 10 (E i)) 50 13 ((y_T2 b 5 : Nat) : Int) = B1 at *
  have nx1 : y_nx t n (B1 50 10) (A1 6 (i + 1)) := by rw [B10, A16]; exact hx1
  show xm_call true (d + 4) 161 [.inr (.inr 11)] A1 _
  refine sp161r11 (xq_ki ?_)
  rw [A1o 11 (by omega) (by omega)]
  have e14 : B1 50 14 = A 11 5 := by rw [B14]; omega
  have rowlt : A 11 5 ≤ 3 := by omega
  refine sp130_11 (e := e) (row := A 11 5) (by omega) hc1 hT1 B11 nx1 (fun A' B' i' a1 a2 a3 a4 a5 a6 a7 _ a9 a10 a11 a12 a13 a14 => xq_ki ⟨Or.inr rfl, ?_⟩) (fun A' B' i' a1 a5 a6 a13 a12 a14 => xq_ki ⟨Or.inl rfl, ?_⟩)
  · have cA := cur_at a1 (j := i' - 1) ⟨by omega, by omega⟩
    have nx' := nx_next cA (by omega)
    rw [show i' - 1 + 1 = i' by omega, xu_c (c' := 6) (by omega)] at nx'
    have hT'0 : y_txt B' t n := ⟨hT.1, by rw [a6.2.1 9 (by omega) (by omega) (by omega)]; exact hT1.2.1, by rw [a6.1 53 (by omega) (by omega) (by omega) (by omega) (by omega)]; exact hT1.2.2⟩
    have hT' : y_txt (xm_up B' 50 14 (B' 50 14 + 1)) t n := ytx_up hT'0 ⟨by omega, fun _ => by omega⟩
    have n1 : y_nx t n (xm_up B' 50 14 (B' 50 14 + 1) 50 10) (xm_up A' 4 4 (i' - 1) 6 (i' - 1)) := by
      rw [xu_k (by omega), xu_c (by omega), a13]
      have k' := cur_tok cA
      rw [xu_c (c' := 6) (by omega), xu_c (c' := 5) (by omega), xu_c (c' := 7) (by omega)] at k'
      exact nx_id hT.1 k'.1 (fun _ => (k'.2.2.2 (by omega)).2.1)
    have b14 : B' 50 14 = A 11 5 := by rw [a6.2.1 14 (by omega) (by omega) (by omega)]; exact e14
    refine h1 A' (xm_up (xm_up B' 50 14 (B' 50 14 + 1)) 50 10 (E (i' - 1))) i' ⟨a1, ytx_up hT' ⟨by omega, fun _ => by omega⟩, by rw [xu_k (by omega), xu_k (by omega)]; exact a12, by rw [xu_s]; exact nx', ?_, ?_⟩ (by omega) (gA_tr gA1 (gA_f a5)) (gB_50 (gB_50 (gB_tr gB1 (gB_f a6)) (by omega)) (by omega)) (ig _ (fun N R hR => ?_))
    · rw [xu_c (c' := 54) (by omega), xu_c (c' := 55) (by omega), xu_c (c' := 56) (by omega), xu_k (k' := 14) (by omega), xu_c (c' := 54) (by omega), xu_c (c' := 55) (by omega), xu_c (c' := 56) (by omega), xu_s, a6.1 54 (by omega) (by omega) (by omega) (by omega) (by omega), b14, B1o 54 (by omega)]
      obtain ⟨p0, p1, p2, p3, p4, p5, p6, p7, p8, p9⟩ := hp
      have c5 := a9 (by omega)
      have ac : ∀ k : Int, k ≠ 5 → A' 11 k = A 11 k := fun k z => by rw [a5.2.2.2.1 k z, A1o 11 (by omega) (by omega)]
      have ale : ∀ s : Int, s ≠ A 11 5 → A' 13 s = A 13 s := fun s z => by rw [a5.2.2.1 s z, A1o 13 (by omega) (by omega)]
      have b56 : ∀ s : Int, s ≠ A 11 5 → B' 56 s = B 56 s := fun s z => by rw [a6.2.2.2 s z, B1o 56 (by omega)]
      refine ⟨by rw [ac 0 (by omega)]; exact p0, by rw [ac 1 (by omega)]; exact p1, by rw [ac 2 (by omega)]; exact p2, by rw [ac 3 (by omega)]; exact p3, by rw [ac 4 (by omega)]; exact p4, by omega, fun s q1 q2 => ?_, fun s q1 q2 => ?_, ?_, fun s j q1 q2 q3 => ?_⟩
      · rw [c5] at q2
        by_cases z : s = A 11 5
        · rw [z, a10]; omega
        · rw [ale s z, b56 s z]
          exact p6 s q1 (by omega)
      · rw [c5] at q1
        rw [ale s (by omega)]
        exact p7 s (by omega) q2
      · rw [ale 4 (by omega), b56 4 (by omega)]; exact p8
      · rw [c5] at q1
        by_cases z : s = A 11 5
        · subst z
          exact a11 j q2 q3
        · rw [ale s z] at q3
          have lb : A 13 s ≤ 400 := by
            rcases q1 with q | q
            · exact (p6 s q.1 (by omega)).2.2
            · rw [q]; exact p8.2.2
          have g := p9 s j (by omega) q2 q3
          rw [a5.2.1 _ (by omega), A1o 12 (by omega) (by omega), a6.2.2.1 _ (by omega), B1o 55 (by omega)]
          exact g
    · rw [xu_k (k' := 13) (by omega), xu_k (k' := 14) (by omega), xu_k (k := 14) (k' := 13) (by omega), xu_s, a6.2.1 13 (by omega) (by omega) (by omega), B13, a5.1 9 (by omega) (by omega) (by omega) (by omega) (by omega) (by omega), a5.2.2.1 4 (by omega), A1o 13 (by omega) (by omega)]
      refine told_2 (a9 := A 9) (src := 0) (le4 := 0) hw hb.2 (k := 5) (by omega) ?_ (fun w hw5 _ => A19 _ (by omega)) (fun q => by omega) rfl (fun q => h4 ?_)
      · have : A1 9 5 = A 9 5 + 1 := A19k
        omega
      · unfold y_T2 at q
        exact q
    · show xm_call true (e + 6) 203 [.inr (.inr 50), .inl ((x_mx N B1) 50 14)] (x_mx N B1) _
      rw [mx_r (by omega), e14]
      refine a14 N _ (xq_kv ?_)
      rw [mx_r (by omega), mx_up (by omega)]
      exact tail_1 cA hT' n1 (by rw [xu_k (by omega)]; exact a12) (by rw [xu_c (by omega)]; exact a4) hR
  · have hT'0 : y_txt B' t n := ⟨hT.1, by rw [a6.2.1 9 (by omega) (by omega) (by omega)]; exact hT1.2.1, by rw [a6.1 53 (by omega) (by omega) (by omega) (by omega) (by omega)]; exact hT1.2.2⟩
    have hT' : y_txt (xm_up B' 50 14 (B' 50 14 + 1)) t n := ytx_up hT'0 ⟨by omega, fun _ => by omega⟩
    have k' := cur_tok a1
    have n1 : y_nx t n (xm_up B' 50 14 (B' 50 14 + 1) 50 10) (A' 6 i') := by
      rw [xu_k (by omega), a13]
      refine nx_id hT.1 k'.1 (fun q => ?_)
      have := a1.2.2.2.2
      by_cases z : i' = m
      · have := (k'.2.2.1 z).2; omega
      · exact (k'.2.2.2 (by omega)).2.1
    have rst : ∀ (N : xm_Mem) (R : xm_K), wp208r50_223 (xm_call true (e + 6)) R ((5 : Nat) : Int) (x_mx N (xm_up B' 50 14 (B' 50 14 + 1))) → y_rest e 5 (x_mx N B1) R := fun N R hR => by
      show xm_call true (e + 6) 203 [.inr (.inr 50), .inl ((x_mx N B1) 50 14)] (x_mx N B1) _
      rw [mx_r (by omega), e14]
      refine a14 N _ (xq_kv ?_)
      rw [mx_r (by omega), mx_up (by omega)]
      exact hR
    rcases a12 with g | ⟨g, g5⟩
    · exact h0 A' (xm_up B' 50 14 (B' 50 14 + 1)) i' a1 (gA_tr gA1 (gA_f a5)) (gB_50 (gB_tr gB1 (gB_f a6)) (by omega)) (by rw [xu_k (by omega)]; exact g) (by rw [xu_k (by omega)]; exact a13) (ig _ (fun N R hR => rst N R (tail_3 (by rw [xu_k (by omega)]; exact g) hR)))
    · exact h0 A' (xm_up (xm_up (xm_up B' 50 14 (B' 50 14 + 1)) 50 10 (A' 6 i')) 50 11 1) i' a1 (gA_tr gA1 (gA_f a5)) (gB_50 (gB_50 (gB_50 (gB_tr gB1 (gB_f a6)) (by omega)) (by omega)) (by omega)) xu_s (by rw [xu_k (by omega), xu_s]) (ig _ (fun N R hR => rst N R (tail_2 a1 hT' n1 (by rw [xu_k (by omega)]; exact g) g5 hR)))
/-- one item, both -/
theorem sp126_11 {e : Nat} {i : Int} {A B : xm_Mem} (hit : x_it 12 13 11 t n m E i A B) (h10 : B 50 10 = A 6 i) (hi : i < m)
    (h1 : ∀ (A' B' : xm_Mem) (i' : Int), x_it 12 13 11 t n m E i' A' B' → i < i' → x_gA 12 13 11 A A' → x_gB B B' → y_igo e B B' → Q [.inl 1] A')
    (h0 : ∀ (A' B' : xm_Mem) (i' : Int), x_cur A' t n m E i' → x_gA 12 13 11 A A' → x_gB B B' → B' 50 11 = 1 → B' 50 10 = A' 6 i' → y_igo e B B' → Q [.inl 0] A') : xm_call true (d + 5) 126 [.inr (.inr 8), .inr (.inr 4), .inr (.inr 11)] A Q := by
  obtain ⟨hc, hT, hf, hx, hp, htd⟩ := id hit
  obtain ⟨b, hb1, hb2, hw, h95, h4⟩ := id htd
  have src := hp.2.2.2.2.2.1
  have n9 : ∀ k : Nat, k < 5 → (1 ≤ A 9 k ↔ b.testBit k = true) := fun k hk => by
    rw [hw k hk]
    cases q : b.testBit k with
    | true => rw [if_pos rfl]; simp
    | false => rw [if_neg Bool.false_ne_true]; simp
  refine cl126_11 hc hi (fun k hk => ?_) (fun g => ?_) (fun k hk hk1 hs lt4 lt5 => ?_)
  · by_cases k5 : k < 5
    · rw [hw k k5]; split <;> omega
    · rw [show ((k : Nat) : Int) = 5 by omega]; omega
  · refine h0 A (xm_up (xm_up B 50 10 (A 6 i)) 50 11 1) i hc gA_id (gB_50 (gB_50 gB_id (by omega)) (by omega)) xu_s (by rw [xu_k (by omega), xu_s]) (igo_bad hc hT h10 hf hi ⟨hb1, hb2⟩ (by omega) ?_)
    rcases g with g | ⟨g1, g2⟩
    · exact Or.inl g
    · refine Or.inr ⟨g1, fun k hk hs => ?_⟩
      rcases g2 k hk hs with z | z
      · exact Or.inl ⟨z.1, (n9 k z.1).mp z.2⟩
      · exact Or.inr ⟨z.1, by omega⟩
  · have hk' : k = 0 ∨ k = 1 ∨ k = 2 ∨ k = 3 ∨ k = 4 ∨ k = 5 := by omega
    rcases hk' with rfl | rfl | rfl | rfl | rfl | rfl
    · exact it_11_0 hit h10 hi hk1 hs ⟨hb1, hb2⟩ hw h4 (lt4 (by omega)) h1 h0
    · exact it_11_1 hit h10 hi hk1 hs ⟨hb1, hb2⟩ hw h4 (lt4 (by omega)) h1 h0
    · exact it_11_2 hit h10 hi hk1 hs ⟨hb1, hb2⟩ hw h4 (lt4 (by omega)) h1 h0
    · exact it_11_3 hit h10 hi hk1 hs ⟨hb1, hb2⟩ hw h4 (lt4 (by omega)) h1 h0
    · exact it_11_4 hit h10 hi hk1 hs ⟨hb1, hb2⟩ hw h4 (lt4 (by omega)) h1 h0
    · exact it_11_5 hit h10 hi hk1 hs ⟨hb1, hb2⟩ hw h4 (lt5 rfl) h1 h0
theorem it_14_3 {e : Nat} {i : Int} {A B : xm_Mem} {b : Nat} (hit : x_it 15 16 14 t n m E i A B) (h10 : B 50 10 = A 6 i) (hi : i < m) (hk1 : A 5 i = 1) (hs : x_say t n (A 6 i) (E i) (xm_sby.getD 3 [])) (hb : B 50 13 = b ∧ b < 32) (hw : ∀ w : Nat, w < 5 → A 9 w = if b.testBit w = true then 1 else 0) (h4 : b.testBit 4 = false → A 16 4 = 0) (hlt : A 9 3 < 1)
    (h1 : ∀ (A' B' : xm_Mem) (i' : Int), x_it 15 16 14 t n m E i' A' B' → i < i' → x_gA 15 16 14 A A' → x_gB B B' → y_igo e B B' → Q [.inl 1] A')
    (h0 : ∀ (A' B' : xm_Mem) (i' : Int), x_cur A' t n m E i' → x_gA 15 16 14 A A' → x_gB B B' → B' 50 11 = 1 → B' 50 10 = A' 6 i' → y_igo e B B' → Q [.inl 0] A') : x_rest_14 (d + 4) 3 (xm_up (xm_up A 9 (3 : Nat) (A 9 (3 : Nat) + 1)) 4 4 (i + 1)) Q := by
  obtain ⟨hc, hT, hf, hx, hp, htd⟩ := hit
  have w0 : A 9 (3 : Nat) = if b.testBit 3 = true then 1 else 0 := hw 3 (by omega)
  have bit : b.testBit 3 = false := by
    cases q : b.testBit 3 with
    | false => rfl
    | true =>
      rw [q, if_pos rfl] at w0
      have : A 9 (3 : Nat) < 1 := hlt
      omega
  rw [bit, if_neg Bool.false_ne_true] at w0
  have td5 : A 9 5 = B 50 14 := by obtain ⟨_, _, _, _, z, _⟩ := htd; exact z
  have src := hp.2.2.2.2.2.1
  have hc9 : x_cur (xm_up A 9 (3 : Nat) (A 9 (3 : Nat) + 1)) t n m E i := cur_keep hc (by rw [xu_c (by omega)]) (by rw [xu_c (by omega)]) (by rw [xu_c (by omega)]) (by rw [xu_c (by omega)])
  have hc1 := cur_next hc9 hi
  have gA1 : x_gA 15 16 14 A (xm_up (xm_up A 9 (3 : Nat) (A 9 (3 : Nat) + 1)) 4 4 (i + 1)) := gA_4 (gA_q gA_id (by omega) (by omega))
  have hx1 := nx_next hc hi
  have i0 := hc.2.2.2.1
  have ig := fun B' hh => igo_of (e := e) (k := 3) (b := b) (B' := B') hc hT h10 hf hi hk1 (by omega) hs hb (fun _ => bit) (fun q => by omega) hh
  have A16 : xm_up (xm_up A 9 (3 : Nat) (A 9 (3 : Nat) + 1)) 4 4 (i + 1) 6 = A 6 := by rw [xu_c (by omega), xu_c (by omega)]
  have A15 : xm_up (xm_up A 9 (3 : Nat) (A 9 (3 : Nat) + 1)) 4 4 (i + 1) 5 = A 5 := by rw [xu_c (by omega), xu_c (by omega)]
  have A17 : xm_up (xm_up A 9 (3 : Nat) (A 9 (3 : Nat) + 1)) 4 4 (i + 1) 7 = A 7 := by rw [xu_c (by omega), xu_c (by omega)]
  have A19 : ∀ j : Int, j ≠ (3 : Nat) → xm_up (xm_up A 9 (3 : Nat) (A 9 (3 : Nat) + 1)) 4 4 (i + 1) 9 j = A 9 j := fun j q => by rw [xu_c (by omega), xu_k q]
  have A19k : xm_up (xm_up A 9 (3 : Nat) (A 9 (3 : Nat) + 1)) 4 4 (i + 1) 9 (3 : Nat) = 1 := by rw [xu_c (by omega), xu_s, w0]; rfl
  have A1o : ∀ q : Nat, q ≠ 4 → q ≠ 9 → xm_up (xm_up A 9 (3 : Nat) (A 9 (3 : Nat) + 1)) 4 4 (i + 1) q = A q := fun q a z => by rw [xu_c a, xu_c z]
  generalize xm_up (xm_up A 9 (3 : Nat) (A 9 (3 : Nat) + 1)) 4 4 (i + 1) = A1 at *
  have hT1 : y_txt (xm_up (xm_up B 50 10 (E i)) 50 13 ((y_T2 b 3 : Nat) : Int)) t n := ytx_up (ytx_up hT ⟨by omega, fun _ => by omega⟩) ⟨by omega, fun _ => by omega⟩
  have gB1 : x_gB B (xm_up (xm_up B 50 10 (E i)) 50 13 ((y_T2 b 3 : Nat) : Int)) := gB_50 (gB_50 gB_id (by omega)) (by omega)
  have B10 : xm_up (xm_up B 50 10 (E i)) 50 13 ((y_T2 b 3 : Nat) : Int) 50 10 = E i := by rw [xu_k (by omega), xu_s]
  have B11 : xm_up (xm_up B 50 10 (E i)) 50 13 ((y_T2 b 3 : Nat) : Int) 50 11 = 0 := by rw [xu_k (by omega), xu_k (by omega)]; exact hf
  have B13 : xm_up (xm_up B 50 10 (E i)) 50 13 ((y_T2 b 3 : Nat) : Int) 50 13 = ((y_T2 b 3 : Nat) : Int) := by rw [xu_s]
  have B14 : xm_up (xm_up B 50 10 (E i)) 50 13 ((y_T2 b 3 : Nat) : Int) 50 14 = B 50 14 := by rw [xu_k (by omega), xu_k (by omega)]
  have B1o : ∀ q : Nat, q ≠ 50 → xm_up (xm_up B 50 10 (E i)) 50 13 ((y_T2 b 3 : Nat) : Int) q = B q := fun q a => by rw [xu_c a, xu_c a]
  generalize xm_up (xm_up B 50 10 (E i)) 50 13 ((y_T2 b 3 : Nat) : Int) = B1 at *
  have nx1 : y_nx t n (B1 50 10) (A1 6 (i + 1)) := by rw [B10, A16]; exact hx1
  show xm_call true (d + 4) 127 [.inr (.inr 4), .inr (.inr 14), .inl ((3 : Nat) : Int)] A1 _
  refine en127r4r14 (rg127r4r14_0 ⟨by omega, ⟨fun q => by omega, fun q => by omega, fun q => by omega, fun _ => ?_, trivial⟩, fun q => by omega⟩)
  refine sp128 hc1 ⟨by omega, by omega⟩ (fun isn i2 => xq_ki ?_) (fun nisn => xq_ki ?_)
  · obtain ⟨y1, y2, y3⟩ := id isn
    refine en165r14 (rg165r14_0 ⟨by omega, fun _ => ⟨Or.inr rfl, xq_ki ⟨by omega, fun q => by omega, fun _ => ?_⟩⟩, fun q => by omega⟩)
    have hc2 : x_cur (xm_up (xm_up A1 4 4 (i + 1 + 1)) 14 3 (A1 7 (i + 1))) t n m E (i + 1 + 1) := cur_keep (cur_next hc1 i2) (by rw [xu_c (by omega)]) (by rw [xu_c (by omega)]) (by rw [xu_c (by omega)]) (by rw [xu_c (by omega)])
    have gA2 : x_gA 15 16 14 A (xm_up (xm_up A1 4 4 (i + 1 + 1)) 14 3 (A1 7 (i + 1))) := gA_q (gA_4 gA1) (by omega) (by omega)
    have hx2 := nx_next hc1 i2
    have A26 : xm_up (xm_up A1 4 4 (i + 1 + 1)) 14 3 (A1 7 (i + 1)) 6 = A1 6 := by rw [xu_c (by omega), xu_c (by omega)]
    have A2o : ∀ q : Nat, q ≠ 4 → q ≠ 14 → xm_up (xm_up A1 4 4 (i + 1 + 1)) 14 3 (A1 7 (i + 1)) q = A1 q := fun q a z => by rw [xu_c z, xu_c a]
    have A2c : ∀ j : Int, j ≠ 3 → xm_up (xm_up A1 4 4 (i + 1 + 1)) 14 3 (A1 7 (i + 1)) 14 j = A 14 j := fun j a => by rw [xu_k a, xu_c (by omega), A1o 14 (by omega) (by omega)]
    have A2k : xm_up (xm_up A1 4 4 (i + 1 + 1)) 14 3 (A1 7 (i + 1)) 14 3 = A1 7 (i + 1) := xu_s
    generalize xm_up (xm_up A1 4 4 (i + 1 + 1)) 14 3 (A1 7 (i + 1)) = A2 at *
    have hT2 : y_txt (xm_up (xm_up B1 50 10 (E (i + 1))) 54 3 (A1 7 (i + 1))) t n := ytx_up (ytx_up hT1 ⟨by omega, fun _ => by omega⟩) ⟨by omega, fun _ => by omega⟩
    have x2 : xm_up (xm_up B1 50 10 (E (i + 1))) 54 3 (A1 7 (i + 1)) 50 10 = E (i + 1) := by rw [xu_c (by omega), xu_s]
    have f2 : xm_up (xm_up B1 50 10 (E (i + 1))) 54 3 (A1 7 (i + 1)) 50 11 = 0 := by rw [xu_c (by omega), xu_k (by omega)]; exact B11
    have t2 : xm_up (xm_up B1 50 10 (E (i + 1))) 54 3 (A1 7 (i + 1)) 50 13 = B1 50 13 := by rw [xu_c (by omega), xu_k (by omega)]
    have s2 : xm_up (xm_up B1 50 10 (E (i + 1))) 54 3 (A1 7 (i + 1)) 50 14 = B1 50 14 := by rw [xu_c (by omega), xu_k (by omega)]
    have gB2 : x_gB B (xm_up (xm_up B1 50 10 (E (i + 1))) 54 3 (A1 7 (i + 1))) := gB_54 (gB_50 gB1 (by omega))
    have B2o : ∀ q : Nat, q ≠ 50 → q ≠ 54 → xm_up (xm_up B1 50 10 (E (i + 1))) 54 3 (A1 7 (i + 1)) q = B q := fun q a z => by rw [xu_c z, xu_c a]; exact B1o q a
    have B254 : ∀ j : Int, xm_up (xm_up B1 50 10 (E (i + 1))) 54 3 (A1 7 (i + 1)) 54 j = if j = 3 then A1 7 (i + 1) else B 54 j := fun j => by
      by_cases q : j = 3
      · rw [if_pos q, q, xu_s]
      · rw [if_neg q, xu_k q, xu_c (by omega), B1o 54 (by omega)]
    have num1 : ∀ (N : xm_Mem) (R : xm_K), xm_call true (e + 6) 199 [.inr (.inr 50), .inl 1, .inl 16] (x_mx N (xm_up (xm_up B1 50 10 (E (i + 1))) 54 3 (A1 7 (i + 1)))) (fun v28 M29 => xm_ki (fun r30 => (0 ≤ (4 : Int) ∧ (4 : Int) < 5) ∧ wp208r50_223 (xm_call true (e + 6)) R ((3 : Nat) : Int) (xm_up M29 54 4 r30)) v28) → y_rest e 3 (x_mx N B1) R := fun N R hR => by
      show xm_call true (e + 6) 199 [.inr (.inr 50), .inl 0, .inl 20] (x_mx N B1) _
      refine nstep (A := A1) (j := i + 1) hc1 (mtx hT1) (by rw [mx_r (by omega)]; exact nx1) (by rw [mx_r (by omega)]; exact B11) (by omega) (fun _ _ => xq_ki ⟨by omega, ?_⟩) (fun q => absurd isn q)
      rw [mx_up (by omega), mx_up (by omega)]
      exact hR
    generalize xm_up (xm_up B1 50 10 (E (i + 1))) 54 3 (A1 7 (i + 1)) = B2 at *
    have nx2 : y_nx t n (B2 50 10) (A2 6 (i + 1 + 1)) := by rw [x2, A26]; exact hx2
    refine sp128 hc2 ⟨by omega, by omega⟩ (fun isn2 i3 => xq_ki ?_) (fun nisn => xq_ki ?_)
    · obtain ⟨z1, z2, z3⟩ := id isn2
      refine en166r14 (rg166r14_0 ⟨by omega, fun _ => ⟨Or.inr rfl, xq_ki ⟨by omega, fun q => by omega, fun _ => ⟨Or.inr rfl, xq_ki (xq_n1 ?_)⟩⟩⟩, fun q => by omega⟩)
      have hc3 : x_cur (xm_up (xm_up A2 4 4 (i + 1 + 1 + 1)) 14 4 (A2 7 (i + 1 + 1))) t n m E (i + 1 + 1 + 1) := cur_keep (cur_next hc2 i3) (by rw [xu_c (by omega)]) (by rw [xu_c (by omega)]) (by rw [xu_c (by omega)]) (by rw [xu_c (by omega)])
      have gA3 : x_gA 15 16 14 A (xm_up (xm_up A2 4 4 (i + 1 + 1 + 1)) 14 4 (A2 7 (i + 1 + 1))) := gA_q (gA_4 gA2) (by omega) (by omega)
      have hx3 := nx_next hc2 i3
      have A36 : xm_up (xm_up A2 4 4 (i + 1 + 1 + 1)) 14 4 (A2 7 (i + 1 + 1)) 6 = A2 6 := by rw [xu_c (by omega), xu_c (by omega)]
      have A3o : ∀ q : Nat, q ≠ 4 → q ≠ 14 → xm_up (xm_up A2 4 4 (i + 1 + 1 + 1)) 14 4 (A2 7 (i + 1 + 1)) q = A2 q := fun q a z => by rw [xu_c z, xu_c a]
      have A3c : ∀ j : Int, j ≠ 4 → xm_up (xm_up A2 4 4 (i + 1 + 1 + 1)) 14 4 (A2 7 (i + 1 + 1)) 14 j = A2 14 j := fun j a => by rw [xu_k a, xu_c (by omega)]
      have A3k : xm_up (xm_up A2 4 4 (i + 1 + 1 + 1)) 14 4 (A2 7 (i + 1 + 1)) 14 4 = A2 7 (i + 1 + 1) := xu_s
      generalize xm_up (xm_up A2 4 4 (i + 1 + 1 + 1)) 14 4 (A2 7 (i + 1 + 1)) = A3 at *
      have hT3 : y_txt (xm_up (xm_up B2 50 10 (E (i + 1 + 1))) 54 4 (A2 7 (i + 1 + 1))) t n := ytx_up (ytx_up hT2 ⟨by omega, fun _ => by omega⟩) ⟨by omega, fun _ => by omega⟩
      have x3 : xm_up (xm_up B2 50 10 (E (i + 1 + 1))) 54 4 (A2 7 (i + 1 + 1)) 50 10 = E (i + 1 + 1) := by rw [xu_c (by omega), xu_s]
      have f3 : xm_up (xm_up B2 50 10 (E (i + 1 + 1))) 54 4 (A2 7 (i + 1 + 1)) 50 11 = 0 := by rw [xu_c (by omega), xu_k (by omega)]; exact f2
      have nx3 : y_nx t n (xm_up (xm_up B2 50 10 (E (i + 1 + 1))) 54 4 (A2 7 (i + 1 + 1)) 50 10) (A3 6 (i + 1 + 1 + 1)) := by rw [x3, A36]; exact hx3
      have num2 : ∀ (N : xm_Mem) (R : xm_K), wp208r50_223 (xm_call true (e + 6)) R ((3 : Nat) : Int) (x_mx N (xm_up (xm_up B2 50 10 (E (i + 1 + 1))) 54 4 (A2 7 (i + 1 + 1)))) → y_rest e 3 (x_mx N B1) R := fun N R hR => by
        refine num1 N R (nstep (A := A2) (j := i + 1 + 1) hc2 (mtx hT2) (by rw [mx_r (by omega)]; exact nx2) (by rw [mx_r (by omega)]; exact f2) (by omega) (fun _ _ => xq_ki ⟨by omega, ?_⟩) (fun q => absurd isn2 q))
        rw [mx_up (by omega), mx_up (by omega)]
        exact hR
      refine sp129 hc3 (fun g5 i4 => xq_ki ⟨by omega, fun q => by omega, fun _ => ⟨Or.inr rfl, ?_⟩⟩) (fun g5 => xq_ki ⟨by omega, fun _ => ⟨Or.inl rfl, ?_⟩, fun q => absurd rfl q⟩)
      · refine h1 _ (xm_up (xm_up (xm_up B2 50 10 (E (i + 1 + 1))) 54 4 (A2 7 (i + 1 + 1))) 50 10 (E (i + 1 + 1 + 1))) (i + 1 + 1 + 1 + 1) ⟨cur_next hc3 i4, ytx_up hT3 ⟨by omega, fun _ => by omega⟩, by rw [xu_k (by omega)]; exact f3, ?_, ?_, ?_⟩ (by omega) (gA_4 gA3) (gB_50 (gB_54 (gB_50 gB2 (by omega))) (by omega)) (ig _ (fun N R hR => num2 N R (tail_1 hc3 hT3 nx3 f3 g5 hR)))
        · rw [xu_s, xu_c (by omega)]
          exact nx_next hc3 i4
        · rw [xu_c (c' := 14) (by omega), xu_c (c' := 15) (by omega), xu_c (c' := 16) (by omega), xu_c (c' := 54) (by omega), xu_c (c' := 55) (by omega), xu_c (c' := 56) (by omega), xu_k (k' := 14) (by omega), xu_c (c := 54) (c' := 50) (by omega), xu_k (k := 10) (k' := 14) (by omega), xu_c (c := 54) (c' := 55) (by omega), xu_c (c := 50) (c' := 55) (by omega), xu_c (c := 54) (c' := 56) (by omega), xu_c (c := 50) (c' := 56) (by omega), s2, B14, B2o 55 (by omega) (by omega), B2o 56 (by omega) (by omega), A3o 15 (by omega) (by omega), A3o 16 (by omega) (by omega), A2o 15 (by omega) (by omega), A2o 16 (by omega) (by omega), A1o 15 (by omega) (by omega), A1o 16 (by omega) (by omega)]
          have p3 : x_pt (A2 14) (A 15) (A 16) (B2 54) (B 50 14) (B 55) (B 56) := pt_set (k := 3) (v := A1 7 (i + 1)) hp (by omega) (fun j q => ⟨A2c j q, by rw [B254, if_neg q]⟩) ⟨A2k, by rw [B254, if_pos rfl]⟩ (by omega)
          refine pt_set (k := 4) (v := A2 7 (i + 1 + 1)) p3 (by omega) (fun j q => ⟨A3c j q, ?_⟩) ⟨A3k, xu_s⟩ (by omega)
          rw [xu_k q, xu_c (by omega)]
        · rw [xu_c (c' := 9) (by omega), xu_c (c' := 16) (by omega), A3o 9 (by omega) (by omega), A3o 16 (by omega) (by omega), A2o 9 (by omega) (by omega), A2o 16 (by omega) (by omega), A1o 16 (by omega) (by omega), xu_k (k' := 13) (by omega), xu_k (k' := 14) (by omega), xu_c (c := 54) (c' := 50) (by omega), xu_k (k := 10) (k' := 13) (by omega), xu_k (k := 10) (k' := 14) (by omega), t2, s2, B13, B14]
          refine told_2 (a9 := A 9) (src := 0) (le4 := 0) hw hb.2 (k := 3) (by omega) ?_ (fun w _ q => A19 _ (by omega)) (fun _ => A19k) rfl (fun q => h4 ?_)
          · rw [A19 5 (by omega)]; exact td5
          · rw [tb_T2 (by omega)] at q
            exact (Bool.or_eq_false_iff.mp q).1
      · refine h0 A3 (xm_up (xm_up (xm_up (xm_up B2 50 10 (E (i + 1 + 1))) 54 4 (A2 7 (i + 1 + 1))) 50 10 (A3 6 (i + 1 + 1 + 1))) 50 11 1) (i + 1 + 1 + 1) hc3 gA3 (gB_50 (gB_50 (gB_54 (gB_50 gB2 (by omega))) (by omega)) (by omega)) xu_s (by rw [xu_k (by omega), xu_s]) (ig _ (fun N R hR => num2 N R (tail_2 hc3 hT3 nx3 f3 g5 hR)))
    · refine en166r14 (rg166r14_0 ⟨by omega, fun q => by omega, fun _ => ⟨Or.inl rfl, xq_ki ⟨by omega, fun _ => ⟨Or.inl rfl, xq_ki (xq_b3 ⟨Or.inl rfl, ?_⟩)⟩, fun q => absurd rfl q⟩⟩⟩)
      refine h0 A2 (xm_up (xm_up (xm_up B2 50 10 (A2 6 (i + 1 + 1))) 50 11 1) 54 4 1) (i + 1 + 1) hc2 gA2 (gB_54 (gB_50 (gB_50 gB2 (by omega)) (by omega))) (by rw [xu_c (by omega), xu_s]) (by rw [xu_c (by omega), xu_k (by omega), xu_s]) (ig _ (fun N R hR => num1 N R ?_))
      refine nstep (A := A2) (j := i + 1 + 1) hc2 (mtx hT2) (by rw [mx_r (by omega)]; exact nx2) (by rw [mx_r (by omega)]; exact f2) (by omega) (fun q _ => absurd q nisn) (fun _ => xq_ki ⟨by omega, ?_⟩)
      rw [mx_up (by omega), mx_up (by omega), mx_up (by omega)]
      exact tail_3 (by rw [xu_c (by omega), xu_s]) hR
  · refine en165r14 (rg165r14_0 ⟨by omega, fun q => by omega, fun _ => ⟨Or.inl rfl, xq_ki ⟨by omega, fun _ => ⟨Or.inl rfl, xq_ki (xq_b3 ⟨Or.inl rfl, ?_⟩)⟩, fun q => absurd rfl q⟩⟩⟩)
    refine h0 A1 (xm_up (xm_up (xm_up (xm_up B1 50 10 (A1 6 (i + 1))) 50 11 1) 54 3 0) 54 4 1) (i + 1) hc1 gA1 (gB_54 (gB_54 (gB_50 (gB_50 gB1 (by omega)) (by omega)))) (by rw [xu_c (by omega), xu_c (by omega), xu_s]) (by rw [xu_c (by omega), xu_c (by omega), xu_k (by omega), xu_s]) (ig _ (fun N R hR => ?_))
    show xm_call true (e + 6) 199 [.inr (.inr 50), .inl 0, .inl 20] (x_mx N B1) _
    refine nstep (A := A1) (j := i + 1) hc1 (mtx hT1) (by rw [mx_r (by omega)]; exact nx1) (by rw [mx_r (by omega)]; exact B11) (by omega) (fun q _ => absurd q nisn) (fun _ => xq_ki ⟨by omega, ?_⟩)
    rw [mx_up (by omega), mx_up (by omega), mx_up (by omega)]
    refine sp199f (by rw [mx_r (by omega), xu_c (by omega), xu_s]) (xq_ki ⟨by omega, ?_⟩)
    rw [mx_up (by omega)]
    exact tail_3 (by rw [xu_c (by omega), xu_c (by omega), xu_s]) hR
theorem it_14_4 {e : Nat} {i : Int} {A B : xm_Mem} {b : Nat} (hit : x_it 15 16 14 t n m E i A B) (h10 : B 50 10 = A 6 i) (hi : i < m) (hk1 : A 5 i = 1) (hs : x_say t n (A 6 i) (E i) (xm_sby.getD 4 [])) (hb : B 50 13 = b ∧ b < 32) (hw : ∀ w : Nat, w < 5 → A 9 w = if b.testBit w = true then 1 else 0) (h4 : b.testBit 4 = false → A 16 4 = 0) (hlt : A 9 4 < 1)
    (h1 : ∀ (A' B' : xm_Mem) (i' : Int), x_it 15 16 14 t n m E i' A' B' → i < i' → x_gA 15 16 14 A A' → x_gB B B' → y_igo e B B' → Q [.inl 1] A')
    (h0 : ∀ (A' B' : xm_Mem) (i' : Int), x_cur A' t n m E i' → x_gA 15 16 14 A A' → x_gB B B' → B' 50 11 = 1 → B' 50 10 = A' 6 i' → y_igo e B B' → Q [.inl 0] A') : x_rest_14 (d + 4) 4 (xm_up (xm_up A 9 (4 : Nat) (A 9 (4 : Nat) + 1)) 4 4 (i + 1)) Q := by
  obtain ⟨hc, hT, hf, hx, hp, htd⟩ := hit
  have w0 : A 9 (4 : Nat) = if b.testBit 4 = true then 1 else 0 := hw 4 (by omega)
  have bit : b.testBit 4 = false := by
    cases q : b.testBit 4 with
    | false => rfl
    | true =>
      rw [q, if_pos rfl] at w0
      have : A 9 (4 : Nat) < 1 := hlt
      omega
  rw [bit, if_neg Bool.false_ne_true] at w0
  have td5 : A 9 5 = B 50 14 := by obtain ⟨_, _, _, _, z, _⟩ := htd; exact z
  have src := hp.2.2.2.2.2.1
  have hc9 : x_cur (xm_up A 9 (4 : Nat) (A 9 (4 : Nat) + 1)) t n m E i := cur_keep hc (by rw [xu_c (by omega)]) (by rw [xu_c (by omega)]) (by rw [xu_c (by omega)]) (by rw [xu_c (by omega)])
  have hc1 := cur_next hc9 hi
  have gA1 : x_gA 15 16 14 A (xm_up (xm_up A 9 (4 : Nat) (A 9 (4 : Nat) + 1)) 4 4 (i + 1)) := gA_4 (gA_q gA_id (by omega) (by omega))
  have hx1 := nx_next hc hi
  have i0 := hc.2.2.2.1
  have ig := fun B' hh => igo_of (e := e) (k := 4) (b := b) (B' := B') hc hT h10 hf hi hk1 (by omega) hs hb (fun _ => bit) (fun q => by omega) hh
  have A16 : xm_up (xm_up A 9 (4 : Nat) (A 9 (4 : Nat) + 1)) 4 4 (i + 1) 6 = A 6 := by rw [xu_c (by omega), xu_c (by omega)]
  have A15 : xm_up (xm_up A 9 (4 : Nat) (A 9 (4 : Nat) + 1)) 4 4 (i + 1) 5 = A 5 := by rw [xu_c (by omega), xu_c (by omega)]
  have A17 : xm_up (xm_up A 9 (4 : Nat) (A 9 (4 : Nat) + 1)) 4 4 (i + 1) 7 = A 7 := by rw [xu_c (by omega), xu_c (by omega)]
  have A19 : ∀ j : Int, j ≠ (4 : Nat) → xm_up (xm_up A 9 (4 : Nat) (A 9 (4 : Nat) + 1)) 4 4 (i + 1) 9 j = A 9 j := fun j q => by rw [xu_c (by omega), xu_k q]
  have A19k : xm_up (xm_up A 9 (4 : Nat) (A 9 (4 : Nat) + 1)) 4 4 (i + 1) 9 (4 : Nat) = 1 := by rw [xu_c (by omega), xu_s, w0]; rfl
  have A1o : ∀ q : Nat, q ≠ 4 → q ≠ 9 → xm_up (xm_up A 9 (4 : Nat) (A 9 (4 : Nat) + 1)) 4 4 (i + 1) q = A q := fun q a z => by rw [xu_c a, xu_c z]
  generalize xm_up (xm_up A 9 (4 : Nat) (A 9 (4 : Nat) + 1)) 4 4 (i + 1) = A1 at *
  have hT1 : y_txt (xm_up (xm_up B 50 10 (E i)) 50 13 ((y_T2 b 4 : Nat) : Int)) t n := ytx_up (ytx_up hT ⟨by omega, fun _ => by omega⟩) ⟨by omega, fun _ => by omega⟩
  have gB1 : x_gB B (xm_up (xm_up B 50 10 (E i)) 50 13 ((y_T2 b 4 : Nat) : Int)) := gB_50 (gB_50 gB_id (by omega)) (by omega)
  have B10 : xm_up (xm_up B 50 10 (E i)) 50 13 ((y_T2 b 4 : Nat) : Int) 50 10 = E i := by rw [xu_k (by omega), xu_s]
  have B11 : xm_up (xm_up B 50 10 (E i)) 50 13 ((y_T2 b 4 : Nat) : Int) 50 11 = 0 := by rw [xu_k (by omega), xu_k (by omega)]; exact hf
  have B13 : xm_up (xm_up B 50 10 (E i)) 50 13 ((y_T2 b 4 : Nat) : Int) 50 13 = ((y_T2 b 4 : Nat) : Int) := by rw [xu_s]
  have B14 : xm_up (xm_up B 50 10 (E i)) 50 13 ((y_T2 b 4 : Nat) : Int) 50 14 = B 50 14 := by rw [xu_k (by omega), xu_k (by omega)]
  have B1o : ∀ q : Nat, q ≠ 50 → xm_up (xm_up B 50 10 (E i)) 50 13 ((y_T2 b 4 : Nat) : Int) q = B q := fun q a => by rw [xu_c a, xu_c a]
  generalize xm_up (xm_up B 50 10 (E i)) 50 13 ((y_T2 b 4 : Nat) : Int) = B1 at *
  have nx1 : y_nx t n (B1 50 10) (A1 6 (i + 1)) := by rw [B10, A16]; exact hx1
  show xm_call true (d + 4) 130 [.inr (.inr 8), .inr (.inr 4), .inr (.inr 14), .inl 4] A1 _
  have le0 := h4 bit
  refine sp130_14 (e := e) (row := 4) (by omega) hc1 hT1 B11 nx1 (fun A' B' i' a1 a2 a3 a4 a5 a6 a7 a8 _ a10 a11 a12 a13 a14 => xq_ki ⟨Or.inr rfl, ?_⟩) (fun A' B' i' a1 a5 a6 a13 a12 a14 => xq_ki ⟨Or.inl rfl, ?_⟩)
  · have cA := cur_at a1 (j := i' - 1) ⟨by omega, by omega⟩
    have nx' := nx_next cA (by omega)
    rw [show i' - 1 + 1 = i' by omega, xu_c (c' := 6) (by omega)] at nx'
    have hT' : y_txt B' t n := ⟨hT.1, by rw [a6.2.1 9 (by omega) (by omega) (by omega)]; exact hT1.2.1, by rw [a6.1 53 (by omega) (by omega) (by omega) (by omega) (by omega)]; exact hT1.2.2⟩
    have n1 : y_nx t n (B' 50 10) (xm_up A' 4 4 (i' - 1) 6 (i' - 1)) := by
      rw [xu_c (by omega), a13]
      have k' := cur_tok cA
      rw [xu_c (c' := 6) (by omega), xu_c (c' := 5) (by omega), xu_c (c' := 7) (by omega)] at k'
      exact nx_id hT.1 k'.1 (fun _ => (k'.2.2.2 (by omega)).2.1)
    refine h1 A' (xm_up B' 50 10 (E (i' - 1))) i' ⟨a1, ytx_up hT' ⟨by omega, fun _ => by omega⟩, by rw [xu_k (by omega)]; exact a12, by rw [xu_s]; exact nx', ?_, ?_⟩ (by omega) (gA_tr gA1 (gA_f a5)) (gB_50 (gB_tr gB1 (gB_f a6)) (by omega)) (ig _ (fun N R hR => ?_))
    · rw [xu_c (c' := 54) (by omega), xu_c (c' := 55) (by omega), xu_c (c' := 56) (by omega), xu_k (k' := 14) (by omega), a6.1 54 (by omega) (by omega) (by omega) (by omega) (by omega), a6.2.1 14 (by omega) (by omega) (by omega), B14, B1o 54 (by omega)]
      obtain ⟨p0, p1, p2, p3, p4, p5, p6, p7, p8, p9⟩ := hp
      have ac : ∀ k : Int, A' 14 k = A 14 k := fun k => by
        by_cases z : k = 5
        · rw [z, a8 rfl, A1o 14 (by omega) (by omega)]
        · rw [a5.2.2.2.1 k z, A1o 14 (by omega) (by omega)]
      have ale : ∀ s : Int, s ≠ 4 → A' 16 s = A 16 s := fun s z => by rw [a5.2.2.1 s z, A1o 16 (by omega) (by omega)]
      have b56 : ∀ s : Int, s ≠ 4 → B' 56 s = B 56 s := fun s z => by rw [a6.2.2.2 s z, B1o 56 (by omega)]
      refine ⟨by rw [ac]; exact p0, by rw [ac]; exact p1, by rw [ac]; exact p2, by rw [ac]; exact p3, by rw [ac]; exact p4, by rw [ac]; exact p5, fun s q1 q2 => ?_, fun s q1 q2 => ?_, ?_, fun s j q1 q2 q3 => ?_⟩
      · rw [ac] at q2
        rw [ale s (by omega), b56 s (by omega)]
        exact p6 s q1 q2
      · rw [ac] at q1
        rw [ale s (by omega)]
        exact p7 s q1 q2
      · rw [a10]; omega
      · rw [ac] at q1
        by_cases z : s = 4
        · subst z
          exact a11 j q2 q3
        · rw [ale s z] at q3
          have lb := p6 s (by omega) (by omega)
          have g := p9 s j q1 q2 q3
          rw [a5.2.1 _ (by omega), A1o 15 (by omega) (by omega), a6.2.2.1 _ (by omega), B1o 55 (by omega)]
          exact g
    · rw [xu_k (k' := 13) (by omega), xu_k (k' := 14) (by omega), a6.2.1 13 (by omega) (by omega) (by omega), a6.2.1 14 (by omega) (by omega) (by omega), B13, B14, a5.1 9 (by omega) (by omega) (by omega) (by omega) (by omega) (by omega)]
      refine told_2 (a9 := A 9) (src := 0) (le4 := 0) hw hb.2 (k := 4) (by omega) ?_ (fun w _ q => A19 _ (by omega)) (fun _ => A19k) rfl (fun q => ?_)
      · rw [A19 5 (by omega)]; exact td5
      · rw [tb_T2 (by omega)] at q
        have := (Bool.or_eq_false_iff.mp q).2
        exact absurd this (by decide)
    · show xm_call true (e + 6) 203 [.inr (.inr 50), .inl 4] (x_mx N B1) _
      exact a14 N _ (xq_kv (tail_1 cA hT' n1 a12 (by rw [xu_c (by omega)]; exact a4) hR))
  · have hT' : y_txt B' t n := ⟨hT.1, by rw [a6.2.1 9 (by omega) (by omega) (by omega)]; exact hT1.2.1, by rw [a6.1 53 (by omega) (by omega) (by omega) (by omega) (by omega)]; exact hT1.2.2⟩
    have k' := cur_tok a1
    have n1 : y_nx t n (B' 50 10) (A' 6 i') := by
      rw [a13]
      refine nx_id hT.1 k'.1 (fun q => ?_)
      have := a1.2.2.2.2
      by_cases z : i' = m
      · have := (k'.2.2.1 z).2; omega
      · exact (k'.2.2.2 (by omega)).2.1
    rcases a12 with g | ⟨g, g5⟩
    · exact h0 A' B' i' a1 (gA_tr gA1 (gA_f a5)) (gB_tr gB1 (gB_f a6)) g a13 (ig _ (fun N R hR => a14 N _ (xq_kv (tail_3 g hR))))
    · refine h0 A' (xm_up (xm_up B' 50 10 (A' 6 i')) 50 11 1) i' a1 (gA_tr gA1 (gA_f a5)) (gB_50 (gB_50 (gB_tr gB1 (gB_f a6)) (by omega)) (by omega)) xu_s (by rw [xu_k (by omega), xu_s]) (ig _ (fun N R hR => ?_))
      show xm_call true (e + 6) 203 [.inr (.inr 50), .inl 4] (x_mx N B1) _
      exact a14 N _ (xq_kv (tail_2 a1 hT' n1 g g5 hR))
theorem it_14_5 {e : Nat} {i : Int} {A B : xm_Mem} {b : Nat} (hit : x_it 15 16 14 t n m E i A B) (h10 : B 50 10 = A 6 i) (hi : i < m) (hk1 : A 5 i = 1) (hs : x_say t n (A 6 i) (E i) (xm_sby.getD 5 [])) (hb : B 50 13 = b ∧ b < 32) (hw : ∀ w : Nat, w < 5 → A 9 w = if b.testBit w = true then 1 else 0) (h4 : b.testBit 4 = false → A 16 4 = 0) (hlt : A 9 5 < 4)
    (h1 : ∀ (A' B' : xm_Mem) (i' : Int), x_it 15 16 14 t n m E i' A' B' → i < i' → x_gA 15 16 14 A A' → x_gB B B' → y_igo e B B' → Q [.inl 1] A')
    (h0 : ∀ (A' B' : xm_Mem) (i' : Int), x_cur A' t n m E i' → x_gA 15 16 14 A A' → x_gB B B' → B' 50 11 = 1 → B' 50 10 = A' 6 i' → y_igo e B B' → Q [.inl 0] A') : x_rest_14 (d + 4) 5 (xm_up (xm_up A 9 (5 : Nat) (A 9 (5 : Nat) + 1)) 4 4 (i + 1)) Q := by
  obtain ⟨hc, hT, hf, hx, hp, htd⟩ := hit
  have td5 : A 9 5 = B 50 14 := by obtain ⟨_, _, _, _, z, _⟩ := htd; exact z
  have src := hp.2.2.2.2.2.1
  have hc9 : x_cur (xm_up A 9 (5 : Nat) (A 9 (5 : Nat) + 1)) t n m E i := cur_keep hc (by rw [xu_c (by omega)]) (by rw [xu_c (by omega)]) (by rw [xu_c (by omega)]) (by rw [xu_c (by omega)])
  have hc1 := cur_next hc9 hi
  have gA1 : x_gA 15 16 14 A (xm_up (xm_up A 9 (5 : Nat) (A 9 (5 : Nat) + 1)) 4 4 (i + 1)) := gA_4 (gA_q gA_id (by omega) (by omega))
  have hx1 := nx_next hc hi
  have i0 := hc.2.2.2.1
  have ig := fun B' hh => igo_of (e := e) (k := 5) (b := b) (B' := B') hc hT h10 hf hi hk1 (by omega) hs hb (fun q => by omega) (fun _ => ⟨by omega, by omega⟩) hh
  have A16 : xm_up (xm_up A 9 (5 : Nat) (A 9 (5 : Nat) + 1)) 4 4 (i + 1) 6 = A 6 := by rw [xu_c (by omega), xu_c (by omega)]
  have A15 : xm_up (xm_up A 9 (5 : Nat) (A 9 (5 : Nat) + 1)) 4 4 (i + 1) 5 = A 5 := by rw [xu_c (by omega), xu_c (by omega)]
  have A17 : xm_up (xm_up A 9 (5 : Nat) (A 9 (5 : Nat) + 1)) 4 4 (i + 1) 7 = A 7 := by rw [xu_c (by omega), xu_c (by omega)]
  have A19 : ∀ j : Int, j ≠ (5 : Nat) → xm_up (xm_up A 9 (5 : Nat) (A 9 (5 : Nat) + 1)) 4 4 (i + 1) 9 j = A 9 j := fun j q => by rw [xu_c (by omega), xu_k q]
  have A19k : xm_up (xm_up A 9 (5 : Nat) (A 9 (5 : Nat) + 1)) 4 4 (i + 1) 9 (5 : Nat) = A 9 5 + 1 := by rw [xu_c (by omega), xu_s]; rfl
  have A1o : ∀ q : Nat, q ≠ 4 → q ≠ 9 → xm_up (xm_up A 9 (5 : Nat) (A 9 (5 : Nat) + 1)) 4 4 (i + 1) q = A q := fun q a z => by rw [xu_c a, xu_c z]
  generalize xm_up (xm_up A 9 (5 : Nat) (A 9 (5 : Nat) + 1)) 4 4 (i + 1) = A1 at *
  have hT1 : y_txt (xm_up (xm_up B 50 10 (E i)) 50 13 ((y_T2 b 5 : Nat) : Int)) t n := ytx_up (ytx_up hT ⟨by omega, fun _ => by omega⟩) ⟨by omega, fun _ => by omega⟩
  have gB1 : x_gB B (xm_up (xm_up B 50 10 (E i)) 50 13 ((y_T2 b 5 : Nat) : Int)) := gB_50 (gB_50 gB_id (by omega)) (by omega)
  have B10 : xm_up (xm_up B 50 10 (E i)) 50 13 ((y_T2 b 5 : Nat) : Int) 50 10 = E i := by rw [xu_k (by omega), xu_s]
  have B11 : xm_up (xm_up B 50 10 (E i)) 50 13 ((y_T2 b 5 : Nat) : Int) 50 11 = 0 := by rw [xu_k (by omega), xu_k (by omega)]; exact hf
  have B13 : xm_up (xm_up B 50 10 (E i)) 50 13 ((y_T2 b 5 : Nat) : Int) 50 13 = ((y_T2 b 5 : Nat) : Int) := by rw [xu_s]
  have B14 : xm_up (xm_up B 50 10 (E i)) 50 13 ((y_T2 b 5 : Nat) : Int) 50 14 = B 50 14 := by rw [xu_k (by omega), xu_k (by omega)]
  have B1o : ∀ q : Nat, q ≠ 50 → xm_up (xm_up B 50 10 (E i)) 50 13 ((y_T2 b 5 : Nat) : Int) q = B q := fun q a => by rw [xu_c a, xu_c a]
  generalize xm_up (xm_up B 50 10 (E i)) 50 13 ((y_T2 b 5 : Nat) : Int) = B1 at *
  have nx1 : y_nx t n (B1 50 10) (A1 6 (i + 1)) := by rw [B10, A16]; exact hx1
  show xm_call true (d + 4) 161 [.inr (.inr 14)] A1 _
  refine sp161r14 (xq_ki ?_)
  rw [A1o 14 (by omega) (by omega)]
  have e14 : B1 50 14 = A 14 5 := by rw [B14]; omega
  have rowlt : A 14 5 ≤ 3 := by omega
  refine sp130_14 (e := e) (row := A 14 5) (by omega) hc1 hT1 B11 nx1 (fun A' B' i' a1 a2 a3 a4 a5 a6 a7 _ a9 a10 a11 a12 a13 a14 => xq_ki ⟨Or.inr rfl, ?_⟩) (fun A' B' i' a1 a5 a6 a13 a12 a14 => xq_ki ⟨Or.inl rfl, ?_⟩)
  · have cA := cur_at a1 (j := i' - 1) ⟨by omega, by omega⟩
    have nx' := nx_next cA (by omega)
    rw [show i' - 1 + 1 = i' by omega, xu_c (c' := 6) (by omega)] at nx'
    have hT'0 : y_txt B' t n := ⟨hT.1, by rw [a6.2.1 9 (by omega) (by omega) (by omega)]; exact hT1.2.1, by rw [a6.1 53 (by omega) (by omega) (by omega) (by omega) (by omega)]; exact hT1.2.2⟩
    have hT' : y_txt (xm_up B' 50 14 (B' 50 14 + 1)) t n := ytx_up hT'0 ⟨by omega, fun _ => by omega⟩
    have n1 : y_nx t n (xm_up B' 50 14 (B' 50 14 + 1) 50 10) (xm_up A' 4 4 (i' - 1) 6 (i' - 1)) := by
      rw [xu_k (by omega), xu_c (by omega), a13]
      have k' := cur_tok cA
      rw [xu_c (c' := 6) (by omega), xu_c (c' := 5) (by omega), xu_c (c' := 7) (by omega)] at k'
      exact nx_id hT.1 k'.1 (fun _ => (k'.2.2.2 (by omega)).2.1)
    have b14 : B' 50 14 = A 14 5 := by rw [a6.2.1 14 (by omega) (by omega) (by omega)]; exact e14
    refine h1 A' (xm_up (xm_up B' 50 14 (B' 50 14 + 1)) 50 10 (E (i' - 1))) i' ⟨a1, ytx_up hT' ⟨by omega, fun _ => by omega⟩, by rw [xu_k (by omega), xu_k (by omega)]; exact a12, by rw [xu_s]; exact nx', ?_, ?_⟩ (by omega) (gA_tr gA1 (gA_f a5)) (gB_50 (gB_50 (gB_tr gB1 (gB_f a6)) (by omega)) (by omega)) (ig _ (fun N R hR => ?_))
    · rw [xu_c (c' := 54) (by omega), xu_c (c' := 55) (by omega), xu_c (c' := 56) (by omega), xu_k (k' := 14) (by omega), xu_c (c' := 54) (by omega), xu_c (c' := 55) (by omega), xu_c (c' := 56) (by omega), xu_s, a6.1 54 (by omega) (by omega) (by omega) (by omega) (by omega), b14, B1o 54 (by omega)]
      obtain ⟨p0, p1, p2, p3, p4, p5, p6, p7, p8, p9⟩ := hp
      have c5 := a9 (by omega)
      have ac : ∀ k : Int, k ≠ 5 → A' 14 k = A 14 k := fun k z => by rw [a5.2.2.2.1 k z, A1o 14 (by omega) (by omega)]
      have ale : ∀ s : Int, s ≠ A 14 5 → A' 16 s = A 16 s := fun s z => by rw [a5.2.2.1 s z, A1o 16 (by omega) (by omega)]
      have b56 : ∀ s : Int, s ≠ A 14 5 → B' 56 s = B 56 s := fun s z => by rw [a6.2.2.2 s z, B1o 56 (by omega)]
      refine ⟨by rw [ac 0 (by omega)]; exact p0, by rw [ac 1 (by omega)]; exact p1, by rw [ac 2 (by omega)]; exact p2, by rw [ac 3 (by omega)]; exact p3, by rw [ac 4 (by omega)]; exact p4, by omega, fun s q1 q2 => ?_, fun s q1 q2 => ?_, ?_, fun s j q1 q2 q3 => ?_⟩
      · rw [c5] at q2
        by_cases z : s = A 14 5
        · rw [z, a10]; omega
        · rw [ale s z, b56 s z]
          exact p6 s q1 (by omega)
      · rw [c5] at q1
        rw [ale s (by omega)]
        exact p7 s (by omega) q2
      · rw [ale 4 (by omega), b56 4 (by omega)]; exact p8
      · rw [c5] at q1
        by_cases z : s = A 14 5
        · subst z
          exact a11 j q2 q3
        · rw [ale s z] at q3
          have lb : A 16 s ≤ 400 := by
            rcases q1 with q | q
            · exact (p6 s q.1 (by omega)).2.2
            · rw [q]; exact p8.2.2
          have g := p9 s j (by omega) q2 q3
          rw [a5.2.1 _ (by omega), A1o 15 (by omega) (by omega), a6.2.2.1 _ (by omega), B1o 55 (by omega)]
          exact g
    · rw [xu_k (k' := 13) (by omega), xu_k (k' := 14) (by omega), xu_k (k := 14) (k' := 13) (by omega), xu_s, a6.2.1 13 (by omega) (by omega) (by omega), B13, a5.1 9 (by omega) (by omega) (by omega) (by omega) (by omega) (by omega), a5.2.2.1 4 (by omega), A1o 16 (by omega) (by omega)]
      refine told_2 (a9 := A 9) (src := 0) (le4 := 0) hw hb.2 (k := 5) (by omega) ?_ (fun w hw5 _ => A19 _ (by omega)) (fun q => by omega) rfl (fun q => h4 ?_)
      · have : A1 9 5 = A 9 5 + 1 := A19k
        omega
      · unfold y_T2 at q
        exact q
    · show xm_call true (e + 6) 203 [.inr (.inr 50), .inl ((x_mx N B1) 50 14)] (x_mx N B1) _
      rw [mx_r (by omega), e14]
      refine a14 N _ (xq_kv ?_)
      rw [mx_r (by omega), mx_up (by omega)]
      exact tail_1 cA hT' n1 (by rw [xu_k (by omega)]; exact a12) (by rw [xu_c (by omega)]; exact a4) hR
  · have hT'0 : y_txt B' t n := ⟨hT.1, by rw [a6.2.1 9 (by omega) (by omega) (by omega)]; exact hT1.2.1, by rw [a6.1 53 (by omega) (by omega) (by omega) (by omega) (by omega)]; exact hT1.2.2⟩
    have hT' : y_txt (xm_up B' 50 14 (B' 50 14 + 1)) t n := ytx_up hT'0 ⟨by omega, fun _ => by omega⟩
    have k' := cur_tok a1
    have n1 : y_nx t n (xm_up B' 50 14 (B' 50 14 + 1) 50 10) (A' 6 i') := by
      rw [xu_k (by omega), a13]
      refine nx_id hT.1 k'.1 (fun q => ?_)
      have := a1.2.2.2.2
      by_cases z : i' = m
      · have := (k'.2.2.1 z).2; omega
      · exact (k'.2.2.2 (by omega)).2.1
    have rst : ∀ (N : xm_Mem) (R : xm_K), wp208r50_223 (xm_call true (e + 6)) R ((5 : Nat) : Int) (x_mx N (xm_up B' 50 14 (B' 50 14 + 1))) → y_rest e 5 (x_mx N B1) R := fun N R hR => by
      show xm_call true (e + 6) 203 [.inr (.inr 50), .inl ((x_mx N B1) 50 14)] (x_mx N B1) _
      rw [mx_r (by omega), e14]
      refine a14 N _ (xq_kv ?_)
      rw [mx_r (by omega), mx_up (by omega)]
      exact hR
    rcases a12 with g | ⟨g, g5⟩
    · exact h0 A' (xm_up B' 50 14 (B' 50 14 + 1)) i' a1 (gA_tr gA1 (gA_f a5)) (gB_50 (gB_tr gB1 (gB_f a6)) (by omega)) (by rw [xu_k (by omega)]; exact g) (by rw [xu_k (by omega)]; exact a13) (ig _ (fun N R hR => rst N R (tail_3 (by rw [xu_k (by omega)]; exact g) hR)))
    · exact h0 A' (xm_up (xm_up (xm_up B' 50 14 (B' 50 14 + 1)) 50 10 (A' 6 i')) 50 11 1) i' a1 (gA_tr gA1 (gA_f a5)) (gB_50 (gB_50 (gB_50 (gB_tr gB1 (gB_f a6)) (by omega)) (by omega)) (by omega)) xu_s (by rw [xu_k (by omega), xu_s]) (ig _ (fun N R hR => rst N R (tail_2 a1 hT' n1 (by rw [xu_k (by omega)]; exact g) g5 hR)))
/-- one item, both -/
theorem sp126_14 {e : Nat} {i : Int} {A B : xm_Mem} (hit : x_it 15 16 14 t n m E i A B) (h10 : B 50 10 = A 6 i) (hi : i < m)
    (h1 : ∀ (A' B' : xm_Mem) (i' : Int), x_it 15 16 14 t n m E i' A' B' → i < i' → x_gA 15 16 14 A A' → x_gB B B' → y_igo e B B' → Q [.inl 1] A')
    (h0 : ∀ (A' B' : xm_Mem) (i' : Int), x_cur A' t n m E i' → x_gA 15 16 14 A A' → x_gB B B' → B' 50 11 = 1 → B' 50 10 = A' 6 i' → y_igo e B B' → Q [.inl 0] A') : xm_call true (d + 5) 126 [.inr (.inr 8), .inr (.inr 4), .inr (.inr 14)] A Q := by
  obtain ⟨hc, hT, hf, hx, hp, htd⟩ := id hit
  obtain ⟨b, hb1, hb2, hw, h95, h4⟩ := id htd
  have src := hp.2.2.2.2.2.1
  have n9 : ∀ k : Nat, k < 5 → (1 ≤ A 9 k ↔ b.testBit k = true) := fun k hk => by
    rw [hw k hk]
    cases q : b.testBit k with
    | true => rw [if_pos rfl]; simp
    | false => rw [if_neg Bool.false_ne_true]; simp
  refine cl126_14 hc hi (fun k hk => ?_) (fun g => ?_) (fun k hk hk1 hs lt4 lt5 => ?_)
  · by_cases k5 : k < 5
    · rw [hw k k5]; split <;> omega
    · rw [show ((k : Nat) : Int) = 5 by omega]; omega
  · refine h0 A (xm_up (xm_up B 50 10 (A 6 i)) 50 11 1) i hc gA_id (gB_50 (gB_50 gB_id (by omega)) (by omega)) xu_s (by rw [xu_k (by omega), xu_s]) (igo_bad hc hT h10 hf hi ⟨hb1, hb2⟩ (by omega) ?_)
    rcases g with g | ⟨g1, g2⟩
    · exact Or.inl g
    · refine Or.inr ⟨g1, fun k hk hs => ?_⟩
      rcases g2 k hk hs with z | z
      · exact Or.inl ⟨z.1, (n9 k z.1).mp z.2⟩
      · exact Or.inr ⟨z.1, by omega⟩
  · have hk' : k = 0 ∨ k = 1 ∨ k = 2 ∨ k = 3 ∨ k = 4 ∨ k = 5 := by omega
    rcases hk' with rfl | rfl | rfl | rfl | rfl | rfl
    · exact it_14_0 hit h10 hi hk1 hs ⟨hb1, hb2⟩ hw h4 (lt4 (by omega)) h1 h0
    · exact it_14_1 hit h10 hi hk1 hs ⟨hb1, hb2⟩ hw h4 (lt4 (by omega)) h1 h0
    · exact it_14_2 hit h10 hi hk1 hs ⟨hb1, hb2⟩ hw h4 (lt4 (by omega)) h1 h0
    · exact it_14_3 hit h10 hi hk1 hs ⟨hb1, hb2⟩ hw h4 (lt4 (by omega)) h1 h0
    · exact it_14_4 hit h10 hi hk1 hs ⟨hb1, hb2⟩ hw h4 (lt4 (by omega)) h1 h0
    · exact it_14_5 hit h10 hi hk1 hs ⟨hb1, hb2⟩ hw h4 (lt5 rfl) h1 h0
end I3
