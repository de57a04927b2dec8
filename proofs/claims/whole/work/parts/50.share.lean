/-! pairs: share, chance, expected -/
theorem ch_of {M : xm_Mem} (h : R_all M) : ∃ (n : Nat) (w : Nat → Nat → Int) (L : Nat → Int), x_cw M n w ∧ y_cw M n w ∧ x_Lc M L ∧ y_Lc M n L := by
  obtain ⟨-, -, -, -, -, -, -, -, s1, s2, s3, s4, s5, s6, s7⟩ := h
  refine ⟨(M 38 0).toNat, fun a b => M 40 ((a : Int) * 5 + b), fun t => M 39 t, ⟨by omega, by omega, fun a b ha hb => ?_⟩, ⟨by omega, by omega, fun a b ha hb => ?_⟩, fun t ht => ⟨rfl, s7 t (by omega) (by omega)⟩, fun t ht => ?_⟩
  · have g := s5 a b (by omega) (by omega) (by omega) (by omega)
    exact ⟨rfl, g.2⟩
  · have g := s5 a b (by omega) (by omega) (by omega) (by omega)
    exact ⟨g.1.symm, g.2⟩
  · have g := s4 t (by omega) (by omega)
    exact ⟨g.1.symm, g.2⟩
theorem R_but {M N P : xm_Mem} (h : R_all M) (hb : x_but [41, 42, 43, 44, 46, 47] M N) (h1 : ∀ c : Nat, c < 77 → c ≠ 50 → P c = N c) (h2 : ∀ k : Int, k ≠ 52 → P 50 k = N 50 k) : R_all P := by
  refine R_keep h (fun c hc => ?_) (fun k hk => ?_)
  · unfold x_live at hc
    rw [h1 c (by omega) (by omega)]
    exact hb c (by simp only [List.mem_cons, List.not_mem_nil, or_false]; omega)
  · rw [h2 k (by omega), hb 50 (by decide)]
theorem R_but1 {M N : xm_Mem} (h : R_all M) (hb : x_but [41, 42, 43, 44, 46, 47] M N) : R_all N := R_but h hb (fun _ _ _ => rfl) (fun _ _ => rfl)
theorem yL_but {n : Nat} {L : Nat → Int} {B : List Nat} {M N : xm_Mem} (h : y_Lc M n L) (hb : x_but B M N) (h1 : 75 ∉ B) : y_Lc N n L := by
  unfold y_Lc
  rw [hb 75 h1]
  exact h
theorem yL_yb {n : Nat} {L : Nat → Int} {M N : xm_Mem} (h : y_Lc M n L) (hb : y_but M N) : y_Lc N n L := by
  unfold y_Lc
  rw [hb.1 75 (by omega) (by omega) (by omega)]
  exact h
section SH
variable {d : Nat} {Q : xm_K} {M : xm_Mem} {n : Nat} {w : Nat → Nat → Int} {L : Nat → Int}
/-- what is known of the shares' sum -/
theorem sh_sum (hn : n ≤ 5) (hs : x_Snd n w) (hw : ∀ a b : Nat, a < n → b < n → 0 ≤ w a b) : x_s (x_sh n w) 5 = x_s (x_sh n w) n ∧ 0 < x_s (x_sh n w) n ∧ x_s (x_sh n w) n ≤ 103680 ∧ ∀ t : Nat, 0 ≤ x_sh n w t ∧ x_sh n w t ≤ 20736 := by
  obtain ⟨s1, s2, s3, s4, s5⟩ := sh_in hn hs hw
  have h1 := hs.1
  have b : ∀ t : Nat, 0 ≤ x_sh n w t ∧ x_sh n w t ≤ 20736 := fun t => by
    by_cases g : t < n
    · have := s4 t g; omega
    · rw [s5 t (by omega)]; omega
  have s := x_s_bd (f := x_sh n w) (c := 20736) n (fun t _ => b t)
  have p := x_s_pos (f := x_sh n w) (k := 0) n (by omega) (fun t _ => (b t).1) (by have := s4 0 (by omega); omega)
  refine ⟨x_s_ext 5 hn (fun k a _ => s5 k a), p, by omega, b⟩
theorem pr_share {x y : Int} (hx : xm_in x) (hy : xm_in y) : R_pair 34 261 [.inl x, .inl y] := by
  intro M hR
  obtain ⟨n, w, L, hc, hcy, hL, hLy⟩ := ch_of hR
  have c1 := hc.1
  have c2 := hc.2.1
  have d1 := hcy.1
  have hw : ∀ a b : Nat, a < n → b < n → 0 ≤ w a b := fun a b ha hb => (hc.2.2 a b ha hb).2.1
  refine en34r1 (rg34r1_0 ?_)
  by_cases g1 : 0 ≤ x ∧ x < M 38 0
  · refine sp45 hx (by omega) (fun _ => xq_ki (xq_n1 ?_)) (fun g => absurd g1 g)
    by_cases g2 : y = 0 ∨ y = 1
    · refine sp28 hy (fun _ => xq_ki (xq_b2 ?_)) (fun g => absurd g2 g)
      by_cases g3 : x_Snd n w
      · refine sp50 hc (fun _ => xq_ki (xq_b2 ?_)) (fun g => absurd g3 g)
        obtain ⟨q1, q2, q3, q4⟩ := sh_sum c2 g3 hw
        refine sp54 hc g3 (fun N hb hN => xq_kv ?_)
        have hcN := cw_but hc hb (by decide) (by decide)
        have hcyN := cwy_but hcy hb (by decide) (by decide)
        have ex : x = (x.toNat : Int) := by omega
        have nx := hN x.toNat (by omega)
        rw [← ex] at nx
        refine en59r38 (rg59r38_0 (sp45 hx (by rw [hcN.1]; omega) (fun _ => xq_ki (xq_n1 ⟨by omega, xq_kl ?_⟩)) (fun g => by rw [hcN.1] at g; omega)))
        rw [nx]
        refine sp60 (f := x_sh n w) hN (xq_kl ?_)
        have b := q4 x.toNat
        refine sp29 (by omega) (by omega) hy (xq_kl ?_)
        refine en261r50 (rg261r50_0 (sp253 hx (by rw [hcyN.1]; omega) (fun _ => xq_ki (xq_n1 ?_)) (fun g => by rw [hcyN.1] at g; omega)))
        refine sp193 hy (by omega) (by omega) (fun _ => xq_ki (xq_b2 ?_)) (fun g => by omega)
        refine sp257 hcyN (fun _ => xq_ki (xq_b2 ?_)) (fun g => absurd g3 g)
        refine sp260 hcyN g3 (fun N2 hb2 hN2 hS2 => xq_kv ⟨by omega, ?_⟩)
        have nx2 := hN2 x.toNat (by omega)
        rw [← ex] at nx2
        rw [nx2, hS2]
        refine sp245 (by omega) (by omega) hy (xq_kl ?_)
        refine xq_L (by rw [q1]) ?_
        exact R_but hR (but_mono hb (by decide)) (fun c a b => hb2.1 c b (by omega) (by omega)) hb2.2
      · refine sp50 hc (fun g => absurd g g3) (fun _ => xq_ki (xq_b4 ?_))
        refine en261r50 (rg261r50_0 (sp253 hx (by omega) (fun _ => xq_ki (xq_n1 ?_)) (fun g => by omega)))
        refine sp193 hy (by omega) (by omega) (fun _ => xq_ki (xq_b2 ?_)) (fun g => by omega)
        refine sp257 hcy (fun g => absurd g g3) (fun _ => xq_ki (xq_b4 (xq_L rfl hR)))
    · refine sp28 hy (fun g => absurd g g2) (fun _ => xq_ki (xq_b4 ?_))
      refine en261r50 (rg261r50_0 (sp253 hx (by omega) (fun _ => xq_ki (xq_n1 ?_)) (fun g => by omega)))
      exact sp193 hy (by omega) (by omega) (fun g => by omega) (fun _ => xq_ki (xq_b4 (xq_L rfl hR)))
  · refine sp45 hx (by omega) (fun g => absurd g g1) (fun _ => xq_ki (xq_b3 ?_))
    exact en261r50 (rg261r50_0 (sp253 hx (by omega) (fun g => by omega) (fun _ => xq_ki (xq_b3 (xq_L rfl hR)))))
theorem pr_chance {x y z : Int} (hx : xm_in x) (hy : xm_in y) (hz : xm_in z) : R_pair 35 264 [.inl x, .inl y, .inl z] := by
  intro M hR
  obtain ⟨n, w, L, hc, hcy, hL, hLy⟩ := ch_of hR
  have c1 := hc.1
  have c2 := hc.2.1
  have d1 := hcy.1
  have hw : ∀ a b : Nat, a < n → b < n → 0 ≤ w a b := fun a b ha hb => (hc.2.2 a b ha hb).2.1
  have hw2 : ∀ a b : Nat, a < n → b < n → 0 ≤ w a b ∧ w a b ≤ 12 := fun a b ha hb => (hc.2.2 a b ha hb).2
  refine en35r1 (rg35r1_0 ?_)
  by_cases g1 : x = 2 ∧ 0 ≤ y ∧ y < 4 ∨ x = 3 ∧ 0 ≤ y ∧ y < 8
  · refine sp20 hx hy (fun _ => xq_ki (xq_n1 ?_)) (fun g => absurd g1 g)
    by_cases g2 : z = 0 ∨ z = 1
    · refine sp28 hz (fun _ => xq_ki (xq_b2 ?_)) (fun g => absurd g2 g)
      by_cases g3 : x_Snd n w
      · refine sp50 hc (fun _ => xq_ki (xq_b2 ?_)) (fun g => absurd g3 g)
        obtain ⟨q1, q2, q3, q4⟩ := sh_sum c2 g3 hw
        refine sp54 hc g3 (fun N hb hN => xq_kv ?_)
        have hcN := cw_but hc hb (by decide) (by decide)
        have hLN := Lc_but hL hb (by decide)
        refine sp60 (f := x_sh n w) hN (xq_kl ?_)
        have refr : ∀ (N2 : xm_Mem) (R : xm_K), x_but [41, 42, 43, 44, 46, 47] M N2 → (∀ N3 : xm_Mem, y_cw N3 n w → y_Lc N3 n L → (∀ t : Nat, t < n → N3 77 t = x_sh n w t) → R_all N3 → xm_call true 10 263 [.inr (.inr 50), .inl x, .inl y] N3 (fun v12 M13 => xm_kl (fun r14 => xm_call true 10 245 [.inr (.inl r14), .inr (.inl (144 * (M13 50 52))), .inl z] M13 (fun v15 M16 => xm_kl (fun r17 => R [.inr (.inl r17)] M16) v15)) v12) ∨ N3 50 52 ≠ x_s (x_sh n w) n) → xm_call true 11 264 [.inr (.inr 50), .inl x, .inl y, .inl z] N2 R := by
          intro N2 R hb2 h
          have hcy2 := cwy_but hcy hb2 (by decide) (by decide)
          refine en264r50 (rg264r50_0 (sp237 hx hy (fun _ => xq_ki (xq_n1 ?_)) (fun g => absurd g1 g)))
          refine sp193 hz (by omega) (by omega) (fun _ => xq_ki (xq_b2 ?_)) (fun g => by omega)
          refine sp257 hcy2 (fun _ => xq_ki (xq_b2 ?_)) (fun g => absurd g3 g)
          refine sp260 hcy2 g3 (fun N3 hb3 hN3 hS3 => xq_kv ?_)
          rcases h N3 (cw_yb hcy2 hb3) (yL_yb (yL_but hLy hb2 (by decide)) hb3) hN3 (R_but hR hb2 (fun c a b => hb3.1 c b (by omega) (by omega)) hb3.2) with h | h
          · exact h
          · exact absurd hS3 h
        refine ⟨⟨by omega, by omega⟩, fun g => ⟨by omega, ?_⟩, fun g => ⟨by omega, ?_⟩⟩
        · have e : x = 3 := by omega
          subst e
          have X := X_bd (n := n) (w := w) (L := L) (S := x_sh n w) (b0 := y / 4 % 2) (b1 := y / 2 % 2) (b2 := y % 2) q4 hw2
          refine sp66_3 (S := x_sh n w) hcN hLN hN (by omega) (fun N2 hb2 => xq_kl (sp29 (by omega) (by omega) hz (xq_kl ?_)))
          have hb3 := but_tr (but_mono hb (L' := [41, 42, 43, 44, 46, 47]) (by decide)) (but_mono hb2 (by decide))
          refine refr N2 _ hb3 (fun N3 t1 t2 t3 t4 => ?_)
          by_cases e52 : N3 50 52 = x_s (x_sh n w) n
          · left
            refine sp263_3 (S := x_sh n w) t1 t2 t3 (by omega) (xq_kl ?_)
            rw [e52]
            refine sp245 (by omega) (by omega) hz (xq_kl (xq_L ?_ t4))
            rw [q1, Int.mul_comm]
          · exact Or.inr e52
        · subst g
          have X := X_bd (n := n) (w := w) (L := L) (S := x_sh n w) (b0 := y / 2 % 2) (b1 := y % 2) (b2 := 0) q4 hw2
          refine sp66_2 (S := x_sh n w) hcN hLN hN (by omega) (fun N2 hb2 => xq_kl (sp29 (by omega) (by omega) hz (xq_kl ?_)))
          have hb3 := but_tr (but_mono hb (L' := [41, 42, 43, 44, 46, 47]) (by decide)) (but_mono hb2 (by decide))
          refine refr N2 _ hb3 (fun N3 t1 t2 t3 t4 => ?_)
          by_cases e52 : N3 50 52 = x_s (x_sh n w) n
          · left
            refine sp263_2 (S := x_sh n w) t1 t2 t3 g3.2.1 (by omega) (xq_kl ?_)
            rw [e52]
            refine sp245 (by omega) (by omega) hz (xq_kl (xq_L ?_ t4))
            rw [q1, show (144 : Int) * x_s (x_sh n w) n = 12 * (x_s (x_sh n w) n * 12) by omega, part_mul (by omega) (by omega) (by omega)]
          · exact Or.inr e52
      · refine sp50 hc (fun g => absurd g g3) (fun _ => xq_ki (xq_b4 ?_))
        refine en264r50 (rg264r50_0 (sp237 hx hy (fun _ => xq_ki (xq_n1 ?_)) (fun g => absurd g1 g)))
        refine sp193 hz (by omega) (by omega) (fun _ => xq_ki (xq_b2 ?_)) (fun g => by omega)
        refine sp257 hcy (fun g => absurd g g3) (fun _ => xq_ki (xq_b4 (xq_L rfl hR)))
    · refine sp28 hz (fun g => absurd g g2) (fun _ => xq_ki (xq_b4 ?_))
      refine en264r50 (rg264r50_0 (sp237 hx hy (fun _ => xq_ki (xq_n1 ?_)) (fun g => absurd g1 g)))
      exact sp193 hz (by omega) (by omega) (fun g => by omega) (fun _ => xq_ki (xq_b4 (xq_L rfl hR)))
  · refine sp20 hx hy (fun g => absurd g g1) (fun _ => xq_ki (xq_b3 ?_))
    exact en264r50 (rg264r50_0 (sp237 hx hy (fun g => absurd g g1) (fun _ => xq_ki (xq_b3 (xq_L rfl hR)))))
theorem sp265 {S : Nat → Int} {wh q : Int} (hc : y_cw M n w) (hL : y_Lc M n L) (hS : ∀ t : Nat, t < n → M 77 t = S t) (hr : ∀ i : Nat, i < n → x_s (w i) n = 12) (hb : ∀ b0 b1 : Int, 0 ≤ x_X2 n w L S b0 b1 ∧ x_X2 n w L S b0 b1 ≤ 6220800) (hwh : 0 ≤ wh ∧ wh ≤ 2) (hq : q = 0 ∨ q = 1) (h0 : q = 0 → Q [.inr (.inl (x_num wh (x_X2 n w L S 0 1) (x_X2 n w L S 1 0) (x_X2 n w L S 1 1) (x_X3 n w L S 0 1 1 + x_X3 n w L S 1 1 0) (x_X3 n w L S 0 0 1 + x_X3 n w L S 1 0 0)))] M) (h1 : q = 1 → Q [.inr (.inl (x_den wh (x_X2 n w L S 0 0) (x_X2 n w L S 0 1) (x_X2 n w L S 1 0) (x_X2 n w L S 1 1) (x_X3 n w L S 0 1 1 + x_X3 n w L S 1 1 0)))] M) : xm_call true (d + 3) 265 [.inr (.inr 50), .inl wh, .inl q] M Q := by
  have a1 := hb 0 0
  have a2 := hb 0 1
  have a3 := hb 1 0
  have a4 := hb 1 1
  refine en265r50 (rg265r50_0 ?_)
  refine sp263_2 (S := S) hc hL hS hr (by omega) (xq_kl ?_)
  simp only [Int.reduceDiv, Int.reduceMod]
  refine ⟨⟨⟨by omega, by omega⟩, ⟨by omega, by omega⟩, by omega⟩, sp263_2 (S := S) hc hL hS hr (by omega) (xq_kl ?_)⟩
  simp only [Int.reduceDiv, Int.reduceMod]
  refine ⟨⟨⟨by omega, by omega⟩, ⟨by omega, by omega⟩, by omega⟩, sp263_2 (S := S) hc hL hS hr (by omega) (xq_kl ?_)⟩
  simp only [Int.reduceDiv, Int.reduceMod]
  refine ⟨⟨⟨by omega, by omega⟩, ⟨by omega, by omega⟩, by omega⟩, sp263_2 (S := S) hc hL hS hr (by omega) (xq_kl ?_)⟩
  simp only [Int.reduceDiv, Int.reduceMod]
  refine ⟨⟨⟨by omega, by omega⟩, ⟨by omega, by omega⟩, by omega⟩, ?_⟩
  rw [Int.mul_tdiv_cancel_left _ (by omega), Int.mul_tdiv_cancel_left _ (by omega), Int.mul_tdiv_cancel_left _ (by omega), Int.mul_tdiv_cancel_left _ (by omega)]
  refine sp263_3 (S := S) hc hL hS (by omega) (xq_kl (sp263_3 (S := S) hc hL hS (by omega) (xq_kl (sp263_3 (S := S) hc hL hS (by omega) (xq_kl (sp263_3 (S := S) hc hL hS (by omega) (xq_kl ?_)))))))
  simp only [Int.reduceDiv, Int.reduceMod]
  exact sp247 hwh hq (fun g => xq_kl (h0 g)) (fun g => xq_kl (h1 g))
theorem pr_expected {x y : Int} (hx : xm_in x) (hy : xm_in y) : R_pair 36 266 [.inl x, .inl y] := by
  intro M hR
  obtain ⟨n, w, L, hc, hcy, hL, hLy⟩ := ch_of hR
  have c1 := hc.1
  have c2 := hc.2.1
  have d1 := hcy.1
  have hw : ∀ a b : Nat, a < n → b < n → 0 ≤ w a b := fun a b ha hb => (hc.2.2 a b ha hb).2.1
  have hw2 : ∀ a b : Nat, a < n → b < n → 0 ≤ w a b ∧ w a b ≤ 12 := fun a b ha hb => (hc.2.2 a b ha hb).2
  have hL01 : ∀ t : Nat, t < n → L t = 0 ∨ L t = 1 := fun t ht => (hLy t ht).2
  by_cases g1 : 0 ≤ x ∧ x ≤ 2
  · have ref0 : ∀ (N2 : xm_Mem) (R : xm_K), (y = 0 ∨ y = 1 → xm_call true 10 257 [.inr (.inr 50)] N2 (fun v7 M8 => xm_ki (fun r9 => (xm_in r9) ∧ ((r9 ≠ 0 → xm_call true 10 260 [.inr (.inr 50)] M8 (fun v10 M11 => xm_kv (xm_call true 10 265 [.inr (.inr 50), .inl x, .inl 1] M11 (fun v12 M13 => xm_kl (fun r14 => (xm_inL r14 ∧ xm_inL 0) ∧ (xm_in (xm_lc r14 0)) ∧ (((xm_lc r14 0) ≠ 0 → xm_call true 10 265 [.inr (.inr 50), .inl x, .inl 0] M13 (fun v15 M16 => xm_kl (fun r17 => xm_call true 10 245 [.inr (.inl r17), .inr (.inl r14), .inl y] M16 (fun v18 M19 => xm_kl (fun r20 => R [.inr (.inl r20)] M19) v18)) v15)) ∧ ((xm_lc r14 0) = 0 → R [.inr (.inl (-4))] M13))) v12)) v10)) ∧ (r9 = 0 → R [.inr (.inl (-3))] M8))) v7)) → (¬ (y = 0 ∨ y = 1) → R [.inr (.inl (-1))] N2) → xm_call true 11 266 [.inr (.inr 50), .inl x, .inl y] N2 R := by
      intro N2 R h1 h0
      refine en266r50 (rg266r50_0 (sp193 hx (by omega) (by omega) (fun _ => xq_ki (xq_n1 ?_)) (fun g => by omega)))
      exact sp193 hy (by omega) (by omega) (fun g => xq_ki (xq_b2 (h1 (by omega)))) (fun g => xq_ki (xq_b4 (h0 (by omega))))
    refine en36r1 (rg36r1_0 ⟨hx, fun _ => by omega, fun _ => ⟨⟨by omega, by omega⟩, fun _ => by omega, fun _ => ?_⟩⟩)
    by_cases g2 : y = 0 ∨ y = 1
    · refine sp28 hy (fun _ => xq_ki (xq_b2 ?_)) (fun g => absurd g2 g)
      by_cases g3 : x_Snd n w
      · refine sp50 hc (fun _ => xq_ki (xq_b2 ?_)) (fun g => absurd g3 g)
        obtain ⟨q1, q2, q3, q4⟩ := sh_sum c2 g3 hw
        refine sp54 hc g3 (fun N hb hN => xq_kv ?_)
        have hcN := cw_but hc hb (by decide) (by decide)
        have hLN := Lc_but hL hb (by decide)
        refine sp68 (S := x_sh n w) hcN hLN hN (fun N2 hb2 h4 h8 => xq_kq ?_)
        have hb3 := but_tr (but_mono hb (L' := [41, 42, 43, 44, 46, 47]) (by decide)) (but_mono hb2 (by decide))
        have X := fun b0 b1 b2 => X_bd (n := n) (w := w) (L := L) (S := x_sh n w) (b0 := b0) (b1 := b1) (b2 := b2) q4 hw2
        have X2 := fun b0 b1 => (X b0 b1 0).1
        have p0 : N2 46 0 = 12 * x_X2 n w L (x_sh n w) 0 0 := h4 0 (by omega) (by omega)
        have p1 : N2 46 1 = 12 * x_X2 n w L (x_sh n w) 0 1 := h4 1 (by omega) (by omega)
        have p2 : N2 46 2 = 12 * x_X2 n w L (x_sh n w) 1 0 := h4 2 (by omega) (by omega)
        have p3 : N2 46 3 = 12 * x_X2 n w L (x_sh n w) 1 1 := h4 3 (by omega) (by omega)
        have t0 : N2 47 0 = x_X3 n w L (x_sh n w) 0 0 0 := h8 0 (by omega) (by omega)
        have t1 : N2 47 1 = x_X3 n w L (x_sh n w) 0 0 1 := h8 1 (by omega) (by omega)
        have t2 : N2 47 2 = x_X3 n w L (x_sh n w) 0 1 0 := h8 2 (by omega) (by omega)
        have t3 : N2 47 3 = x_X3 n w L (x_sh n w) 0 1 1 := h8 3 (by omega) (by omega)
        have t4 : N2 47 4 = x_X3 n w L (x_sh n w) 1 0 0 := h8 4 (by omega) (by omega)
        have t5 : N2 47 5 = x_X3 n w L (x_sh n w) 1 0 1 := h8 5 (by omega) (by omega)
        have t6 : N2 47 6 = x_X3 n w L (x_sh n w) 1 1 0 := h8 6 (by omega) (by omega)
        have t7 : N2 47 7 = x_X3 n w L (x_sh n w) 1 1 1 := h8 7 (by omega) (by omega)
        have s00 := X3_sum (S := x_sh n w) (b0 := 0) (b1 := 0) c2 g3.2.1 hL01
        have s01 := X3_sum (S := x_sh n w) (b0 := 0) (b1 := 1) c2 g3.2.1 hL01
        have s10 := X3_sum (S := x_sh n w) (b0 := 1) (b1 := 0) c2 g3.2.1 hL01
        have s11 := X3_sum (S := x_sh n w) (b0 := 1) (b1 := 1) c2 g3.2.1 hL01
        have b0 : x_bg (N2 46) (N2 47) 0 = 24 * x_X2 n w L (x_sh n w) 0 0 := by
          unfold x_bg; simp only [Int.reduceMul, Int.reduceAdd]; omega
        have b1 : x_bg (N2 46) (N2 47) 1 = 24 * x_X2 n w L (x_sh n w) 0 1 := by
          unfold x_bg; simp only [Int.reduceMul, Int.reduceAdd]; omega
        have b2 : x_bg (N2 46) (N2 47) 2 = 24 * x_X2 n w L (x_sh n w) 1 0 := by
          unfold x_bg; simp only [Int.reduceMul, Int.reduceAdd]; omega
        have b3 : x_bg (N2 46) (N2 47) 3 = 24 * x_X2 n w L (x_sh n w) 1 1 := by
          unfold x_bg; simp only [Int.reduceMul, Int.reduceAdd]; omega
        have X00 := X2 0 0
        have X01 := X2 0 1
        have X10 := X2 1 0
        have X11 := X2 1 1
        have Y1 := (X 0 0 1).2
        have Y3 := (X 0 1 1).2
        have Y4 := (X 1 0 0).2
        have Y6 := (X 1 1 0).2
        have D := x_den_bd (w := x) (n := x_X2 n w L (x_sh n w) 0 0) (r := x_X2 n w L (x_sh n w) 0 1) (f := x_X2 n w L (x_sh n w) 1 0) (b := x_X2 n w L (x_sh n w) 1 1) (u := x_X3 n w L (x_sh n w) 0 1 1 + x_X3 n w L (x_sh n w) 1 1 0) (by omega) (by omega) (by omega) (by omega) (by omega)
        have D24 := x_den_bd (w := x) (n := 24 * x_X2 n w L (x_sh n w) 0 0) (r := 24 * x_X2 n w L (x_sh n w) 0 1) (f := 24 * x_X2 n w L (x_sh n w) 1 0) (b := 24 * x_X2 n w L (x_sh n w) 1 1) (u := x_X3 n w L (x_sh n w) 0 1 1 + x_X3 n w L (x_sh n w) 1 1 0) (by omega) (by omega) (by omega) (by omega) (by omega)
        have U := x_num_bd (w := x) (r := x_X2 n w L (x_sh n w) 0 1) (f := x_X2 n w L (x_sh n w) 1 0) (b := x_X2 n w L (x_sh n w) 1 1) (u := x_X3 n w L (x_sh n w) 0 1 1 + x_X3 n w L (x_sh n w) 1 1 0) (v := x_X3 n w L (x_sh n w) 0 0 1 + x_X3 n w L (x_sh n w) 1 0 0) (by omega) (by omega) (by omega) (by omega) (by omega)
        have U24 := x_num_bd (w := x) (r := 24 * x_X2 n w L (x_sh n w) 0 1) (f := 24 * x_X2 n w L (x_sh n w) 1 0) (b := 24 * x_X2 n w L (x_sh n w) 1 1) (u := x_X3 n w L (x_sh n w) 0 1 1 + x_X3 n w L (x_sh n w) 1 1 0) (v := x_X3 n w L (x_sh n w) 0 0 1 + x_X3 n w L (x_sh n w) 1 0 0) (by omega) (by omega) (by omega) (by omega) (by omega)
        rw [den_mul'] at D24
        rw [num_mul] at U24
        refine sp123_45 g1 (xq_kl ?_)
        rw [b0, b1, b2, b3, t3, t6, den_mul']
        have hcy2 := cwy_but hcy hb3 (by decide) (by decide)
        have hLy2 := yL_but hLy hb3 (by decide)
        have ref1 : ∀ R : xm_K, (∀ N3 : xm_Mem, R_all N3 → (x_den x (x_X2 n w L (x_sh n w) 0 0) (x_X2 n w L (x_sh n w) 0 1) (x_X2 n w L (x_sh n w) 1 0) (x_X2 n w L (x_sh n w) 1 1) (x_X3 n w L (x_sh n w) 0 1 1 + x_X3 n w L (x_sh n w) 1 1 0) ≠ 0 → R [.inr (.inl (x_part (x_num x (x_X2 n w L (x_sh n w) 0 1) (x_X2 n w L (x_sh n w) 1 0) (x_X2 n w L (x_sh n w) 1 1) (x_X3 n w L (x_sh n w) 0 1 1 + x_X3 n w L (x_sh n w) 1 1 0) (x_X3 n w L (x_sh n w) 0 0 1 + x_X3 n w L (x_sh n w) 1 0 0)) (x_den x (x_X2 n w L (x_sh n w) 0 0) (x_X2 n w L (x_sh n w) 0 1) (x_X2 n w L (x_sh n w) 1 0) (x_X2 n w L (x_sh n w) 1 1) (x_X3 n w L (x_sh n w) 0 1 1 + x_X3 n w L (x_sh n w) 1 1 0)) y))] N3) ∧ (x_den x (x_X2 n w L (x_sh n w) 0 0) (x_X2 n w L (x_sh n w) 0 1) (x_X2 n w L (x_sh n w) 1 0) (x_X2 n w L (x_sh n w) 1 1) (x_X3 n w L (x_sh n w) 0 1 1 + x_X3 n w L (x_sh n w) 1 1 0) = 0 → R [.inr (.inl (-4))] N3)) → xm_call true 11 266 [.inr (.inr 50), .inl x, .inl y] N2 R := by
          intro R hRR
          refine ref0 N2 R (fun _ => ?_) (fun g => absurd g2 g)
          refine sp257 hcy2 (fun _ => xq_ki (xq_b2 ?_)) (fun g => absurd g3 g)
          refine sp260 hcy2 g3 (fun N3 hb4 hN3 hS3 => xq_kv ?_)
          have t := hRR N3 (R_but hR hb3 (fun c a b => hb4.1 c b (by omega) (by omega)) hb4.2)
          have hcy3 := cw_yb hcy2 hb4
          have hLy3 := yL_yb hLy2 hb4
          refine sp265 (S := x_sh n w) hcy3 hLy3 hN3 g3.2.1 X2 g1 (Or.inr rfl) (fun e => by omega) (fun _ => xq_kl ?_)
          have l := lc_z (a := x_den x (x_X2 n w L (x_sh n w) 0 0) (x_X2 n w L (x_sh n w) 0 1) (x_X2 n w L (x_sh n w) 1 0) (x_X2 n w L (x_sh n w) 1 1) (x_X3 n w L (x_sh n w) 0 1 1 + x_X3 n w L (x_sh n w) 1 1 0)) D.1
          refine ⟨⟨⟨by omega, by omega⟩, by omega⟩, l.2, fun g => ?_, fun g => t.2 (l.1.1 g)⟩
          have dn := fun e => g (l.1.2 e)
          refine sp265 (S := x_sh n w) hcy3 hLy3 hN3 g3.2.1 X2 g1 (Or.inl rfl) (fun _ => xq_kl ?_) (fun e => by omega)
          exact sp245 (by omega) (by omega) hy (xq_kl (t.1 dn))
        have l := lc_z (a := 24 * x_den x (x_X2 n w L (x_sh n w) 0 0) (x_X2 n w L (x_sh n w) 0 1) (x_X2 n w L (x_sh n w) 1 0) (x_X2 n w L (x_sh n w) 1 1) (x_X3 n w L (x_sh n w) 0 1 1 + x_X3 n w L (x_sh n w) 1 1 0)) D24.1
        refine ⟨⟨⟨by omega, by omega⟩, by omega⟩, l.2, fun g => ?_, fun g => ?_⟩
        · have dn : ¬ (24 * x_den x (x_X2 n w L (x_sh n w) 0 0) (x_X2 n w L (x_sh n w) 0 1) (x_X2 n w L (x_sh n w) 1 0) (x_X2 n w L (x_sh n w) 1 1) (x_X3 n w L (x_sh n w) 0 1 1 + x_X3 n w L (x_sh n w) 1 1 0) = 0) := fun e => g (l.1.2 e)
          refine sp122_45 g1 (xq_kl ?_)
          rw [b1, b2, b3, t3, t6, t1, t4, num_mul]
          refine sp29 U24 (by omega) hy (xq_kl ?_)
          refine ref1 _ (fun N3 t => ⟨fun _ => xq_L ?_ t, fun e => absurd (by rw [e]; rfl) dn⟩)
          exact part_mul (by omega) U.1 (by omega)
        · have dz := l.1.1 g
          exact ref1 _ (fun N3 t => ⟨fun e => absurd (by omega) e, fun _ => xq_L rfl t⟩)
      · refine sp50 hc (fun g => absurd g g3) (fun _ => xq_ki (xq_b4 ?_))
        refine ref0 M _ (fun _ => ?_) (fun g => absurd g2 g)
        exact sp257 hcy (fun g => absurd g g3) (fun _ => xq_ki (xq_b4 (xq_L rfl hR)))
    · refine sp28 hy (fun g => absurd g g2) (fun _ => xq_ki (xq_b4 ?_))
      exact ref0 M _ (fun g => absurd g g2) (fun _ => xq_L rfl hR)
  · have r : xm_call true 11 266 [.inr (.inr 50), .inl x, .inl y] M (fun w M2 => R_end [.inr (.inl (-1))] w M2) := by
      refine en266r50 (rg266r50_0 (sp193 hx (by omega) (by omega) (fun g => by omega) (fun _ => xq_ki (xq_b3 (xq_L rfl hR)))))
    exact en36r1 (rg36r1_0 ⟨hx, fun _ => r, fun _ => ⟨⟨by omega, by omega⟩, fun _ => r, fun _ => by omega⟩⟩)
end SH
