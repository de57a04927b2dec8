/-! predictions: the pairs -/
theorem pkt_eq {nu le ro rl : Int → Int} {slot src : Int} (h0 : 0 ≤ slot) (q1 : ∀ s : Int, 0 ≤ s → s ≤ 4 → le s = rl s ∧ 0 ≤ le s ∧ le s ≤ 400) (q2 : ∀ s : Int, 0 ≤ s → s < 4 → (s < src ↔ 0 < le s)) (q3 : ∀ s i : Int, 0 ≤ s → s ≤ 4 → 0 ≤ i → i < le s → nu (s * 400 + i) = ro (400 * s + i) ∧ 0 ≤ nu (s * 400 + i) ∧ nu (s * 400 + i) ≤ 20) (hs : 0 ≤ src ∧ src ≤ 4) : ∀ n : Nat, n ≤ 4 → x_pk nu le slot n = x_pR ro rl slot (if (n : Int) ≤ src then n else src.toNat)
  | 0, _ => by rw [if_pos (by omega)]; rfl
  | n + 1, hn => by
    have ih := pkt_eq h0 q1 q2 q3 hs n (by omega)
    have a := q1 n (by omega) (by omega)
    have b := q2 n (by omega) (by omega)
    rw [x_pk, ih]
    by_cases g : ((n + 1 : Nat) : Int) ≤ src
    · have t1 := Int.tmod_nonneg (le n) h0
      have t2 := Int.tmod_lt_of_pos slot (b := le n) (by omega)
      have c := q3 n _ (by omega) (by omega) t1 t2
      rw [if_pos (by omega), if_pos g, if_neg (by omega), x_pR, c.1, a.1]
    · have z : le n = 0 := by omega
      by_cases g2 : (n : Int) ≤ src
      · have e : n = src.toNat := by omega
        rw [if_pos g2, if_pos z, if_neg g, Int.add_zero, ← e]
      · rw [if_neg g2, if_pos z, if_neg g, Int.add_zero]
theorem due_zero {bg kd : Int → Int} {s : Int} : ∀ n : Nat, (∀ j : Int, 0 ≤ j → j < n → bg j + kd j ≤ s) → x_due bg kd s n = 0
  | 0, _ => rfl
  | n + 1, h => by
    have := h n (by omega) (by omega)
    rw [x_due, due_zero n (fun j a b => h j a (by omega)), if_neg (by omega)]
    rfl
theorem due_ge {bg kd : Int → Int} {s : Int} : ∀ n : Nat, 0 ≤ x_due bg kd s n ∧ x_due bg kd s n ≤ n
  | 0 => by simp only [x_due]; omega
  | n + 1 => by
    have := due_ge (bg := bg) (kd := kd) (s := s) n
    rw [x_due]
    split <;> omega
theorem ex_due {p w b act actM : Int} {kd bg bt kdM bgM btM pr prM : Int → Int} (h : R_exp p w b act actM kd bg bt kdM bgM btM pr prM) (hp : 0 ≤ p ∧ p ≤ 2000) {s : Int} (hs : p ≤ s) : (if s < 2003 then pr s else 0) = x_due bgM kdM s actM.toNat := by
  obtain ⟨e1, e2, e3, e4, e5, e6, e7, e8⟩ := h
  have g : x_due bg kd s act.toNat = x_due bgM kdM s actM.toNat := by
    rw [← e1]
    exact due_lo _ (fun j a b => by
      have := e4 j a (by omega)
      exact ⟨this.2.1, this.1⟩)
  split
  · rw [e7 s hs (by assumption)]
    exact g
  · rw [← g]
    refine (due_zero _ (fun j a b => ?_)).symm
    have := e4 j a (by omega)
    omega
theorem xq_b5 {F G : Prop} (h : F) : xm_in 1 ∧ (((1 : Int) = 0 → G) ∧ ((1 : Int) ≠ 0 → F)) := xq_b1 h
section PQ
variable {d : Nat} {Q : xm_K} {M : xm_Mem}
/-- what the class lays out and what the reference goes over -/
theorem fo_11 {more x : Int} (hR : R_all M) (hrt : R_rtA (M 11) (M 12) (M 13) (M 50) (M 51) (M 52)) (hm : 0 ≤ more ∧ more ≤ 20) : ∀ k : Int, 0 ≤ k → k < x → (0 ≤ x_pk (M 12) (M 13) (M 29 2 + k) 4 + more + (if M 29 2 + k < 2003 then M 28 (M 29 2 + k) else 0) ∧ x_pk (M 12) (M 13) (M 29 2 + k) 4 + more + (if M 29 2 + k < 2003 then M 28 (M 29 2 + k) else 0) ≤ 1000) ∧ x_pk (M 12) (M 13) (M 29 2 + k) 4 + more + (if M 29 2 + k < 2003 then M 28 (M 29 2 + k) else 0) = more + x_pR (M 51) (M 52) (M 50 20 + k) (M 50 5).toNat + x_due (M 68) (M 67) (M 50 20 + k) (M 50 32).toNat := by
  intro k h0 h1
  obtain ⟨-, -, hRec, hE, -⟩ := id hR
  obtain ⟨r1, r2, r3, -⟩ := hRec
  obtain ⟨-, -, -, -, -, g5, q1, q2, q3, -⟩ := hrt
  rw [ex_due hE ⟨r2, r3⟩ (s := M 29 2 + k) (by omega)]
  have a := pk_bd (nu := M 12) (le := M 13) (slot := M 29 2 + k) (by omega) (fun s a b => (q1 s a b).2) (fun s i a b c e => (q3 s i a b c e).2) 4 (by omega)
  have b := pkt_eq (slot := M 29 2 + k) (by omega) q1 q2 q3 g5.2 4 (by omega)
  have e : (if ((4 : Nat) : Int) ≤ M 11 5 then 4 else (M 11 5).toNat) = (M 11 5).toNat := by
    split
    · omega
    · rfl
  rw [e] at b
  have c := due_ge (bg := M 68) (kd := M 67) (s := M 29 2 + k) (M 50 32).toNat
  obtain ⟨e1, e2, e3, -⟩ := hE
  refine ⟨by omega, ?_⟩
  rw [← r1, ← g5.1, ← b]
  omega
theorem ah_11 {x y : Int} (hx : xm_in x) (hy : xm_in y) (hR : R_all M) (hc : M 1 3 = 11) (hrt : R_rtA (M 11) (M 12) (M 13) (M 50) (M 51) (M 52)) : xm_call true 11 39 [.inr (.inr 1), .inl x, .inl y] M (fun v M1 => xm_call true 11 273 [.inr (.inr 50), .inl x, .inl y] M1 (fun w M2 => R_end v w M2)) := by
  obtain ⟨-, -, hRec, hE, -, hL, -⟩ := id hR
  obtain ⟨r1, r2, r3, -⟩ := hRec
  obtain ⟨l1, -⟩ := hL
  obtain ⟨t1, t2, t3, t4, t5, g5, q1, q2, q3, -⟩ := id hrt
  obtain ⟨e1, e2, e3, e4, -⟩ := id hE
  by_cases hxy : (1 ≤ x ∧ x ≤ 64) ∧ 0 ≤ y ∧ y ≤ 20
  · have F := fo_11 (x := x) hR hrt hxy.2
    generalize hf : (fun k : Int => x_pk (M 12) (M 13) (M 29 2 + k) 4 + y + (if M 29 2 + k < 2003 then M 28 (M 29 2 + k) else 0)) = f
    have hff : ∀ k : Int, f k = x_pk (M 12) (M 13) (M 29 2 + k) 4 + y + (if M 29 2 + k < 2003 then M 28 (M 29 2 + k) else 0) := fun k => by rw [← hf]
    simp only [← hff] at F
    have hR2 := R_fo (n := x) (f := f) hR
    refine en39r1 (rg39r1_0 ?_)
    refine ⟨⟨hx, by omega⟩, fun _ => by omega, fun _ => ⟨⟨hx, by omega⟩, fun _ => by omega, fun _ => ⟨hy, fun _ => by omega, fun _ => ⟨⟨hy, by omega⟩, fun _ => ?_, fun _ => by omega⟩⟩⟩⟩
    refine sp41_11 (f := f) hxy.1 ⟨r2, r3⟩ hc rfl (fun s a b => (q1 s a b).2) (fun k a b => hff k) (xq_kv ?_)
    refine sp102r17 (xq_ki ?_)
    rw [xo_c (c := 1) (by omega), hc]
    refine ⟨by omega, fun _ => ?_, fun _ => ?_⟩
    all_goals first | (exfalso; omega) | skip
    refine sp156r11 (xq_ki ?_)
    rw [xo_c (c := 1) (by omega), hc]
    refine ⟨by omega, fun _ => ?_, fun _ => ?_⟩
    all_goals first | (exfalso; omega) | skip
    refine sp157r11 (xq_ki ?_)
    rw [xo_c (c := 17) (by omega), xo_c (c := 11) (by omega)]
    refine sp95 (m := x.toNat) (f := f) ?_ (fun k a b => ?_) (by omega) (by omega) (by omega) (xq_ki ?_)
    · rw [xo_n]; omega
    · rw [xo_f (by omega)]; exact ⟨rfl, (F k a (by omega)).1⟩
    refine en273r50 (rg273r50_0 ?_)
    refine sp193 hx (by omega) (by omega) (fun _ => xq_ki (xq_b5 ?_)) (fun _ => by omega)
    refine sp193 hy (by omega) (by omega) (fun _ => xq_ki (xq_b5 ?_)) (fun _ => by omega)
    refine sp272 (f := f) (by omega) ?_ ?_ ?_ ?_ (fun k a b => (F k a b).1) ?_ ?_ ?_ ?_ ?_ (xq_ki ?_)
    all_goals rw [xo_c (by omega)]
    · omega
    · omega
    · omega
    · omega
    · omega
    · intro j a b
      have := e4 j a (by omega)
      rw [xo_c (by omega), xo_c (by omega)]
      omega
    · omega
    · intro s a b
      have g1 := q1 s a (by omega)
      have g2 := q2 s a (by omega)
      rw [xo_c (by omega)]
      omega
    · intro k a b
      rw [xo_c (by omega), xo_c (by omega), xo_c (by omega), xo_c (by omega)]
      exact (F k a b).2
    · refine xq_I ?_ hR2
      rw [t1.1, t2.1, l1.1]
  · refine en39r1 (rg39r1_0 ?_)
    refine ⟨⟨hx, by omega⟩, fun _ => ?_, fun _ => ⟨⟨hx, by omega⟩, fun _ => ?_, fun _ => ⟨hy, fun _ => ?_, fun _ => ⟨⟨hy, by omega⟩, fun _ => by omega, fun _ => ?_⟩⟩⟩⟩
    all_goals
      refine en273r50 (rg273r50_0 ?_)
      (repeat' (first | (with_reducible exact True.intro) | (with_reducible refine xq_b1 ?_) | (with_reducible refine xq_b2 ?_) | (with_reducible refine xq_b3 ?_) | (with_reducible refine xq_b4 ?_) | (with_reducible refine And.intro ?_ ?_) | (with_reducible intro) | (with_reducible refine xq_ki ?_) | (with_reducible refine xq_kl ?_) | (with_reducible refine xq_kv ?_) | (with_reducible refine xq_kq ?_) | (with_reducible apply sp193)))
      all_goals first | omega | exact xq_I rfl hR
/-- what the class lays out and what the reference goes over -/
theorem fo_14 {more x : Int} (hR : R_all M) (hrt : R_rtA (M 14) (M 15) (M 16) (M 50) (M 51) (M 52)) (hm : 0 ≤ more ∧ more ≤ 20) : ∀ k : Int, 0 ≤ k → k < x → (0 ≤ x_pk (M 15) (M 16) (M 29 2 + k) 4 + more + (if M 29 2 + k < 2003 then M 28 (M 29 2 + k) else 0) ∧ x_pk (M 15) (M 16) (M 29 2 + k) 4 + more + (if M 29 2 + k < 2003 then M 28 (M 29 2 + k) else 0) ≤ 1000) ∧ x_pk (M 15) (M 16) (M 29 2 + k) 4 + more + (if M 29 2 + k < 2003 then M 28 (M 29 2 + k) else 0) = more + x_pR (M 51) (M 52) (M 50 20 + k) (M 50 5).toNat + x_due (M 68) (M 67) (M 50 20 + k) (M 50 32).toNat := by
  intro k h0 h1
  obtain ⟨-, -, hRec, hE, -⟩ := id hR
  obtain ⟨r1, r2, r3, -⟩ := hRec
  obtain ⟨-, -, -, -, -, g5, q1, q2, q3, -⟩ := hrt
  rw [ex_due hE ⟨r2, r3⟩ (s := M 29 2 + k) (by omega)]
  have a := pk_bd (nu := M 15) (le := M 16) (slot := M 29 2 + k) (by omega) (fun s a b => (q1 s a b).2) (fun s i a b c e => (q3 s i a b c e).2) 4 (by omega)
  have b := pkt_eq (slot := M 29 2 + k) (by omega) q1 q2 q3 g5.2 4 (by omega)
  have e : (if ((4 : Nat) : Int) ≤ M 14 5 then 4 else (M 14 5).toNat) = (M 14 5).toNat := by
    split
    · omega
    · rfl
  rw [e] at b
  have c := due_ge (bg := M 68) (kd := M 67) (s := M 29 2 + k) (M 50 32).toNat
  obtain ⟨e1, e2, e3, -⟩ := hE
  refine ⟨by omega, ?_⟩
  rw [← r1, ← g5.1, ← b]
  omega
theorem ah_14 {x y : Int} (hx : xm_in x) (hy : xm_in y) (hR : R_all M) (hc : M 1 3 = 14) (hrt : R_rtA (M 14) (M 15) (M 16) (M 50) (M 51) (M 52)) : xm_call true 11 39 [.inr (.inr 1), .inl x, .inl y] M (fun v M1 => xm_call true 11 273 [.inr (.inr 50), .inl x, .inl y] M1 (fun w M2 => R_end v w M2)) := by
  obtain ⟨-, -, hRec, hE, -, hL, -⟩ := id hR
  obtain ⟨r1, r2, r3, -⟩ := hRec
  obtain ⟨l1, -⟩ := hL
  obtain ⟨t1, t2, t3, t4, t5, g5, q1, q2, q3, -⟩ := id hrt
  obtain ⟨e1, e2, e3, e4, -⟩ := id hE
  by_cases hxy : (1 ≤ x ∧ x ≤ 64) ∧ 0 ≤ y ∧ y ≤ 20
  · have F := fo_14 (x := x) hR hrt hxy.2
    generalize hf : (fun k : Int => x_pk (M 15) (M 16) (M 29 2 + k) 4 + y + (if M 29 2 + k < 2003 then M 28 (M 29 2 + k) else 0)) = f
    have hff : ∀ k : Int, f k = x_pk (M 15) (M 16) (M 29 2 + k) 4 + y + (if M 29 2 + k < 2003 then M 28 (M 29 2 + k) else 0) := fun k => by rw [← hf]
    simp only [← hff] at F
    have hR2 := R_fo (n := x) (f := f) hR
    refine en39r1 (rg39r1_0 ?_)
    refine ⟨⟨hx, by omega⟩, fun _ => by omega, fun _ => ⟨⟨hx, by omega⟩, fun _ => by omega, fun _ => ⟨hy, fun _ => by omega, fun _ => ⟨⟨hy, by omega⟩, fun _ => ?_, fun _ => by omega⟩⟩⟩⟩
    refine sp41_14 (f := f) hxy.1 ⟨r2, r3⟩ hc rfl (fun s a b => (q1 s a b).2) (fun k a b => hff k) (xq_kv ?_)
    refine sp102r17 (xq_ki ?_)
    rw [xo_c (c := 1) (by omega), hc]
    refine ⟨by omega, fun _ => ?_, fun _ => ?_⟩
    all_goals first | (exfalso; omega) | skip
    refine sp156r14 (xq_ki ?_)
    rw [xo_c (c := 1) (by omega), hc]
    refine ⟨by omega, fun _ => ?_, fun _ => ?_⟩
    all_goals first | (exfalso; omega) | skip
    refine sp157r14 (xq_ki ?_)
    rw [xo_c (c := 17) (by omega), xo_c (c := 14) (by omega)]
    refine sp95 (m := x.toNat) (f := f) ?_ (fun k a b => ?_) (by omega) (by omega) (by omega) (xq_ki ?_)
    · rw [xo_n]; omega
    · rw [xo_f (by omega)]; exact ⟨rfl, (F k a (by omega)).1⟩
    refine en273r50 (rg273r50_0 ?_)
    refine sp193 hx (by omega) (by omega) (fun _ => xq_ki (xq_b5 ?_)) (fun _ => by omega)
    refine sp193 hy (by omega) (by omega) (fun _ => xq_ki (xq_b5 ?_)) (fun _ => by omega)
    refine sp272 (f := f) (by omega) ?_ ?_ ?_ ?_ (fun k a b => (F k a b).1) ?_ ?_ ?_ ?_ ?_ (xq_ki ?_)
    all_goals rw [xo_c (by omega)]
    · omega
    · omega
    · omega
    · omega
    · omega
    · intro j a b
      have := e4 j a (by omega)
      rw [xo_c (by omega), xo_c (by omega)]
      omega
    · omega
    · intro s a b
      have g1 := q1 s a (by omega)
      have g2 := q2 s a (by omega)
      rw [xo_c (by omega)]
      omega
    · intro k a b
      rw [xo_c (by omega), xo_c (by omega), xo_c (by omega), xo_c (by omega)]
      exact (F k a b).2
    · refine xq_I ?_ hR2
      rw [t1.1, t2.1, l1.1]
  · refine en39r1 (rg39r1_0 ?_)
    refine ⟨⟨hx, by omega⟩, fun _ => ?_, fun _ => ⟨⟨hx, by omega⟩, fun _ => ?_, fun _ => ⟨hy, fun _ => ?_, fun _ => ⟨⟨hy, by omega⟩, fun _ => by omega, fun _ => ?_⟩⟩⟩⟩
    all_goals
      refine en273r50 (rg273r50_0 ?_)
      (repeat' (first | (with_reducible exact True.intro) | (with_reducible refine xq_b1 ?_) | (with_reducible refine xq_b2 ?_) | (with_reducible refine xq_b3 ?_) | (with_reducible refine xq_b4 ?_) | (with_reducible refine And.intro ?_ ?_) | (with_reducible intro) | (with_reducible refine xq_ki ?_) | (with_reducible refine xq_kl ?_) | (with_reducible refine xq_kv ?_) | (with_reducible refine xq_kq ?_) | (with_reducible apply sp193)))
      all_goals first | omega | exact xq_I rfl hR
/-- the first room from c on, of n, with which g is 0 -/
def x_en (g : Int → Int) : Nat → Int → Int
  | 0, _ => -9
  | n + 1, c => if g c = 0 then c else x_en g n (c + 1)
theorem lo274 {m : Int} {f : Int → Int} (hm : 0 ≤ m ∧ m ≤ 64) (hr : 1 ≤ M 50 1 ∧ M 50 1 ≤ 9) (hq : 0 ≤ M 50 24 ∧ M 50 24 ≤ 40) (hp : 0 ≤ M 50 20 ∧ M 50 20 ≤ 2000) (hf0 : ∀ k : Int, 0 ≤ k → k < m → 0 ≤ f k ∧ f k ≤ 1000) (hn : 0 ≤ M 50 32 ∧ M 50 32 ≤ 20) (he : ∀ j : Int, 0 ≤ j → j < M 50 32 → M 68 j ≤ M 50 20 ∧ 0 ≤ M 68 j ∧ 0 ≤ M 67 j ∧ M 68 j + M 67 j ≤ 9999) (h5 : 0 ≤ M 50 5 ∧ M 50 5 ≤ 4) (hl : ∀ s : Int, 0 ≤ s → s < M 50 5 → 0 < M 52 s ∧ M 52 s ≤ 400)
    (hf : ∀ k : Int, 0 ≤ k → k < m → f k = 0 + x_pR (M 51) (M 52) (M 50 20 + k) (M 50 5).toNat + x_due (M 68) (M 67) (M 50 20 + k) (M 50 32).toNat) : ∀ (n : Nat) (c : Int), 1 ≤ c → c + n = 41 → Q [.inl (x_en (fun c => x_ln c (M 50 1) (M 50 24) f m.toNat) n c)] M → wp274r50_14 (xm_call true (d + 2)) Q m c M
  | 0, c, h0, h1, h => by
    exact rg274r50_14 ⟨⟨by omega, by omega⟩, fun _ => h, fun _ => by omega⟩
  | n + 1, c, h0, h1, h => by
    have ih := lo274 hm hr hq hp hf0 hn he h5 hl hf n (c + 1) (by omega) (by omega)
    have b := qn_in (cap := c) (f := f) (by omega) hr hq m.toNat (fun j a c => hf0 j a (by omega))
    rw [x_en] at h
    refine rg274r50_14 ⟨⟨by omega, by omega⟩, fun _ => by omega, fun _ => ?_⟩
    refine sp272 (f := f) hm (by omega) hr hq hp hf0 hn he h5 hl hf (xq_ki ?_)
    refine ⟨by omega, fun e => ?_, fun e => ?_⟩
    · rw [if_neg e] at h; exact ih h
    · rw [if_pos e] at h; exact h
theorem lo40_11 {m : Int} {f : Int → Int} (hc : M 1 3 = 11) (hm : M 48 1 = m ∧ 0 ≤ m ∧ m ≤ 64) (hf : ∀ k : Int, 0 ≤ k → k < m → M 49 k = f k ∧ 0 ≤ f k ∧ f k ≤ 1000) (hr : 1 ≤ M 11 1 ∧ M 11 1 ≤ 9) (hq : 0 ≤ M 17 6 ∧ M 17 6 ≤ 40) : ∀ (n : Nat) (c : Int), 1 ≤ c → c + n = 41 → Q [.inl (x_en (fun c => x_ln c (M 11 1) (M 17 6) f m.toNat) n c)] M → wp40r1_21 (xm_call true (d + 1)) Q m c M
  | 0, c, h0, h1, h => by
    exact rg40r1_21 ⟨⟨by omega, by omega⟩, fun _ => h, fun _ => by omega⟩
  | n + 1, c, h0, h1, h => by
    have ih := lo40_11 hc hm hf hr hq n (c + 1) (by omega) (by omega)
    have b := qn_in (cap := c) (f := f) (by omega) hr hq m.toNat (fun j a c => (hf j a (by omega)).2)
    rw [x_en] at h
    refine rg40r1_21 ⟨⟨by omega, by omega⟩, fun _ => by omega, fun _ => ?_⟩
    refine sp102r17 (xq_ki ?_)
    rw [hc]
    refine ⟨by omega, fun _ => ?_, fun _ => ?_⟩
    all_goals first | (exfalso; omega) | skip
    refine sp157r11 (xq_ki ?_)
    refine sp95 (m := m.toNat) (f := f) (by omega) (fun k a b => hf k a (by omega)) (by omega) hr hq (xq_ki ?_)
    refine ⟨by omega, fun e => ?_, fun e => ?_⟩
    · rw [if_neg e] at h; exact ih h
    · rw [if_pos e] at h; exact h
theorem eh_11 {x : Int} (hx : xm_in x) (hR : R_all M) (hc : M 1 3 = 11) (hrt : R_rtA (M 11) (M 12) (M 13) (M 50) (M 51) (M 52)) : xm_call true 11 40 [.inr (.inr 1), .inl x] M (fun v M1 => xm_call true 11 274 [.inr (.inr 50), .inl x] M1 (fun w M2 => R_end v w M2)) := by
  obtain ⟨-, -, hRec, hE, -, hL, -⟩ := id hR
  obtain ⟨r1, r2, r3, -⟩ := hRec
  obtain ⟨l1, -⟩ := hL
  obtain ⟨t1, t2, t3, t4, t5, g5, q1, q2, q3, -⟩ := id hrt
  obtain ⟨e1, e2, e3, e4, -⟩ := id hE
  by_cases hxy : 1 ≤ x ∧ x ≤ 64
  · have F := fo_11 (x := x) (more := 0) hR hrt (by omega)
    generalize hf : (fun k : Int => x_pk (M 12) (M 13) (M 29 2 + k) 4 + 0 + (if M 29 2 + k < 2003 then M 28 (M 29 2 + k) else 0)) = f
    have hff : ∀ k : Int, f k = x_pk (M 12) (M 13) (M 29 2 + k) 4 + 0 + (if M 29 2 + k < 2003 then M 28 (M 29 2 + k) else 0) := fun k => by rw [← hf]
    simp only [← hff] at F
    have hR2 := R_fo (n := x) (f := f) hR
    refine en40r1 (rg40r1_0 ?_)
    refine ⟨⟨hx, by omega⟩, fun _ => by omega, fun _ => ⟨⟨hx, by omega⟩, fun _ => ?_, fun _ => by omega⟩⟩
    refine sp41_11 (f := f) hxy ⟨r2, r3⟩ hc rfl (fun s a b => (q1 s a b).2) (fun k a b => hff k) (xq_kv ?_)
    refine lo40_11 (f := f) ?_ ?_ (fun k a b => ?_) ?_ ?_ 40 1 (by omega) (by omega) ?_
    · rw [xo_c (by omega)]; exact hc
    · rw [xo_n]; omega
    · rw [xo_f (by omega)]; exact ⟨rfl, (F k a b).1⟩
    · rw [xo_c (by omega)]; omega
    · rw [xo_c (by omega)]; omega
    rw [xo_c (c := 17) (by omega), xo_c (c := 11) (by omega)]
    refine en274r50 (rg274r50_0 ?_)
    refine sp193 hx (by omega) (by omega) (fun _ => xq_ki (xq_b2 ?_)) (fun _ => by omega)
    refine lo274 (f := f) (by omega) ?_ ?_ ?_ (fun k a b => (F k a b).1) ?_ ?_ ?_ ?_ ?_ 40 1 (by omega) (by omega) ?_
    all_goals rw [xo_c (by omega)]
    · omega
    · omega
    · omega
    · omega
    · intro j a b
      have := e4 j a (by omega)
      rw [xo_c (by omega), xo_c (by omega)]
      omega
    · omega
    · intro s a b
      have g1 := q1 s a (by omega)
      have g2 := q2 s a (by omega)
      rw [xo_c (by omega)]
      omega
    · intro k a b
      rw [xo_c (by omega), xo_c (by omega), xo_c (by omega), xo_c (by omega)]
      exact (F k a b).2
    · refine xq_I ?_ hR2
      rw [t2.1, l1.1]
  · refine en40r1 (rg40r1_0 ?_)
    refine ⟨⟨hx, by omega⟩, fun _ => ?_, fun _ => ⟨⟨hx, by omega⟩, fun _ => by omega, fun _ => ?_⟩⟩
    all_goals
      refine en274r50 (rg274r50_0 ?_)
      (repeat' (first | (with_reducible exact True.intro) | (with_reducible refine xq_b1 ?_) | (with_reducible refine xq_b2 ?_) | (with_reducible refine xq_b3 ?_) | (with_reducible refine xq_b4 ?_) | (with_reducible refine And.intro ?_ ?_) | (with_reducible intro) | (with_reducible refine xq_ki ?_) | (with_reducible refine xq_kl ?_) | (with_reducible refine xq_kv ?_) | (with_reducible refine xq_kq ?_) | (with_reducible apply sp193)))
      all_goals first | omega | exact xq_I rfl hR
theorem lo40_14 {m : Int} {f : Int → Int} (hc : M 1 3 = 14) (hm : M 48 1 = m ∧ 0 ≤ m ∧ m ≤ 64) (hf : ∀ k : Int, 0 ≤ k → k < m → M 49 k = f k ∧ 0 ≤ f k ∧ f k ≤ 1000) (hr : 1 ≤ M 14 1 ∧ M 14 1 ≤ 9) (hq : 0 ≤ M 17 6 ∧ M 17 6 ≤ 40) : ∀ (n : Nat) (c : Int), 1 ≤ c → c + n = 41 → Q [.inl (x_en (fun c => x_ln c (M 14 1) (M 17 6) f m.toNat) n c)] M → wp40r1_21 (xm_call true (d + 1)) Q m c M
  | 0, c, h0, h1, h => by
    exact rg40r1_21 ⟨⟨by omega, by omega⟩, fun _ => h, fun _ => by omega⟩
  | n + 1, c, h0, h1, h => by
    have ih := lo40_14 hc hm hf hr hq n (c + 1) (by omega) (by omega)
    have b := qn_in (cap := c) (f := f) (by omega) hr hq m.toNat (fun j a c => (hf j a (by omega)).2)
    rw [x_en] at h
    refine rg40r1_21 ⟨⟨by omega, by omega⟩, fun _ => by omega, fun _ => ?_⟩
    refine sp102r17 (xq_ki ?_)
    rw [hc]
    refine ⟨by omega, fun _ => ?_, fun _ => ?_⟩
    all_goals first | (exfalso; omega) | skip
    refine sp157r14 (xq_ki ?_)
    refine sp95 (m := m.toNat) (f := f) (by omega) (fun k a b => hf k a (by omega)) (by omega) hr hq (xq_ki ?_)
    refine ⟨by omega, fun e => ?_, fun e => ?_⟩
    · rw [if_neg e] at h; exact ih h
    · rw [if_pos e] at h; exact h
theorem eh_14 {x : Int} (hx : xm_in x) (hR : R_all M) (hc : M 1 3 = 14) (hrt : R_rtA (M 14) (M 15) (M 16) (M 50) (M 51) (M 52)) : xm_call true 11 40 [.inr (.inr 1), .inl x] M (fun v M1 => xm_call true 11 274 [.inr (.inr 50), .inl x] M1 (fun w M2 => R_end v w M2)) := by
  obtain ⟨-, -, hRec, hE, -, hL, -⟩ := id hR
  obtain ⟨r1, r2, r3, -⟩ := hRec
  obtain ⟨l1, -⟩ := hL
  obtain ⟨t1, t2, t3, t4, t5, g5, q1, q2, q3, -⟩ := id hrt
  obtain ⟨e1, e2, e3, e4, -⟩ := id hE
  by_cases hxy : 1 ≤ x ∧ x ≤ 64
  · have F := fo_14 (x := x) (more := 0) hR hrt (by omega)
    generalize hf : (fun k : Int => x_pk (M 15) (M 16) (M 29 2 + k) 4 + 0 + (if M 29 2 + k < 2003 then M 28 (M 29 2 + k) else 0)) = f
    have hff : ∀ k : Int, f k = x_pk (M 15) (M 16) (M 29 2 + k) 4 + 0 + (if M 29 2 + k < 2003 then M 28 (M 29 2 + k) else 0) := fun k => by rw [← hf]
    simp only [← hff] at F
    have hR2 := R_fo (n := x) (f := f) hR
    refine en40r1 (rg40r1_0 ?_)
    refine ⟨⟨hx, by omega⟩, fun _ => by omega, fun _ => ⟨⟨hx, by omega⟩, fun _ => ?_, fun _ => by omega⟩⟩
    refine sp41_14 (f := f) hxy ⟨r2, r3⟩ hc rfl (fun s a b => (q1 s a b).2) (fun k a b => hff k) (xq_kv ?_)
    refine lo40_14 (f := f) ?_ ?_ (fun k a b => ?_) ?_ ?_ 40 1 (by omega) (by omega) ?_
    · rw [xo_c (by omega)]; exact hc
    · rw [xo_n]; omega
    · rw [xo_f (by omega)]; exact ⟨rfl, (F k a b).1⟩
    · rw [xo_c (by omega)]; omega
    · rw [xo_c (by omega)]; omega
    rw [xo_c (c := 17) (by omega), xo_c (c := 14) (by omega)]
    refine en274r50 (rg274r50_0 ?_)
    refine sp193 hx (by omega) (by omega) (fun _ => xq_ki (xq_b2 ?_)) (fun _ => by omega)
    refine lo274 (f := f) (by omega) ?_ ?_ ?_ (fun k a b => (F k a b).1) ?_ ?_ ?_ ?_ ?_ 40 1 (by omega) (by omega) ?_
    all_goals rw [xo_c (by omega)]
    · omega
    · omega
    · omega
    · omega
    · intro j a b
      have := e4 j a (by omega)
      rw [xo_c (by omega), xo_c (by omega)]
      omega
    · omega
    · intro s a b
      have g1 := q1 s a (by omega)
      have g2 := q2 s a (by omega)
      rw [xo_c (by omega)]
      omega
    · intro k a b
      rw [xo_c (by omega), xo_c (by omega), xo_c (by omega), xo_c (by omega)]
      exact (F k a b).2
    · refine xq_I ?_ hR2
      rw [t2.1, l1.1]
  · refine en40r1 (rg40r1_0 ?_)
    refine ⟨⟨hx, by omega⟩, fun _ => ?_, fun _ => ⟨⟨hx, by omega⟩, fun _ => by omega, fun _ => ?_⟩⟩
    all_goals
      refine en274r50 (rg274r50_0 ?_)
      (repeat' (first | (with_reducible exact True.intro) | (with_reducible refine xq_b1 ?_) | (with_reducible refine xq_b2 ?_) | (with_reducible refine xq_b3 ?_) | (with_reducible refine xq_b4 ?_) | (with_reducible refine And.intro ?_ ?_) | (with_reducible intro) | (with_reducible refine xq_ki ?_) | (with_reducible refine xq_kl ?_) | (with_reducible refine xq_kv ?_) | (with_reducible refine xq_kq ?_) | (with_reducible apply sp193)))
      all_goals first | omega | exact xq_I rfl hR
theorem pr_enough {x : Int} (hx : xm_in x) : R_pair 40 274 [.inl x] := by
  intro M hR
  obtain ⟨-, hRt, -⟩ := id hR
  rcases hRt with ⟨m1, m2, hrt⟩ | ⟨m1, m2, hrt⟩
  · exact eh_11 hx hR m1 hrt
  · exact eh_14 hx hR m1 hrt
theorem pr_ahead {x y : Int} (hx : xm_in x) (hy : xm_in y) : R_pair 39 273 [.inl x, .inl y] := by
  intro M hR
  obtain ⟨-, hRt, -⟩ := id hR
  rcases hRt with ⟨m1, m2, hrt⟩ | ⟨m1, m2, hrt⟩
  · exact ah_11 hx hy hR m1 hrt
  · exact ah_14 hx hy hR m1 hrt
end PQ
