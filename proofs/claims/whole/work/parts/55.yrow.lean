/-! rows: the reference's steps -/
def y_tk (M : xm_Mem) (v e : Int) : xm_Mem := xm_up (xm_up (xm_up M 57 (M 50 18) v) 50 18 (M 50 18 + 1)) 50 10 e
def y_ft (M : xm_Mem) (s : Int) : xm_Mem := xm_up (xm_up M 50 10 s) 50 11 1
def y_rp (M : xm_Mem) (many : Int) : Nat → xm_Mem
  | 0 => M
  | j + 1 => xm_up (xm_up (y_rp M many j) 57 (y_rp M many j 50 18) (y_rp M many j 57 (y_rp M many j 50 18 - many))) 50 18 (y_rp M many j 50 18 + 1)
def y_cy (M : xm_Mem) (row : Int) : Nat → xm_Mem
  | 0 => M
  | k + 1 => xm_up (y_cy M row k) 55 (400 * row + k) (M 57 k)
theorem rp_18 {M : xm_Mem} {many : Int} : ∀ j : Nat, y_rp M many j 50 18 = M 50 18 + j
  | 0 => by rw [y_rp]; omega
  | j + 1 => by rw [y_rp, xu_s, rp_18 j]; omega
theorem rp_c {M : xm_Mem} {many : Int} {c : Nat} (h : c ≠ 50 ∧ c ≠ 57) : ∀ j : Nat, y_rp M many j c = M c
  | 0 => rfl
  | j + 1 => by rw [y_rp, xu_c (by omega), xu_c (by omega), rp_c h j]
theorem rp_k {M : xm_Mem} {many k : Int} (h : k ≠ 18) : ∀ j : Nat, y_rp M many j 50 k = M 50 k
  | 0 => rfl
  | j + 1 => by rw [y_rp, xu_k h, xu_c (by omega), rp_k h j]
theorem rp_lo {M : xm_Mem} {many k : Int} (h : k < M 50 18) : ∀ j : Nat, y_rp M many j 57 k = M 57 k
  | 0 => rfl
  | j + 1 => by rw [y_rp, xu_c (by omega), xu_k (by rw [rp_18]; omega), rp_lo h j]
theorem rp_hi {M : xm_Mem} {many : Int} (hm : 1 ≤ many) : ∀ (j : Nat) (k : Int), M 50 18 ≤ k → k < M 50 18 + j → y_rp M many j 57 k = y_rp M many j 57 (k - many)
  | 0, k, h1, h2 => by omega
  | j + 1, k, h1, h2 => by
    rw [y_rp, xu_c (by omega)]
    by_cases e : k = M 50 18 + j
    · rw [rp_18, ← e, xu_s, xu_k (by omega)]
    · rw [xu_k (by rw [rp_18]; omega), xu_k (by rw [rp_18]; omega)]
      exact rp_hi hm j k h1 (by omega)
theorem cy_c {M : xm_Mem} {row : Int} {c : Nat} (h : c ≠ 55) : ∀ k : Nat, y_cy M row k c = M c
  | 0 => rfl
  | k + 1 => by rw [y_cy, xu_c h, cy_c h k]
theorem cy_in {M : xm_Mem} {row j : Int} : ∀ k : Nat, 0 ≤ j → j < k → y_cy M row k 55 (400 * row + j) = M 57 j
  | 0, h0, h1 => by omega
  | k + 1, h0, h1 => by
    rw [y_cy]
    by_cases e : j = k
    · rw [e, xu_s]
    · rw [xu_k (by omega)]
      exact cy_in k h0 (by omega)
theorem cy_out {M : xm_Mem} {row j : Int} : ∀ k : Nat, ¬ (400 * row ≤ j ∧ j < 400 * row + k) → y_cy M row k 55 j = M 55 j
  | 0, h => rfl
  | k + 1, h => by
    rw [y_cy, xu_k (by omega)]
    exact cy_out k (by omega)
section YO
variable {d : Nat} {Q : xm_K} {t : Int → Int} {n s : Int} {M : xm_Mem}
theorem sp200 {v D : Int} (hD : 0 ≤ D ∧ D ≤ 5) (h18 : 0 ≤ M 50 18 ∧ M 50 18 < 2400) (h58 : xm_in (M 50 18 - M 58 D)) (h1 : M 50 18 - M 58 D ≠ 400 → Q [] (xm_up (xm_up M 57 (M 50 18) v) 50 18 (M 50 18 + 1))) (h0 : M 50 18 - M 58 D = 400 → Q [] (xm_up M 50 11 1)) : xm_call true (d + 1) 200 [.inr (.inr 50), .inl v, .inl D] M Q :=
  en200r50 (rg200r50_0 ⟨by omega, ⟨h58, by omega⟩, fun g => ⟨by omega, h1 g⟩, fun g => ⟨Or.inr rfl, h0 g⟩⟩)
theorem ft_a (M : xm_Mem) (s e v : Int) (hs : M 50 10 = s) : xm_up (xm_up (xm_up M 50 10 s) 50 11 1) 50 10 (M 50 10) = y_ft M s := by
  rw [hs]
  unfold y_ft
  funext c k
  simp only [xm_up]
  repeat' split
  all_goals first | rfl | (exfalso; omega)
theorem ft_b (M : xm_Mem) (s e : Int) (hs : M 50 10 = s) (u : Int) : xm_up (xm_up (xm_up M 50 10 e) 50 11 1) 50 10 (M 50 10) = y_ft M s := by
  rw [hs]
  unfold y_ft
  funext c k
  simp only [xm_up]
  repeat' split
  all_goals first | rfl | (exfalso; omega)
theorem ft_c (M : xm_Mem) (s e : Int) (hs : M 50 10 = s) : xm_up (xm_up (xm_up (xm_up M 50 10 e) 50 11 0) 50 11 1) 50 10 (M 50 10) = y_ft M s := by
  rw [hs]
  unfold y_ft
  funext c k
  simp only [xm_up]
  repeat' split
  all_goals first | rfl | (exfalso; omega)
theorem up_0 {M : xm_Mem} {e : Int} (hf : M 50 11 = 0) : xm_up (xm_up M 50 10 e) 50 11 0 = xm_up M 50 10 e := by
  have : xm_up M 50 10 e 50 11 = 0 := by rw [xu_k (by omega)]; exact hf
  rw [← this]
  exact xu_id
theorem tk_a (M : xm_Mem) (e v : Int) : xm_up (xm_up (xm_up M 50 10 e) 57 (M 50 18) v) 50 18 (M 50 18 + 1) = y_tk M v e := by
  unfold y_tk
  funext c k
  simp only [xm_up]
  repeat' split
  all_goals first | rfl | (exfalso; omega)
theorem sp201 {p row e : Int} {D : Nat} (hT : y_txt M t n) (hr : M 50 10 = s) (hs : 0 ≤ s ∧ s < n ∧ t s ≠ 32) (hk : x_kn (t s) = 2) (he : x_te t n s e) (hf : M 50 11 = 0) (hp : p = 0 ∧ row ≠ 4 ∨ p = 1 ∧ row = 4) (hD : D ≤ 4) (h18 : 0 ≤ M 50 18 ∧ M 50 18 < 2400) (h58 : xm_in (M 50 18 - M 58 D)) (h1 : x_alw row (x_nv t s e) → M 50 18 - M 58 D ≠ 400 → Q [] (y_tk M (x_nv t s e) e)) (h0 : ¬ (x_alw row (x_nv t s e) ∧ M 50 18 - M 58 D ≠ 400) → Q [] (y_ft M s)) : xm_call true (d + 4) 201 [.inr (.inr 50), .inl p, .inl (D : Int)] M Q := by
  have nx : y_nx t n s s := nx_id hT.1 (by omega) (fun _ => hs.2.2)
  have un := fun a b => te_one (e := a) (e' := b) hT.1 hs.1
  have nb := (nv_in hT.1 hs.1 he hk).2
  unfold x_alw at h1 h0
  have term : ∀ e' : Int, x_te t n s e' → (row ≠ 4 ∧ 0 ≤ x_nv t s e ∧ x_nv t s e ≤ 20 ∨ row = 4 ∧ (x_nv t s e = 0 ∨ x_nv t s e = 2 ∨ x_nv t s e = 3)) → xm_call true (d + 3) 200 [.inr (.inr 50), .inl (x_nv t s e), .inl (D : Int)] (xm_up (xm_up M 50 10 e) 50 11 0) (fun v6 M7 => xm_kv ((xm_in (M7 50 11)) ∧ (((M7 50 11) = 0 → Q [] (xm_up M7 50 10 (M7 50 10))) ∧ ((M7 50 11) ≠ 0 → Q [] (xm_up M7 50 10 (M 50 10))))) v6) := by
    intro e' he' al
    rw [up_0 hf]
    refine sp200 (by omega) (by rw [xu_k (by omega)]; exact h18) (by rw [xu_k (by omega), xu_c (by omega)]; exact h58) (fun g => xq_kv ?_) (fun g => xq_kv ?_)
    · rw [xu_k (by omega), xu_c (by omega)] at g
      rw [xu_k (k := 10) (by omega), tk_a, xu_id]
      have z : y_tk M (x_nv t s e) e 50 11 = 0 := by
        unfold y_tk
        rw [xu_k (by omega), xu_k (by omega), xu_c (by omega)]; exact hf
      rw [z]
      exact ⟨by omega, fun _ => h1 (by omega) g, fun q => absurd rfl q⟩
    · rw [xu_k (by omega), xu_c (by omega)] at g
      rw [xu_s]
      refine ⟨by omega, fun q => by omega, fun _ => ?_⟩
      rw [ft_b M s e hr 0]
      exact h0 (fun q => q.2 g)
  refine en201r50 (rg201r50_0 ⟨by omega, fun g => ?_, fun g => ?_⟩)
  · refine sp199 hT hr nx hf (by omega) (fun e' q1 q2 he' b => xq_ki ?_) (fun q => xq_ki ?_) (fun _ => ⟨e, he⟩) un
    · have ee := un _ _ he he'
      subst ee
      rw [xu_k (k' := 11) (by omega), hf]
      refine ⟨by omega, fun q => absurd rfl q, fun _ => ⟨by omega, fun _ => ⟨Or.inl rfl, by omega, fun q => absurd rfl q, fun _ => term e he (by omega)⟩, fun q => absurd g q⟩⟩
    · rw [xu_s, ft_a M s e 0 hr]
      have := q hs.2.1 hk e he
      have f := h0 (by omega)
      exact ⟨by omega, fun _ => ⟨by omega, fun _ => ⟨by omega, fun q => by omega, fun _ => f⟩, fun q => by omega⟩, fun q => by omega⟩
  · refine sp199 hT hr nx hf (by omega) (fun e' q1 q2 he' b => xq_ki ?_) (fun q => xq_ki ?_) (fun _ => ⟨e, he⟩) un
    · have ee := un _ _ he he'
      subst ee
      rw [xu_k (k' := 11) (by omega), hf]
      refine ⟨by omega, fun q => absurd rfl q, fun _ => ⟨by omega, fun q => absurd q g, fun _ => ⟨⟨by omega, by omega⟩, fun g2 => ⟨Or.inl rfl, by omega, fun q => absurd rfl q, fun _ => term e he (by omega)⟩, fun g2 => ⟨Or.inr rfl, by omega, fun _ => ⟨by omega, fun q => by omega, fun _ => ?_⟩, fun q => by omega⟩⟩⟩⟩
      rw [ft_b M s e hr 0]
      exact h0 (by omega)
    · rw [xu_s, ft_a M s e 0 hr]
      have := q hs.2.1 hk e he
      have f := h0 (by omega)
      exact ⟨by omega, fun _ => ⟨by omega, fun _ => ⟨by omega, fun q => by omega, fun _ => f⟩, fun q => by omega⟩, fun q => by omega⟩
theorem lo202 {cs : xm_C} {D at' tm many : Int} (hm : 1 ≤ many ∧ many ≤ 400) (htm : 1 ≤ tm ∧ tm ≤ 9) (hf : M 50 11 = 0) (h18 : many ≤ M 50 18 ∧ M 50 18 + many * (tm - 1) ≤ 2400) {K : Nat} (hK : (K : Int) = many * (tm - 1)) (h : Q [] (y_rp M many K)) : ∀ (r j : Nat), j + r = K → wp202r50_83 cs Q D at' tm many j (y_rp M many j)
  | 0, j, e0 => by
    have e : j = K := by omega
    subst e
    have b : many * (tm - 1) ≤ 400 * 8 := Int.mul_le_mul hm.2 (by omega) (by omega) (by omega)
    exact rg202r50_83 ⟨⟨by omega, by omega⟩, fun _ => h, fun _ => by omega⟩
  | r + 1, j, e0 => by
    have ih := lo202 (cs := cs) (D := D) (at' := at') hm htm hf h18 hK h r (j + 1) (by omega)
    have b : many * (tm - 1) ≤ 400 * 8 := Int.mul_le_mul hm.2 (by omega) (by omega) (by omega)
    rw [y_rp] at ih
    have e18 := rp_18 (M := M) (many := many) j
    have e11 := rp_k (M := M) (many := many) (k := 11) (by omega) j
    refine rg202r50_83 ⟨⟨by omega, by omega⟩, fun _ => by omega, fun _ => ⟨by omega, fun g => by omega, fun _ => ⟨by omega, by omega, ih⟩⟩⟩
theorem sp202 {s2 : Int} {D : Nat} (hT : y_txt M t n) (hr : M 50 10 = s) (hs : 0 ≤ s ∧ s < n ∧ t s = 41) (hx : y_nx t n (s + 1) s2) (hf : M 50 11 = 0) (hD : 1 ≤ D ∧ D ≤ 4) (h18 : 0 ≤ M 50 18 ∧ M 50 18 ≤ 2000) (hm : 1 ≤ M 50 18 - M 58 D ∧ M 50 18 - M 58 D ≤ 400) (hp : 0 ≤ M 58 D - M 58 ((D : Int) - 1) ∧ M 58 D - M 58 ((D : Int) - 1) ≤ 400 ∧ 0 ≤ M 58 ((D : Int) - 1)) (hex : s2 < n → ∃ e : Int, x_te t n s2 e) (h1 : ∀ e : Int, s2 < n → x_kn (t s2) = 2 → x_te t n s2 e → 1 ≤ x_nv t s2 e ∧ x_nv t s2 e ≤ 9 → M 58 D - M 58 ((D : Int) - 1) + (M 50 18 - M 58 D) * x_nv t s2 e ≤ 400 → ∀ K : Nat, (K : Int) = (M 50 18 - M 58 D) * (x_nv t s2 e - 1) → Q [] (y_rp (xm_up M 50 10 e) (M 50 18 - M 58 D) K)) (h0 : (s2 < n → x_kn (t s2) = 2 → ∀ e : Int, x_te t n s2 e → ¬ ((1 ≤ x_nv t s2 e ∧ x_nv t s2 e ≤ 9) ∧ M 58 D - M 58 ((D : Int) - 1) + (M 50 18 - M 58 D) * x_nv t s2 e ≤ 400)) → Q [] (y_ft M s2)) : xm_call true (d + 4) 202 [.inr (.inr 50), .inl (D : Int)] M Q := by
  have nx0 : y_nx t n s s := nx_id hT.1 (by omega) (fun _ => by omega)
  have n2 : 0 ≤ s2 := by have := hx.1; have := hx.2.1.1; omega
  have un := fun a b => te_one (e := a) (e' := b) hT.1 n2
  have nx2 : y_nx t n s2 s2 := nx_id hT.1 ⟨n2, hx.2.2.1⟩ hx.2.2.2
  refine en202r50 (rg202r50_0 (sp198 hT hr nx0 hf (by omega) (fun _ _ => xq_kv ?_) (fun g => absurd ⟨hs.2.1, hs.2.2⟩ g)))
  refine sp196 (ytx_up hT ⟨by omega, fun _ => by omega⟩) xu_s hx (xq_ki ?_)
  rw [xu_u]
  refine sp199 (s := s2) (ytx_up hT ⟨by omega, fun _ => by omega⟩) xu_s nx2 (by rw [xu_k (by omega)]; exact hf) (by omega) (fun e q1 q2 he b => xq_ki ?_) (fun q => xq_ki ?_) hex un
  · rw [xu_u]
    rw [xu_k (k' := 11) (by omega), xu_k (k' := 18) (by omega), xu_c (c' := 58) (by omega), xu_s, hf]
    refine ⟨by omega, by omega, fun q => absurd rfl q, fun _ => ⟨by omega, by omega, ?_, fun g => ?_, fun g => ⟨Or.inr rfl, ?_⟩⟩⟩
    · have b1 : (M 50 18 - M 58 D) * x_nv t s2 e ≤ 400 * 9 := Int.mul_le_mul hm.2 b.2 (by omega) (by omega)
      have b0 : 0 ≤ (M 50 18 - M 58 D) * x_nv t s2 e := Int.mul_nonneg (by omega) (by omega)
      exact ⟨⟨by omega, by omega⟩, by omega⟩
    · have b0 : 0 ≤ (M 50 18 - M 58 D) * (x_nv t s2 e - 1) := Int.mul_nonneg (by omega) (by omega)
      have b1 : (M 50 18 - M 58 D) * (x_nv t s2 e - 1) ≤ 400 := by
        rw [Int.mul_sub, Int.mul_one]; omega
      have hK : ((((M 50 18 - M 58 D) * (x_nv t s2 e - 1)).toNat : Nat) : Int) = (M 50 18 - M 58 D) * (x_nv t s2 e - 1) := by omega
      refine lo202 (M := xm_up M 50 10 e) hm b (by rw [xu_k (by omega)]; exact hf) (by rw [xu_k (by omega)]; omega) hK (h1 e q1 q2 he b g _ hK) ((M 50 18 - M 58 D) * (x_nv t s2 e - 1)).toNat 0 (by omega)
    · have f := h0 (fun _ _ e' he' => by rw [un _ _ he' he]; exact fun z => by omega)
      have fe : xm_up (xm_up (xm_up M 50 10 e) 50 11 1) 50 10 s2 = y_ft M s2 := by
        unfold y_ft
        funext c k
        simp only [xm_up]
        repeat' split
        all_goals first | rfl | (exfalso; omega)
      rw [fe]
      have z : y_ft M s2 50 11 = 1 := by unfold y_ft; rw [xu_s]
      have b1 : (M 50 18 - M 58 D) * (x_nv t s2 e - 1) ≤ 400 * 8 := Int.mul_le_mul hm.2 (by omega) (by omega) (by omega)
      have b0 : 0 ≤ (M 50 18 - M 58 D) * (x_nv t s2 e - 1) := Int.mul_nonneg (by omega) (by omega)
      refine rg202r50_83 ⟨⟨by omega, by omega⟩, fun _ => f, fun _ => ⟨by rw [z]; omega, fun _ => f, fun q => by rw [z] at q; omega⟩⟩
  · have f := h0 (fun q1 q2 e he z => q q1 q2 e he z.1)
    have fe : xm_up (xm_up (xm_up M 50 10 s2) 50 10 s2) 50 11 1 = y_ft M s2 := by unfold y_ft; rw [xu_u]
    rw [fe]
    have z : y_ft M s2 50 11 = 1 := by unfold y_ft; rw [xu_s]
    have z18 : y_ft M s2 50 18 = M 50 18 := by unfold y_ft; rw [xu_k (by omega), xu_k (by omega)]
    have z58 : y_ft M s2 58 = M 58 := by unfold y_ft; rw [xu_c (by omega), xu_c (by omega)]
    rw [z, z18, z58]
    refine ⟨by omega, by omega, fun _ => rg202r50_83 ⟨⟨by omega, by omega⟩, fun _ => f, fun _ => ⟨by rw [z]; omega, fun _ => f, fun q => by rw [z] at q; omega⟩⟩, fun q => by omega⟩
/-- the loop of a row comes to its end -/
theorem lo203_166 {cs : xm_C} {row x2 x3 x4 : Int} (hr : 0 ≤ row ∧ row ≤ 4) (hf : M 50 11 = 0) {K : Nat} (hK : M 50 18 = K ∧ K ≤ 400) (h : Q [] (xm_up (y_cy M row K) 56 row K)) : ∀ (r k : Nat), k + r = K → wp203r50_166 cs Q row x2 x3 x4 k (y_cy M row k)
  | 0, k, e0 => by
    have e : k = K := by omega
    subst e
    refine rg203r50_166 ?_
    rw [cy_c (by omega), hK.1]
    exact ⟨⟨by omega, by omega⟩, fun _ => ⟨by omega, h⟩, fun _ => by omega⟩
  | r + 1, k, e0 => by
    have ih := lo203_166 (cs := cs) (x2 := x2) (x3 := x3) (x4 := x4) hr hf hK h r (k + 1) (by omega)
    rw [y_cy] at ih
    refine rg203r50_166 ?_
    rw [cy_c (c := 50) (by omega), cy_c (c := 57) (by omega), hK.1, hf]
    exact ⟨⟨by omega, by omega⟩, fun _ => by omega, fun _ => ⟨by omega, fun q => absurd rfl q, fun _ => ⟨by omega, by omega, ih⟩⟩⟩
theorem lo203x {row D x3 hs : Int} {o : Option xm_V} (hr : 0 ≤ row ∧ row ≤ 4) (hD : 0 ≤ D ∧ D ≤ 5) (hx : x3 = 0 ∨ x3 = 1 ∧ M 50 11 = 1) (hf : M 50 11 = 0 ∨ M 50 11 = 1) (hh : hs = 0 ∨ hs = 1) (h18 : 0 ≤ M 50 18 ∧ M 50 18 ≤ 2400) (h1 : M 50 11 = 1 ∨ 0 < D ∨ hs = 0 → Q [] (xm_up (xm_up M 50 11 1) 56 row (M 50 18))) (h0 : M 50 11 = 0 → D = 0 → hs = 1 → M 50 18 ≤ 400 ∧ ∀ K : Nat, M 50 18 = K → Q [] (xm_up (y_cy M row K) 56 row K)) : wp203r50_19 (xm_call true d) Q row D x3 hs o M := by
  have fl : M 50 11 = 1 ∨ 0 < D ∨ hs = 0 → wp203r50_166 (xm_call true d) Q row D x3 hs 0 (xm_up M 50 11 1) := fun g => by
    refine rg203r50_166 ?_
    rw [xu_s, xu_k (by omega)]
    exact ⟨⟨by omega, by omega⟩, fun _ => ⟨by omega, h1 g⟩, fun _ => ⟨by omega, fun _ => ⟨by omega, h1 g⟩, fun q => by omega⟩⟩
  have ok : M 50 11 = 0 → D = 0 → hs = 1 → wp203r50_166 (xm_call true d) Q row D x3 hs 0 (xm_up M 50 11 0) := fun a b c => by
    have e : xm_up M 50 11 0 = M := by rw [← a]; exact xu_id
    rw [e]
    obtain ⟨z1, z2⟩ := h0 a b c
    have ek : M 50 18 = ((M 50 18).toNat : Int) := by omega
    exact lo203_166 hr a (K := (M 50 18).toNat) ⟨ek, by omega⟩ (z2 _ ek) (M 50 18).toNat 0 (by omega)
  refine rg203r50_19 ⟨by omega, fun g => ⟨by omega, fun g2 => ⟨Or.inr rfl, fl (by omega)⟩, fun g2 => ⟨by omega, fun g3 => ⟨Or.inr rfl, fl (by omega)⟩, fun g3 => ⟨by omega, fun g4 => ⟨Or.inl rfl, ok g2 (by omega) (by omega)⟩, fun g4 => ⟨Or.inr rfl, fl (by omega)⟩⟩⟩⟩, fun g => ⟨by omega, fun g2 => ⟨by omega, fun _ => ⟨Or.inr rfl, fl (by omega)⟩, fun q => absurd q g2⟩, fun g2 => by omega⟩⟩
/-- one step of the loop, by the letter that stands at s -/
theorem lo203s {row hs r : Int} {D : Nat} {o : Option xm_V} (hr : 0 ≤ row ∧ row ≤ 4) (hT : y_txt M t n) (h10 : M 50 10 = r) (hx : y_nx t n r s) (hf : M 50 11 = 0) (hD : D ≤ 4) (hh : hs = 0 ∨ hs = 1) (h18 : 0 ≤ M 50 18 ∧ M 50 18 ≤ 2000) (h58 : 0 ≤ M 50 18 - M 58 D ∧ M 50 18 - M 58 D ≤ 400)
    (hnum : s < n → x_kn (t s) = 2 → ∃ e : Int, x_te t n s e ∧ (x_alw row (x_nv t s e) → M 50 18 - M 58 D ≠ 400 → ∀ o, wp203r50_19 (xm_call true (d + 5)) Q row D 1 1 o (y_tk (xm_up M 50 10 s) (x_nv t s e) e)) ∧ (¬ (x_alw row (x_nv t s e) ∧ M 50 18 - M 58 D ≠ 400) → ∀ o, wp203r50_19 (xm_call true (d + 5)) Q row D 1 1 o (y_ft (xm_up M 50 10 s) s)))
    (hopen : s < n → t s = 40 → D < 4 → ∀ o, wp203r50_19 (xm_call true (d + 5)) Q row ((D : Int) + 1) 1 0 o (xm_up (xm_up (xm_up M 50 10 s) 58 ((D : Int) + 1) (M 50 18)) 50 10 (s + 1)))
    (hclose : s < n → t s = 41 → 1 ≤ D → hs = 1 → ∀ o, xm_call true (d + 5) 202 [.inr (.inr 50), .inl (D : Int)] (xm_up M 50 10 s) (fun v7 M8 => xm_kv (wp203r50_19 (xm_call true (d + 5)) Q row ((D : Int) + (-1)) 1 hs o M8) v7))
    (hoth : ¬ (s < n ∧ x_kn (t s) = 2) → ¬ (s < n ∧ t s = 40 ∧ D < 4) → ¬ (s < n ∧ t s = 41 ∧ 1 ≤ D ∧ hs = 1) → ∀ o, wp203r50_19 (xm_call true (d + 5)) Q row D 0 hs o (xm_up M 50 10 s)) : wp203r50_19 (xm_call true (d + 5)) Q row D 1 hs o M := by
  have n0 : 0 ≤ s := by have := hx.1; have := hx.2.1.1; omega
  have tb := hT.1.2.2 s n0
  have hT1 : y_txt (xm_up M 50 10 s) t n := ytx_up hT ⟨by omega, fun _ => by omega⟩
  have k2 := kn2 (c := t s)
  refine rg203r50_19 ⟨by omega, fun g => by omega, fun _ => ⟨by omega, fun g => absurd hf g, fun _ => sp196 hT h10 hx (xq_ki ?_)⟩⟩
  refine sp197 (by split <;> omega) (fun g => xq_ki (xq_n1 ?_)) (fun g => xq_ki (xq_b3 ?_))
  · have sn : s < n := by
      split at g
      · assumption
      · omega
    rw [if_pos sn] at g
    obtain ⟨e, he, a1, a0⟩ := hnum sn (k2.mpr g)
    have e18 : xm_up M 50 10 s 50 18 = M 50 18 := xu_k (by omega)
    have e58 : xm_up M 50 10 s 58 = M 58 := xu_c (by omega)
    refine ⟨⟨by omega, by omega⟩, fun q => sp201 hT1 xu_s ⟨n0, sn, hx.2.2.2 sn⟩ (k2.mpr g) he (by rw [xu_k (by omega)]; exact hf) (Or.inl ⟨rfl, q⟩) hD (by rw [e18]; omega) (by rw [e18, e58]; exact ⟨by omega, by omega⟩) (fun al rm => xq_kv (a1 al (by rw [e18, e58] at rm; exact rm) _)) (fun z => xq_kv (a0 (by rw [e18, e58] at z; exact z) _)), fun q => sp201 hT1 xu_s ⟨n0, sn, hx.2.2.2 sn⟩ (k2.mpr g) he (by rw [xu_k (by omega)]; exact hf) (Or.inr ⟨rfl, q⟩) hD (by rw [e18]; omega) (by rw [e18, e58]; exact ⟨by omega, by omega⟩) (fun al rm => xq_kv (a1 al (by rw [e18, e58] at rm; exact rm) _)) (fun z => xq_kv (a0 (by rw [e18, e58] at z; exact z) _))⟩
  · have nn : ¬ (s < n ∧ x_kn (t s) = 2) := fun q => by
      rw [if_pos q.1] at g
      exact g (k2.mp q.2)
    generalize hc : (if s < n then t s else 0) = c at *
    have cb : 0 ≤ c ∧ c ≤ 255 := by
      split at hc <;> omega
    have rp : ∀ w : Int, w ≠ 0 → c = w → s < n ∧ t s = w := fun w hw q => by
      split at hc
      · exact ⟨by assumption, by omega⟩
      · omega
    have pr : ∀ w : Int, s < n → t s = w → c = w := fun w q1 q2 => by
      rw [if_pos q1] at hc; omega
    refine ⟨⟨by omega, by omega⟩, fun g1 => ?_, fun g1 => ?_⟩
    · have n40 : ¬ (s < n ∧ t s = 40 ∧ D < 4) := fun q => g1 (pr 40 q.1 q.2.1)
      refine ⟨⟨by omega, by omega⟩, fun g2 => hoth nn n40 (fun q => g2 (pr 41 q.1 q.2.1)) _, fun g2 => ⟨by omega, fun g3 => hoth nn n40 (fun q => by omega) _, fun g3 => ⟨by omega, fun g4 => hoth nn n40 (fun q => by omega) _, fun g4 => ?_⟩⟩⟩
      have z := rp 41 (by omega) g2
      exact hclose z.1 z.2 (by omega) (by omega) _
    · have z := rp 40 (by omega) g1
      refine ⟨⟨by omega, by omega⟩, fun g2 => ⟨⟨by omega, by omega⟩, fun _ => hoth nn (fun q => by omega) (fun q => by omega) _, fun g3 => by omega⟩, fun g2 => ⟨by omega, ?_⟩⟩
      have := hopen z.1 z.2 (by omega) (some (.inl c))
      rw [xu_k (k' := 18) (by omega), xu_s]
      exact this
end YO
