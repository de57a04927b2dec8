/-! rows: single steps -/
/-- class cells from N, the reference's from B -/
def x_mx (N B : xm_Mem) : xm_Mem := fun c => if c < 50 then N c else B c
theorem mx_r {N B : xm_Mem} {c : Nat} (h : 50 ≤ c) : x_mx N B c = B c := by unfold x_mx; rw [if_neg (by omega)]
theorem mx_l {N B : xm_Mem} {c : Nat} (h : c < 50) : x_mx N B c = N c := by unfold x_mx; rw [if_pos h]
theorem mx_up {N B : xm_Mem} {c : Nat} {k v : Int} (h : 50 ≤ c) : xm_up (x_mx N B) c k v = x_mx N (xm_up B c k v) := by
  funext c' k'
  by_cases g : c' < 50
  · rw [xu_c (by omega), mx_l g, mx_l g]
  · rw [mx_r (by omega)]
    by_cases e : c' = c
    · subst e
      simp only [xm_up, if_true]
      rw [mx_r h]
    · rw [xu_c e, xu_c e, mx_r (by omega)]
section RO
variable {d : Nat} {Q : xm_K} {M : xm_Mem} {t : Int → Int} {n m i : Int} {E : Int → Int}
theorem sp135 {x : Int} (hx : 0 ≤ x ∧ x < 5) (h : Q [.inl (M 10 x)] M) : xm_call true (d + 1) 135 [.inr (.inr 8), .inl x] M Q :=
  en135r8 (rg135r8_0 ⟨by omega, fun _ => by omega, fun _ => ⟨⟨by omega, by omega⟩, fun _ => by omega, fun _ => ⟨hx, h⟩⟩⟩)
theorem sp136 {x v : Int} (hx : 0 ≤ x ∧ x < 5) (h : Q [] (xm_up M 10 x v)) : xm_call true (d + 1) 136 [.inr (.inr 8), .inl x, .inl v] M Q :=
  en136r8 (rg136r8_0 ⟨by omega, fun _ => by omega, fun _ => ⟨⟨by omega, by omega⟩, fun _ => by omega, fun _ => ⟨hx, h⟩⟩⟩)
theorem sp137 {x : Int} (hx : 0 ≤ x ∧ x ≤ 5) (h : Q [.inl (x_sum (M 10) 0 x.toNat)] M) : xm_call true (d + 2) 137 [.inr (.inr 8), .inl x] M Q := by
  refine en137r8 (rg137r8_0 (sp27_10 (by omega) (by omega) (fun a k ha hk => xq_ki ?_)))
  have e1 : a = 0 := by omega
  have e2 : k = x.toNat := by omega
  rw [e1, e2]
  exact h
theorem sp171_11 {row x v : Int} (hr : 0 ≤ row ∧ row ≤ 4) (hx : 0 ≤ x ∧ x ≤ 99999) (h : Q [] (if x < 400 then xm_up M 12 (row * 400 + x) v else M)) : xm_call true (d + 1) 171 [.inr (.inr 11), .inl row, .inl x, .inl v] M Q := by
  refine en171r11 (rg171r11_0 ⟨by omega, fun _ => by omega, fun _ => ⟨⟨by omega, by omega⟩, fun _ => by omega, fun _ => ⟨by omega, fun _ => by omega, fun _ => ⟨⟨by omega, by omega⟩, fun g => ⟨by omega, ?_⟩, fun g => ?_⟩⟩⟩⟩)
  · rw [if_pos g] at h; exact h
  · rw [if_neg (by omega)] at h; exact h
theorem sp172_11 {row x : Int} (hr : 0 ≤ row ∧ row ≤ 4) (hx : 0 ≤ x ∧ x ≤ 99999) (h : Q [.inl (if x < 400 then M 12 (row * 400 + x) else 0)] M) : xm_call true (d + 1) 172 [.inr (.inr 11), .inl row, .inl x] M Q := by
  refine en172r11 (rg172r11_0 ⟨by omega, fun _ => by omega, fun _ => ⟨⟨by omega, by omega⟩, fun _ => by omega, fun _ => ⟨by omega, fun _ => by omega, fun _ => ⟨⟨by omega, by omega⟩, fun g => ⟨by omega, ?_⟩, fun g => ?_⟩⟩⟩⟩)
  · rw [if_pos g] at h; exact h
  · rw [if_neg (by omega)] at h; exact h
theorem sp171_14 {row x v : Int} (hr : 0 ≤ row ∧ row ≤ 4) (hx : 0 ≤ x ∧ x ≤ 99999) (h : Q [] (if x < 400 then xm_up M 15 (row * 400 + x) v else M)) : xm_call true (d + 1) 171 [.inr (.inr 14), .inl row, .inl x, .inl v] M Q := by
  refine en171r14 (rg171r14_0 ⟨by omega, fun _ => by omega, fun _ => ⟨⟨by omega, by omega⟩, fun _ => by omega, fun _ => ⟨by omega, fun _ => by omega, fun _ => ⟨⟨by omega, by omega⟩, fun g => ⟨by omega, ?_⟩, fun g => ?_⟩⟩⟩⟩)
  · rw [if_pos g] at h; exact h
  · rw [if_neg (by omega)] at h; exact h
theorem sp172_14 {row x : Int} (hr : 0 ≤ row ∧ row ≤ 4) (hx : 0 ≤ x ∧ x ≤ 99999) (h : Q [.inl (if x < 400 then M 15 (row * 400 + x) else 0)] M) : xm_call true (d + 1) 172 [.inr (.inr 14), .inl row, .inl x] M Q := by
  refine en172r14 (rg172r14_0 ⟨by omega, fun _ => by omega, fun _ => ⟨⟨by omega, by omega⟩, fun _ => by omega, fun _ => ⟨by omega, fun _ => by omega, fun _ => ⟨⟨by omega, by omega⟩, fun g => ⟨by omega, ?_⟩, fun g => ?_⟩⟩⟩⟩)
  · rw [if_pos g] at h; exact h
  · rw [if_neg (by omega)] at h; exact h
/-- a row's number -/
def x_alw (row v : Int) : Prop := (row = 4 → v = 0 ∨ v = 2 ∨ v = 3) ∧ (row ≠ 4 → 0 ≤ v ∧ v ≤ 20)
theorem sum_bd {f : Int → Int} {D : Nat} (hD : D ≤ 4) (h : ∀ j : Nat, j ≤ D → 0 ≤ f j ∧ f j ≤ 400) : 0 ≤ x_sum f 0 (D + 1) ∧ x_sum f 0 (D + 1) ≤ 2000 := by
  have := x_sum_bd (f := f) (c := 400) (D + 1) 0 (fun s a b => by
    have := h s.toNat (by omega)
    rw [show ((s.toNat : Nat) : Int) = s by omega] at this
    exact this)
  omega
theorem sp131_11 {row : Int} {D : Nat} (h : x_cur M t n m E i) (hi : i < m) (hk : M 5 i = 2) (hr : 0 ≤ row ∧ row ≤ 4) (h8 : M 8 1 = D) (hD : D ≤ 4) (h10 : ∀ j : Nat, j ≤ D → 0 ≤ M 10 j ∧ M 10 j ≤ 400) (h1 : x_alw row (M 7 i) → M 10 D < 400 → Q [.inl 1] (xm_up (xm_up (if x_sum (M 10) 0 (D + 1) < 400 then xm_up M 12 (row * 400 + x_sum (M 10) 0 (D + 1)) (M 7 i) else M) 10 D (M 10 D + 1)) 4 4 (i + 1))) (h0 : ¬ (x_alw row (M 7 i) ∧ M 10 D < 400) → Q [.inl 0] M) : xm_call true (d + 3) 131 [.inr (.inr 8), .inr (.inr 4), .inr (.inr 11), .inl row] M Q := by
  have k := cur_tok h
  have k4 := k.2.2.2 hi
  have nv := nv_in h.1 k.1.1 k4.2.2.1 (by omega)
  have v := k4.2.2.2.2.1.1 (by omega)
  have hDD := h10 D (Nat.le_refl _)
  have sb := sum_bd hD h10
  have go : x_alw row (M 7 i) → xm_call true (d + 2) 135 [.inr (.inr 8), .inl (M 8 1)] M (fun v34 M35 => xm_ki (fun r36 => (xm_in r36 ∧ xm_in 400) ∧ ((r36 < 400 → xm_call true (d + 2) 137 [.inr (.inr 8), .inl ((M35 8 1) + 1)] M35 (fun v37 M38 => xm_ki (fun r39 => xm_call true (d + 2) 171 [.inr (.inr 11), .inl row, .inl r39, .inl (M 7 i)] M38 (fun v40 M41 => xm_kv (xm_call true (d + 2) 135 [.inr (.inr 8), .inl (M41 8 1)] M41 (fun v42 M43 => xm_ki (fun r44 => xm_call true (d + 2) 136 [.inr (.inr 8), .inl (M41 8 1), .inl (r44 + 1)] M43 (fun v45 M46 => xm_kv (xm_call true (d + 2) 191 [.inr (.inr 4)] M46 (fun v47 M48 => xm_kv (((1 : Int) = 0 ∨ (1 : Int) = 1) ∧ Q [.inl 1] M48) v47)) v45)) v42)) v40)) v37)) ∧ (400 ≤ r36 → ((0 : Int) = 0 ∨ (0 : Int) = 1) ∧ Q [.inl 0] M35))) v34) := by
    intro al
    rw [h8]
    refine sp135 (by omega) (xq_ki ⟨⟨by omega, by omega⟩, fun g => ?_, fun g => ⟨Or.inl rfl, h0 (fun q => by have := q.2; omega)⟩⟩)
    rw [h8]
    refine sp137 (by omega) (xq_ki ?_)
    rw [show ((D : Int) + 1).toNat = D + 1 by omega]
    refine sp171_11 hr (by omega) (xq_kv ?_)
    have h1 := h1 al g
    have e8 : (if x_sum (M 10) 0 (D + 1) < 400 then xm_up M 12 (row * 400 + x_sum (M 10) 0 (D + 1)) (M 7 i) else M) 8 = M 8 := by split; exact xu_c (by omega); rfl
    have e10 : (if x_sum (M 10) 0 (D + 1) < 400 then xm_up M 12 (row * 400 + x_sum (M 10) 0 (D + 1)) (M 7 i) else M) 10 = M 10 := by split; exact xu_c (by omega); rfl
    have e4 : ∀ q : Nat, q = 4 ∨ q = 5 ∨ q = 6 ∨ q = 7 → (if x_sum (M 10) 0 (D + 1) < 400 then xm_up M 12 (row * 400 + x_sum (M 10) 0 (D + 1)) (M 7 i) else M) q = M q := fun q hq => by split; exact xu_c (by omega); rfl
    generalize (if x_sum (M 10) 0 (D + 1) < 400 then xm_up M 12 (row * 400 + x_sum (M 10) 0 (D + 1)) (M 7 i) else M) = P at *
    rw [e8, h8]
    refine sp135 (by omega) (xq_ki (sp136 (by omega) (xq_kv ?_)))
    rw [e10]
    refine sp191 (cur_keep h ?_ ?_ ?_ ?_) hi (xq_kv ⟨Or.inr rfl, h1⟩)
    · rw [xu_c (by omega)]; exact e4 4 (by omega)
    · rw [xu_c (by omega)]; exact e4 5 (by omega)
    · rw [xu_c (by omega)]; exact e4 6 (by omega)
    · rw [xu_c (by omega)]; exact e4 7 (by omega)
  have no : ¬ x_alw row (M 7 i) → Q [.inl 0] M := fun g => h0 (fun q => g q.1)
  unfold x_alw at go no
  refine en131r8r4r11 (rg131r8r4r11_0 (sp190 h (xq_ki ?_)))
  refine ⟨⟨by omega, by omega⟩, fun g => ⟨by omega, fun g2 => ⟨by omega, fun _ => ⟨Or.inl rfl, no (by omega)⟩, fun q => absurd rfl q⟩, fun g2 => ⟨⟨by omega, by omega⟩, fun g3 => ⟨by omega, fun _ => ⟨Or.inl rfl, no (by omega)⟩, fun q => absurd rfl q⟩, fun g3 => ⟨by omega, fun q => by omega, fun _ => go (by omega)⟩⟩⟩, fun g => ⟨by omega, fun g2 => ⟨by omega, fun q => by omega, fun _ => go (by omega)⟩, fun g2 => ⟨⟨by omega, by omega⟩, fun g3 => ⟨by omega, fun q => by omega, fun _ => go (by omega)⟩, fun g3 => ⟨⟨by omega, by omega⟩, fun g4 => ⟨by omega, fun _ => ⟨Or.inl rfl, no (by omega)⟩, fun q => absurd rfl q⟩, fun g4 => ⟨by omega, fun q => by omega, fun _ => go (by omega)⟩⟩⟩⟩⟩
/-- the class's copies -/
theorem lo133_11 {row L T bg x5 : Int} (hr : 0 ≤ row ∧ row ≤ 4) (hL : 1 ≤ L ∧ L ≤ 400) (hT : 1 ≤ T ∧ T ≤ 9) (hbg : 0 ≤ bg ∧ bg ≤ 2000) (h : ∀ N : xm_Mem, (∀ c : Nat, c ≠ 12 → N c = M c) → (∀ k : Int, ¬ (row * 400 + bg + L ≤ k ∧ k < row * 400 + 400) → N 12 k = M 12 k) → (∀ k : Int, bg + L ≤ k → k < bg + L * T → k < 400 → N 12 (row * 400 + k) = N 12 (row * 400 + k - L)) → wp133r8r4r11_85 (xm_call true (d + 1)) Q row L x5 T bg (L * T) N) : ∀ (r : Nat) (k : Int) (N : xm_Mem), k + r = L * T → L ≤ k → (∀ c : Nat, c ≠ 12 → N c = M c) → (∀ k : Int, ¬ (row * 400 + bg + L ≤ k ∧ k < row * 400 + 400) → N 12 k = M 12 k) → (∀ j : Int, bg + L ≤ j → j < bg + k → j < 400 → N 12 (row * 400 + j) = N 12 (row * 400 + j - L)) → wp133r8r4r11_85 (xm_call true (d + 1)) Q row L x5 T bg k N
  | 0, k, N, e0, hk, f1, f2, f3 => by
    have e : k = L * T := by omega
    subst e
    exact h N f1 f2 f3
  | r + 1, k, N, e0, hk, f1, f2, f3 => by
    have LT : L * T ≤ 400 * 9 := Int.mul_le_mul hL.2 hT.2 (by omega) (by omega)
    refine rg133r8r4r11_85 ⟨⟨by omega, by omega⟩, fun _ => by omega, fun _ => ?_⟩
    refine sp172_11 hr (by omega) (xq_ki (sp171_11 hr (by omega) (xq_kv ?_)))
    refine lo133_11 hr hL hT hbg h r (k + 1) _ (by omega) (by omega) (fun c hc => ?_) (fun j hj => ?_) (fun j a b e => ?_)
    · split
      · rw [xu_c hc]; exact f1 c hc
      · exact f1 c hc
    · split
      · rw [xu_k (by omega)]; exact f2 j hj
      · exact f2 j hj
    · by_cases q : j = bg + k
      · subst q
        rw [if_pos e, if_pos (by omega), xu_s, xu_k (by omega)]
        rw [show row * 400 + (bg + k - L) = row * 400 + (bg + k) - L by omega]
      · split
        · rw [xu_k (by omega), xu_k (by omega)]
          exact f3 j a (by omega) e
        · exact f3 j a (by omega) e
theorem sp131_14 {row : Int} {D : Nat} (h : x_cur M t n m E i) (hi : i < m) (hk : M 5 i = 2) (hr : 0 ≤ row ∧ row ≤ 4) (h8 : M 8 1 = D) (hD : D ≤ 4) (h10 : ∀ j : Nat, j ≤ D → 0 ≤ M 10 j ∧ M 10 j ≤ 400) (h1 : x_alw row (M 7 i) → M 10 D < 400 → Q [.inl 1] (xm_up (xm_up (if x_sum (M 10) 0 (D + 1) < 400 then xm_up M 15 (row * 400 + x_sum (M 10) 0 (D + 1)) (M 7 i) else M) 10 D (M 10 D + 1)) 4 4 (i + 1))) (h0 : ¬ (x_alw row (M 7 i) ∧ M 10 D < 400) → Q [.inl 0] M) : xm_call true (d + 3) 131 [.inr (.inr 8), .inr (.inr 4), .inr (.inr 14), .inl row] M Q := by
  have k := cur_tok h
  have k4 := k.2.2.2 hi
  have nv := nv_in h.1 k.1.1 k4.2.2.1 (by omega)
  have v := k4.2.2.2.2.1.1 (by omega)
  have hDD := h10 D (Nat.le_refl _)
  have sb := sum_bd hD h10
  have go : x_alw row (M 7 i) → xm_call true (d + 2) 135 [.inr (.inr 8), .inl (M 8 1)] M (fun v34 M35 => xm_ki (fun r36 => (xm_in r36 ∧ xm_in 400) ∧ ((r36 < 400 → xm_call true (d + 2) 137 [.inr (.inr 8), .inl ((M35 8 1) + 1)] M35 (fun v37 M38 => xm_ki (fun r39 => xm_call true (d + 2) 171 [.inr (.inr 14), .inl row, .inl r39, .inl (M 7 i)] M38 (fun v40 M41 => xm_kv (xm_call true (d + 2) 135 [.inr (.inr 8), .inl (M41 8 1)] M41 (fun v42 M43 => xm_ki (fun r44 => xm_call true (d + 2) 136 [.inr (.inr 8), .inl (M41 8 1), .inl (r44 + 1)] M43 (fun v45 M46 => xm_kv (xm_call true (d + 2) 191 [.inr (.inr 4)] M46 (fun v47 M48 => xm_kv (((1 : Int) = 0 ∨ (1 : Int) = 1) ∧ Q [.inl 1] M48) v47)) v45)) v42)) v40)) v37)) ∧ (400 ≤ r36 → ((0 : Int) = 0 ∨ (0 : Int) = 1) ∧ Q [.inl 0] M35))) v34) := by
    intro al
    rw [h8]
    refine sp135 (by omega) (xq_ki ⟨⟨by omega, by omega⟩, fun g => ?_, fun g => ⟨Or.inl rfl, h0 (fun q => by have := q.2; omega)⟩⟩)
    rw [h8]
    refine sp137 (by omega) (xq_ki ?_)
    rw [show ((D : Int) + 1).toNat = D + 1 by omega]
    refine sp171_14 hr (by omega) (xq_kv ?_)
    have h1 := h1 al g
    have e8 : (if x_sum (M 10) 0 (D + 1) < 400 then xm_up M 15 (row * 400 + x_sum (M 10) 0 (D + 1)) (M 7 i) else M) 8 = M 8 := by split; exact xu_c (by omega); rfl
    have e10 : (if x_sum (M 10) 0 (D + 1) < 400 then xm_up M 15 (row * 400 + x_sum (M 10) 0 (D + 1)) (M 7 i) else M) 10 = M 10 := by split; exact xu_c (by omega); rfl
    have e4 : ∀ q : Nat, q = 4 ∨ q = 5 ∨ q = 6 ∨ q = 7 → (if x_sum (M 10) 0 (D + 1) < 400 then xm_up M 15 (row * 400 + x_sum (M 10) 0 (D + 1)) (M 7 i) else M) q = M q := fun q hq => by split; exact xu_c (by omega); rfl
    generalize (if x_sum (M 10) 0 (D + 1) < 400 then xm_up M 15 (row * 400 + x_sum (M 10) 0 (D + 1)) (M 7 i) else M) = P at *
    rw [e8, h8]
    refine sp135 (by omega) (xq_ki (sp136 (by omega) (xq_kv ?_)))
    rw [e10]
    refine sp191 (cur_keep h ?_ ?_ ?_ ?_) hi (xq_kv ⟨Or.inr rfl, h1⟩)
    · rw [xu_c (by omega)]; exact e4 4 (by omega)
    · rw [xu_c (by omega)]; exact e4 5 (by omega)
    · rw [xu_c (by omega)]; exact e4 6 (by omega)
    · rw [xu_c (by omega)]; exact e4 7 (by omega)
  have no : ¬ x_alw row (M 7 i) → Q [.inl 0] M := fun g => h0 (fun q => g q.1)
  unfold x_alw at go no
  refine en131r8r4r14 (rg131r8r4r14_0 (sp190 h (xq_ki ?_)))
  refine ⟨⟨by omega, by omega⟩, fun g => ⟨by omega, fun g2 => ⟨by omega, fun _ => ⟨Or.inl rfl, no (by omega)⟩, fun q => absurd rfl q⟩, fun g2 => ⟨⟨by omega, by omega⟩, fun g3 => ⟨by omega, fun _ => ⟨Or.inl rfl, no (by omega)⟩, fun q => absurd rfl q⟩, fun g3 => ⟨by omega, fun q => by omega, fun _ => go (by omega)⟩⟩⟩, fun g => ⟨by omega, fun g2 => ⟨by omega, fun q => by omega, fun _ => go (by omega)⟩, fun g2 => ⟨⟨by omega, by omega⟩, fun g3 => ⟨by omega, fun q => by omega, fun _ => go (by omega)⟩, fun g3 => ⟨⟨by omega, by omega⟩, fun g4 => ⟨by omega, fun _ => ⟨Or.inl rfl, no (by omega)⟩, fun q => absurd rfl q⟩, fun g4 => ⟨by omega, fun q => by omega, fun _ => go (by omega)⟩⟩⟩⟩⟩
/-- the class's copies -/
theorem lo133_14 {row L T bg x5 : Int} (hr : 0 ≤ row ∧ row ≤ 4) (hL : 1 ≤ L ∧ L ≤ 400) (hT : 1 ≤ T ∧ T ≤ 9) (hbg : 0 ≤ bg ∧ bg ≤ 2000) (h : ∀ N : xm_Mem, (∀ c : Nat, c ≠ 15 → N c = M c) → (∀ k : Int, ¬ (row * 400 + bg + L ≤ k ∧ k < row * 400 + 400) → N 15 k = M 15 k) → (∀ k : Int, bg + L ≤ k → k < bg + L * T → k < 400 → N 15 (row * 400 + k) = N 15 (row * 400 + k - L)) → wp133r8r4r14_85 (xm_call true (d + 1)) Q row L x5 T bg (L * T) N) : ∀ (r : Nat) (k : Int) (N : xm_Mem), k + r = L * T → L ≤ k → (∀ c : Nat, c ≠ 15 → N c = M c) → (∀ k : Int, ¬ (row * 400 + bg + L ≤ k ∧ k < row * 400 + 400) → N 15 k = M 15 k) → (∀ j : Int, bg + L ≤ j → j < bg + k → j < 400 → N 15 (row * 400 + j) = N 15 (row * 400 + j - L)) → wp133r8r4r14_85 (xm_call true (d + 1)) Q row L x5 T bg k N
  | 0, k, N, e0, hk, f1, f2, f3 => by
    have e : k = L * T := by omega
    subst e
    exact h N f1 f2 f3
  | r + 1, k, N, e0, hk, f1, f2, f3 => by
    have LT : L * T ≤ 400 * 9 := Int.mul_le_mul hL.2 hT.2 (by omega) (by omega)
    refine rg133r8r4r14_85 ⟨⟨by omega, by omega⟩, fun _ => by omega, fun _ => ?_⟩
    refine sp172_14 hr (by omega) (xq_ki (sp171_14 hr (by omega) (xq_kv ?_)))
    refine lo133_14 hr hL hT hbg h r (k + 1) _ (by omega) (by omega) (fun c hc => ?_) (fun j hj => ?_) (fun j a b e => ?_)
    · split
      · rw [xu_c hc]; exact f1 c hc
      · exact f1 c hc
    · split
      · rw [xu_k (by omega)]; exact f2 j hj
      · exact f2 j hj
    · by_cases q : j = bg + k
      · subst q
        rw [if_pos e, if_pos (by omega), xu_s, xu_k (by omega)]
        rw [show row * 400 + (bg + k - L) = row * 400 + (bg + k) - L by omega]
      · split
        · rw [xu_k (by omega), xu_k (by omega)]
          exact f3 j a (by omega) e
        · exact f3 j a (by omega) e
theorem sp132 {D : Nat} (h : x_cur M t n m E i) (hi : i < m) (h8 : M 8 1 = D) (hD : D ≤ 4) (h1 : D < 4 → Q [.inl 1] (xm_up (xm_up (xm_up M 8 1 (D + 1)) 10 (D + 1) 0) 4 4 (i + 1))) (h0 : ¬ D < 4 → Q [.inl 0] M) : xm_call true (d + 2) 132 [.inr (.inr 8), .inr (.inr 4)] M Q := by
  refine en132r8r4 (rg132r8r4_0 ?_)
  rw [h8]
  refine ⟨⟨by omega, by omega⟩, fun g => sp136 (by omega) (xq_kv ?_), fun g => ⟨Or.inl rfl, h0 (by omega)⟩⟩
  refine sp191 (cur_keep h ?_ ?_ ?_ ?_) hi (xq_kv ⟨Or.inr rfl, h1 (by omega)⟩)
  · rw [xu_c (by omega), xu_c (by omega)]
  · rw [xu_c (by omega), xu_c (by omega)]
  · rw [xu_c (by omega), xu_c (by omega)]
  · rw [xu_c (by omega), xu_c (by omega)]
theorem sp133_11 {row : Int} {D : Nat} (h : x_cur M t n m E i) (hi : i < m) (hr : 0 ≤ row ∧ row ≤ 4) (h8 : M 8 1 = D) (hD : D ≤ 4) (h10 : ∀ j : Nat, j ≤ D → 0 ≤ M 10 j ∧ M 10 j ≤ 400) (hx : ¬ (1 ≤ D ∧ 1 ≤ M 10 D) → Q [.inl 0] M) (hn0 : 1 ≤ D → 1 ≤ M 10 D → ¬ (x_isn M (i + 1) 1 9 ∧ M 10 ((D : Int) - 1) + M 10 D * M 7 (i + 1) ≤ 400) → Q [.inl 0] (xm_up M 4 4 (i + 1))) (h1 : ∀ N : xm_Mem, 1 ≤ D → 1 ≤ M 10 D → i + 1 < m → x_isn M (i + 1) 1 9 → M 10 ((D : Int) - 1) + M 10 D * M 7 (i + 1) ≤ 400 → (∀ c : Nat, c ≠ 12 → c ≠ 4 → c ≠ 8 → c ≠ 10 → N c = M c) → (N 4 4 = i + 2 ∧ ∀ k : Int, k ≠ 4 → N 4 k = M 4 k) → N 8 1 = (D : Int) - 1 → (N 10 ((D : Int) - 1) = M 10 ((D : Int) - 1) + M 10 D * M 7 (i + 1) ∧ ∀ k : Int, k ≠ (D : Int) - 1 → N 10 k = M 10 k) → (∀ k : Int, ¬ (row * 400 + x_sum (M 10) 0 D + M 10 D ≤ k ∧ k < row * 400 + 400) → N 12 k = M 12 k) → (∀ k : Int, x_sum (M 10) 0 D + M 10 D ≤ k → k < x_sum (M 10) 0 D + M 10 D * M 7 (i + 1) → k < 400 → N 12 (row * 400 + k) = N 12 (row * 400 + k - M 10 D)) → Q [.inl 1] N) : xm_call true (d + 3) 133 [.inr (.inr 8), .inr (.inr 4), .inr (.inr 11), .inl row] M Q := by
  have hDD := h10 D (Nat.le_refl _)
  refine en133r8r4r11 (rg133r8r4r11_0 ?_)
  rw [h8]
  refine sp135 (by omega) (xq_ki ?_)
  rw [h8]
  refine ⟨⟨by omega, by omega⟩, fun g => ⟨Or.inl rfl, hx (by omega)⟩, fun g => ⟨⟨by omega, by omega⟩, fun g2 => ?_, fun g2 => ⟨Or.inl rfl, hx (by omega)⟩⟩⟩
  have hP := h10 (D - 1) (by omega)
  rw [show ((D - 1 : Nat) : Int) = (D : Int) - 1 by omega] at hP
  have hc' := cur_next h hi
  refine sp191 h hi (xq_kv ?_)
  rw [xu_c (c' := 8) (by omega), h8]
  refine sp135 (by omega) (xq_ki ?_)
  rw [xu_c (c' := 10) (by omega)]
  have td : Int.tdiv (400 - M 10 ((D : Int) - 1)) (M 10 D) = (400 - M 10 ((D : Int) - 1)) / M 10 D := Int.tdiv_eq_ediv_of_nonneg (by omega)
  have q0 : 0 ≤ (400 - M 10 ((D : Int) - 1)) / M 10 D := Int.ediv_nonneg (by omega) (by omega)
  have q1 : (400 - M 10 ((D : Int) - 1)) / M 10 D ≤ 400 := Int.le_trans (Int.ediv_le_self _ (by omega)) (by omega)
  have qm : ∀ v : Int, v ≤ (400 - M 10 ((D : Int) - 1)) / M 10 D ↔ M 10 ((D : Int) - 1) + M 10 D * v ≤ 400 := fun v => by
    rw [Int.le_ediv_iff_mul_le (by omega), Int.mul_comm v]
    omega
  rw [td]
  generalize (400 - M 10 ((D : Int) - 1)) / M 10 D = q at *
  refine ⟨⟨⟨by omega, by omega⟩, ⟨by omega, by omega⟩, by omega⟩, ⟨by omega, by omega⟩, ?_⟩
  refine sp128 hc' ⟨by omega, by split <;> omega⟩ (fun g3 hi2 => xq_ki ?_) (fun g3 => xq_ki ⟨⟨by omega, by omega⟩, fun e => absurd rfl e, fun _ => ⟨Or.inl rfl, hn0 (by omega) g2 (fun z => g3 ?_)⟩⟩)
  · obtain ⟨i1, i2, i3⟩ := g3
    rw [xu_c (by omega)] at i1 i2 i3
    have v9 : M 7 (i + 1) ≤ 9 ∧ M 7 (i + 1) ≤ q := by
      split at i3 <;> omega
    have room := (qm _).mp v9.2
    rw [xu_c (c' := 7) (by omega)]
    refine ⟨⟨by omega, by omega⟩, fun _ => ?_, fun e => by omega⟩
    rw [xu_c (c' := 8) (by omega), xu_c (c' := 8) (by omega), h8]
    refine sp137 (by omega) (xq_ki ?_)
    rw [xu_c (c' := 10) (by omega), xu_c (c' := 10) (by omega), Int.toNat_natCast]
    have sb := x_sum_bd (f := M 10) (c := 400) D 0 (fun s a b => by
      have := h10 s.toNat (by omega)
      rw [show ((s.toNat : Nat) : Int) = s by omega] at this
      exact this)
    have LT : 1 * 1 ≤ M 10 D * M 7 (i + 1) := Int.mul_le_mul g2 i2 (by omega) (by omega)
    have LT1 : M 10 D * 1 ≤ M 10 D * M 7 (i + 1) := Int.mul_le_mul_of_nonneg_left i2 (by omega)
    have LT2 : M 10 D * M 7 (i + 1) ≤ 400 * 9 := Int.mul_le_mul hDD.2 v9.1 (by omega) (by omega)
    rw [xu_u]
    refine lo133_11 (M := xm_up M 4 4 (i + 1 + 1)) hr ⟨g2, hDD.2⟩ ⟨i2, v9.1⟩ (by omega) (fun N f1 f2 f3 => ?_) (M 10 D * M 7 (i + 1) - M 10 D).toNat (M 10 D) _ (by omega) (Int.le_refl _) (fun _ _ => rfl) (fun _ _ => rfl) (fun j a b _ => by omega)
    have e8 : N 8 1 = D := by rw [f1 8 (by omega), xu_c (by omega)]; exact h8
    have e10 : N 10 = M 10 := by rw [f1 10 (by omega), xu_c (by omega)]
    refine rg133r8r4r11_85 ⟨⟨by omega, by omega⟩, fun _ => ?_, fun _ => by omega⟩
    rw [e8]
    refine sp135 (by omega) (xq_ki ?_)
    rw [xu_c (c' := 10) (by omega), e10]
    refine sp136 (by omega) (xq_kv ⟨Or.inr rfl, ?_⟩)
    refine h1 _ (by omega) g2 hi2 ⟨i1, i2, v9.1⟩ room (fun c a b e f => ?_) ⟨?_, fun k a => ?_⟩ ?_ ⟨?_, fun k a => ?_⟩ (fun k a => ?_) (fun k a b e => ?_)
    · rw [xu_c f, xu_c e, f1 c a, xu_c b]
    · rw [xu_c (by omega), xu_c (by omega), f1 4 (by omega), xu_s]; omega
    · rw [xu_c (by omega), xu_c (by omega), f1 4 (by omega), xu_k a]
    · rw [xu_c (by omega), xu_s]
    · rw [xu_s]
    · rw [xu_k a, xu_c (by omega), e10]
    · rw [xu_c (by omega), xu_c (by omega), f2 k (by omega), xu_c (by omega)]
    · rw [xu_c (by omega), xu_c (by omega)]
      exact f3 k a b e
  · obtain ⟨⟨i1, i2, i3⟩, i4⟩ := z
    refine ⟨?_, ?_, ?_⟩
    · rw [xu_c (by omega)]; exact i1
    · rw [xu_c (by omega)]; exact i2
    · rw [xu_c (by omega)]
      have := (qm _).mpr i4
      split <;> omega
theorem sp134_11 {row : Int} {D : Nat} (h : x_cur M t n m E i) (hi : i < m) (hr : 0 ≤ row ∧ row ≤ 4) (h8 : M 8 1 = D) (h10 : 0 ≤ M 10 0 ∧ M 10 0 ≤ 400) (h1 : D = 0 → 1 ≤ M 10 0 → Q [.inl 1] (xm_up (if row = 4 then xm_up M 13 row (M 10 0) else xm_up (xm_up M 13 row (M 10 0)) 11 5 (row + 1)) 4 4 (i + 1))) (h0 : ¬ (D = 0 ∧ 1 ≤ M 10 0) → Q [.inl 0] M) (hD : D ≤ 4) : xm_call true (d + 2) 134 [.inr (.inr 8), .inr (.inr 4), .inr (.inr 11), .inl row] M Q := by
  refine en134r8r4r11 (rg134r8r4r11_0 ?_)
  rw [h8]
  refine ⟨by omega, fun g => ⟨Or.inl rfl, h0 (by omega)⟩, fun g => sp135 (by omega) (xq_ki ⟨⟨by omega, by omega⟩, fun g2 => sp135 (by omega) (xq_ki ?_), fun g2 => ⟨Or.inl rfl, h0 (by omega)⟩⟩)⟩
  have h1 := h1 (by omega) g2
  refine en167r11 (rg167r11_0 ⟨by omega, fun _ => by omega, fun _ => ⟨⟨by omega, by omega⟩, fun _ => by omega, fun _ => ⟨by omega, fun _ => by omega, fun _ => ⟨⟨by omega, by omega⟩, fun _ => ⟨by omega, ⟨by omega, by omega⟩, fun g3 => xq_kv ?_, fun g3 => xq_kv ?_⟩, fun _ => by omega⟩⟩⟩⟩)
  · rw [if_pos g3] at h1
    refine sp191 (cur_keep h ?_ ?_ ?_ ?_) hi (xq_kv ⟨Or.inr rfl, h1⟩)
    all_goals rw [xu_c (by omega)]
  · rw [if_neg g3] at h1
    refine sp191 (cur_keep h ?_ ?_ ?_ ?_) hi (xq_kv ⟨Or.inr rfl, h1⟩)
    all_goals rw [xu_c (by omega), xu_c (by omega)]
theorem sp133_14 {row : Int} {D : Nat} (h : x_cur M t n m E i) (hi : i < m) (hr : 0 ≤ row ∧ row ≤ 4) (h8 : M 8 1 = D) (hD : D ≤ 4) (h10 : ∀ j : Nat, j ≤ D → 0 ≤ M 10 j ∧ M 10 j ≤ 400) (hx : ¬ (1 ≤ D ∧ 1 ≤ M 10 D) → Q [.inl 0] M) (hn0 : 1 ≤ D → 1 ≤ M 10 D → ¬ (x_isn M (i + 1) 1 9 ∧ M 10 ((D : Int) - 1) + M 10 D * M 7 (i + 1) ≤ 400) → Q [.inl 0] (xm_up M 4 4 (i + 1))) (h1 : ∀ N : xm_Mem, 1 ≤ D → 1 ≤ M 10 D → i + 1 < m → x_isn M (i + 1) 1 9 → M 10 ((D : Int) - 1) + M 10 D * M 7 (i + 1) ≤ 400 → (∀ c : Nat, c ≠ 15 → c ≠ 4 → c ≠ 8 → c ≠ 10 → N c = M c) → (N 4 4 = i + 2 ∧ ∀ k : Int, k ≠ 4 → N 4 k = M 4 k) → N 8 1 = (D : Int) - 1 → (N 10 ((D : Int) - 1) = M 10 ((D : Int) - 1) + M 10 D * M 7 (i + 1) ∧ ∀ k : Int, k ≠ (D : Int) - 1 → N 10 k = M 10 k) → (∀ k : Int, ¬ (row * 400 + x_sum (M 10) 0 D + M 10 D ≤ k ∧ k < row * 400 + 400) → N 15 k = M 15 k) → (∀ k : Int, x_sum (M 10) 0 D + M 10 D ≤ k → k < x_sum (M 10) 0 D + M 10 D * M 7 (i + 1) → k < 400 → N 15 (row * 400 + k) = N 15 (row * 400 + k - M 10 D)) → Q [.inl 1] N) : xm_call true (d + 3) 133 [.inr (.inr 8), .inr (.inr 4), .inr (.inr 14), .inl row] M Q := by
  have hDD := h10 D (Nat.le_refl _)
  refine en133r8r4r14 (rg133r8r4r14_0 ?_)
  rw [h8]
  refine sp135 (by omega) (xq_ki ?_)
  rw [h8]
  refine ⟨⟨by omega, by omega⟩, fun g => ⟨Or.inl rfl, hx (by omega)⟩, fun g => ⟨⟨by omega, by omega⟩, fun g2 => ?_, fun g2 => ⟨Or.inl rfl, hx (by omega)⟩⟩⟩
  have hP := h10 (D - 1) (by omega)
  rw [show ((D - 1 : Nat) : Int) = (D : Int) - 1 by omega] at hP
  have hc' := cur_next h hi
  refine sp191 h hi (xq_kv ?_)
  rw [xu_c (c' := 8) (by omega), h8]
  refine sp135 (by omega) (xq_ki ?_)
  rw [xu_c (c' := 10) (by omega)]
  have td : Int.tdiv (400 - M 10 ((D : Int) - 1)) (M 10 D) = (400 - M 10 ((D : Int) - 1)) / M 10 D := Int.tdiv_eq_ediv_of_nonneg (by omega)
  have q0 : 0 ≤ (400 - M 10 ((D : Int) - 1)) / M 10 D := Int.ediv_nonneg (by omega) (by omega)
  have q1 : (400 - M 10 ((D : Int) - 1)) / M 10 D ≤ 400 := Int.le_trans (Int.ediv_le_self _ (by omega)) (by omega)
  have qm : ∀ v : Int, v ≤ (400 - M 10 ((D : Int) - 1)) / M 10 D ↔ M 10 ((D : Int) - 1) + M 10 D * v ≤ 400 := fun v => by
    rw [Int.le_ediv_iff_mul_le (by omega), Int.mul_comm v]
    omega
  rw [td]
  generalize (400 - M 10 ((D : Int) - 1)) / M 10 D = q at *
  refine ⟨⟨⟨by omega, by omega⟩, ⟨by omega, by omega⟩, by omega⟩, ⟨by omega, by omega⟩, ?_⟩
  refine sp128 hc' ⟨by omega, by split <;> omega⟩ (fun g3 hi2 => xq_ki ?_) (fun g3 => xq_ki ⟨⟨by omega, by omega⟩, fun e => absurd rfl e, fun _ => ⟨Or.inl rfl, hn0 (by omega) g2 (fun z => g3 ?_)⟩⟩)
  · obtain ⟨i1, i2, i3⟩ := g3
    rw [xu_c (by omega)] at i1 i2 i3
    have v9 : M 7 (i + 1) ≤ 9 ∧ M 7 (i + 1) ≤ q := by
      split at i3 <;> omega
    have room := (qm _).mp v9.2
    rw [xu_c (c' := 7) (by omega)]
    refine ⟨⟨by omega, by omega⟩, fun _ => ?_, fun e => by omega⟩
    rw [xu_c (c' := 8) (by omega), xu_c (c' := 8) (by omega), h8]
    refine sp137 (by omega) (xq_ki ?_)
    rw [xu_c (c' := 10) (by omega), xu_c (c' := 10) (by omega), Int.toNat_natCast]
    have sb := x_sum_bd (f := M 10) (c := 400) D 0 (fun s a b => by
      have := h10 s.toNat (by omega)
      rw [show ((s.toNat : Nat) : Int) = s by omega] at this
      exact this)
    have LT : 1 * 1 ≤ M 10 D * M 7 (i + 1) := Int.mul_le_mul g2 i2 (by omega) (by omega)
    have LT1 : M 10 D * 1 ≤ M 10 D * M 7 (i + 1) := Int.mul_le_mul_of_nonneg_left i2 (by omega)
    have LT2 : M 10 D * M 7 (i + 1) ≤ 400 * 9 := Int.mul_le_mul hDD.2 v9.1 (by omega) (by omega)
    rw [xu_u]
    refine lo133_14 (M := xm_up M 4 4 (i + 1 + 1)) hr ⟨g2, hDD.2⟩ ⟨i2, v9.1⟩ (by omega) (fun N f1 f2 f3 => ?_) (M 10 D * M 7 (i + 1) - M 10 D).toNat (M 10 D) _ (by omega) (Int.le_refl _) (fun _ _ => rfl) (fun _ _ => rfl) (fun j a b _ => by omega)
    have e8 : N 8 1 = D := by rw [f1 8 (by omega), xu_c (by omega)]; exact h8
    have e10 : N 10 = M 10 := by rw [f1 10 (by omega), xu_c (by omega)]
    refine rg133r8r4r14_85 ⟨⟨by omega, by omega⟩, fun _ => ?_, fun _ => by omega⟩
    rw [e8]
    refine sp135 (by omega) (xq_ki ?_)
    rw [xu_c (c' := 10) (by omega), e10]
    refine sp136 (by omega) (xq_kv ⟨Or.inr rfl, ?_⟩)
    refine h1 _ (by omega) g2 hi2 ⟨i1, i2, v9.1⟩ room (fun c a b e f => ?_) ⟨?_, fun k a => ?_⟩ ?_ ⟨?_, fun k a => ?_⟩ (fun k a => ?_) (fun k a b e => ?_)
    · rw [xu_c f, xu_c e, f1 c a, xu_c b]
    · rw [xu_c (by omega), xu_c (by omega), f1 4 (by omega), xu_s]; omega
    · rw [xu_c (by omega), xu_c (by omega), f1 4 (by omega), xu_k a]
    · rw [xu_c (by omega), xu_s]
    · rw [xu_s]
    · rw [xu_k a, xu_c (by omega), e10]
    · rw [xu_c (by omega), xu_c (by omega), f2 k (by omega), xu_c (by omega)]
    · rw [xu_c (by omega), xu_c (by omega)]
      exact f3 k a b e
  · obtain ⟨⟨i1, i2, i3⟩, i4⟩ := z
    refine ⟨?_, ?_, ?_⟩
    · rw [xu_c (by omega)]; exact i1
    · rw [xu_c (by omega)]; exact i2
    · rw [xu_c (by omega)]
      have := (qm _).mpr i4
      split <;> omega
theorem sp134_14 {row : Int} {D : Nat} (h : x_cur M t n m E i) (hi : i < m) (hr : 0 ≤ row ∧ row ≤ 4) (h8 : M 8 1 = D) (h10 : 0 ≤ M 10 0 ∧ M 10 0 ≤ 400) (h1 : D = 0 → 1 ≤ M 10 0 → Q [.inl 1] (xm_up (if row = 4 then xm_up M 16 row (M 10 0) else xm_up (xm_up M 16 row (M 10 0)) 14 5 (row + 1)) 4 4 (i + 1))) (h0 : ¬ (D = 0 ∧ 1 ≤ M 10 0) → Q [.inl 0] M) (hD : D ≤ 4) : xm_call true (d + 2) 134 [.inr (.inr 8), .inr (.inr 4), .inr (.inr 14), .inl row] M Q := by
  refine en134r8r4r14 (rg134r8r4r14_0 ?_)
  rw [h8]
  refine ⟨by omega, fun g => ⟨Or.inl rfl, h0 (by omega)⟩, fun g => sp135 (by omega) (xq_ki ⟨⟨by omega, by omega⟩, fun g2 => sp135 (by omega) (xq_ki ?_), fun g2 => ⟨Or.inl rfl, h0 (by omega)⟩⟩)⟩
  have h1 := h1 (by omega) g2
  refine en167r14 (rg167r14_0 ⟨by omega, fun _ => by omega, fun _ => ⟨⟨by omega, by omega⟩, fun _ => by omega, fun _ => ⟨by omega, fun _ => by omega, fun _ => ⟨⟨by omega, by omega⟩, fun _ => ⟨by omega, ⟨by omega, by omega⟩, fun g3 => xq_kv ?_, fun g3 => xq_kv ?_⟩, fun _ => by omega⟩⟩⟩⟩)
  · rw [if_pos g3] at h1
    refine sp191 (cur_keep h ?_ ?_ ?_ ?_) hi (xq_kv ⟨Or.inr rfl, h1⟩)
    all_goals rw [xu_c (by omega)]
  · rw [if_neg g3] at h1
    refine sp191 (cur_keep h ?_ ?_ ?_ ?_) hi (xq_kv ⟨Or.inr rfl, h1⟩)
    all_goals rw [xu_c (by omega), xu_c (by omega)]
end RO
