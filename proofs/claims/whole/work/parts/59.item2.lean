/-! one item, each word -/
theorem pt_set {f nu le g f' g' : Int → Int} {src : Int} {r55 l56 : Int → Int} {k v : Int} (h : x_pt f nu le g src r55 l56) (hk : 0 ≤ k ∧ k ≤ 4) (h1 : ∀ j : Int, j ≠ k → f' j = f j ∧ g' j = g j) (h2 : f' k = v ∧ g' k = v) (hv : (k = 0 → 1 ≤ v ∧ v ≤ 40) ∧ (k = 1 → 1 ≤ v ∧ v ≤ 9) ∧ (k = 2 → 0 ≤ v ∧ v ≤ 40) ∧ (k = 3 → 0 ≤ v ∧ v ≤ 20) ∧ (k = 4 → 1 ≤ v ∧ v ≤ 16)) : x_pt f' nu le g' src r55 l56 := by
  obtain ⟨p0, p1, p2, p3, p4, p5, p6, p7, p8, p9⟩ := h
  have e5 := h1 5 (by omega)
  have one : ∀ j : Int, (j = k → f' j = v ∧ g' j = v) ∧ (j ≠ k → f' j = f j ∧ g' j = g j) := fun j => ⟨fun q => by rw [q]; exact h2, h1 j⟩
  have o0 := one 0
  have o1 := one 1
  have o2 := one 2
  have o3 := one 3
  have o4 := one 4
  refine ⟨by omega, by omega, by omega, by omega, by omega, by omega, ?_, ?_, p8, ?_⟩
  · rw [e5.1]; exact p6
  · rw [e5.1]; exact p7
  · rw [e5.1]; exact p9
section I2
variable {d : Nat} {Q : xm_K} {t : Int → Int} {n m : Int} {E : Int → Int}
theorem cur_at {A : xm_Mem} {i j : Int} (h : x_cur A t n m E i) (hj : 0 ≤ j ∧ j ≤ m) : x_cur (xm_up A 4 4 j) t n m E j := by
  obtain ⟨hT, ⟨p1, p2, p3, p4, p5, p6⟩, c1, c2, c3⟩ := h
  refine ⟨hT, ⟨?_, p2, ?_, p4, ?_, ?_⟩, xu_s, hj.1, hj.2⟩
  · rw [xu_k (by omega)]; exact p1
  · rw [xu_c (by omega), xu_c (by omega), xu_c (by omega)]; exact p3
  · rw [xu_c (by omega)]; exact p5
  · rw [xu_c (by omega)]; exact p6
theorem told_2 {a9 a9' : Int → Int} {T src src' le4 le4' : Int} {b k : Nat} (h : ∀ w : Nat, w < 5 → a9 w = if b.testBit w = true then 1 else 0) (hb : b < 32) (hk : k < 6) (h5 : a9' 5 = src') (hw : ∀ w : Nat, w < 5 → w ≠ k → a9' w = a9 w) (hn : k < 5 → a9' k = 1) (hT : T = (y_T2 b k : Nat)) (h4 : (y_T2 b k).testBit 4 = false → le4' = 0) : x_told a9' T src' le4' := by
  refine ⟨y_T2 b k, hT, tb_lt hb hk, fun w hw5 => ?_, h5, h4⟩
  by_cases k5 : k < 5
  · rw [tb_T2 k5]
    by_cases e : w = k
    · subst e
      rw [hn k5, decide_eq_true rfl, Bool.or_true, if_pos rfl]
    · rw [hw w hw5 e, h w hw5, decide_eq_false (fun q => e q.symm), Bool.or_false]
  · rw [hw w hw5 (by omega), h w hw5]
    unfold y_T2
    rw [if_neg k5]
def x_rest_11 (d k : Nat) (M : xm_Mem) (Q : xm_K) : Prop := match k with
  | 4 => xm_call true d 130 [.inr (.inr 8), .inr (.inr 4), .inr (.inr 11), .inl 4] M (fun v21 M22 => xm_ki (fun r23 => (r23 = 0 ∨ r23 = 1) ∧ Q [.inl r23] M22) v21)
  | 5 => xm_call true d 161 [.inr (.inr 11)] M (fun v15 M16 => xm_ki (fun r17 => xm_call true d 130 [.inr (.inr 8), .inr (.inr 4), .inr (.inr 11), .inl r17] M16 (fun v18 M19 => xm_ki (fun r20 => (r20 = 0 ∨ r20 = 1) ∧ Q [.inl r20] M19) v18)) v15)
  | k => xm_call true d 127 [.inr (.inr 4), .inr (.inr 11), .inl (k : Int)] M (fun v9 M10 => xm_ki (fun r11 => (xm_in r11) ∧ ((r11 = 0 → ((0 : Int) = 0 ∨ (0 : Int) = 1) ∧ Q [.inl 0] M10) ∧ (r11 ≠ 0 → xm_call true d 129 [.inr (.inr 4)] M10 (fun v12 M13 => xm_ki (fun r14 => (xm_in r14) ∧ ((r14 = 0 → ((0 : Int) = 0 ∨ (0 : Int) = 1) ∧ Q [.inl 0] M13) ∧ (r14 ≠ 0 → ((1 : Int) = 0 ∨ (1 : Int) = 1) ∧ Q [.inl 1] M13))) v12)))) v9)
/-- the class's way up to what stands behind the word -/
theorem cl126_11 {A : xm_Mem} {i : Int} (hc : x_cur A t n m E i) (hi : i < m) (h9 : ∀ k : Nat, k < 6 → xm_in (A 9 k)) (hno : (A 5 i ≠ 1 ∨ A 5 i = 1 ∧ ∀ k : Nat, k < 6 → x_say t n (A 6 i) (E i) (xm_sby.getD k []) → k < 5 ∧ 1 ≤ A 9 k ∨ k = 5 ∧ 4 ≤ A 9 5) → Q [.inl 0] A) (hy : ∀ k : Nat, k < 6 → A 5 i = 1 → x_say t n (A 6 i) (E i) (xm_sby.getD k []) → (k < 5 → A 9 k < 1) → (k = 5 → A 9 5 < 4) → x_rest_11 (d + 4) k (xm_up (xm_up A 9 k (A 9 k + 1)) 4 4 (i + 1)) Q) : xm_call true (d + 5) 126 [.inr (.inr 8), .inr (.inr 4), .inr (.inr 11)] A Q := by
  have kt := cur_tok hc
  obtain ⟨k1, k2, k3, k4, k5, k6, k7⟩ := kt.2.2.2 hi
  refine en126r8r4r11 (rg126r8r4r11_0 (sp188 hc (xq_ki ⟨⟨by omega, by omega⟩, fun g => sp190 hc (xq_ki ?_), fun g => ⟨Or.inl rfl, hno (Or.inl g)⟩⟩)))
  rcases k5.2 (by omega) with ⟨w1, w2⟩ | ⟨w1, w2, w3⟩
  · rw [w1]
    exact ⟨by omega, fun _ => ⟨Or.inl rfl, hno (Or.inr ⟨g, fun k hk q => absurd q (w2 k hk)⟩)⟩, fun q => by omega⟩
  · have ek : A 7 i = ((A 7 i).toNat : Int) := by omega
    generalize (A 7 i).toNat = k at *
    have hk : k < 6 := by omega
    rw [ek]
    have b9 := h9 k hk
    have un := fun j hj hs => say_one (i := j) (j := k) hj hk hs w3
    refine ⟨by omega, fun q => by omega, fun _ => ⟨⟨by omega, by omega⟩, fun _ => ⟨by omega, ⟨by omega, by omega⟩, fun q5 => ⟨⟨b9, by omega⟩, fun lt => ?_, fun ge => ⟨Or.inl rfl, hno (Or.inr ⟨g, fun j hj hs => ?_⟩)⟩⟩, fun q5 => ⟨⟨b9, by omega⟩, fun lt => ?_, fun ge => ⟨Or.inl rfl, hno (Or.inr ⟨g, fun j hj hs => ?_⟩)⟩⟩⟩, fun q => by omega⟩⟩
    · have y := hy k hk g w3 (fun _ => lt) (fun q => by omega)
      refine ⟨by omega, by omega, sp191 (cur_keep hc (by rw [xu_c (by omega)]) (by rw [xu_c (by omega)]) (by rw [xu_c (by omega)]) (by rw [xu_c (by omega)])) hi (xq_kv ?_)⟩
      have hk' : k = 0 ∨ k = 1 ∨ k = 2 ∨ k = 3 ∨ k = 4 := by omega
      rcases hk' with rfl | rfl | rfl | rfl | rfl
      · exact ⟨⟨by omega, by omega⟩, fun _ => ⟨⟨by omega, by omega⟩, fun _ => y, fun q => by omega⟩, fun q => by omega⟩
      · exact ⟨⟨by omega, by omega⟩, fun _ => ⟨⟨by omega, by omega⟩, fun _ => y, fun q => by omega⟩, fun q => by omega⟩
      · exact ⟨⟨by omega, by omega⟩, fun _ => ⟨⟨by omega, by omega⟩, fun _ => y, fun q => by omega⟩, fun q => by omega⟩
      · exact ⟨⟨by omega, by omega⟩, fun _ => ⟨⟨by omega, by omega⟩, fun _ => y, fun q => by omega⟩, fun q => by omega⟩
      · exact ⟨⟨by omega, by omega⟩, fun q => by omega, fun _ => y⟩
    · have := un j hj hs; subst this; exact Or.inl ⟨by omega, ge⟩
    · have ek5 : k = 5 := by omega
      subst ek5
      have y := hy 5 hk g w3 (fun q => by omega) (fun _ => lt)
      refine ⟨by omega, by omega, sp191 (cur_keep hc (by rw [xu_c (by omega)]) (by rw [xu_c (by omega)]) (by rw [xu_c (by omega)]) (by rw [xu_c (by omega)])) hi (xq_kv ?_)⟩
      exact ⟨⟨by omega, by omega⟩, fun _ => ⟨⟨by omega, by omega⟩, fun q => by omega, fun _ => y⟩, fun q => by omega⟩
    · have := un j hj hs; subst this; exact Or.inr ⟨by omega, by rw [show ((j : Nat) : Int) = 5 by omega] at ge; exact ge⟩
def x_rest_14 (d k : Nat) (M : xm_Mem) (Q : xm_K) : Prop := match k with
  | 4 => xm_call true d 130 [.inr (.inr 8), .inr (.inr 4), .inr (.inr 14), .inl 4] M (fun v21 M22 => xm_ki (fun r23 => (r23 = 0 ∨ r23 = 1) ∧ Q [.inl r23] M22) v21)
  | 5 => xm_call true d 161 [.inr (.inr 14)] M (fun v15 M16 => xm_ki (fun r17 => xm_call true d 130 [.inr (.inr 8), .inr (.inr 4), .inr (.inr 14), .inl r17] M16 (fun v18 M19 => xm_ki (fun r20 => (r20 = 0 ∨ r20 = 1) ∧ Q [.inl r20] M19) v18)) v15)
  | k => xm_call true d 127 [.inr (.inr 4), .inr (.inr 14), .inl (k : Int)] M (fun v9 M10 => xm_ki (fun r11 => (xm_in r11) ∧ ((r11 = 0 → ((0 : Int) = 0 ∨ (0 : Int) = 1) ∧ Q [.inl 0] M10) ∧ (r11 ≠ 0 → xm_call true d 129 [.inr (.inr 4)] M10 (fun v12 M13 => xm_ki (fun r14 => (xm_in r14) ∧ ((r14 = 0 → ((0 : Int) = 0 ∨ (0 : Int) = 1) ∧ Q [.inl 0] M13) ∧ (r14 ≠ 0 → ((1 : Int) = 0 ∨ (1 : Int) = 1) ∧ Q [.inl 1] M13))) v12)))) v9)
/-- the class's way up to what stands behind the word -/
theorem cl126_14 {A : xm_Mem} {i : Int} (hc : x_cur A t n m E i) (hi : i < m) (h9 : ∀ k : Nat, k < 6 → xm_in (A 9 k)) (hno : (A 5 i ≠ 1 ∨ A 5 i = 1 ∧ ∀ k : Nat, k < 6 → x_say t n (A 6 i) (E i) (xm_sby.getD k []) → k < 5 ∧ 1 ≤ A 9 k ∨ k = 5 ∧ 4 ≤ A 9 5) → Q [.inl 0] A) (hy : ∀ k : Nat, k < 6 → A 5 i = 1 → x_say t n (A 6 i) (E i) (xm_sby.getD k []) → (k < 5 → A 9 k < 1) → (k = 5 → A 9 5 < 4) → x_rest_14 (d + 4) k (xm_up (xm_up A 9 k (A 9 k + 1)) 4 4 (i + 1)) Q) : xm_call true (d + 5) 126 [.inr (.inr 8), .inr (.inr 4), .inr (.inr 14)] A Q := by
  have kt := cur_tok hc
  obtain ⟨k1, k2, k3, k4, k5, k6, k7⟩ := kt.2.2.2 hi
  refine en126r8r4r14 (rg126r8r4r14_0 (sp188 hc (xq_ki ⟨⟨by omega, by omega⟩, fun g => sp190 hc (xq_ki ?_), fun g => ⟨Or.inl rfl, hno (Or.inl g)⟩⟩)))
  rcases k5.2 (by omega) with ⟨w1, w2⟩ | ⟨w1, w2, w3⟩
  · rw [w1]
    exact ⟨by omega, fun _ => ⟨Or.inl rfl, hno (Or.inr ⟨g, fun k hk q => absurd q (w2 k hk)⟩)⟩, fun q => by omega⟩
  · have ek : A 7 i = ((A 7 i).toNat : Int) := by omega
    generalize (A 7 i).toNat = k at *
    have hk : k < 6 := by omega
    rw [ek]
    have b9 := h9 k hk
    have un := fun j hj hs => say_one (i := j) (j := k) hj hk hs w3
    refine ⟨by omega, fun q => by omega, fun _ => ⟨⟨by omega, by omega⟩, fun _ => ⟨by omega, ⟨by omega, by omega⟩, fun q5 => ⟨⟨b9, by omega⟩, fun lt => ?_, fun ge => ⟨Or.inl rfl, hno (Or.inr ⟨g, fun j hj hs => ?_⟩)⟩⟩, fun q5 => ⟨⟨b9, by omega⟩, fun lt => ?_, fun ge => ⟨Or.inl rfl, hno (Or.inr ⟨g, fun j hj hs => ?_⟩)⟩⟩⟩, fun q => by omega⟩⟩
    · have y := hy k hk g w3 (fun _ => lt) (fun q => by omega)
      refine ⟨by omega, by omega, sp191 (cur_keep hc (by rw [xu_c (by omega)]) (by rw [xu_c (by omega)]) (by rw [xu_c (by omega)]) (by rw [xu_c (by omega)])) hi (xq_kv ?_)⟩
      have hk' : k = 0 ∨ k = 1 ∨ k = 2 ∨ k = 3 ∨ k = 4 := by omega
      rcases hk' with rfl | rfl | rfl | rfl | rfl
      · exact ⟨⟨by omega, by omega⟩, fun _ => ⟨⟨by omega, by omega⟩, fun _ => y, fun q => by omega⟩, fun q => by omega⟩
      · exact ⟨⟨by omega, by omega⟩, fun _ => ⟨⟨by omega, by omega⟩, fun _ => y, fun q => by omega⟩, fun q => by omega⟩
      · exact ⟨⟨by omega, by omega⟩, fun _ => ⟨⟨by omega, by omega⟩, fun _ => y, fun q => by omega⟩, fun q => by omega⟩
      · exact ⟨⟨by omega, by omega⟩, fun _ => ⟨⟨by omega, by omega⟩, fun _ => y, fun q => by omega⟩, fun q => by omega⟩
      · exact ⟨⟨by omega, by omega⟩, fun q => by omega, fun _ => y⟩
    · have := un j hj hs; subst this; exact Or.inl ⟨by omega, ge⟩
    · have ek5 : k = 5 := by omega
      subst ek5
      have y := hy 5 hk g w3 (fun q => by omega) (fun _ => lt)
      refine ⟨by omega, by omega, sp191 (cur_keep hc (by rw [xu_c (by omega)]) (by rw [xu_c (by omega)]) (by rw [xu_c (by omega)]) (by rw [xu_c (by omega)])) hi (xq_kv ?_)⟩
      exact ⟨⟨by omega, by omega⟩, fun _ => ⟨⟨by omega, by omega⟩, fun q => by omega, fun _ => y⟩, fun q => by omega⟩
    · have := un j hj hs; subst this; exact Or.inr ⟨by omega, by rw [show ((j : Nat) : Int) = 5 by omega] at ge; exact ge⟩
theorem it_11_0 {e : Nat} {i : Int} {A B : xm_Mem} {b : Nat} (hit : x_it 12 13 11 t n m E i A B) (h10 : B 50 10 = A 6 i) (hi : i < m) (hk1 : A 5 i = 1) (hs : x_say t n (A 6 i) (E i) (xm_sby.getD 0 [])) (hb : B 50 13 = b ∧ b < 32) (hw : ∀ w : Nat, w < 5 → A 9 w = if b.testBit w = true then 1 else 0) (h4 : b.testBit 4 = false → A 13 4 = 0) (hlt : A 9 0 < 1)
    (h1 : ∀ (A' B' : xm_Mem) (i' : Int), x_it 12 13 11 t n m E i' A' B' → i < i' → x_gA 12 13 11 A A' → x_gB B B' → y_igo e B B' → Q [.inl 1] A')
    (h0 : ∀ (A' B' : xm_Mem) (i' : Int), x_cur A' t n m E i' → x_gA 12 13 11 A A' → x_gB B B' → B' 50 11 = 1 → B' 50 10 = A' 6 i' → y_igo e B B' → Q [.inl 0] A') : x_rest_11 (d + 4) 0 (xm_up (xm_up A 9 (0 : Nat) (A 9 (0 : Nat) + 1)) 4 4 (i + 1)) Q := by
  obtain ⟨hc, hT, hf, hx, hp, htd⟩ := hit
  have w0 : A 9 (0 : Nat) = if b.testBit 0 = true then 1 else 0 := hw 0 (by omega)
  have bit : b.testBit 0 = false := by
    cases q : b.testBit 0 with
    | false => rfl
    | true =>
      rw [q, if_pos rfl] at w0
      have : A 9 (0 : Nat) < 1 := hlt
      omega
  rw [bit, if_neg Bool.false_ne_true] at w0
  have td5 : A 9 5 = B 50 14 := by obtain ⟨_, _, _, _, z, _⟩ := htd; exact z
  have src := hp.2.2.2.2.2.1
  have hc9 : x_cur (xm_up A 9 (0 : Nat) (A 9 (0 : Nat) + 1)) t n m E i := cur_keep hc (by rw [xu_c (by omega)]) (by rw [xu_c (by omega)]) (by rw [xu_c (by omega)]) (by rw [xu_c (by omega)])
  have hc1 := cur_next hc9 hi
  have gA1 : x_gA 12 13 11 A (xm_up (xm_up A 9 (0 : Nat) (A 9 (0 : Nat) + 1)) 4 4 (i + 1)) := gA_4 (gA_q gA_id (by omega) (by omega))
  have hx1 := nx_next hc hi
  have i0 := hc.2.2.2.1
  have ig := fun B' hh => igo_of (e := e) (k := 0) (b := b) (B' := B') hc hT h10 hf hi hk1 (by omega) hs hb (fun _ => bit) (fun q => by omega) hh
  have A16 : xm_up (xm_up A 9 (0 : Nat) (A 9 (0 : Nat) + 1)) 4 4 (i + 1) 6 = A 6 := by rw [xu_c (by omega), xu_c (by omega)]
  have A15 : xm_up (xm_up A 9 (0 : Nat) (A 9 (0 : Nat) + 1)) 4 4 (i + 1) 5 = A 5 := by rw [xu_c (by omega), xu_c (by omega)]
  have A17 : xm_up (xm_up A 9 (0 : Nat) (A 9 (0 : Nat) + 1)) 4 4 (i + 1) 7 = A 7 := by rw [xu_c (by omega), xu_c (by omega)]
  have A19 : ∀ j : Int, j ≠ (0 : Nat) → xm_up (xm_up A 9 (0 : Nat) (A 9 (0 : Nat) + 1)) 4 4 (i + 1) 9 j = A 9 j := fun j q => by rw [xu_c (by omega), xu_k q]
  have A19k : xm_up (xm_up A 9 (0 : Nat) (A 9 (0 : Nat) + 1)) 4 4 (i + 1) 9 (0 : Nat) = 1 := by rw [xu_c (by omega), xu_s, w0]; rfl
  have A1o : ∀ q : Nat, q ≠ 4 → q ≠ 9 → xm_up (xm_up A 9 (0 : Nat) (A 9 (0 : Nat) + 1)) 4 4 (i + 1) q = A q := fun q a z => by rw [xu_c a, xu_c z]
  generalize xm_up (xm_up A 9 (0 : Nat) (A 9 (0 : Nat) + 1)) 4 4 (i + 1) = A1 at *
  have hT1 : y_txt (xm_up (xm_up B 50 10 (E i)) 50 13 ((y_T2 b 0 : Nat) : Int)) t n := ytx_up (ytx_up hT ⟨by omega, fun _ => by omega⟩) ⟨by omega, fun _ => by omega⟩
  have gB1 : x_gB B (xm_up (xm_up B 50 10 (E i)) 50 13 ((y_T2 b 0 : Nat) : Int)) := gB_50 (gB_50 gB_id (by omega)) (by omega)
  have B10 : xm_up (xm_up B 50 10 (E i)) 50 13 ((y_T2 b 0 : Nat) : Int) 50 10 = E i := by rw [xu_k (by omega), xu_s]
  have B11 : xm_up (xm_up B 50 10 (E i)) 50 13 ((y_T2 b 0 : Nat) : Int) 50 11 = 0 := by rw [xu_k (by omega), xu_k (by omega)]; exact hf
  have B13 : xm_up (xm_up B 50 10 (E i)) 50 13 ((y_T2 b 0 : Nat) : Int) 50 13 = ((y_T2 b 0 : Nat) : Int) := by rw [xu_s]
  have B14 : xm_up (xm_up B 50 10 (E i)) 50 13 ((y_T2 b 0 : Nat) : Int) 50 14 = B 50 14 := by rw [xu_k (by omega), xu_k (by omega)]
  have B1o : ∀ q : Nat, q ≠ 50 → xm_up (xm_up B 50 10 (E i)) 50 13 ((y_T2 b 0 : Nat) : Int) q = B q := fun q a => by rw [xu_c a, xu_c a]
  generalize xm_up (xm_up B 50 10 (E i)) 50 13 ((y_T2 b 0 : Nat) : Int) = B1 at *
  have nx1 : y_nx t n (B1 50 10) (A1 6 (i + 1)) := by rw [B10, A16]; exact hx1
  show xm_call true (d + 4) 127 [.inr (.inr 4), .inr (.inr 11), .inl ((0 : Nat) : Int)] A1 _
  have body : xm_call true (d + 3) 128 [.inr (.inr 4), .inl 1, .inl 40] A1 (fun v25 M26 => xm_ki (fun r27 => xm_call true (d + 3) 162 [.inr (.inr 11), .inl r27] M26 (fun v28 M29 => xm_ki (fun r30 => (r30 = 0 ∨ r30 = 1) ∧ (fun v9 M10 => xm_ki (fun r11 => (xm_in r11) ∧ ((r11 = 0 → ((0 : Int) = 0 ∨ (0 : Int) = 1) ∧ Q [.inl 0] M10) ∧ (r11 ≠ 0 → xm_call true (d + 4) 129 [.inr (.inr 4)] M10 (fun v12 M13 => xm_ki (fun r14 => (xm_in r14) ∧ ((r14 = 0 → ((0 : Int) = 0 ∨ (0 : Int) = 1) ∧ Q [.inl 0] M13) ∧ (r14 ≠ 0 → ((1 : Int) = 0 ∨ (1 : Int) = 1) ∧ Q [.inl 1] M13))) v12)))) v9) [.inl r30] M29) v28)) v25) := by
    refine sp128 hc1 ⟨by omega, by omega⟩ (fun isn i2 => xq_ki ?_) (fun nisn => xq_ki ?_)
    · obtain ⟨y1, y2, y3⟩ := id isn
      refine en162r11 (rg162r11_0 ⟨by omega, fun _ => ⟨Or.inr rfl, xq_ki ⟨Or.inr rfl, xq_ki (xq_n1 ?_)⟩⟩, fun q => by omega⟩)
      have hc2 : x_cur (xm_up (xm_up A1 4 4 (i + 1 + 1)) 11 0 (A1 7 (i + 1))) t n m E (i + 1 + 1) := cur_keep (cur_next hc1 i2) (by rw [xu_c (by omega)]) (by rw [xu_c (by omega)]) (by rw [xu_c (by omega)]) (by rw [xu_c (by omega)])
      have gA2 : x_gA 12 13 11 A (xm_up (xm_up A1 4 4 (i + 1 + 1)) 11 0 (A1 7 (i + 1))) := gA_q (gA_4 gA1) (by omega) (by omega)
      have hx2 := nx_next hc1 i2
      have A26 : xm_up (xm_up A1 4 4 (i + 1 + 1)) 11 0 (A1 7 (i + 1)) 6 = A1 6 := by rw [xu_c (by omega), xu_c (by omega)]
      have A2o : ∀ q : Nat, q ≠ 4 → q ≠ 11 → xm_up (xm_up A1 4 4 (i + 1 + 1)) 11 0 (A1 7 (i + 1)) q = A1 q := fun q a z => by rw [xu_c z, xu_c a]
      have A2c : ∀ j : Int, j ≠ 0 → xm_up (xm_up A1 4 4 (i + 1 + 1)) 11 0 (A1 7 (i + 1)) 11 j = A 11 j := fun j a => by rw [xu_k a, xu_c (by omega), A1o 11 (by omega) (by omega)]
      have A2k : xm_up (xm_up A1 4 4 (i + 1 + 1)) 11 0 (A1 7 (i + 1)) 11 0 = A1 7 (i + 1) := xu_s
      generalize xm_up (xm_up A1 4 4 (i + 1 + 1)) 11 0 (A1 7 (i + 1)) = A2 at *
      have hT2 : y_txt (xm_up (xm_up B1 50 10 (E (i + 1))) 54 0 (A1 7 (i + 1))) t n := ytx_up (ytx_up hT1 ⟨by omega, fun _ => by omega⟩) ⟨by omega, fun _ => by omega⟩
      have x2 : xm_up (xm_up B1 50 10 (E (i + 1))) 54 0 (A1 7 (i + 1)) 50 10 = E (i + 1) := by rw [xu_c (by omega), xu_s]
      have f2 : xm_up (xm_up B1 50 10 (E (i + 1))) 54 0 (A1 7 (i + 1)) 50 11 = 0 := by rw [xu_c (by omega), xu_k (by omega)]; exact B11
      have nx2 : y_nx t n (xm_up (xm_up B1 50 10 (E (i + 1))) 54 0 (A1 7 (i + 1)) 50 10) (A2 6 (i + 1 + 1)) := by rw [x2, A26]; exact hx2
      have num : ∀ (N : xm_Mem) (R : xm_K), wp208r50_223 (xm_call true (e + 6)) R ((0 : Nat) : Int) (x_mx N (xm_up (xm_up B1 50 10 (E (i + 1))) 54 0 (A1 7 (i + 1)))) → y_rest e 0 (x_mx N B1) R := fun N R hR => by
        show xm_call true (e + 6) 199 [.inr (.inr 50), .inl 1, .inl 40] (x_mx N B1) _
        refine nstep (A := A1) (j := i + 1) hc1 (mtx hT1) (by rw [mx_r (by omega)]; exact nx1) (by rw [mx_r (by omega)]; exact B11) (by omega) (fun _ _ => xq_ki ⟨by omega, ?_⟩) (fun q => absurd isn q)
        rw [mx_up (by omega), mx_up (by omega)]
        exact hR
      refine sp129 hc2 (fun g5 i3 => xq_ki ⟨by omega, fun q => by omega, fun _ => ⟨Or.inr rfl, ?_⟩⟩) (fun g5 => xq_ki ⟨by omega, fun _ => ⟨Or.inl rfl, ?_⟩, fun q => absurd rfl q⟩)
      · refine h1 _ (xm_up (xm_up (xm_up B1 50 10 (E (i + 1))) 54 0 (A1 7 (i + 1))) 50 10 (E (i + 1 + 1))) (i + 1 + 1 + 1) ⟨cur_next hc2 i3, ytx_up hT2 ⟨by omega, fun _ => by omega⟩, by rw [xu_k (by omega)]; exact f2, ?_, ?_, ?_⟩ (by omega) (gA_4 gA2) (gB_50 (gB_54 (gB_50 gB1 (by omega))) (by omega)) (ig _ (fun N R hR => num N R (tail_1 hc2 hT2 nx2 f2 g5 hR)))
        · rw [xu_s, xu_c (by omega)]
          exact nx_next hc2 i3
        · rw [xu_c (c' := 11) (by omega), xu_c (c' := 12) (by omega), xu_c (c' := 13) (by omega), xu_c (c' := 54) (by omega), xu_c (c' := 55) (by omega), xu_c (c' := 56) (by omega), xu_k (k' := 14) (by omega), xu_c (c := 54) (c' := 50) (by omega), xu_k (k := 10) (k' := 14) (by omega), xu_c (c := 54) (c' := 55) (by omega), xu_c (c := 50) (c' := 55) (by omega), xu_c (c := 54) (c' := 56) (by omega), xu_c (c := 50) (c' := 56) (by omega), B14, B1o 55 (by omega), B1o 56 (by omega), A2o 12 (by omega) (by omega), A2o 13 (by omega) (by omega), A1o 12 (by omega) (by omega), A1o 13 (by omega) (by omega)]
          refine pt_set (k := 0) (v := A1 7 (i + 1)) hp (by omega) (fun j q => ⟨A2c j q, ?_⟩) ⟨A2k, xu_s⟩ (by omega)
          rw [xu_k q, xu_c (by omega), B1o 54 (by omega)]
        · rw [xu_c (c' := 9) (by omega), xu_c (c' := 13) (by omega), A2o 9 (by omega) (by omega), A2o 13 (by omega) (by omega), A1o 13 (by omega) (by omega), xu_k (k' := 13) (by omega), xu_k (k' := 14) (by omega), xu_c (c := 54) (c' := 50) (by omega), xu_k (k := 10) (k' := 13) (by omega), xu_k (k := 10) (k' := 14) (by omega), B13, B14]
          refine told_2 (a9 := A 9) (src := 0) (le4 := 0) hw hb.2 (k := 0) (by omega) ?_ (fun w _ q => A19 _ (by omega)) (fun _ => A19k) rfl (fun q => h4 ?_)
          · rw [A19 5 (by omega)]; exact td5
          · rw [tb_T2 (by omega)] at q
            have := (Bool.or_eq_false_iff.mp q).1
            exact this
      · refine h0 A2 (xm_up (xm_up (xm_up (xm_up B1 50 10 (E (i + 1))) 54 0 (A1 7 (i + 1))) 50 10 (A2 6 (i + 1 + 1))) 50 11 1) (i + 1 + 1) hc2 gA2 (gB_50 (gB_50 (gB_54 (gB_50 gB1 (by omega))) (by omega)) (by omega)) xu_s (by rw [xu_k (by omega), xu_s]) (ig _ (fun N R hR => num N R (tail_2 hc2 hT2 nx2 f2 g5 hR)))
    · refine en162r11 (rg162r11_0 ⟨by omega, fun q => by omega, fun _ => ⟨Or.inl rfl, xq_ki ⟨Or.inl rfl, xq_ki (xq_b3 ⟨Or.inl rfl, ?_⟩)⟩⟩⟩)
      refine h0 A1 (xm_up (xm_up (xm_up B1 50 10 (A1 6 (i + 1))) 50 11 1) 54 0 1) (i + 1) hc1 gA1 (gB_54 (gB_50 (gB_50 gB1 (by omega)) (by omega))) (by rw [xu_c (by omega), xu_s]) (by rw [xu_c (by omega), xu_k (by omega), xu_s]) (ig _ (fun N R hR => ?_))
      show xm_call true (e + 6) 199 [.inr (.inr 50), .inl 1, .inl 40] (x_mx N B1) _
      refine nstep (A := A1) (j := i + 1) hc1 (mtx hT1) (by rw [mx_r (by omega)]; exact nx1) (by rw [mx_r (by omega)]; exact B11) (by omega) (fun q _ => absurd q nisn) (fun _ => xq_ki ⟨by omega, ?_⟩)
      rw [mx_up (by omega), mx_up (by omega), mx_up (by omega)]
      exact tail_3 (by rw [xu_c (by omega), xu_s]) hR
  refine en127r4r11 (rg127r4r11_0 ⟨by omega, ⟨fun q => ?_, fun q => ?_, fun q => ?_, fun q => by omega, trivial⟩, fun q => by omega⟩)
  all_goals first | exact body | (exfalso; omega)
theorem it_11_1 {e : Nat} {i : Int} {A B : xm_Mem} {b : Nat} (hit : x_it 12 13 11 t n m E i A B) (h10 : B 50 10 = A 6 i) (hi : i < m) (hk1 : A 5 i = 1) (hs : x_say t n (A 6 i) (E i) (xm_sby.getD 1 [])) (hb : B 50 13 = b ∧ b < 32) (hw : ∀ w : Nat, w < 5 → A 9 w = if b.testBit w = true then 1 else 0) (h4 : b.testBit 4 = false → A 13 4 = 0) (hlt : A 9 1 < 1)
    (h1 : ∀ (A' B' : xm_Mem) (i' : Int), x_it 12 13 11 t n m E i' A' B' → i < i' → x_gA 12 13 11 A A' → x_gB B B' → y_igo e B B' → Q [.inl 1] A')
    (h0 : ∀ (A' B' : xm_Mem) (i' : Int), x_cur A' t n m E i' → x_gA 12 13 11 A A' → x_gB B B' → B' 50 11 = 1 → B' 50 10 = A' 6 i' → y_igo e B B' → Q [.inl 0] A') : x_rest_11 (d + 4) 1 (xm_up (xm_up A 9 (1 : Nat) (A 9 (1 : Nat) + 1)) 4 4 (i + 1)) Q := by
  obtain ⟨hc, hT, hf, hx, hp, htd⟩ := hit
  have w0 : A 9 (1 : Nat) = if b.testBit 1 = true then 1 else 0 := hw 1 (by omega)
  have bit : b.testBit 1 = false := by
    cases q : b.testBit 1 with
    | false => rfl
    | true =>
      rw [q, if_pos rfl] at w0
      have : A 9 (1 : Nat) < 1 := hlt
      omega
  rw [bit, if_neg Bool.false_ne_true] at w0
  have td5 : A 9 5 = B 50 14 := by obtain ⟨_, _, _, _, z, _⟩ := htd; exact z
  have src := hp.2.2.2.2.2.1
  have hc9 : x_cur (xm_up A 9 (1 : Nat) (A 9 (1 : Nat) + 1)) t n m E i := cur_keep hc (by rw [xu_c (by omega)]) (by rw [xu_c (by omega)]) (by rw [xu_c (by omega)]) (by rw [xu_c (by omega)])
  have hc1 := cur_next hc9 hi
  have gA1 : x_gA 12 13 11 A (xm_up (xm_up A 9 (1 : Nat) (A 9 (1 : Nat) + 1)) 4 4 (i + 1)) := gA_4 (gA_q gA_id (by omega) (by omega))
  have hx1 := nx_next hc hi
  have i0 := hc.2.2.2.1
  have ig := fun B' hh => igo_of (e := e) (k := 1) (b := b) (B' := B') hc hT h10 hf hi hk1 (by omega) hs hb (fun _ => bit) (fun q => by omega) hh
  have A16 : xm_up (xm_up A 9 (1 : Nat) (A 9 (1 : Nat) + 1)) 4 4 (i + 1) 6 = A 6 := by rw [xu_c (by omega), xu_c (by omega)]
  have A15 : xm_up (xm_up A 9 (1 : Nat) (A 9 (1 : Nat) + 1)) 4 4 (i + 1) 5 = A 5 := by rw [xu_c (by omega), xu_c (by omega)]
  have A17 : xm_up (xm_up A 9 (1 : Nat) (A 9 (1 : Nat) + 1)) 4 4 (i + 1) 7 = A 7 := by rw [xu_c (by omega), xu_c (by omega)]
  have A19 : ∀ j : Int, j ≠ (1 : Nat) → xm_up (xm_up A 9 (1 : Nat) (A 9 (1 : Nat) + 1)) 4 4 (i + 1) 9 j = A 9 j := fun j q => by rw [xu_c (by omega), xu_k q]
  have A19k : xm_up (xm_up A 9 (1 : Nat) (A 9 (1 : Nat) + 1)) 4 4 (i + 1) 9 (1 : Nat) = 1 := by rw [xu_c (by omega), xu_s, w0]; rfl
  have A1o : ∀ q : Nat, q ≠ 4 → q ≠ 9 → xm_up (xm_up A 9 (1 : Nat) (A 9 (1 : Nat) + 1)) 4 4 (i + 1) q = A q := fun q a z => by rw [xu_c a, xu_c z]
  generalize xm_up (xm_up A 9 (1 : Nat) (A 9 (1 : Nat) + 1)) 4 4 (i + 1) = A1 at *
  have hT1 : y_txt (xm_up (xm_up B 50 10 (E i)) 50 13 ((y_T2 b 1 : Nat) : Int)) t n := ytx_up (ytx_up hT ⟨by omega, fun _ => by omega⟩) ⟨by omega, fun _ => by omega⟩
  have gB1 : x_gB B (xm_up (xm_up B 50 10 (E i)) 50 13 ((y_T2 b 1 : Nat) : Int)) := gB_50 (gB_50 gB_id (by omega)) (by omega)
  have B10 : xm_up (xm_up B 50 10 (E i)) 50 13 ((y_T2 b 1 : Nat) : Int) 50 10 = E i := by rw [xu_k (by omega), xu_s]
  have B11 : xm_up (xm_up B 50 10 (E i)) 50 13 ((y_T2 b 1 : Nat) : Int) 50 11 = 0 := by rw [xu_k (by omega), xu_k (by omega)]; exact hf
  have B13 : xm_up (xm_up B 50 10 (E i)) 50 13 ((y_T2 b 1 : Nat) : Int) 50 13 = ((y_T2 b 1 : Nat) : Int) := by rw [xu_s]
  have B14 : xm_up (xm_up B 50 10 (E i)) 50 13 ((y_T2 b 1 : Nat) : Int) 50 14 = B 50 14 := by rw [xu_k (by omega), xu_k (by omega)]
  have B1o : ∀ q : Nat, q ≠ 50 → xm_up (xm_up B 50 10 (E i)) 50 13 ((y_T2 b 1 : Nat) : Int) q = B q := fun q a => by rw [xu_c a, xu_c a]
  generalize xm_up (xm_up B 50 10 (E i)) 50 13 ((y_T2 b 1 : Nat) : Int) = B1 at *
  have nx1 : y_nx t n (B1 50 10) (A1 6 (i + 1)) := by rw [B10, A16]; exact hx1
  show xm_call true (d + 4) 127 [.inr (.inr 4), .inr (.inr 11), .inl ((1 : Nat) : Int)] A1 _
  have body : xm_call true (d + 3) 128 [.inr (.inr 4), .inl 1, .inl 9] A1 (fun v25 M26 => xm_ki (fun r27 => xm_call true (d + 3) 163 [.inr (.inr 11), .inl r27] M26 (fun v28 M29 => xm_ki (fun r30 => (r30 = 0 ∨ r30 = 1) ∧ (fun v9 M10 => xm_ki (fun r11 => (xm_in r11) ∧ ((r11 = 0 → ((0 : Int) = 0 ∨ (0 : Int) = 1) ∧ Q [.inl 0] M10) ∧ (r11 ≠ 0 → xm_call true (d + 4) 129 [.inr (.inr 4)] M10 (fun v12 M13 => xm_ki (fun r14 => (xm_in r14) ∧ ((r14 = 0 → ((0 : Int) = 0 ∨ (0 : Int) = 1) ∧ Q [.inl 0] M13) ∧ (r14 ≠ 0 → ((1 : Int) = 0 ∨ (1 : Int) = 1) ∧ Q [.inl 1] M13))) v12)))) v9) [.inl r30] M29) v28)) v25) := by
    refine sp128 hc1 ⟨by omega, by omega⟩ (fun isn i2 => xq_ki ?_) (fun nisn => xq_ki ?_)
    · obtain ⟨y1, y2, y3⟩ := id isn
      refine en163r11 (rg163r11_0 ⟨by omega, fun _ => ⟨Or.inr rfl, xq_ki ⟨Or.inr rfl, xq_ki (xq_n1 ?_)⟩⟩, fun q => by omega⟩)
      have hc2 : x_cur (xm_up (xm_up A1 4 4 (i + 1 + 1)) 11 1 (A1 7 (i + 1))) t n m E (i + 1 + 1) := cur_keep (cur_next hc1 i2) (by rw [xu_c (by omega)]) (by rw [xu_c (by omega)]) (by rw [xu_c (by omega)]) (by rw [xu_c (by omega)])
      have gA2 : x_gA 12 13 11 A (xm_up (xm_up A1 4 4 (i + 1 + 1)) 11 1 (A1 7 (i + 1))) := gA_q (gA_4 gA1) (by omega) (by omega)
      have hx2 := nx_next hc1 i2
      have A26 : xm_up (xm_up A1 4 4 (i + 1 + 1)) 11 1 (A1 7 (i + 1)) 6 = A1 6 := by rw [xu_c (by omega), xu_c (by omega)]
      have A2o : ∀ q : Nat, q ≠ 4 → q ≠ 11 → xm_up (xm_up A1 4 4 (i + 1 + 1)) 11 1 (A1 7 (i + 1)) q = A1 q := fun q a z => by rw [xu_c z, xu_c a]
      have A2c : ∀ j : Int, j ≠ 1 → xm_up (xm_up A1 4 4 (i + 1 + 1)) 11 1 (A1 7 (i + 1)) 11 j = A 11 j := fun j a => by rw [xu_k a, xu_c (by omega), A1o 11 (by omega) (by omega)]
      have A2k : xm_up (xm_up A1 4 4 (i + 1 + 1)) 11 1 (A1 7 (i + 1)) 11 1 = A1 7 (i + 1) := xu_s
      generalize xm_up (xm_up A1 4 4 (i + 1 + 1)) 11 1 (A1 7 (i + 1)) = A2 at *
      have hT2 : y_txt (xm_up (xm_up B1 50 10 (E (i + 1))) 54 1 (A1 7 (i + 1))) t n := ytx_up (ytx_up hT1 ⟨by omega, fun _ => by omega⟩) ⟨by omega, fun _ => by omega⟩
      have x2 : xm_up (xm_up B1 50 10 (E (i + 1))) 54 1 (A1 7 (i + 1)) 50 10 = E (i + 1) := by rw [xu_c (by omega), xu_s]
      have f2 : xm_up (xm_up B1 50 10 (E (i + 1))) 54 1 (A1 7 (i + 1)) 50 11 = 0 := by rw [xu_c (by omega), xu_k (by omega)]; exact B11
      have nx2 : y_nx t n (xm_up (xm_up B1 50 10 (E (i + 1))) 54 1 (A1 7 (i + 1)) 50 10) (A2 6 (i + 1 + 1)) := by rw [x2, A26]; exact hx2
      have num : ∀ (N : xm_Mem) (R : xm_K), wp208r50_223 (xm_call true (e + 6)) R ((1 : Nat) : Int) (x_mx N (xm_up (xm_up B1 50 10 (E (i + 1))) 54 1 (A1 7 (i + 1)))) → y_rest e 1 (x_mx N B1) R := fun N R hR => by
        show xm_call true (e + 6) 199 [.inr (.inr 50), .inl 1, .inl 9] (x_mx N B1) _
        refine nstep (A := A1) (j := i + 1) hc1 (mtx hT1) (by rw [mx_r (by omega)]; exact nx1) (by rw [mx_r (by omega)]; exact B11) (by omega) (fun _ _ => xq_ki ⟨by omega, ?_⟩) (fun q => absurd isn q)
        rw [mx_up (by omega), mx_up (by omega)]
        exact hR
      refine sp129 hc2 (fun g5 i3 => xq_ki ⟨by omega, fun q => by omega, fun _ => ⟨Or.inr rfl, ?_⟩⟩) (fun g5 => xq_ki ⟨by omega, fun _ => ⟨Or.inl rfl, ?_⟩, fun q => absurd rfl q⟩)
      · refine h1 _ (xm_up (xm_up (xm_up B1 50 10 (E (i + 1))) 54 1 (A1 7 (i + 1))) 50 10 (E (i + 1 + 1))) (i + 1 + 1 + 1) ⟨cur_next hc2 i3, ytx_up hT2 ⟨by omega, fun _ => by omega⟩, by rw [xu_k (by omega)]; exact f2, ?_, ?_, ?_⟩ (by omega) (gA_4 gA2) (gB_50 (gB_54 (gB_50 gB1 (by omega))) (by omega)) (ig _ (fun N R hR => num N R (tail_1 hc2 hT2 nx2 f2 g5 hR)))
        · rw [xu_s, xu_c (by omega)]
          exact nx_next hc2 i3
        · rw [xu_c (c' := 11) (by omega), xu_c (c' := 12) (by omega), xu_c (c' := 13) (by omega), xu_c (c' := 54) (by omega), xu_c (c' := 55) (by omega), xu_c (c' := 56) (by omega), xu_k (k' := 14) (by omega), xu_c (c := 54) (c' := 50) (by omega), xu_k (k := 10) (k' := 14) (by omega), xu_c (c := 54) (c' := 55) (by omega), xu_c (c := 50) (c' := 55) (by omega), xu_c (c := 54) (c' := 56) (by omega), xu_c (c := 50) (c' := 56) (by omega), B14, B1o 55 (by omega), B1o 56 (by omega), A2o 12 (by omega) (by omega), A2o 13 (by omega) (by omega), A1o 12 (by omega) (by omega), A1o 13 (by omega) (by omega)]
          refine pt_set (k := 1) (v := A1 7 (i + 1)) hp (by omega) (fun j q => ⟨A2c j q, ?_⟩) ⟨A2k, xu_s⟩ (by omega)
          rw [xu_k q, xu_c (by omega), B1o 54 (by omega)]
        · rw [xu_c (c' := 9) (by omega), xu_c (c' := 13) (by omega), A2o 9 (by omega) (by omega), A2o 13 (by omega) (by omega), A1o 13 (by omega) (by omega), xu_k (k' := 13) (by omega), xu_k (k' := 14) (by omega), xu_c (c := 54) (c' := 50) (by omega), xu_k (k := 10) (k' := 13) (by omega), xu_k (k := 10) (k' := 14) (by omega), B13, B14]
          refine told_2 (a9 := A 9) (src := 0) (le4 := 0) hw hb.2 (k := 1) (by omega) ?_ (fun w _ q => A19 _ (by omega)) (fun _ => A19k) rfl (fun q => h4 ?_)
          · rw [A19 5 (by omega)]; exact td5
          · rw [tb_T2 (by omega)] at q
            have := (Bool.or_eq_false_iff.mp q).1
            exact this
      · refine h0 A2 (xm_up (xm_up (xm_up (xm_up B1 50 10 (E (i + 1))) 54 1 (A1 7 (i + 1))) 50 10 (A2 6 (i + 1 + 1))) 50 11 1) (i + 1 + 1) hc2 gA2 (gB_50 (gB_50 (gB_54 (gB_50 gB1 (by omega))) (by omega)) (by omega)) xu_s (by rw [xu_k (by omega), xu_s]) (ig _ (fun N R hR => num N R (tail_2 hc2 hT2 nx2 f2 g5 hR)))
    · refine en163r11 (rg163r11_0 ⟨by omega, fun q => by omega, fun _ => ⟨Or.inl rfl, xq_ki ⟨Or.inl rfl, xq_ki (xq_b3 ⟨Or.inl rfl, ?_⟩)⟩⟩⟩)
      refine h0 A1 (xm_up (xm_up (xm_up B1 50 10 (A1 6 (i + 1))) 50 11 1) 54 1 1) (i + 1) hc1 gA1 (gB_54 (gB_50 (gB_50 gB1 (by omega)) (by omega))) (by rw [xu_c (by omega), xu_s]) (by rw [xu_c (by omega), xu_k (by omega), xu_s]) (ig _ (fun N R hR => ?_))
      show xm_call true (e + 6) 199 [.inr (.inr 50), .inl 1, .inl 9] (x_mx N B1) _
      refine nstep (A := A1) (j := i + 1) hc1 (mtx hT1) (by rw [mx_r (by omega)]; exact nx1) (by rw [mx_r (by omega)]; exact B11) (by omega) (fun q _ => absurd q nisn) (fun _ => xq_ki ⟨by omega, ?_⟩)
      rw [mx_up (by omega), mx_up (by omega), mx_up (by omega)]
      exact tail_3 (by rw [xu_c (by omega), xu_s]) hR
  refine en127r4r11 (rg127r4r11_0 ⟨by omega, ⟨fun q => ?_, fun q => ?_, fun q => ?_, fun q => by omega, trivial⟩, fun q => by omega⟩)
  all_goals first | exact body | (exfalso; omega)
theorem it_11_2 {e : Nat} {i : Int} {A B : xm_Mem} {b : Nat} (hit : x_it 12 13 11 t n m E i A B) (h10 : B 50 10 = A 6 i) (hi : i < m) (hk1 : A 5 i = 1) (hs : x_say t n (A 6 i) (E i) (xm_sby.getD 2 [])) (hb : B 50 13 = b ∧ b < 32) (hw : ∀ w : Nat, w < 5 → A 9 w = if b.testBit w = true then 1 else 0) (h4 : b.testBit 4 = false → A 13 4 = 0) (hlt : A 9 2 < 1)
    (h1 : ∀ (A' B' : xm_Mem) (i' : Int), x_it 12 13 11 t n m E i' A' B' → i < i' → x_gA 12 13 11 A A' → x_gB B B' → y_igo e B B' → Q [.inl 1] A')
    (h0 : ∀ (A' B' : xm_Mem) (i' : Int), x_cur A' t n m E i' → x_gA 12 13 11 A A' → x_gB B B' → B' 50 11 = 1 → B' 50 10 = A' 6 i' → y_igo e B B' → Q [.inl 0] A') : x_rest_11 (d + 4) 2 (xm_up (xm_up A 9 (2 : Nat) (A 9 (2 : Nat) + 1)) 4 4 (i + 1)) Q := by
  obtain ⟨hc, hT, hf, hx, hp, htd⟩ := hit
  have w0 : A 9 (2 : Nat) = if b.testBit 2 = true then 1 else 0 := hw 2 (by omega)
  have bit : b.testBit 2 = false := by
    cases q : b.testBit 2 with
    | false => rfl
    | true =>
      rw [q, if_pos rfl] at w0
      have : A 9 (2 : Nat) < 1 := hlt
      omega
  rw [bit, if_neg Bool.false_ne_true] at w0
  have td5 : A 9 5 = B 50 14 := by obtain ⟨_, _, _, _, z, _⟩ := htd; exact z
  have src := hp.2.2.2.2.2.1
  have hc9 : x_cur (xm_up A 9 (2 : Nat) (A 9 (2 : Nat) + 1)) t n m E i := cur_keep hc (by rw [xu_c (by omega)]) (by rw [xu_c (by omega)]) (by rw [xu_c (by omega)]) (by rw [xu_c (by omega)])
  have hc1 := cur_next hc9 hi
  have gA1 : x_gA 12 13 11 A (xm_up (xm_up A 9 (2 : Nat) (A 9 (2 : Nat) + 1)) 4 4 (i + 1)) := gA_4 (gA_q gA_id (by omega) (by omega))
  have hx1 := nx_next hc hi
  have i0 := hc.2.2.2.1
  have ig := fun B' hh => igo_of (e := e) (k := 2) (b := b) (B' := B') hc hT h10 hf hi hk1 (by omega) hs hb (fun _ => bit) (fun q => by omega) hh
  have A16 : xm_up (xm_up A 9 (2 : Nat) (A 9 (2 : Nat) + 1)) 4 4 (i + 1) 6 = A 6 := by rw [xu_c (by omega), xu_c (by omega)]
  have A15 : xm_up (xm_up A 9 (2 : Nat) (A 9 (2 : Nat) + 1)) 4 4 (i + 1) 5 = A 5 := by rw [xu_c (by omega), xu_c (by omega)]
  have A17 : xm_up (xm_up A 9 (2 : Nat) (A 9 (2 : Nat) + 1)) 4 4 (i + 1) 7 = A 7 := by rw [xu_c (by omega), xu_c (by omega)]
  have A19 : ∀ j : Int, j ≠ (2 : Nat) → xm_up (xm_up A 9 (2 : Nat) (A 9 (2 : Nat) + 1)) 4 4 (i + 1) 9 j = A 9 j := fun j q => by rw [xu_c (by omega), xu_k q]
  have A19k : xm_up (xm_up A 9 (2 : Nat) (A 9 (2 : Nat) + 1)) 4 4 (i + 1) 9 (2 : Nat) = 1 := by rw [xu_c (by omega), xu_s, w0]; rfl
  have A1o : ∀ q : Nat, q ≠ 4 → q ≠ 9 → xm_up (xm_up A 9 (2 : Nat) (A 9 (2 : Nat) + 1)) 4 4 (i + 1) q = A q := fun q a z => by rw [xu_c a, xu_c z]
  generalize xm_up (xm_up A 9 (2 : Nat) (A 9 (2 : Nat) + 1)) 4 4 (i + 1) = A1 at *
  have hT1 : y_txt (xm_up (xm_up B 50 10 (E i)) 50 13 ((y_T2 b 2 : Nat) : Int)) t n := ytx_up (ytx_up hT ⟨by omega, fun _ => by omega⟩) ⟨by omega, fun _ => by omega⟩
  have gB1 : x_gB B (xm_up (xm_up B 50 10 (E i)) 50 13 ((y_T2 b 2 : Nat) : Int)) := gB_50 (gB_50 gB_id (by omega)) (by omega)
  have B10 : xm_up (xm_up B 50 10 (E i)) 50 13 ((y_T2 b 2 : Nat) : Int) 50 10 = E i := by rw [xu_k (by omega), xu_s]
  have B11 : xm_up (xm_up B 50 10 (E i)) 50 13 ((y_T2 b 2 : Nat) : Int) 50 11 = 0 := by rw [xu_k (by omega), xu_k (by omega)]; exact hf
  have B13 : xm_up (xm_up B 50 10 (E i)) 50 13 ((y_T2 b 2 : Nat) : Int) 50 13 = ((y_T2 b 2 : Nat) : Int) := by rw [xu_s]
  have B14 : xm_up (xm_up B 50 10 (E i)) 50 13 ((y_T2 b 2 : Nat) : Int) 50 14 = B 50 14 := by rw [xu_k (by omega), xu_k (by omega)]
  have B1o : ∀ q : Nat, q ≠ 50 → xm_up (xm_up B 50 10 (E i)) 50 13 ((y_T2 b 2 : Nat) : Int) q = B q := fun q a => by rw [xu_c a, xu_c a]
  generalize xm_up (xm_up B 50 10 (E i)) 50 13 ((y_T2 b 2 : Nat) : Int) = B1 at *
  have nx1 : y_nx t n (B1 50 10) (A1 6 (i + 1)) := by rw [B10, A16]; exact hx1
  show xm_call true (d + 4) 127 [.inr (.inr 4), .inr (.inr 11), .inl ((2 : Nat) : Int)] A1 _
  have body : xm_call true (d + 3) 128 [.inr (.inr 4), .inl 0, .inl 40] A1 (fun v25 M26 => xm_ki (fun r27 => xm_call true (d + 3) 164 [.inr (.inr 11), .inl r27] M26 (fun v28 M29 => xm_ki (fun r30 => (r30 = 0 ∨ r30 = 1) ∧ (fun v9 M10 => xm_ki (fun r11 => (xm_in r11) ∧ ((r11 = 0 → ((0 : Int) = 0 ∨ (0 : Int) = 1) ∧ Q [.inl 0] M10) ∧ (r11 ≠ 0 → xm_call true (d + 4) 129 [.inr (.inr 4)] M10 (fun v12 M13 => xm_ki (fun r14 => (xm_in r14) ∧ ((r14 = 0 → ((0 : Int) = 0 ∨ (0 : Int) = 1) ∧ Q [.inl 0] M13) ∧ (r14 ≠ 0 → ((1 : Int) = 0 ∨ (1 : Int) = 1) ∧ Q [.inl 1] M13))) v12)))) v9) [.inl r30] M29) v28)) v25) := by
    refine sp128 hc1 ⟨by omega, by omega⟩ (fun isn i2 => xq_ki ?_) (fun nisn => xq_ki ?_)
    · obtain ⟨y1, y2, y3⟩ := id isn
      refine en164r11 (rg164r11_0 ⟨by omega, fun _ => ⟨Or.inr rfl, xq_ki ⟨Or.inr rfl, xq_ki (xq_n1 ?_)⟩⟩, fun q => by omega⟩)
      have hc2 : x_cur (xm_up (xm_up A1 4 4 (i + 1 + 1)) 11 2 (A1 7 (i + 1))) t n m E (i + 1 + 1) := cur_keep (cur_next hc1 i2) (by rw [xu_c (by omega)]) (by rw [xu_c (by omega)]) (by rw [xu_c (by omega)]) (by rw [xu_c (by omega)])
      have gA2 : x_gA 12 13 11 A (xm_up (xm_up A1 4 4 (i + 1 + 1)) 11 2 (A1 7 (i + 1))) := gA_q (gA_4 gA1) (by omega) (by omega)
      have hx2 := nx_next hc1 i2
      have A26 : xm_up (xm_up A1 4 4 (i + 1 + 1)) 11 2 (A1 7 (i + 1)) 6 = A1 6 := by rw [xu_c (by omega), xu_c (by omega)]
      have A2o : ∀ q : Nat, q ≠ 4 → q ≠ 11 → xm_up (xm_up A1 4 4 (i + 1 + 1)) 11 2 (A1 7 (i + 1)) q = A1 q := fun q a z => by rw [xu_c z, xu_c a]
      have A2c : ∀ j : Int, j ≠ 2 → xm_up (xm_up A1 4 4 (i + 1 + 1)) 11 2 (A1 7 (i + 1)) 11 j = A 11 j := fun j a => by rw [xu_k a, xu_c (by omega), A1o 11 (by omega) (by omega)]
      have A2k : xm_up (xm_up A1 4 4 (i + 1 + 1)) 11 2 (A1 7 (i + 1)) 11 2 = A1 7 (i + 1) := xu_s
      generalize xm_up (xm_up A1 4 4 (i + 1 + 1)) 11 2 (A1 7 (i + 1)) = A2 at *
      have hT2 : y_txt (xm_up (xm_up B1 50 10 (E (i + 1))) 54 2 (A1 7 (i + 1))) t n := ytx_up (ytx_up hT1 ⟨by omega, fun _ => by omega⟩) ⟨by omega, fun _ => by omega⟩
      have x2 : xm_up (xm_up B1 50 10 (E (i + 1))) 54 2 (A1 7 (i + 1)) 50 10 = E (i + 1) := by rw [xu_c (by omega), xu_s]
      have f2 : xm_up (xm_up B1 50 10 (E (i + 1))) 54 2 (A1 7 (i + 1)) 50 11 = 0 := by rw [xu_c (by omega), xu_k (by omega)]; exact B11
      have nx2 : y_nx t n (xm_up (xm_up B1 50 10 (E (i + 1))) 54 2 (A1 7 (i + 1)) 50 10) (A2 6 (i + 1 + 1)) := by rw [x2, A26]; exact hx2
      have num : ∀ (N : xm_Mem) (R : xm_K), wp208r50_223 (xm_call true (e + 6)) R ((2 : Nat) : Int) (x_mx N (xm_up (xm_up B1 50 10 (E (i + 1))) 54 2 (A1 7 (i + 1)))) → y_rest e 2 (x_mx N B1) R := fun N R hR => by
        show xm_call true (e + 6) 199 [.inr (.inr 50), .inl 0, .inl 40] (x_mx N B1) _
        refine nstep (A := A1) (j := i + 1) hc1 (mtx hT1) (by rw [mx_r (by omega)]; exact nx1) (by rw [mx_r (by omega)]; exact B11) (by omega) (fun _ _ => xq_ki ⟨by omega, ?_⟩) (fun q => absurd isn q)
        rw [mx_up (by omega), mx_up (by omega)]
        exact hR
      refine sp129 hc2 (fun g5 i3 => xq_ki ⟨by omega, fun q => by omega, fun _ => ⟨Or.inr rfl, ?_⟩⟩) (fun g5 => xq_ki ⟨by omega, fun _ => ⟨Or.inl rfl, ?_⟩, fun q => absurd rfl q⟩)
      · refine h1 _ (xm_up (xm_up (xm_up B1 50 10 (E (i + 1))) 54 2 (A1 7 (i + 1))) 50 10 (E (i + 1 + 1))) (i + 1 + 1 + 1) ⟨cur_next hc2 i3, ytx_up hT2 ⟨by omega, fun _ => by omega⟩, by rw [xu_k (by omega)]; exact f2, ?_, ?_, ?_⟩ (by omega) (gA_4 gA2) (gB_50 (gB_54 (gB_50 gB1 (by omega))) (by omega)) (ig _ (fun N R hR => num N R (tail_1 hc2 hT2 nx2 f2 g5 hR)))
        · rw [xu_s, xu_c (by omega)]
          exact nx_next hc2 i3
        · rw [xu_c (c' := 11) (by omega), xu_c (c' := 12) (by omega), xu_c (c' := 13) (by omega), xu_c (c' := 54) (by omega), xu_c (c' := 55) (by omega), xu_c (c' := 56) (by omega), xu_k (k' := 14) (by omega), xu_c (c := 54) (c' := 50) (by omega), xu_k (k := 10) (k' := 14) (by omega), xu_c (c := 54) (c' := 55) (by omega), xu_c (c := 50) (c' := 55) (by omega), xu_c (c := 54) (c' := 56) (by omega), xu_c (c := 50) (c' := 56) (by omega), B14, B1o 55 (by omega), B1o 56 (by omega), A2o 12 (by omega) (by omega), A2o 13 (by omega) (by omega), A1o 12 (by omega) (by omega), A1o 13 (by omega) (by omega)]
          refine pt_set (k := 2) (v := A1 7 (i + 1)) hp (by omega) (fun j q => ⟨A2c j q, ?_⟩) ⟨A2k, xu_s⟩ (by omega)
          rw [xu_k q, xu_c (by omega), B1o 54 (by omega)]
        · rw [xu_c (c' := 9) (by omega), xu_c (c' := 13) (by omega), A2o 9 (by omega) (by omega), A2o 13 (by omega) (by omega), A1o 13 (by omega) (by omega), xu_k (k' := 13) (by omega), xu_k (k' := 14) (by omega), xu_c (c := 54) (c' := 50) (by omega), xu_k (k := 10) (k' := 13) (by omega), xu_k (k := 10) (k' := 14) (by omega), B13, B14]
          refine told_2 (a9 := A 9) (src := 0) (le4 := 0) hw hb.2 (k := 2) (by omega) ?_ (fun w _ q => A19 _ (by omega)) (fun _ => A19k) rfl (fun q => h4 ?_)
          · rw [A19 5 (by omega)]; exact td5
          · rw [tb_T2 (by omega)] at q
            have := (Bool.or_eq_false_iff.mp q).1
            exact this
      · refine h0 A2 (xm_up (xm_up (xm_up (xm_up B1 50 10 (E (i + 1))) 54 2 (A1 7 (i + 1))) 50 10 (A2 6 (i + 1 + 1))) 50 11 1) (i + 1 + 1) hc2 gA2 (gB_50 (gB_50 (gB_54 (gB_50 gB1 (by omega))) (by omega)) (by omega)) xu_s (by rw [xu_k (by omega), xu_s]) (ig _ (fun N R hR => num N R (tail_2 hc2 hT2 nx2 f2 g5 hR)))
    · refine en164r11 (rg164r11_0 ⟨by omega, fun q => by omega, fun _ => ⟨Or.inl rfl, xq_ki ⟨Or.inl rfl, xq_ki (xq_b3 ⟨Or.inl rfl, ?_⟩)⟩⟩⟩)
      refine h0 A1 (xm_up (xm_up (xm_up B1 50 10 (A1 6 (i + 1))) 50 11 1) 54 2 0) (i + 1) hc1 gA1 (gB_54 (gB_50 (gB_50 gB1 (by omega)) (by omega))) (by rw [xu_c (by omega), xu_s]) (by rw [xu_c (by omega), xu_k (by omega), xu_s]) (ig _ (fun N R hR => ?_))
      show xm_call true (e + 6) 199 [.inr (.inr 50), .inl 0, .inl 40] (x_mx N B1) _
      refine nstep (A := A1) (j := i + 1) hc1 (mtx hT1) (by rw [mx_r (by omega)]; exact nx1) (by rw [mx_r (by omega)]; exact B11) (by omega) (fun q _ => absurd q nisn) (fun _ => xq_ki ⟨by omega, ?_⟩)
      rw [mx_up (by omega), mx_up (by omega), mx_up (by omega)]
      exact tail_3 (by rw [xu_c (by omega), xu_s]) hR
  refine en127r4r11 (rg127r4r11_0 ⟨by omega, ⟨fun q => ?_, fun q => ?_, fun q => ?_, fun q => by omega, trivial⟩, fun q => by omega⟩)
  all_goals first | exact body | (exfalso; omega)
theorem it_14_0 {e : Nat} {i : Int} {A B : xm_Mem} {b : Nat} (hit : x_it 15 16 14 t n m E i A B) (h10 : B 50 10 = A 6 i) (hi : i < m) (hk1 : A 5 i = 1) (hs : x_say t n (A 6 i) (E i) (xm_sby.getD 0 [])) (hb : B 50 13 = b ∧ b < 32) (hw : ∀ w : Nat, w < 5 → A 9 w = if b.testBit w = true then 1 else 0) (h4 : b.testBit 4 = false → A 16 4 = 0) (hlt : A 9 0 < 1)
    (h1 : ∀ (A' B' : xm_Mem) (i' : Int), x_it 15 16 14 t n m E i' A' B' → i < i' → x_gA 15 16 14 A A' → x_gB B B' → y_igo e B B' → Q [.inl 1] A')
    (h0 : ∀ (A' B' : xm_Mem) (i' : Int), x_cur A' t n m E i' → x_gA 15 16 14 A A' → x_gB B B' → B' 50 11 = 1 → B' 50 10 = A' 6 i' → y_igo e B B' → Q [.inl 0] A') : x_rest_14 (d + 4) 0 (xm_up (xm_up A 9 (0 : Nat) (A 9 (0 : Nat) + 1)) 4 4 (i + 1)) Q := by
  obtain ⟨hc, hT, hf, hx, hp, htd⟩ := hit
  have w0 : A 9 (0 : Nat) = if b.testBit 0 = true then 1 else 0 := hw 0 (by omega)
  have bit : b.testBit 0 = false := by
    cases q : b.testBit 0 with
    | false => rfl
    | true =>
      rw [q, if_pos rfl] at w0
      have : A 9 (0 : Nat) < 1 := hlt
      omega
  rw [bit, if_neg Bool.false_ne_true] at w0
  have td5 : A 9 5 = B 50 14 := by obtain ⟨_, _, _, _, z, _⟩ := htd; exact z
  have src := hp.2.2.2.2.2.1
  have hc9 : x_cur (xm_up A 9 (0 : Nat) (A 9 (0 : Nat) + 1)) t n m E i := cur_keep hc (by rw [xu_c (by omega)]) (by rw [xu_c (by omega)]) (by rw [xu_c (by omega)]) (by rw [xu_c (by omega)])
  have hc1 := cur_next hc9 hi
  have gA1 : x_gA 15 16 14 A (xm_up (xm_up A 9 (0 : Nat) (A 9 (0 : Nat) + 1)) 4 4 (i + 1)) := gA_4 (gA_q gA_id (by omega) (by omega))
  have hx1 := nx_next hc hi
  have i0 := hc.2.2.2.1
  have ig := fun B' hh => igo_of (e := e) (k := 0) (b := b) (B' := B') hc hT h10 hf hi hk1 (by omega) hs hb (fun _ => bit) (fun q => by omega) hh
  have A16 : xm_up (xm_up A 9 (0 : Nat) (A 9 (0 : Nat) + 1)) 4 4 (i + 1) 6 = A 6 := by rw [xu_c (by omega), xu_c (by omega)]
  have A15 : xm_up (xm_up A 9 (0 : Nat) (A 9 (0 : Nat) + 1)) 4 4 (i + 1) 5 = A 5 := by rw [xu_c (by omega), xu_c (by omega)]
  have A17 : xm_up (xm_up A 9 (0 : Nat) (A 9 (0 : Nat) + 1)) 4 4 (i + 1) 7 = A 7 := by rw [xu_c (by omega), xu_c (by omega)]
  have A19 : ∀ j : Int, j ≠ (0 : Nat) → xm_up (xm_up A 9 (0 : Nat) (A 9 (0 : Nat) + 1)) 4 4 (i + 1) 9 j = A 9 j := fun j q => by rw [xu_c (by omega), xu_k q]
  have A19k : xm_up (xm_up A 9 (0 : Nat) (A 9 (0 : Nat) + 1)) 4 4 (i + 1) 9 (0 : Nat) = 1 := by rw [xu_c (by omega), xu_s, w0]; rfl
  have A1o : ∀ q : Nat, q ≠ 4 → q ≠ 9 → xm_up (xm_up A 9 (0 : Nat) (A 9 (0 : Nat) + 1)) 4 4 (i + 1) q = A q := fun q a z => by rw [xu_c a, xu_c z]
  generalize xm_up (xm_up A 9 (0 : Nat) (A 9 (0 : Nat) + 1)) 4 4 (i + 1) = A1 at *
  have hT1 : y_txt (xm_up (xm_up B 50 10 (E i)) 50 13 ((y_T2 b 0 : Nat) : Int)) t n := ytx_up (ytx_up hT ⟨by omega, fun _ => by omega⟩) ⟨by omega, fun _ => by omega⟩
  have gB1 : x_gB B (xm_up (xm_up B 50 10 (E i)) 50 13 ((y_T2 b 0 : Nat) : Int)) := gB_50 (gB_50 gB_id (by omega)) (by omega)
  have B10 : xm_up (xm_up B 50 10 (E i)) 50 13 ((y_T2 b 0 : Nat) : Int) 50 10 = E i := by rw [xu_k (by omega), xu_s]
  have B11 : xm_up (xm_up B 50 10 (E i)) 50 13 ((y_T2 b 0 : Nat) : Int) 50 11 = 0 := by rw [xu_k (by omega), xu_k (by omega)]; exact hf
  have B13 : xm_up (xm_up B 50 10 (E i)) 50 13 ((y_T2 b 0 : Nat) : Int) 50 13 = ((y_T2 b 0 : Nat) : Int) := by rw [xu_s]
  have B14 : xm_up (xm_up B 50 10 (E i)) 50 13 ((y_T2 b 0 : Nat) : Int) 50 14 = B 50 14 := by rw [xu_k (by omega), xu_k (by omega)]
  have B1o : ∀ q : Nat, q ≠ 50 → xm_up (xm_up B 50 10 (E i)) 50 13 ((y_T2 b 0 : Nat) : Int) q = B q := fun q a => by rw [xu_c a, xu_c a]
  generalize xm_up (xm_up B 50 10 (E i)) 50 13 ((y_T2 b 0 : Nat) : Int) = B1 at *
  have nx1 : y_nx t n (B1 50 10) (A1 6 (i + 1)) := by rw [B10, A16]; exact hx1
  show xm_call true (d + 4) 127 [.inr (.inr 4), .inr (.inr 14), .inl ((0 : Nat) : Int)] A1 _
  have body : xm_call true (d + 3) 128 [.inr (.inr 4), .inl 1, .inl 40] A1 (fun v25 M26 => xm_ki (fun r27 => xm_call true (d + 3) 162 [.inr (.inr 14), .inl r27] M26 (fun v28 M29 => xm_ki (fun r30 => (r30 = 0 ∨ r30 = 1) ∧ (fun v9 M10 => xm_ki (fun r11 => (xm_in r11) ∧ ((r11 = 0 → ((0 : Int) = 0 ∨ (0 : Int) = 1) ∧ Q [.inl 0] M10) ∧ (r11 ≠ 0 → xm_call true (d + 4) 129 [.inr (.inr 4)] M10 (fun v12 M13 => xm_ki (fun r14 => (xm_in r14) ∧ ((r14 = 0 → ((0 : Int) = 0 ∨ (0 : Int) = 1) ∧ Q [.inl 0] M13) ∧ (r14 ≠ 0 → ((1 : Int) = 0 ∨ (1 : Int) = 1) ∧ Q [.inl 1] M13))) v12)))) v9) [.inl r30] M29) v28)) v25) := by
    refine sp128 hc1 ⟨by omega, by omega⟩ (fun isn i2 => xq_ki ?_) (fun nisn => xq_ki ?_)
    · obtain ⟨y1, y2, y3⟩ := id isn
      refine en162r14 (rg162r14_0 ⟨by omega, fun _ => ⟨Or.inr rfl, xq_ki ⟨Or.inr rfl, xq_ki (xq_n1 ?_)⟩⟩, fun q => by omega⟩)
      have hc2 : x_cur (xm_up (xm_up A1 4 4 (i + 1 + 1)) 14 0 (A1 7 (i + 1))) t n m E (i + 1 + 1) := cur_keep (cur_next hc1 i2) (by rw [xu_c (by omega)]) (by rw [xu_c (by omega)]) (by rw [xu_c (by omega)]) (by rw [xu_c (by omega)])
      have gA2 : x_gA 15 16 14 A (xm_up (xm_up A1 4 4 (i + 1 + 1)) 14 0 (A1 7 (i + 1))) := gA_q (gA_4 gA1) (by omega) (by omega)
      have hx2 := nx_next hc1 i2
      have A26 : xm_up (xm_up A1 4 4 (i + 1 + 1)) 14 0 (A1 7 (i + 1)) 6 = A1 6 := by rw [xu_c (by omega), xu_c (by omega)]
      have A2o : ∀ q : Nat, q ≠ 4 → q ≠ 14 → xm_up (xm_up A1 4 4 (i + 1 + 1)) 14 0 (A1 7 (i + 1)) q = A1 q := fun q a z => by rw [xu_c z, xu_c a]
      have A2c : ∀ j : Int, j ≠ 0 → xm_up (xm_up A1 4 4 (i + 1 + 1)) 14 0 (A1 7 (i + 1)) 14 j = A 14 j := fun j a => by rw [xu_k a, xu_c (by omega), A1o 14 (by omega) (by omega)]
      have A2k : xm_up (xm_up A1 4 4 (i + 1 + 1)) 14 0 (A1 7 (i + 1)) 14 0 = A1 7 (i + 1) := xu_s
      generalize xm_up (xm_up A1 4 4 (i + 1 + 1)) 14 0 (A1 7 (i + 1)) = A2 at *
      have hT2 : y_txt (xm_up (xm_up B1 50 10 (E (i + 1))) 54 0 (A1 7 (i + 1))) t n := ytx_up (ytx_up hT1 ⟨by omega, fun _ => by omega⟩) ⟨by omega, fun _ => by omega⟩
      have x2 : xm_up (xm_up B1 50 10 (E (i + 1))) 54 0 (A1 7 (i + 1)) 50 10 = E (i + 1) := by rw [xu_c (by omega), xu_s]
      have f2 : xm_up (xm_up B1 50 10 (E (i + 1))) 54 0 (A1 7 (i + 1)) 50 11 = 0 := by rw [xu_c (by omega), xu_k (by omega)]; exact B11
      have nx2 : y_nx t n (xm_up (xm_up B1 50 10 (E (i + 1))) 54 0 (A1 7 (i + 1)) 50 10) (A2 6 (i + 1 + 1)) := by rw [x2, A26]; exact hx2
      have num : ∀ (N : xm_Mem) (R : xm_K), wp208r50_223 (xm_call true (e + 6)) R ((0 : Nat) : Int) (x_mx N (xm_up (xm_up B1 50 10 (E (i + 1))) 54 0 (A1 7 (i + 1)))) → y_rest e 0 (x_mx N B1) R := fun N R hR => by
        show xm_call true (e + 6) 199 [.inr (.inr 50), .inl 1, .inl 40] (x_mx N B1) _
        refine nstep (A := A1) (j := i + 1) hc1 (mtx hT1) (by rw [mx_r (by omega)]; exact nx1) (by rw [mx_r (by omega)]; exact B11) (by omega) (fun _ _ => xq_ki ⟨by omega, ?_⟩) (fun q => absurd isn q)
        rw [mx_up (by omega), mx_up (by omega)]
        exact hR
      refine sp129 hc2 (fun g5 i3 => xq_ki ⟨by omega, fun q => by omega, fun _ => ⟨Or.inr rfl, ?_⟩⟩) (fun g5 => xq_ki ⟨by omega, fun _ => ⟨Or.inl rfl, ?_⟩, fun q => absurd rfl q⟩)
      · refine h1 _ (xm_up (xm_up (xm_up B1 50 10 (E (i + 1))) 54 0 (A1 7 (i + 1))) 50 10 (E (i + 1 + 1))) (i + 1 + 1 + 1) ⟨cur_next hc2 i3, ytx_up hT2 ⟨by omega, fun _ => by omega⟩, by rw [xu_k (by omega)]; exact f2, ?_, ?_, ?_⟩ (by omega) (gA_4 gA2) (gB_50 (gB_54 (gB_50 gB1 (by omega))) (by omega)) (ig _ (fun N R hR => num N R (tail_1 hc2 hT2 nx2 f2 g5 hR)))
        · rw [xu_s, xu_c (by omega)]
          exact nx_next hc2 i3
        · rw [xu_c (c' := 14) (by omega), xu_c (c' := 15) (by omega), xu_c (c' := 16) (by omega), xu_c (c' := 54) (by omega), xu_c (c' := 55) (by omega), xu_c (c' := 56) (by omega), xu_k (k' := 14) (by omega), xu_c (c := 54) (c' := 50) (by omega), xu_k (k := 10) (k' := 14) (by omega), xu_c (c := 54) (c' := 55) (by omega), xu_c (c := 50) (c' := 55) (by omega), xu_c (c := 54) (c' := 56) (by omega), xu_c (c := 50) (c' := 56) (by omega), B14, B1o 55 (by omega), B1o 56 (by omega), A2o 15 (by omega) (by omega), A2o 16 (by omega) (by omega), A1o 15 (by omega) (by omega), A1o 16 (by omega) (by omega)]
          refine pt_set (k := 0) (v := A1 7 (i + 1)) hp (by omega) (fun j q => ⟨A2c j q, ?_⟩) ⟨A2k, xu_s⟩ (by omega)
          rw [xu_k q, xu_c (by omega), B1o 54 (by omega)]
        · rw [xu_c (c' := 9) (by omega), xu_c (c' := 16) (by omega), A2o 9 (by omega) (by omega), A2o 16 (by omega) (by omega), A1o 16 (by omega) (by omega), xu_k (k' := 13) (by omega), xu_k (k' := 14) (by omega), xu_c (c := 54) (c' := 50) (by omega), xu_k (k := 10) (k' := 13) (by omega), xu_k (k := 10) (k' := 14) (by omega), B13, B14]
          refine told_2 (a9 := A 9) (src := 0) (le4 := 0) hw hb.2 (k := 0) (by omega) ?_ (fun w _ q => A19 _ (by omega)) (fun _ => A19k) rfl (fun q => h4 ?_)
          · rw [A19 5 (by omega)]; exact td5
          · rw [tb_T2 (by omega)] at q
            have := (Bool.or_eq_false_iff.mp q).1
            exact this
      · refine h0 A2 (xm_up (xm_up (xm_up (xm_up B1 50 10 (E (i + 1))) 54 0 (A1 7 (i + 1))) 50 10 (A2 6 (i + 1 + 1))) 50 11 1) (i + 1 + 1) hc2 gA2 (gB_50 (gB_50 (gB_54 (gB_50 gB1 (by omega))) (by omega)) (by omega)) xu_s (by rw [xu_k (by omega), xu_s]) (ig _ (fun N R hR => num N R (tail_2 hc2 hT2 nx2 f2 g5 hR)))
    · refine en162r14 (rg162r14_0 ⟨by omega, fun q => by omega, fun _ => ⟨Or.inl rfl, xq_ki ⟨Or.inl rfl, xq_ki (xq_b3 ⟨Or.inl rfl, ?_⟩)⟩⟩⟩)
      refine h0 A1 (xm_up (xm_up (xm_up B1 50 10 (A1 6 (i + 1))) 50 11 1) 54 0 1) (i + 1) hc1 gA1 (gB_54 (gB_50 (gB_50 gB1 (by omega)) (by omega))) (by rw [xu_c (by omega), xu_s]) (by rw [xu_c (by omega), xu_k (by omega), xu_s]) (ig _ (fun N R hR => ?_))
      show xm_call true (e + 6) 199 [.inr (.inr 50), .inl 1, .inl 40] (x_mx N B1) _
      refine nstep (A := A1) (j := i + 1) hc1 (mtx hT1) (by rw [mx_r (by omega)]; exact nx1) (by rw [mx_r (by omega)]; exact B11) (by omega) (fun q _ => absurd q nisn) (fun _ => xq_ki ⟨by omega, ?_⟩)
      rw [mx_up (by omega), mx_up (by omega), mx_up (by omega)]
      exact tail_3 (by rw [xu_c (by omega), xu_s]) hR
  refine en127r4r14 (rg127r4r14_0 ⟨by omega, ⟨fun q => ?_, fun q => ?_, fun q => ?_, fun q => by omega, trivial⟩, fun q => by omega⟩)
  all_goals first | exact body | (exfalso; omega)
theorem it_14_1 {e : Nat} {i : Int} {A B : xm_Mem} {b : Nat} (hit : x_it 15 16 14 t n m E i A B) (h10 : B 50 10 = A 6 i) (hi : i < m) (hk1 : A 5 i = 1) (hs : x_say t n (A 6 i) (E i) (xm_sby.getD 1 [])) (hb : B 50 13 = b ∧ b < 32) (hw : ∀ w : Nat, w < 5 → A 9 w = if b.testBit w = true then 1 else 0) (h4 : b.testBit 4 = false → A 16 4 = 0) (hlt : A 9 1 < 1)
    (h1 : ∀ (A' B' : xm_Mem) (i' : Int), x_it 15 16 14 t n m E i' A' B' → i < i' → x_gA 15 16 14 A A' → x_gB B B' → y_igo e B B' → Q [.inl 1] A')
    (h0 : ∀ (A' B' : xm_Mem) (i' : Int), x_cur A' t n m E i' → x_gA 15 16 14 A A' → x_gB B B' → B' 50 11 = 1 → B' 50 10 = A' 6 i' → y_igo e B B' → Q [.inl 0] A') : x_rest_14 (d + 4) 1 (xm_up (xm_up A 9 (1 : Nat) (A 9 (1 : Nat) + 1)) 4 4 (i + 1)) Q := by
  obtain ⟨hc, hT, hf, hx, hp, htd⟩ := hit
  have w0 : A 9 (1 : Nat) = if b.testBit 1 = true then 1 else 0 := hw 1 (by omega)
  have bit : b.testBit 1 = false := by
    cases q : b.testBit 1 with
    | false => rfl
    | true =>
      rw [q, if_pos rfl] at w0
      have : A 9 (1 : Nat) < 1 := hlt
      omega
  rw [bit, if_neg Bool.false_ne_true] at w0
  have td5 : A 9 5 = B 50 14 := by obtain ⟨_, _, _, _, z, _⟩ := htd; exact z
  have src := hp.2.2.2.2.2.1
  have hc9 : x_cur (xm_up A 9 (1 : Nat) (A 9 (1 : Nat) + 1)) t n m E i := cur_keep hc (by rw [xu_c (by omega)]) (by rw [xu_c (by omega)]) (by rw [xu_c (by omega)]) (by rw [xu_c (by omega)])
  have hc1 := cur_next hc9 hi
  have gA1 : x_gA 15 16 14 A (xm_up (xm_up A 9 (1 : Nat) (A 9 (1 : Nat) + 1)) 4 4 (i + 1)) := gA_4 (gA_q gA_id (by omega) (by omega))
  have hx1 := nx_next hc hi
  have i0 := hc.2.2.2.1
  have ig := fun B' hh => igo_of (e := e) (k := 1) (b := b) (B' := B') hc hT h10 hf hi hk1 (by omega) hs hb (fun _ => bit) (fun q => by omega) hh
  have A16 : xm_up (xm_up A 9 (1 : Nat) (A 9 (1 : Nat) + 1)) 4 4 (i + 1) 6 = A 6 := by rw [xu_c (by omega), xu_c (by omega)]
  have A15 : xm_up (xm_up A 9 (1 : Nat) (A 9 (1 : Nat) + 1)) 4 4 (i + 1) 5 = A 5 := by rw [xu_c (by omega), xu_c (by omega)]
  have A17 : xm_up (xm_up A 9 (1 : Nat) (A 9 (1 : Nat) + 1)) 4 4 (i + 1) 7 = A 7 := by rw [xu_c (by omega), xu_c (by omega)]
  have A19 : ∀ j : Int, j ≠ (1 : Nat) → xm_up (xm_up A 9 (1 : Nat) (A 9 (1 : Nat) + 1)) 4 4 (i + 1) 9 j = A 9 j := fun j q => by rw [xu_c (by omega), xu_k q]
  have A19k : xm_up (xm_up A 9 (1 : Nat) (A 9 (1 : Nat) + 1)) 4 4 (i + 1) 9 (1 : Nat) = 1 := by rw [xu_c (by omega), xu_s, w0]; rfl
  have A1o : ∀ q : Nat, q ≠ 4 → q ≠ 9 → xm_up (xm_up A 9 (1 : Nat) (A 9 (1 : Nat) + 1)) 4 4 (i + 1) q = A q := fun q a z => by rw [xu_c a, xu_c z]
  generalize xm_up (xm_up A 9 (1 : Nat) (A 9 (1 : Nat) + 1)) 4 4 (i + 1) = A1 at *
  have hT1 : y_txt (xm_up (xm_up B 50 10 (E i)) 50 13 ((y_T2 b 1 : Nat) : Int)) t n := ytx_up (ytx_up hT ⟨by omega, fun _ => by omega⟩) ⟨by omega, fun _ => by omega⟩
  have gB1 : x_gB B (xm_up (xm_up B 50 10 (E i)) 50 13 ((y_T2 b 1 : Nat) : Int)) := gB_50 (gB_50 gB_id (by omega)) (by omega)
  have B10 : xm_up (xm_up B 50 10 (E i)) 50 13 ((y_T2 b 1 : Nat) : Int) 50 10 = E i := by rw [xu_k (by omega), xu_s]
  have B11 : xm_up (xm_up B 50 10 (E i)) 50 13 ((y_T2 b 1 : Nat) : Int) 50 11 = 0 := by rw [xu_k (by omega), xu_k (by omega)]; exact hf
  have B13 : xm_up (xm_up B 50 10 (E i)) 50 13 ((y_T2 b 1 : Nat) : Int) 50 13 = ((y_T2 b 1 : Nat) : Int) := by rw [xu_s]
  have B14 : xm_up (xm_up B 50 10 (E i)) 50 13 ((y_T2 b 1 : Nat) : Int) 50 14 = B 50 14 := by rw [xu_k (by omega), xu_k (by omega)]
  have B1o : ∀ q : Nat, q ≠ 50 → xm_up (xm_up B 50 10 (E i)) 50 13 ((y_T2 b 1 : Nat) : Int) q = B q := fun q a => by rw [xu_c a, xu_c a]
  generalize xm_up (xm_up B 50 10 (E i)) 50 13 ((y_T2 b 1 : Nat) : Int) = B1 at *
  have nx1 : y_nx t n (B1 50 10) (A1 6 (i + 1)) := by rw [B10, A16]; exact hx1
  show xm_call true (d + 4) 127 [.inr (.inr 4), .inr (.inr 14), .inl ((1 : Nat) : Int)] A1 _
  have body : xm_call true (d + 3) 128 [.inr (.inr 4), .inl 1, .inl 9] A1 (fun v25 M26 => xm_ki (fun r27 => xm_call true (d + 3) 163 [.inr (.inr 14), .inl r27] M26 (fun v28 M29 => xm_ki (fun r30 => (r30 = 0 ∨ r30 = 1) ∧ (fun v9 M10 => xm_ki (fun r11 => (xm_in r11) ∧ ((r11 = 0 → ((0 : Int) = 0 ∨ (0 : Int) = 1) ∧ Q [.inl 0] M10) ∧ (r11 ≠ 0 → xm_call true (d + 4) 129 [.inr (.inr 4)] M10 (fun v12 M13 => xm_ki (fun r14 => (xm_in r14) ∧ ((r14 = 0 → ((0 : Int) = 0 ∨ (0 : Int) = 1) ∧ Q [.inl 0] M13) ∧ (r14 ≠ 0 → ((1 : Int) = 0 ∨ (1 : Int) = 1) ∧ Q [.inl 1] M13))) v12)))) v9) [.inl r30] M29) v28)) v25) := by
    refine sp128 hc1 ⟨by omega, by omega⟩ (fun isn i2 => xq_ki ?_) (fun nisn => xq_ki ?_)
    · obtain ⟨y1, y2, y3⟩ := id isn
      refine en163r14 (rg163r14_0 ⟨by omega, fun _ => ⟨Or.inr rfl, xq_ki ⟨Or.inr rfl, xq_ki (xq_n1 ?_)⟩⟩, fun q => by omega⟩)
      have hc2 : x_cur (xm_up (xm_up A1 4 4 (i + 1 + 1)) 14 1 (A1 7 (i + 1))) t n m E (i + 1 + 1) := cur_keep (cur_next hc1 i2) (by rw [xu_c (by omega)]) (by rw [xu_c (by omega)]) (by rw [xu_c (by omega)]) (by rw [xu_c (by omega)])
      have gA2 : x_gA 15 16 14 A (xm_up (xm_up A1 4 4 (i + 1 + 1)) 14 1 (A1 7 (i + 1))) := gA_q (gA_4 gA1) (by omega) (by omega)
      have hx2 := nx_next hc1 i2
      have A26 : xm_up (xm_up A1 4 4 (i + 1 + 1)) 14 1 (A1 7 (i + 1)) 6 = A1 6 := by rw [xu_c (by omega), xu_c (by omega)]
      have A2o : ∀ q : Nat, q ≠ 4 → q ≠ 14 → xm_up (xm_up A1 4 4 (i + 1 + 1)) 14 1 (A1 7 (i + 1)) q = A1 q := fun q a z => by rw [xu_c z, xu_c a]
      have A2c : ∀ j : Int, j ≠ 1 → xm_up (xm_up A1 4 4 (i + 1 + 1)) 14 1 (A1 7 (i + 1)) 14 j = A 14 j := fun j a => by rw [xu_k a, xu_c (by omega), A1o 14 (by omega) (by omega)]
      have A2k : xm_up (xm_up A1 4 4 (i + 1 + 1)) 14 1 (A1 7 (i + 1)) 14 1 = A1 7 (i + 1) := xu_s
      generalize xm_up (xm_up A1 4 4 (i + 1 + 1)) 14 1 (A1 7 (i + 1)) = A2 at *
      have hT2 : y_txt (xm_up (xm_up B1 50 10 (E (i + 1))) 54 1 (A1 7 (i + 1))) t n := ytx_up (ytx_up hT1 ⟨by omega, fun _ => by omega⟩) ⟨by omega, fun _ => by omega⟩
      have x2 : xm_up (xm_up B1 50 10 (E (i + 1))) 54 1 (A1 7 (i + 1)) 50 10 = E (i + 1) := by rw [xu_c (by omega), xu_s]
      have f2 : xm_up (xm_up B1 50 10 (E (i + 1))) 54 1 (A1 7 (i + 1)) 50 11 = 0 := by rw [xu_c (by omega), xu_k (by omega)]; exact B11
      have nx2 : y_nx t n (xm_up (xm_up B1 50 10 (E (i + 1))) 54 1 (A1 7 (i + 1)) 50 10) (A2 6 (i + 1 + 1)) := by rw [x2, A26]; exact hx2
      have num : ∀ (N : xm_Mem) (R : xm_K), wp208r50_223 (xm_call true (e + 6)) R ((1 : Nat) : Int) (x_mx N (xm_up (xm_up B1 50 10 (E (i + 1))) 54 1 (A1 7 (i + 1)))) → y_rest e 1 (x_mx N B1) R := fun N R hR => by
        show xm_call true (e + 6) 199 [.inr (.inr 50), .inl 1, .inl 9] (x_mx N B1) _
        refine nstep (A := A1) (j := i + 1) hc1 (mtx hT1) (by rw [mx_r (by omega)]; exact nx1) (by rw [mx_r (by omega)]; exact B11) (by omega) (fun _ _ => xq_ki ⟨by omega, ?_⟩) (fun q => absurd isn q)
        rw [mx_up (by omega), mx_up (by omega)]
        exact hR
      refine sp129 hc2 (fun g5 i3 => xq_ki ⟨by omega, fun q => by omega, fun _ => ⟨Or.inr rfl, ?_⟩⟩) (fun g5 => xq_ki ⟨by omega, fun _ => ⟨Or.inl rfl, ?_⟩, fun q => absurd rfl q⟩)
      · refine h1 _ (xm_up (xm_up (xm_up B1 50 10 (E (i + 1))) 54 1 (A1 7 (i + 1))) 50 10 (E (i + 1 + 1))) (i + 1 + 1 + 1) ⟨cur_next hc2 i3, ytx_up hT2 ⟨by omega, fun _ => by omega⟩, by rw [xu_k (by omega)]; exact f2, ?_, ?_, ?_⟩ (by omega) (gA_4 gA2) (gB_50 (gB_54 (gB_50 gB1 (by omega))) (by omega)) (ig _ (fun N R hR => num N R (tail_1 hc2 hT2 nx2 f2 g5 hR)))
        · rw [xu_s, xu_c (by omega)]
          exact nx_next hc2 i3
        · rw [xu_c (c' := 14) (by omega), xu_c (c' := 15) (by omega), xu_c (c' := 16) (by omega), xu_c (c' := 54) (by omega), xu_c (c' := 55) (by omega), xu_c (c' := 56) (by omega), xu_k (k' := 14) (by omega), xu_c (c := 54) (c' := 50) (by omega), xu_k (k := 10) (k' := 14) (by omega), xu_c (c := 54) (c' := 55) (by omega), xu_c (c := 50) (c' := 55) (by omega), xu_c (c := 54) (c' := 56) (by omega), xu_c (c := 50) (c' := 56) (by omega), B14, B1o 55 (by omega), B1o 56 (by omega), A2o 15 (by omega) (by omega), A2o 16 (by omega) (by omega), A1o 15 (by omega) (by omega), A1o 16 (by omega) (by omega)]
          refine pt_set (k := 1) (v := A1 7 (i + 1)) hp (by omega) (fun j q => ⟨A2c j q, ?_⟩) ⟨A2k, xu_s⟩ (by omega)
          rw [xu_k q, xu_c (by omega), B1o 54 (by omega)]
        · rw [xu_c (c' := 9) (by omega), xu_c (c' := 16) (by omega), A2o 9 (by omega) (by omega), A2o 16 (by omega) (by omega), A1o 16 (by omega) (by omega), xu_k (k' := 13) (by omega), xu_k (k' := 14) (by omega), xu_c (c := 54) (c' := 50) (by omega), xu_k (k := 10) (k' := 13) (by omega), xu_k (k := 10) (k' := 14) (by omega), B13, B14]
          refine told_2 (a9 := A 9) (src := 0) (le4 := 0) hw hb.2 (k := 1) (by omega) ?_ (fun w _ q => A19 _ (by omega)) (fun _ => A19k) rfl (fun q => h4 ?_)
          · rw [A19 5 (by omega)]; exact td5
          · rw [tb_T2 (by omega)] at q
            have := (Bool.or_eq_false_iff.mp q).1
            exact this
      · refine h0 A2 (xm_up (xm_up (xm_up (xm_up B1 50 10 (E (i + 1))) 54 1 (A1 7 (i + 1))) 50 10 (A2 6 (i + 1 + 1))) 50 11 1) (i + 1 + 1) hc2 gA2 (gB_50 (gB_50 (gB_54 (gB_50 gB1 (by omega))) (by omega)) (by omega)) xu_s (by rw [xu_k (by omega), xu_s]) (ig _ (fun N R hR => num N R (tail_2 hc2 hT2 nx2 f2 g5 hR)))
    · refine en163r14 (rg163r14_0 ⟨by omega, fun q => by omega, fun _ => ⟨Or.inl rfl, xq_ki ⟨Or.inl rfl, xq_ki (xq_b3 ⟨Or.inl rfl, ?_⟩)⟩⟩⟩)
      refine h0 A1 (xm_up (xm_up (xm_up B1 50 10 (A1 6 (i + 1))) 50 11 1) 54 1 1) (i + 1) hc1 gA1 (gB_54 (gB_50 (gB_50 gB1 (by omega)) (by omega))) (by rw [xu_c (by omega), xu_s]) (by rw [xu_c (by omega), xu_k (by omega), xu_s]) (ig _ (fun N R hR => ?_))
      show xm_call true (e + 6) 199 [.inr (.inr 50), .inl 1, .inl 9] (x_mx N B1) _
      refine nstep (A := A1) (j := i + 1) hc1 (mtx hT1) (by rw [mx_r (by omega)]; exact nx1) (by rw [mx_r (by omega)]; exact B11) (by omega) (fun q _ => absurd q nisn) (fun _ => xq_ki ⟨by omega, ?_⟩)
      rw [mx_up (by omega), mx_up (by omega), mx_up (by omega)]
      exact tail_3 (by rw [xu_c (by omega), xu_s]) hR
  refine en127r4r14 (rg127r4r14_0 ⟨by omega, ⟨fun q => ?_, fun q => ?_, fun q => ?_, fun q => by omega, trivial⟩, fun q => by omega⟩)
  all_goals first | exact body | (exfalso; omega)
theorem it_14_2 {e : Nat} {i : Int} {A B : xm_Mem} {b : Nat} (hit : x_it 15 16 14 t n m E i A B) (h10 : B 50 10 = A 6 i) (hi : i < m) (hk1 : A 5 i = 1) (hs : x_say t n (A 6 i) (E i) (xm_sby.getD 2 [])) (hb : B 50 13 = b ∧ b < 32) (hw : ∀ w : Nat, w < 5 → A 9 w = if b.testBit w = true then 1 else 0) (h4 : b.testBit 4 = false → A 16 4 = 0) (hlt : A 9 2 < 1)
    (h1 : ∀ (A' B' : xm_Mem) (i' : Int), x_it 15 16 14 t n m E i' A' B' → i < i' → x_gA 15 16 14 A A' → x_gB B B' → y_igo e B B' → Q [.inl 1] A')
    (h0 : ∀ (A' B' : xm_Mem) (i' : Int), x_cur A' t n m E i' → x_gA 15 16 14 A A' → x_gB B B' → B' 50 11 = 1 → B' 50 10 = A' 6 i' → y_igo e B B' → Q [.inl 0] A') : x_rest_14 (d + 4) 2 (xm_up (xm_up A 9 (2 : Nat) (A 9 (2 : Nat) + 1)) 4 4 (i + 1)) Q := by
  obtain ⟨hc, hT, hf, hx, hp, htd⟩ := hit
  have w0 : A 9 (2 : Nat) = if b.testBit 2 = true then 1 else 0 := hw 2 (by omega)
  have bit : b.testBit 2 = false := by
    cases q : b.testBit 2 with
    | false => rfl
    | true =>
      rw [q, if_pos rfl] at w0
      have : A 9 (2 : Nat) < 1 := hlt
      omega
  rw [bit, if_neg Bool.false_ne_true] at w0
  have td5 : A 9 5 = B 50 14 := by obtain ⟨_, _, _, _, z, _⟩ := htd; exact z
  have src := hp.2.2.2.2.2.1
  have hc9 : x_cur (xm_up A 9 (2 : Nat) (A 9 (2 : Nat) + 1)) t n m E i := cur_keep hc (by rw [xu_c (by omega)]) (by rw [xu_c (by omega)]) (by rw [xu_c (by omega)]) (by rw [xu_c (by omega)])
  have hc1 := cur_next hc9 hi
  have gA1 : x_gA 15 16 14 A (xm_up (xm_up A 9 (2 : Nat) (A 9 (2 : Nat) + 1)) 4 4 (i + 1)) := gA_4 (gA_q gA_id (by omega) (by omega))
  have hx1 := nx_next hc hi
  have i0 := hc.2.2.2.1
  have ig := fun B' hh => igo_of (e := e) (k := 2) (b := b) (B' := B') hc hT h10 hf hi hk1 (by omega) hs hb (fun _ => bit) (fun q => by omega) hh
  have A16 : xm_up (xm_up A 9 (2 : Nat) (A 9 (2 : Nat) + 1)) 4 4 (i + 1) 6 = A 6 := by rw [xu_c (by omega), xu_c (by omega)]
  have A15 : xm_up (xm_up A 9 (2 : Nat) (A 9 (2 : Nat) + 1)) 4 4 (i + 1) 5 = A 5 := by rw [xu_c (by omega), xu_c (by omega)]
  have A17 : xm_up (xm_up A 9 (2 : Nat) (A 9 (2 : Nat) + 1)) 4 4 (i + 1) 7 = A 7 := by rw [xu_c (by omega), xu_c (by omega)]
  have A19 : ∀ j : Int, j ≠ (2 : Nat) → xm_up (xm_up A 9 (2 : Nat) (A 9 (2 : Nat) + 1)) 4 4 (i + 1) 9 j = A 9 j := fun j q => by rw [xu_c (by omega), xu_k q]
  have A19k : xm_up (xm_up A 9 (2 : Nat) (A 9 (2 : Nat) + 1)) 4 4 (i + 1) 9 (2 : Nat) = 1 := by rw [xu_c (by omega), xu_s, w0]; rfl
  have A1o : ∀ q : Nat, q ≠ 4 → q ≠ 9 → xm_up (xm_up A 9 (2 : Nat) (A 9 (2 : Nat) + 1)) 4 4 (i + 1) q = A q := fun q a z => by rw [xu_c a, xu_c z]
  generalize xm_up (xm_up A 9 (2 : Nat) (A 9 (2 : Nat) + 1)) 4 4 (i + 1) = A1 at *
  have hT1 : y_txt (xm_up (xm_up B 50 10 (E i)) 50 13 ((y_T2 b 2 : Nat) : Int)) t n := ytx_up (ytx_up hT ⟨by omega, fun _ => by omega⟩) ⟨by omega, fun _ => by omega⟩
  have gB1 : x_gB B (xm_up (xm_up B 50 10 (E i)) 50 13 ((y_T2 b 2 : Nat) : Int)) := gB_50 (gB_50 gB_id (by omega)) (by omega)
  have B10 : xm_up (xm_up B 50 10 (E i)) 50 13 ((y_T2 b 2 : Nat) : Int) 50 10 = E i := by rw [xu_k (by omega), xu_s]
  have B11 : xm_up (xm_up B 50 10 (E i)) 50 13 ((y_T2 b 2 : Nat) : Int) 50 11 = 0 := by rw [xu_k (by omega), xu_k (by omega)]; exact hf
  have B13 : xm_up (xm_up B 50 10 (E i)) 50 13 ((y_T2 b 2 : Nat) : Int) 50 13 = ((y_T2 b 2 : Nat) : Int) := by rw [xu_s]
  have B14 : xm_up (xm_up B 50 10 (E i)) 50 13 ((y_T2 b 2 : Nat) : Int) 50 14 = B 50 14 := by rw [xu_k (by omega), xu_k (by omega)]
  have B1o : ∀ q : Nat, q ≠ 50 → xm_up (xm_up B 50 10 (E i)) 50 13 ((y_T2 b 2 : Nat) : Int) q = B q := fun q a => by rw [xu_c a, xu_c a]
  generalize xm_up (xm_up B 50 10 (E i)) 50 13 ((y_T2 b 2 : Nat) : Int) = B1 at *
  have nx1 : y_nx t n (B1 50 10) (A1 6 (i + 1)) := by rw [B10, A16]; exact hx1
  show xm_call true (d + 4) 127 [.inr (.inr 4), .inr (.inr 14), .inl ((2 : Nat) : Int)] A1 _
  have body : xm_call true (d + 3) 128 [.inr (.inr 4), .inl 0, .inl 40] A1 (fun v25 M26 => xm_ki (fun r27 => xm_call true (d + 3) 164 [.inr (.inr 14), .inl r27] M26 (fun v28 M29 => xm_ki (fun r30 => (r30 = 0 ∨ r30 = 1) ∧ (fun v9 M10 => xm_ki (fun r11 => (xm_in r11) ∧ ((r11 = 0 → ((0 : Int) = 0 ∨ (0 : Int) = 1) ∧ Q [.inl 0] M10) ∧ (r11 ≠ 0 → xm_call true (d + 4) 129 [.inr (.inr 4)] M10 (fun v12 M13 => xm_ki (fun r14 => (xm_in r14) ∧ ((r14 = 0 → ((0 : Int) = 0 ∨ (0 : Int) = 1) ∧ Q [.inl 0] M13) ∧ (r14 ≠ 0 → ((1 : Int) = 0 ∨ (1 : Int) = 1) ∧ Q [.inl 1] M13))) v12)))) v9) [.inl r30] M29) v28)) v25) := by
    refine sp128 hc1 ⟨by omega, by omega⟩ (fun isn i2 => xq_ki ?_) (fun nisn => xq_ki ?_)
    · obtain ⟨y1, y2, y3⟩ := id isn
      refine en164r14 (rg164r14_0 ⟨by omega, fun _ => ⟨Or.inr rfl, xq_ki ⟨Or.inr rfl, xq_ki (xq_n1 ?_)⟩⟩, fun q => by omega⟩)
      have hc2 : x_cur (xm_up (xm_up A1 4 4 (i + 1 + 1)) 14 2 (A1 7 (i + 1))) t n m E (i + 1 + 1) := cur_keep (cur_next hc1 i2) (by rw [xu_c (by omega)]) (by rw [xu_c (by omega)]) (by rw [xu_c (by omega)]) (by rw [xu_c (by omega)])
      have gA2 : x_gA 15 16 14 A (xm_up (xm_up A1 4 4 (i + 1 + 1)) 14 2 (A1 7 (i + 1))) := gA_q (gA_4 gA1) (by omega) (by omega)
      have hx2 := nx_next hc1 i2
      have A26 : xm_up (xm_up A1 4 4 (i + 1 + 1)) 14 2 (A1 7 (i + 1)) 6 = A1 6 := by rw [xu_c (by omega), xu_c (by omega)]
      have A2o : ∀ q : Nat, q ≠ 4 → q ≠ 14 → xm_up (xm_up A1 4 4 (i + 1 + 1)) 14 2 (A1 7 (i + 1)) q = A1 q := fun q a z => by rw [xu_c z, xu_c a]
      have A2c : ∀ j : Int, j ≠ 2 → xm_up (xm_up A1 4 4 (i + 1 + 1)) 14 2 (A1 7 (i + 1)) 14 j = A 14 j := fun j a => by rw [xu_k a, xu_c (by omega), A1o 14 (by omega) (by omega)]
      have A2k : xm_up (xm_up A1 4 4 (i + 1 + 1)) 14 2 (A1 7 (i + 1)) 14 2 = A1 7 (i + 1) := xu_s
      generalize xm_up (xm_up A1 4 4 (i + 1 + 1)) 14 2 (A1 7 (i + 1)) = A2 at *
      have hT2 : y_txt (xm_up (xm_up B1 50 10 (E (i + 1))) 54 2 (A1 7 (i + 1))) t n := ytx_up (ytx_up hT1 ⟨by omega, fun _ => by omega⟩) ⟨by omega, fun _ => by omega⟩
      have x2 : xm_up (xm_up B1 50 10 (E (i + 1))) 54 2 (A1 7 (i + 1)) 50 10 = E (i + 1) := by rw [xu_c (by omega), xu_s]
      have f2 : xm_up (xm_up B1 50 10 (E (i + 1))) 54 2 (A1 7 (i + 1)) 50 11 = 0 := by rw [xu_c (by omega), xu_k (by omega)]; exact B11
      have nx2 : y_nx t n (xm_up (xm_up B1 50 10 (E (i + 1))) 54 2 (A1 7 (i + 1)) 50 10) (A2 6 (i + 1 + 1)) := by rw [x2, A26]; exact hx2
      have num : ∀ (N : xm_Mem) (R : xm_K), wp208r50_223 (xm_call true (e + 6)) R ((2 : Nat) : Int) (x_mx N (xm_up (xm_up B1 50 10 (E (i + 1))) 54 2 (A1 7 (i + 1)))) → y_rest e 2 (x_mx N B1) R := fun N R hR => by
        show xm_call true (e + 6) 199 [.inr (.inr 50), .inl 0, .inl 40] (x_mx N B1) _
        refine nstep (A := A1) (j := i + 1) hc1 (mtx hT1) (by rw [mx_r (by omega)]; exact nx1) (by rw [mx_r (by omega)]; exact B11) (by omega) (fun _ _ => xq_ki ⟨by omega, ?_⟩) (fun q => absurd isn q)
        rw [mx_up (by omega), mx_up (by omega)]
        exact hR
      refine sp129 hc2 (fun g5 i3 => xq_ki ⟨by omega, fun q => by omega, fun _ => ⟨Or.inr rfl, ?_⟩⟩) (fun g5 => xq_ki ⟨by omega, fun _ => ⟨Or.inl rfl, ?_⟩, fun q => absurd rfl q⟩)
      · refine h1 _ (xm_up (xm_up (xm_up B1 50 10 (E (i + 1))) 54 2 (A1 7 (i + 1))) 50 10 (E (i + 1 + 1))) (i + 1 + 1 + 1) ⟨cur_next hc2 i3, ytx_up hT2 ⟨by omega, fun _ => by omega⟩, by rw [xu_k (by omega)]; exact f2, ?_, ?_, ?_⟩ (by omega) (gA_4 gA2) (gB_50 (gB_54 (gB_50 gB1 (by omega))) (by omega)) (ig _ (fun N R hR => num N R (tail_1 hc2 hT2 nx2 f2 g5 hR)))
        · rw [xu_s, xu_c (by omega)]
          exact nx_next hc2 i3
        · rw [xu_c (c' := 14) (by omega), xu_c (c' := 15) (by omega), xu_c (c' := 16) (by omega), xu_c (c' := 54) (by omega), xu_c (c' := 55) (by omega), xu_c (c' := 56) (by omega), xu_k (k' := 14) (by omega), xu_c (c := 54) (c' := 50) (by omega), xu_k (k := 10) (k' := 14) (by omega), xu_c (c := 54) (c' := 55) (by omega), xu_c (c := 50) (c' := 55) (by omega), xu_c (c := 54) (c' := 56) (by omega), xu_c (c := 50) (c' := 56) (by omega), B14, B1o 55 (by omega), B1o 56 (by omega), A2o 15 (by omega) (by omega), A2o 16 (by omega) (by omega), A1o 15 (by omega) (by omega), A1o 16 (by omega) (by omega)]
          refine pt_set (k := 2) (v := A1 7 (i + 1)) hp (by omega) (fun j q => ⟨A2c j q, ?_⟩) ⟨A2k, xu_s⟩ (by omega)
          rw [xu_k q, xu_c (by omega), B1o 54 (by omega)]
        · rw [xu_c (c' := 9) (by omega), xu_c (c' := 16) (by omega), A2o 9 (by omega) (by omega), A2o 16 (by omega) (by omega), A1o 16 (by omega) (by omega), xu_k (k' := 13) (by omega), xu_k (k' := 14) (by omega), xu_c (c := 54) (c' := 50) (by omega), xu_k (k := 10) (k' := 13) (by omega), xu_k (k := 10) (k' := 14) (by omega), B13, B14]
          refine told_2 (a9 := A 9) (src := 0) (le4 := 0) hw hb.2 (k := 2) (by omega) ?_ (fun w _ q => A19 _ (by omega)) (fun _ => A19k) rfl (fun q => h4 ?_)
          · rw [A19 5 (by omega)]; exact td5
          · rw [tb_T2 (by omega)] at q
            have := (Bool.or_eq_false_iff.mp q).1
            exact this
      · refine h0 A2 (xm_up (xm_up (xm_up (xm_up B1 50 10 (E (i + 1))) 54 2 (A1 7 (i + 1))) 50 10 (A2 6 (i + 1 + 1))) 50 11 1) (i + 1 + 1) hc2 gA2 (gB_50 (gB_50 (gB_54 (gB_50 gB1 (by omega))) (by omega)) (by omega)) xu_s (by rw [xu_k (by omega), xu_s]) (ig _ (fun N R hR => num N R (tail_2 hc2 hT2 nx2 f2 g5 hR)))
    · refine en164r14 (rg164r14_0 ⟨by omega, fun q => by omega, fun _ => ⟨Or.inl rfl, xq_ki ⟨Or.inl rfl, xq_ki (xq_b3 ⟨Or.inl rfl, ?_⟩)⟩⟩⟩)
      refine h0 A1 (xm_up (xm_up (xm_up B1 50 10 (A1 6 (i + 1))) 50 11 1) 54 2 0) (i + 1) hc1 gA1 (gB_54 (gB_50 (gB_50 gB1 (by omega)) (by omega))) (by rw [xu_c (by omega), xu_s]) (by rw [xu_c (by omega), xu_k (by omega), xu_s]) (ig _ (fun N R hR => ?_))
      show xm_call true (e + 6) 199 [.inr (.inr 50), .inl 0, .inl 40] (x_mx N B1) _
      refine nstep (A := A1) (j := i + 1) hc1 (mtx hT1) (by rw [mx_r (by omega)]; exact nx1) (by rw [mx_r (by omega)]; exact B11) (by omega) (fun q _ => absurd q nisn) (fun _ => xq_ki ⟨by omega, ?_⟩)
      rw [mx_up (by omega), mx_up (by omega), mx_up (by omega)]
      exact tail_3 (by rw [xu_c (by omega), xu_s]) hR
  refine en127r4r14 (rg127r4r14_0 ⟨by omega, ⟨fun q => ?_, fun q => ?_, fun q => ?_, fun q => by omega, trivial⟩, fun q => by omega⟩)
  all_goals first | exact body | (exfalso; omega)
end I2
