/-! all items of a path -/
def y_pgo (e : Nat) (k : Int) (B : xm_Mem) (k' : Int) (B' : xm_Mem) : Prop := ∀ (N : xm_Mem) (R : xm_K), R [.inl k'] (x_mx N B') → wp209r50_67 (xm_call true (e + 7)) R k (x_mx N B)
section LP
variable {d : Nat} {Q : xm_K} {t : Int → Int} {n m : Int} {E : Int → Int}
theorem nx_cur {A : xm_Mem} {i : Int} (hc : x_cur A t n m E i) : y_nx t n (A 6 i) (A 6 i) := by
  have k := cur_tok hc
  refine nx_id hc.1 k.1 (fun q => ?_)
  have := hc.2.2.2.2
  by_cases z : i = m
  · have := (k.2.2.1 z).2; omega
  · exact (k.2.2.2 (by omega)).2.1
/-- the reference sees a letter -/
theorem pg_look {e : Nat} {A B : xm_Mem} {i k : Int} (hc : x_cur A t n m E i) (hT : y_txt B t n) (hf : B 50 11 = 0) (hx : y_nx t n (B 50 10) (A 6 i)) {N : xm_Mem} {R : xm_K} (h0 : i = m ∨ t (A 6 i) = 0 → R [.inl k] (x_mx N (xm_up (xm_up B 50 10 (A 6 i)) 50 11 (if i = m then 0 else 1)))) (h1 : i < m → t (A 6 i) ≠ 0 → xm_call true (e + 7) 208 [.inr (.inr 50)] (x_mx N (xm_up B 50 10 (A 6 i))) (fun v M => xm_kv (wp209r50_67 (xm_call true (e + 7)) R (k + 1) M) v)) : wp209r50_67 (xm_call true (e + 7)) R k (x_mx N B) := by
  have K := cur_tok hc
  have cm := hc.2.2.2.2
  have n0 := hc.1.2.1
  have jm : A 6 i < n ↔ i < m := by
    constructor
    · intro q
      by_cases z : i = m
      · have := (K.2.2.1 z).2; omega
      · omega
    · intro q; exact (K.2.2.2 q).1
  have tb := hc.1.2.2 (A 6 i) K.1.1
  refine rg209r50_67 ?_
  rw [mx_r (by omega), hf]
  refine ⟨by omega, fun g => absurd rfl g, fun _ => ?_⟩
  refine sp196 (mtx hT) (by rw [mx_r (by omega)]) hx (xq_ki ?_)
  rw [mx_up (by omega), mx_r (by omega), xu_k (by omega), hf, xu_s, xu_k (by omega), hT.2.1]
  by_cases z : A 6 i < n
  · rw [if_pos z]
    have im := jm.mp z
    refine ⟨by have := tb z; omega, fun g => ⟨by omega, fun q => absurd rfl q, fun _ => ⟨by omega, fun q => by omega, fun _ => ⟨Or.inr rfl, ?_⟩⟩⟩, fun g => h1 im g⟩
    have := h0 (Or.inr g)
    rw [if_neg (by omega)] at this
    rw [mx_up (by omega)]
    exact this
  · rw [if_neg z]
    have im : i = m := by
      by_cases y : i < m
      · exact absurd (jm.mpr y) z
      · omega
    refine ⟨by omega, fun _ => ⟨by omega, fun q => absurd rfl q, fun _ => ⟨by omega, fun _ => ⟨Or.inl rfl, ?_⟩, fun q => absurd q z⟩⟩, fun g => absurd rfl g⟩
    have := h0 (Or.inl im)
    rw [if_pos im] at this
    rw [mx_up (by omega)]
    exact this
theorem pg_fault {e : Nat} {B : xm_Mem} {k : Int} (hf : B 50 11 = 1) : y_pgo e k B k (xm_up B 50 11 1) := fun N R hR => by
  refine rg209r50_67 ?_
  rw [mx_r (by omega), hf, mx_up (by omega)]
  exact ⟨by omega, fun _ => ⟨by omega, fun _ => ⟨Or.inr rfl, hR⟩, fun q => by omega⟩, fun q => by omega⟩
theorem lo125_11 {e : Nat} {A0 B0 : xm_Mem}
    (h1 : ∀ (A' B' : xm_Mem) (k' : Int), x_it 12 13 11 t n m E m A' B' → x_gA 12 13 11 A0 A' → x_gB B0 B' → 0 ≤ k' ∧ k' ≤ m → y_pgo e 0 B0 k' B' → Q [.inl k'] A')
    (h0 : ∀ (A' B' : xm_Mem) (i' k' : Int), x_cur A' t n m E i' → x_gA 12 13 11 A0 A' → x_gB B0 B' → B' 50 11 = 1 → B' 50 10 = A' 6 i' → y_pgo e 0 B0 k' B' → Q [.inl (-10 - A' 6 i')] A') :
    ∀ (z : Nat) (A B : xm_Mem) (i k : Int), m - i < z → x_it 12 13 11 t n m E i A B → 0 ≤ k ∧ k ≤ i → x_gA 12 13 11 A0 A → x_gB B0 B → (∀ (k' : Int) (B' : xm_Mem), y_pgo e k B k' B' → y_pgo e 0 B0 k' B') → wp125r8r4r11_14 (xm_call true (d + 5)) Q k A := by
  intro z
  induction z with
  | zero =>
    intro A B i k hz hit
    have := hit.1.2.2.2.2
    omega
  | succ z ih =>
    intro A B i k hz hit hk gA gB gh
    obtain ⟨hc, hT, hf, hx, hp, htd⟩ := id hit
    have K := cur_tok hc
    have cm := hc.2.2.2.2
    have c0 := hc.2.2.2.1
    have m2 := hc.2.1.2.1
    refine rg125r8r4r11_14 ⟨by omega, fun q => by omega, fun _ => sp188 hc (xq_ki ⟨by omega, fun g => ?_, fun g => ?_⟩)⟩
    · have im : i < m := by
        by_cases y : i = m
        · exact absurd (K.2.2.1 y).1 g
        · omega
      obtain ⟨k1, k2, k3, k4, k5, k6, k7⟩ := K.2.2.2 im
      by_cases t0 : t (A 6 i) = 0
      · have kd : A 5 i ≠ 1 := by rw [k4, t0]; decide
        refine cl126_11 hc im (fun j hj => ?_) (fun _ => xq_ki ⟨by omega, fun q => absurd rfl q, fun _ => sp189 hc (xq_ki ?_)⟩) (fun _ _ q => absurd q kd)
        · obtain ⟨b, hb1, hb2, hw, h95, h4⟩ := id htd
          have src := hp.2.2.2.2.2.1
          by_cases j5 : j < 5
          · rw [hw j j5]; split <;> omega
          · rw [show ((j : Nat) : Int) = 5 by omega]; omega
        · refine h0 A (xm_up (xm_up B 50 10 (A 6 i)) 50 11 1) i k hc gA (gB_50 (gB_50 gB (by omega)) (by omega)) xu_s (by rw [xu_k (by omega), xu_s]) (gh _ _ (fun N R hR => ?_))
          refine pg_look hc hT hf hx (fun _ => ?_) (fun _ q => absurd t0 q)
          rw [if_neg (by omega)]
          exact hR
      · have hitB : x_it 12 13 11 t n m E i A (xm_up B 50 10 (A 6 i)) := by
          refine ⟨hc, ytx_up hT ⟨by omega, fun _ => by omega⟩, by rw [xu_k (by omega)]; exact hf, by rw [xu_s]; exact nx_cur hc, ?_, ?_⟩
          · rw [xu_c (c' := 54) (by omega), xu_c (c' := 55) (by omega), xu_c (c' := 56) (by omega), xu_k (by omega)]; exact hp
          · rw [xu_k (by omega), xu_k (by omega)]; exact htd
        have gBB : x_gB B (xm_up B 50 10 (A 6 i)) := gB_50 gB_id (by omega)
        have step : ∀ B' : xm_Mem, y_igo e (xm_up B 50 10 (A 6 i)) B' → ∀ (k' : Int) (B'' : xm_Mem), y_pgo e (k + 1) B' k' B'' → y_pgo e k B k' B'' := fun B' hi k' B'' hp N R hR => by
          refine pg_look hc hT hf hx (fun q => ?_) (fun _ _ => hi N _ (xq_kv (hp N R hR)))
          rcases q with q | q
          · omega
          · exact absurd q t0
        refine sp126_11 (e := e) hitB xu_s im (fun A' B' i' a1 a2 a3 a4 a5 => xq_ki ⟨by omega, fun _ => ?_, fun q => absurd q (by decide)⟩) (fun A' B' i' a1 a3 a4 a5 a6 a7 => xq_ki ⟨by omega, fun q => absurd rfl q, fun _ => sp189 a1 (xq_ki ?_)⟩)
        · exact ih A' B' i' (k + 1) (by omega) a1 (by omega) (gA_tr gA a3) (gB_tr gB (gB_tr gBB a4)) (fun k' B'' hp => gh k' B'' (step B' a5 k' B'' hp))
        · exact h0 A' (xm_up B' 50 11 1) i' (k + 1) a1 (gA_tr gA a3) (gB_50 (gB_tr gB (gB_tr gBB a4)) (by omega)) xu_s (by rw [xu_k (by omega)]; exact a6) (gh _ _ (step B' a7 _ _ (pg_fault a5)))
    · have im : i = m := by
        by_cases y : i < m
        · exact absurd g (K.2.2.2 y).2.2.2.2.2.1
        · omega
      subst im
      refine h1 A (xm_up (xm_up B 50 10 (A 6 i)) 50 11 0) k ⟨hc, ytx_up (ytx_up hT ⟨by omega, fun _ => by omega⟩) ⟨by omega, fun _ => by omega⟩, xu_s, by rw [xu_k (by omega), xu_s]; exact nx_cur hc, ?_, ?_⟩ gA (gB_50 (gB_50 gB (by omega)) (by omega)) hk (gh _ _ (fun N R hR => ?_))
      · rw [xu_c (c' := 54) (by omega), xu_c (c' := 55) (by omega), xu_c (c' := 56) (by omega), xu_k (by omega), xu_c (c' := 54) (by omega), xu_c (c' := 55) (by omega), xu_c (c' := 56) (by omega), xu_k (by omega)]; exact hp
      · rw [xu_k (by omega), xu_k (by omega), xu_k (by omega), xu_k (by omega)]; exact htd
      · refine pg_look hc hT hf hx (fun _ => ?_) (fun q => absurd q (by omega))
        rw [if_pos rfl]
        exact hR
theorem lo125_14 {e : Nat} {A0 B0 : xm_Mem}
    (h1 : ∀ (A' B' : xm_Mem) (k' : Int), x_it 15 16 14 t n m E m A' B' → x_gA 15 16 14 A0 A' → x_gB B0 B' → 0 ≤ k' ∧ k' ≤ m → y_pgo e 0 B0 k' B' → Q [.inl k'] A')
    (h0 : ∀ (A' B' : xm_Mem) (i' k' : Int), x_cur A' t n m E i' → x_gA 15 16 14 A0 A' → x_gB B0 B' → B' 50 11 = 1 → B' 50 10 = A' 6 i' → y_pgo e 0 B0 k' B' → Q [.inl (-10 - A' 6 i')] A') :
    ∀ (z : Nat) (A B : xm_Mem) (i k : Int), m - i < z → x_it 15 16 14 t n m E i A B → 0 ≤ k ∧ k ≤ i → x_gA 15 16 14 A0 A → x_gB B0 B → (∀ (k' : Int) (B' : xm_Mem), y_pgo e k B k' B' → y_pgo e 0 B0 k' B') → wp125r8r4r14_14 (xm_call true (d + 5)) Q k A := by
  intro z
  induction z with
  | zero =>
    intro A B i k hz hit
    have := hit.1.2.2.2.2
    omega
  | succ z ih =>
    intro A B i k hz hit hk gA gB gh
    obtain ⟨hc, hT, hf, hx, hp, htd⟩ := id hit
    have K := cur_tok hc
    have cm := hc.2.2.2.2
    have c0 := hc.2.2.2.1
    have m2 := hc.2.1.2.1
    refine rg125r8r4r14_14 ⟨by omega, fun q => by omega, fun _ => sp188 hc (xq_ki ⟨by omega, fun g => ?_, fun g => ?_⟩)⟩
    · have im : i < m := by
        by_cases y : i = m
        · exact absurd (K.2.2.1 y).1 g
        · omega
      obtain ⟨k1, k2, k3, k4, k5, k6, k7⟩ := K.2.2.2 im
      by_cases t0 : t (A 6 i) = 0
      · have kd : A 5 i ≠ 1 := by rw [k4, t0]; decide
        refine cl126_14 hc im (fun j hj => ?_) (fun _ => xq_ki ⟨by omega, fun q => absurd rfl q, fun _ => sp189 hc (xq_ki ?_)⟩) (fun _ _ q => absurd q kd)
        · obtain ⟨b, hb1, hb2, hw, h95, h4⟩ := id htd
          have src := hp.2.2.2.2.2.1
          by_cases j5 : j < 5
          · rw [hw j j5]; split <;> omega
          · rw [show ((j : Nat) : Int) = 5 by omega]; omega
        · refine h0 A (xm_up (xm_up B 50 10 (A 6 i)) 50 11 1) i k hc gA (gB_50 (gB_50 gB (by omega)) (by omega)) xu_s (by rw [xu_k (by omega), xu_s]) (gh _ _ (fun N R hR => ?_))
          refine pg_look hc hT hf hx (fun _ => ?_) (fun _ q => absurd t0 q)
          rw [if_neg (by omega)]
          exact hR
      · have hitB : x_it 15 16 14 t n m E i A (xm_up B 50 10 (A 6 i)) := by
          refine ⟨hc, ytx_up hT ⟨by omega, fun _ => by omega⟩, by rw [xu_k (by omega)]; exact hf, by rw [xu_s]; exact nx_cur hc, ?_, ?_⟩
          · rw [xu_c (c' := 54) (by omega), xu_c (c' := 55) (by omega), xu_c (c' := 56) (by omega), xu_k (by omega)]; exact hp
          · rw [xu_k (by omega), xu_k (by omega)]; exact htd
        have gBB : x_gB B (xm_up B 50 10 (A 6 i)) := gB_50 gB_id (by omega)
        have step : ∀ B' : xm_Mem, y_igo e (xm_up B 50 10 (A 6 i)) B' → ∀ (k' : Int) (B'' : xm_Mem), y_pgo e (k + 1) B' k' B'' → y_pgo e k B k' B'' := fun B' hi k' B'' hp N R hR => by
          refine pg_look hc hT hf hx (fun q => ?_) (fun _ _ => hi N _ (xq_kv (hp N R hR)))
          rcases q with q | q
          · omega
          · exact absurd q t0
        refine sp126_14 (e := e) hitB xu_s im (fun A' B' i' a1 a2 a3 a4 a5 => xq_ki ⟨by omega, fun _ => ?_, fun q => absurd q (by decide)⟩) (fun A' B' i' a1 a3 a4 a5 a6 a7 => xq_ki ⟨by omega, fun q => absurd rfl q, fun _ => sp189 a1 (xq_ki ?_)⟩)
        · exact ih A' B' i' (k + 1) (by omega) a1 (by omega) (gA_tr gA a3) (gB_tr gB (gB_tr gBB a4)) (fun k' B'' hp => gh k' B'' (step B' a5 k' B'' hp))
        · exact h0 A' (xm_up B' 50 11 1) i' (k + 1) a1 (gA_tr gA a3) (gB_50 (gB_tr gB (gB_tr gBB a4)) (by omega)) xu_s (by rw [xu_k (by omega)]; exact a6) (gh _ _ (step B' a7 _ _ (pg_fault a5)))
    · have im : i = m := by
        by_cases y : i < m
        · exact absurd g (K.2.2.2 y).2.2.2.2.2.1
        · omega
      subst im
      refine h1 A (xm_up (xm_up B 50 10 (A 6 i)) 50 11 0) k ⟨hc, ytx_up (ytx_up hT ⟨by omega, fun _ => by omega⟩) ⟨by omega, fun _ => by omega⟩, xu_s, by rw [xu_k (by omega), xu_s]; exact nx_cur hc, ?_, ?_⟩ gA (gB_50 (gB_50 gB (by omega)) (by omega)) hk (gh _ _ (fun N R hR => ?_))
      · rw [xu_c (c' := 54) (by omega), xu_c (c' := 55) (by omega), xu_c (c' := 56) (by omega), xu_k (by omega), xu_c (c' := 54) (by omega), xu_c (c' := 55) (by omega), xu_c (c' := 56) (by omega), xu_k (by omega)]; exact hp
      · rw [xu_k (by omega), xu_k (by omega), xu_k (by omega), xu_k (by omega)]; exact htd
      · refine pg_look hc hT hf hx (fun _ => ?_) (fun q => absurd q (by omega))
        rw [if_pos rfl]
        exact hR
end LP
