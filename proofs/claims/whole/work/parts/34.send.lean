/-! a slot: packets are sent -/
theorem T_mono {p t t' u i : Int} {A B : xm_Mem} (h : T_all p t u i A B) (ht : t ≤ t') : T_all p t' u i A B := by
  obtain ⟨h1, h2, h3, h4, ⟨r1, r2, r3, r4⟩, h6⟩ := h
  exact ⟨h1, h2, h3, h4, ⟨r1, r2, by omega, r4⟩, h6⟩
def x_srs (cap p : Int) (N : Int → Int) (A : xm_Mem) : Nat → xm_Mem
  | 0 => A
  | k + 1 => x_ofn cap (x_srs cap p N A k) k p (N k).toNat
def y_srs (p : Int) (N : Int → Int) (B : xm_Mem) : Nat → xm_Mem
  | 0 => B
  | k + 1 => y_ofn (y_srs p N B k) k p (N k).toNat
theorem T_srs {p t u i cap : Int} {N : Int → Int} {A B : xm_Mem} (hc : cap = B 50 0) (hN : ∀ k : Int, 0 ≤ k → k < 4 → 0 ≤ N k ∧ N k ≤ 20) (h : T_all p t u i A B) : ∀ k : Nat, k ≤ 4 → T_all p (t + 20 * k) u i (x_srs cap p N A k) (y_srs p N B k) ∧ y_srs p N B k 50 0 = B 50 0
  | 0, _ => by
    rw [show t + 20 * ((0 : Nat) : Int) = t by omega]
    exact ⟨h, rfl⟩
  | k + 1, hk => by
    have ih := T_srs hc hN h k (by omega)
    have n := hN k (by omega) (by omega)
    have := T_ofn (p := p) (u := u) (i := i) (s := k) (cap := cap) (by omega) (by rw [ih.2]; exact hc) (N k).toNat _ ih.1
    rw [x_srs, y_srs]
    exact ⟨T_mono this.1 (by omega), by rw [this.2, ih.2]⟩
theorem y_srs_end {p : Int} {N : Int → Int} {B : xm_Mem} {m : Nat} (h0 : ∀ k : Nat, m ≤ k → k < 4 → N k = 0) : ∀ k : Nat, m ≤ k → k ≤ 4 → y_srs p N B k = y_srs p N B m
  | 0, h1, _ => by rw [show m = 0 by omega]
  | k + 1, h1, h2 => by
    by_cases e : m = k + 1
    · rw [e]
    · rw [y_srs, h0 k (by omega) (by omega), ← y_srs_end h0 k (by omega) (by omega)]
      rfl
section SE
variable {d : Nat} {Q : xm_K}
theorem lo8_20 {p t u i s cap : Int} {N : Nat} {A B : xm_Mem} (hT : T_all p t u i A B) (hs : 0 ≤ s ∧ s ≤ 3) (hc : cap = B 50 0) (hN : N ≤ 20) (h : ∀ o3 o4, wp8r1_2 (xm_call true (d + 3)) Q p (s + 1) o3 o4 (x_ofn cap A s p N)) : ∀ (n k : Nat), k + n = N → wp8r1_20 (xm_call true (d + 3)) Q p s N k (x_ofn cap A s p k)
  | 0, k, h0 => by
    have e : k = N := by omega
    subst e
    refine rg8r1_20 ⟨⟨by omega, by omega⟩, fun _ => h _ _, fun _ => by omega⟩
  | n + 1, k, h0 => by
    have ih := lo8_20 hT hs hc hN h n (k + 1) (by omega)
    have z := T_ofn (cap := cap) (s := s) (by omega) hc k t hT
    have cp := T_cap z.1.1
    obtain ⟨⟨-, f2, -⟩, -, -, ⟨l1, l2, -⟩, ⟨r1, -⟩, -⟩ := z.1
    rw [z.2] at l1 cp
    have step : ∀ X : xm_Mem, X = x_ofn cap A s p k → X 29 2 = p ∧ 0 ≤ p ∧ p < 2000 → (X 17 6 < cap → wp8r1_20 (xm_call true (d + 3)) Q p s N (k + 1) (x_in X s p)) ∧ (cap ≤ X 17 6 → wp8r1_20 (xm_call true (d + 3)) Q p s N (k + 1) (x_np X s p)) := by
      intro X hX hp
      rw [x_ofn, ← hX] at ih
      unfold x_of1 at ih
      refine ⟨fun g => ?_, fun g => ?_⟩
      · rw [if_pos g] at ih; exact ih
      · rw [if_neg (by omega)] at ih; exact ih
    generalize hX : x_ofn cap A s p k = X at *
    have st := step X rfl ⟨r1.1, r1.2.2⟩
    have blk : xm_call true (d + 3) 98 [.inr (.inr 17), .inl s, .inl p, .inl cap] X (fun v4 M5 => xm_ki (fun r6 => (xm_in r6) ∧ ((r6 ≠ 0 → wp8r1_20 (xm_call true (d + 3)) Q p s N (k + 1) M5) ∧ (r6 = 0 → xm_call true (d + 3) 143 [.inr (.inr 29)] M5 (fun v7 M8 => xm_kv (wp8r1_20 (xm_call true (d + 3)) Q p s N (k + 1) M8) v7)))) v4) := by
      refine sp98 (by omega) l2 (by omega) (by omega) (fun g => xq_ki (xq_b2 (st.1 g))) (fun g => xq_ki (xq_b4 ?_))
      have e : x_no X s 29 2 = p := by
        unfold x_no
        simp only [xu_c, xu_s, xu_k, ne_eq, Nat.reduceEqDiff, Int.reduceEq, not_false_eq_true]
        exact r1.1
      refine sp143 (by omega) (xq_kv ?_)
      rw [e]
      have e2 : x_no X s 30 p = X 30 p := by
        unfold x_no
        simp only [xu_c, xu_s, xu_k, ne_eq, Nat.reduceEqDiff, Int.reduceEq, not_false_eq_true]
      rw [e2]
      exact st.2 g
    rcases f2 with ⟨m1, -, t1, -⟩ | ⟨m1, -, t1, -⟩
    · refine rg8r1_20 ⟨⟨by omega, by omega⟩, fun _ => by omega, fun _ => ⟨Or.inl m1, fun _ => sp156r11 (xq_ki ?_), fun e => by omega⟩⟩
      rw [show X 11 0 = cap by omega]
      exact blk
    · refine rg8r1_20 ⟨⟨by omega, by omega⟩, fun _ => by omega, fun _ => ⟨Or.inr m1, fun e => by omega, fun _ => sp156r14 (xq_ki ?_)⟩⟩
      rw [show X 14 0 = cap by omega]
      exact blk
theorem yo_c {B : xm_Mem} {s p : Int} {c : Nat} (h : c ≠ 50 ∧ c ≠ 61 ∧ c ≠ 62 ∧ c ≠ 63 ∧ c ≠ 64 ∧ c ≠ 65) : y_of1 B s p c = B c := by
  unfold y_of1 y_in y_np
  split
  · rw [xu_c (by omega), xu_c (by omega), xu_c (by omega), xu_c (by omega)]
  · rw [xu_c (by omega), xu_c (by omega), xu_c (by omega)]
theorem yo_k {B : xm_Mem} {s p k : Int} (h : k ≠ 24) : y_of1 B s p 50 k = B 50 k := by
  unfold y_of1 y_in y_np
  split
  · rw [xu_k h, xu_c (by omega), xu_c (by omega), xu_c (by omega)]
  · rw [xu_c (by omega), xu_c (by omega), xu_c (by omega)]
theorem yn_c {B : xm_Mem} {s p : Int} {c : Nat} (h : c ≠ 50 ∧ c ≠ 61 ∧ c ≠ 62 ∧ c ≠ 63 ∧ c ≠ 64 ∧ c ≠ 65) : ∀ n : Nat, y_ofn B s p n c = B c
  | 0 => rfl
  | n + 1 => by rw [y_ofn, yo_c h, yn_c h n]
theorem yn_k {B : xm_Mem} {s p k : Int} (h : k ≠ 24) : ∀ n : Nat, y_ofn B s p n 50 k = B 50 k
  | 0 => rfl
  | n + 1 => by rw [y_ofn, yo_k h, yn_k h n]
theorem ys_c {B : xm_Mem} {p : Int} {N : Int → Int} {c : Nat} (h : c ≠ 50 ∧ c ≠ 61 ∧ c ≠ 62 ∧ c ≠ 63 ∧ c ≠ 64 ∧ c ≠ 65) : ∀ n : Nat, y_srs p N B n c = B c
  | 0 => rfl
  | n + 1 => by rw [y_srs, yn_c h, ys_c h n]
theorem ys_k {B : xm_Mem} {p k : Int} {N : Int → Int} (h : k ≠ 24) : ∀ n : Nat, y_srs p N B n 50 k = B 50 k
  | 0 => rfl
  | n + 1 => by rw [y_srs, yn_k h, ys_k h n]
/-- what source s sends in slot p -/
def y_N (B : xm_Mem) (p s : Int) : Int := if s < B 50 5 then B 51 (400 * s + Int.tmod p (B 52 s)) else 0
theorem y_N_in {A B : xm_Mem} {p : Int} (h : T_fix A B) (hp : 0 ≤ p) : ∀ k : Int, 0 ≤ k → k < 4 → 0 ≤ y_N B p k ∧ y_N B p k ≤ 20 := by
  intro k h0 h1
  obtain ⟨-, f2, -⟩ := h
  unfold y_N
  split
  · rcases f2 with ⟨-, -, -, -, -, -, -, g5, q1, q2, q3, -⟩ | ⟨-, -, -, -, -, -, -, g5, q1, q2, q3, -⟩
    all_goals
      have q1 := q1 k h0 (by omega)
      have q2 := q2 k h0 h1
      have t1 := Int.tmod_nonneg (B 52 k) hp
      have t2 := Int.tmod_lt_of_pos p (b := B 52 k) (by omega)
      have q3 := q3 k _ h0 (by omega) t1 (by omega)
      omega
  · omega
theorem sp173b11 {A B : xm_Mem} {p k : Int} (hrt : R_rtA (A 11) (A 12) (A 13) (B 50) (B 51) (B 52)) (hk : 0 ≤ k ∧ k < 4) (hp : 0 ≤ p ∧ p < 2000) (h : Q [.inl (y_N B p k)] A) : xm_call true (d + 2) 173 [.inr (.inr 11), .inl k, .inl p] A Q := by
  obtain ⟨-, -, -, -, -, g5, q1, q2, q3, -⟩ := hrt
  have q1 := q1 k hk.1 (by omega)
  have q2 := q2 k hk.1 hk.2
  unfold y_N at h
  refine sp173r11 (by omega) (by omega) q1.2 (fun g => ?_) (fun g t1 t2 => ?_)
  · rw [if_neg (by omega)] at h
    exact h
  · have q3 := q3 k _ hk.1 (by omega) t1 t2
    rw [if_pos (by omega), ← q1.1, ← q3.1] at h
    exact h
theorem sp173b14 {A B : xm_Mem} {p k : Int} (hrt : R_rtA (A 14) (A 15) (A 16) (B 50) (B 51) (B 52)) (hk : 0 ≤ k ∧ k < 4) (hp : 0 ≤ p ∧ p < 2000) (h : Q [.inl (y_N B p k)] A) : xm_call true (d + 2) 173 [.inr (.inr 14), .inl k, .inl p] A Q := by
  obtain ⟨-, -, -, -, -, g5, q1, q2, q3, -⟩ := hrt
  have q1 := q1 k hk.1 (by omega)
  have q2 := q2 k hk.1 hk.2
  unfold y_N at h
  refine sp173r14 (by omega) (by omega) q1.2 (fun g => ?_) (fun g t1 t2 => ?_)
  · rw [if_neg (by omega)] at h
    exact h
  · have q3 := q3 k _ hk.1 (by omega) t1 t2
    rw [if_pos (by omega), ← q1.1, ← q3.1] at h
    exact h
theorem lo8_2 {p t u i cap : Int} {A B : xm_Mem} (hT : T_all p t u i A B) (hc : cap = B 50 0) (h : Q [] (x_srs cap p (y_N B p) A 4)) : ∀ (n k : Nat) (o3 o4 : Option xm_V), k + n = 4 → wp8r1_2 (xm_call true (d + 3)) Q p k o3 o4 (x_srs cap p (y_N B p) A k)
  | 0, k, o3, o4, h0 => by
    have e : k = 4 := by omega
    subst e
    exact rg8r1_2 ⟨⟨by omega, by omega⟩, fun _ => h, fun _ => by omega⟩
  | n + 1, k, o3, o4, h0 => by
    have ih := fun o3 o4 => lo8_2 hT hc h n (k + 1) o3 o4 (by omega)
    have hp := hT.2.2.2.2.1.1.2.2
    have hN := y_N_in hT.1 hp.1
    have z := T_srs hc hN hT k (by omega)
    have n1 := hN k (by omega) (by omega)
    have f2 := z.1.1.2.1
    have eN : y_N (y_srs p (y_N B p) B k) p k = y_N B p k := by
      unfold y_N
      rw [ys_k (by omega), ys_c (by omega), ys_c (by omega)]
    rw [x_srs] at ih
    have body : wp8r1_20 (xm_call true (d + 3)) Q p k (y_N B p k) 0 (x_srs cap p (y_N B p) A k) := by
      have := lo8_20 (d := d) (Q := Q) (N := (y_N B p k).toNat) z.1 (s := k) (by omega) (by rw [z.2]; exact hc) (by omega) (fun o3 o4 => ih o3 o4) (y_N B p k).toNat 0 (by omega)
      rw [show (((y_N B p k).toNat : Nat) : Int) = y_N B p k by omega] at this
      exact this
    rcases f2 with ⟨m1, -, t1⟩ | ⟨m1, -, t1⟩
    · refine rg8r1_2 ⟨⟨by omega, by omega⟩, fun _ => by omega, fun _ => ⟨Or.inl m1, fun _ => sp173b11 t1 (by omega) hp (xq_ki ?_), fun e => by omega⟩⟩
      rw [eN]
      exact body
    · refine rg8r1_2 ⟨⟨by omega, by omega⟩, fun _ => by omega, fun _ => ⟨Or.inr m1, fun e => by omega, fun _ => sp173b14 t1 (by omega) hp (xq_ki ?_)⟩⟩
      rw [eN]
      exact body
theorem sp8 {p t u i cap : Int} {A B : xm_Mem} (hT : T_all p t u i A B) (hc : cap = B 50 0) (h : Q [] (x_srs cap p (y_N B p) A 4)) : xm_call true (d + 4) 8 [.inr (.inr 1), .inl p] A Q := by
  refine en8r1 (rg8r1_0 ?_)
  exact lo8_2 hT hc h 4 0 none none (by omega)
theorem lo223_56 {p t u i s : Int} {N : Nat} {A B : xm_Mem} (hT : T_all p t u i A B) (hs : 0 ≤ s ∧ s ≤ 3) (hN : N ≤ 20) (h : ∀ o3 o4, wp223r50_36 (xm_call true (d + 1)) Q (s + 1) o3 o4 (y_ofn B s p N)) : ∀ (n k : Nat), k + n = N → wp223r50_56 (xm_call true (d + 1)) Q s N k (y_ofn B s p k)
  | 0, k, h0 => by
    have e : k = N := by omega
    subst e
    exact rg223r50_56 ⟨⟨by omega, by omega⟩, fun _ => h _ _, fun _ => by omega⟩
  | n + 1, k, h0 => by
    have ih := lo223_56 hT hs hN h n (k + 1) (by omega)
    have z := T_ofn (s := s) (cap := B 50 0) (by omega) rfl k t hT
    have cp := T_cap z.1.1
    obtain ⟨-, -, -, ⟨l1, -⟩, ⟨r1, -⟩, -⟩ := z.1
    rw [y_ofn] at ih
    unfold y_of1 at ih
    refine rg223r50_56 ⟨⟨by omega, by omega⟩, fun _ => by omega, fun _ => ?_⟩
    refine sp218 (by omega) (by omega) (by omega) (by omega) (fun g => xq_ki ?_) (fun g => xq_ki ?_)
    · rw [if_pos g] at ih; rw [r1.2.1]; exact ih
    · rw [if_neg (by omega)] at ih; rw [r1.2.1]; exact ih
theorem lo223_36 {p t u i : Int} {A B : xm_Mem} (hT : T_all p t u i A B) (h : ∀ o3 o4, wp223r50_81 (xm_call true (d + 1)) Q 0 o3 o4 (y_srs p (y_N B p) B (B 50 5).toNat)) : ∀ (n k : Nat) (o3 o4 : Option xm_V), (k : Int) + n = B 50 5 → wp223r50_36 (xm_call true (d + 1)) Q k o3 o4 (y_srs p (y_N B p) B k)
  | 0, k, o3, o4, h0 => by
    have e : k = (B 50 5).toNat := by omega
    subst e
    refine rg223r50_36 ?_
    rw [ys_k (by omega)]
    have cp := T_cap hT.1
    exact ⟨⟨by omega, by omega⟩, fun _ => h _ _, fun _ => by omega⟩
  | n + 1, k, o3, o4, h0 => by
    have ih := fun o3 o4 => lo223_36 hT h n (k + 1) o3 o4 (by omega)
    have hp := hT.2.2.2.2.1.1.2.2
    have hN := y_N_in hT.1 hp.1
    have cp := T_cap hT.1
    have z := T_srs (cap := B 50 0) rfl hN hT k (by omega)
    have n1 := hN k (by omega) (by omega)
    rw [y_srs] at ih
    refine rg223r50_36 ?_
    rw [ys_k (by omega), ys_k (by omega)]
    refine ⟨⟨by omega, by omega⟩, fun _ => by omega, fun _ => ?_⟩
    rw [hT.2.2.2.2.1.1.2.1]
    have rr : (B 52 k = 0 ∨ 0 < B 52 k) ∧ 0 < B 52 k ∧ B 52 k ≤ 400 := by
      obtain ⟨-, f2, -⟩ := hT.1
      rcases f2 with ⟨-, -, -, -, -, -, -, g5, q1, q2, -⟩ | ⟨-, -, -, -, -, -, -, g5, q1, q2, -⟩
      all_goals
        have q1 := q1 k (by omega) (by omega)
        have q2 := q2 k (by omega) (by omega)
        omega
    have t1 := Int.tmod_nonneg (B 52 k) hp.1
    have t2 := Int.tmod_lt_of_pos p (b := B 52 k) (by omega)
    refine en211r50 (rg211r50_0 ?_)
    rw [ys_c (c := 52) (by omega), ys_c (c := 51) (by omega)]
    refine ⟨by omega, ⟨by omega, by omega, by omega⟩, by omega, xq_ki ?_⟩
    have e : B 51 (400 * k + Int.tmod p (B 52 k)) = y_N B p k := by
      unfold y_N
      rw [if_pos (by omega)]
    rw [e]
    have := lo223_56 (d := d) (Q := Q) (N := (y_N B p k).toNat) z.1 (s := k) (by omega) (by omega) (fun o3 o4 => ih o3 o4) (y_N B p k).toNat 0 (by omega)
    rw [show (((y_N B p k).toNat : Nat) : Int) = y_N B p k by omega] at this
    exact this
end SE
