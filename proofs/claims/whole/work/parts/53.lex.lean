/-! tokens are taken; the reference reads letters -/
/-- the cursor stands at token i -/
def x_cur (M : xm_Mem) (t : Int → Int) (n m : Int) (E : Int → Int) (i : Int) : Prop := x_txt n t ∧ x_spl M t n m E ∧ M 4 4 = i ∧ 0 ≤ i ∧ i ≤ m
theorem xu_id {M : xm_Mem} {c : Nat} {k : Int} : xm_up M c k (M c k) = M := by
  funext c' k'
  simp only [xm_up]
  split
  · rename_i h
    subst h
    split
    · rename_i h2
      rw [h2]
    · rfl
  · rfl
theorem xu_u {M : xm_Mem} {c : Nat} {k u v : Int} : xm_up (xm_up M c k u) c k v = xm_up M c k v := by
  funext c' k'
  simp only [xm_up]
  repeat' split
  all_goals first | rfl | (exfalso; omega)
theorem nv_in {t : Int → Int} {n s e : Int} (hT : x_txt n t) (h0 : 0 ≤ s) (h : x_te t n s e) (hk : x_kn (t s) = 2) : (∀ j : Int, s ≤ j → j < e → 48 ≤ t j ∧ t j ≤ 57) ∧ -1 ≤ x_nv t s e ∧ x_nv t s e ≤ 99 := by
  have r := (h.2.2.1 (Or.inr hk)).1
  have dg : ∀ j : Int, s ≤ j → j < e → 48 ≤ t j ∧ t j ≤ 57 := fun j a b => by
    have g := r j a b
    rw [hk] at g
    unfold x_kn at g
    split at g
    · omega
    · split at g
      · omega
      · split at g
        · assumption
        · split at g
          · omega
          · split at g
            · omega
            · split at g <;> omega
  refine ⟨dg, ?_⟩
  have d0 := dg s (by omega) h.1
  have d1 := dg (s + 1)
  unfold x_nv
  split
  · omega
  · split
    · omega
    · have := h.1
      have := d1 (by omega) (by omega)
      omega
theorem lt_in {t : Int → Int} {n s e : Int} (h : x_te t n s e) (hk : x_kn (t s) = 1) : ∀ j : Int, s ≤ j → j < e → 97 ≤ t j ∧ t j ≤ 122 := fun j a b => by
  have g := (h.2.2.1 (Or.inl hk)).1 j a b
  rw [hk] at g
  unfold x_kn at g
  split at g
  · omega
  · split at g
    · assumption
    · split at g
      · omega
      · split at g
        · omega
        · split at g
          · omega
          · split at g <;> omega
/-- what is known of the token at the cursor -/
theorem cur_tok {M : xm_Mem} {t : Int → Int} {n m i : Int} {E : Int → Int} (h : x_cur M t n m E i) : (0 ≤ M 6 i ∧ M 6 i ≤ n) ∧ (0 ≤ M 5 i ∧ M 5 i ≤ 6) ∧ (i = m → M 5 i = 0 ∧ M 6 i = n) ∧ (i < m → M 6 i < n ∧ t (M 6 i) ≠ 32 ∧ x_te t n (M 6 i) (E i) ∧ M 5 i = x_kn (t (M 6 i)) ∧ x_val t n (M 6 i) (E i) (M 7 i) ∧ M 5 i ≠ 0 ∧ x_gap t (E i) (M 6 (i + 1))) := by
  obtain ⟨hT, ⟨p1, p2, p3, p4, p5, p6⟩, c1, c2, c3⟩ := h
  have hn := hT.1
  by_cases e : i = m
  · subst e
    rw [p5, p6]
    exact ⟨by omega, by omega, fun _ => ⟨rfl, rfl⟩, fun q => by omega⟩
  · have g := p3.2 i c2 (by omega)
    have kb := kn_in (t (M 6 i))
    have tb := hT.2.2 (M 6 i) g.2.1.1 g.2.1.2
    refine ⟨by omega, by omega, fun q => absurd q e, fun _ => ⟨g.2.1.2, g.2.2.1, g.2.2.2.1, g.2.2.2.2.1, g.2.2.2.2.2, ?_, ?_⟩⟩
    · rw [g.2.2.2.2.1]
      unfold x_kn
      repeat' split
      all_goals omega
    · by_cases e2 : i + 1 = m
      · rw [e2, p5]
        have := p4
        rw [show m - 1 = i by omega] at this
        exact this
      · have g2 := (p3.2 (i + 1) (by omega) (by omega)).1
        rw [show i + 1 - 1 = i by omega] at g2
        exact g2
theorem cur_next {M : xm_Mem} {t : Int → Int} {n m i : Int} {E : Int → Int} (h : x_cur M t n m E i) (hi : i < m) : x_cur (xm_up M 4 4 (i + 1)) t n m E (i + 1) := by
  obtain ⟨hT, ⟨p1, p2, p3, p4, p5, p6⟩, c1, c2, c3⟩ := h
  refine ⟨hT, ⟨?_, p2, ?_, p4, ?_, ?_⟩, xu_s, by omega, by omega⟩
  · rw [xu_k (by omega)]; exact p1
  · rw [xu_c (by omega), xu_c (by omega), xu_c (by omega)]; exact p3
  · rw [xu_c (by omega)]; exact p5
  · rw [xu_c (by omega)]; exact p6
theorem cur_keep {M N : xm_Mem} {t : Int → Int} {n m i : Int} {E : Int → Int} (h : x_cur M t n m E i) (h4 : N 4 = M 4) (h5 : N 5 = M 5) (h6 : N 6 = M 6) (h7 : N 7 = M 7) : x_cur N t n m E i := by
  unfold x_cur x_spl at *
  rw [h4, h5, h6, h7]
  exact h
section TK
variable {d : Nat} {Q : xm_K} {M : xm_Mem} {t : Int → Int} {n m i : Int} {E : Int → Int}
theorem sp188 (h : x_cur M t n m E i) (hq : Q [.inl (M 5 i)] M) : xm_call true (d + 1) 188 [.inr (.inr 4)] M Q := by
  obtain ⟨hT, ⟨p1, p2, p3, p4, p5, p6⟩, c1, c2, c3⟩ := h
  refine en188r4 (rg188r4_0 ?_)
  rw [c1]
  exact ⟨by omega, fun _ => by omega, fun _ => ⟨⟨by omega, by omega⟩, fun _ => by omega, fun _ => ⟨by omega, hq⟩⟩⟩
theorem sp189 (h : x_cur M t n m E i) (hq : Q [.inl (M 6 i)] M) : xm_call true (d + 1) 189 [.inr (.inr 4)] M Q := by
  obtain ⟨hT, ⟨p1, p2, p3, p4, p5, p6⟩, c1, c2, c3⟩ := h
  refine en189r4 (rg189r4_0 ?_)
  rw [c1]
  exact ⟨by omega, fun _ => by omega, fun _ => ⟨⟨by omega, by omega⟩, fun _ => by omega, fun _ => ⟨by omega, hq⟩⟩⟩
theorem sp190 (h : x_cur M t n m E i) (hq : Q [.inl (M 7 i)] M) : xm_call true (d + 1) 190 [.inr (.inr 4)] M Q := by
  obtain ⟨hT, ⟨p1, p2, p3, p4, p5, p6⟩, c1, c2, c3⟩ := h
  refine en190r4 (rg190r4_0 ?_)
  rw [c1]
  exact ⟨by omega, fun _ => by omega, fun _ => ⟨⟨by omega, by omega⟩, fun _ => by omega, fun _ => ⟨by omega, hq⟩⟩⟩
theorem sp191 (h : x_cur M t n m E i) (hi : i < m) (hq : Q [] (xm_up M 4 4 (i + 1))) : xm_call true (d + 1) 191 [.inr (.inr 4)] M Q := by
  obtain ⟨hT, ⟨p1, p2, p3, p4, p5, p6⟩, c1, c2, c3⟩ := h
  refine en191r4 (rg191r4_0 ?_)
  rw [c1, p1]
  exact ⟨⟨by omega, by omega⟩, fun _ => by omega, fun _ => hq⟩
/-- a number within bounds stands at the cursor -/
def x_isn (M : xm_Mem) (i least most : Int) : Prop := M 5 i = 2 ∧ least ≤ M 7 i ∧ M 7 i ≤ most
theorem sp128 {least most : Int} (h : x_cur M t n m E i) (hl : xm_in least ∧ xm_in most) (h1 : x_isn M i least most → i < m → Q [.inl (M 7 i)] (xm_up M 4 4 (i + 1))) (h0 : ¬ x_isn M i least most → Q [.inl (-1)] M) : xm_call true (d + 2) 128 [.inr (.inr 4), .inl least, .inl most] M Q := by
  have k := cur_tok h
  refine en128r4 (rg128r4_0 (sp190 h (xq_ki (sp188 h (xq_ki ⟨⟨by omega, by omega⟩, fun g => h0 (fun q => g q.1), fun g => ?_⟩)))))
  have hi : i < m := by
    have := h.2.2.2.2
    by_cases e : i = m
    · have := k.2.2.1 e; omega
    · omega
  have k4 := k.2.2.2 hi
  have nv := nv_in h.1 k.1.1 k4.2.2.1 (by omega)
  have v := k4.2.2.2.2.1.1 (by omega)
  refine ⟨⟨by omega, hl.1⟩, fun g2 => h0 (fun q => by have := q.2.1; omega), fun g2 => ⟨⟨by omega, hl.2⟩, fun g3 => ?_, fun g3 => h0 (fun q => by have := q.2.2; omega)⟩⟩
  exact sp191 h hi (xq_kv (h1 ⟨g, g2, g3⟩ hi))
theorem sp129 (h : x_cur M t n m E i) (h1 : M 5 i = 5 → i < m → Q [.inl 1] (xm_up M 4 4 (i + 1))) (h0 : M 5 i ≠ 5 → Q [.inl 0] M) : xm_call true (d + 2) 129 [.inr (.inr 4)] M Q := by
  have k := cur_tok h
  refine en129r4 (rg129r4_0 (sp188 h (xq_ki ⟨⟨by omega, by omega⟩, fun g => ?_, fun g => ⟨Or.inl rfl, h0 g⟩⟩)))
  have hi : i < m := by
    have := h.2.2.2.2
    by_cases e : i = m
    · have := k.2.2.1 e; omega
    · omega
  exact sp191 h hi (xq_kv ⟨Or.inr rfl, h1 g hi⟩)
end TK
/-- the reference's text -/
def y_txt (M : xm_Mem) (t : Int → Int) (n : Int) : Prop := x_txt n t ∧ M 50 9 = n ∧ ∀ j : Int, 0 ≤ j → j < n → M 53 j = t j
theorem ytx_up {M : xm_Mem} {t : Int → Int} {n : Int} {c : Nat} {k v : Int} (h : y_txt M t n) (hc : c ≠ 53 ∧ (c = 50 → k ≠ 9)) : y_txt (xm_up M c k v) t n := by
  refine ⟨h.1, ?_, ?_⟩
  · by_cases e : c = 50
    · subst e
      rw [xu_k (by have := hc.2 rfl; omega)]; exact h.2.1
    · rw [xu_c (by omega)]; exact h.2.1
  · rw [xu_c (by omega)]; exact h.2.2
section YL
variable {d : Nat} {Q : xm_K} {t : Int → Int} {n s : Int}
/-- the next letter stands at s -/
def y_nx (t : Int → Int) (n r s : Int) : Prop := 0 ≤ r ∧ x_gap t r s ∧ s ≤ n ∧ (s < n → t s ≠ 32)
theorem lo196 {cs : xm_C} : ∀ (k : Nat) (M : xm_Mem) (r : Int), y_txt M t n → M 50 10 = r → y_nx t n r s → r + k = s → Q [.inl (if s < n then t s else 0)] (xm_up M 50 10 s) → wp196r50_0 cs Q M := by
  intro k
  induction k with
  | zero =>
    intro M r hT hr hx e h
    have e : r = s := by omega
    subst e
    obtain ⟨⟨q1, q2, q3⟩, t1, t2⟩ := hT
    obtain ⟨n0, n1, n2, n3⟩ := hx
    have ei : xm_up M 50 10 r = M := by rw [← hr]; exact xu_id
    rw [ei] at h
    have tb := q3 r n0
    refine rg196r50_0 ?_
    rw [hr, t1]
    refine ⟨⟨by omega, by omega⟩, fun g => ⟨⟨by omega, by omega⟩, fun _ => ?_, fun g2 => by omega⟩, fun g => ?_⟩
    · rw [if_neg (by omega)] at h; exact h
    · rw [t2 r n0 g]
      have := n3 g
      refine ⟨by omega, ⟨by omega, by omega⟩, fun _ => ⟨⟨by omega, by omega⟩, fun g2 => by omega, fun _ => ⟨by omega, ?_⟩⟩, fun g2 => absurd g2 this⟩
      rw [if_pos g] at h
      exact h
  | succ k ih =>
    intro M r hT hr hx e h
    obtain ⟨⟨q1, q2, q3⟩, t1, t2⟩ := id hT
    obtain ⟨n0, n1, n2, n3⟩ := hx
    have b := n1.2 r (by omega) (by omega)
    have go := ih (xm_up M 50 10 (r + 1)) (r + 1) (ytx_up hT ⟨by omega, fun _ => by omega⟩) xu_s ⟨by omega, ⟨by omega, fun q u v => n1.2 q (by omega) v⟩, n2, n3⟩ (by omega) (by rw [xu_u]; exact h)
    refine rg196r50_0 ?_
    rw [hr, t1, t2 r n0 (by omega), b]
    exact ⟨⟨by omega, by omega⟩, fun g => by omega, fun g => ⟨by omega, ⟨by omega, by omega⟩, fun g2 => absurd rfl g2, fun _ => go⟩⟩
theorem sp196 {M : xm_Mem} {r : Int} (hT : y_txt M t n) (hr : M 50 10 = r) (hx : y_nx t n r s) (h : Q [.inl (if s < n then t s else 0)] (xm_up M 50 10 s)) : xm_call true (d + 1) 196 [.inr (.inr 50)] M Q := by
  have := hx.2.1.1
  exact en196r50 (lo196 (s - r).toNat M r hT hr hx (by omega) h)
theorem nx_id (hT : x_txt n t) (hs : 0 ≤ s ∧ s ≤ n) (h : s < n → t s ≠ 32) : y_nx t n s s := ⟨hs.1, ⟨Int.le_refl _, fun q a b => by omega⟩, hs.2, h⟩
theorem sp197 {M : xm_Mem} {c : Int} (hc : xm_in c) (h1 : 48 ≤ c ∧ c ≤ 57 → Q [.inl 1] M) (h0 : ¬ (48 ≤ c ∧ c ≤ 57) → Q [.inl 0] M) : xm_call true (d + 2) 197 [.inl c] M Q := by
  exact en197 (rg197_0 (sp193 hc (by omega) (by omega) (fun g => xq_ki ⟨Or.inr rfl, h1 g⟩) (fun g => xq_ki ⟨Or.inl rfl, h0 g⟩)))
theorem kn2 {c : Int} : x_kn c = 2 ↔ 48 ≤ c ∧ c ≤ 57 := by
  unfold x_kn
  constructor
  · intro g
    split at g
    · omega
    · split at g
      · omega
      · split at g
        · assumption
        · split at g
          · omega
          · split at g
            · omega
            · split at g <;> omega
  · intro g
    rw [if_neg (by omega), if_neg (by omega), if_pos g]
theorem kn1 {c : Int} : x_kn c = 1 ↔ 97 ≤ c ∧ c ≤ 122 := by
  unfold x_kn
  constructor
  · intro g
    split at g
    · omega
    · split at g
      · assumption
      · split at g
        · omega
        · split at g
          · omega
          · split at g
            · omega
            · split at g <;> omega
  · intro g
    rw [if_neg (by omega), if_pos g]
/-- a sign c (not a blank) is wanted -/
theorem sp198 {M : xm_Mem} {c r : Int} (hT : y_txt M t n) (hr : M 50 10 = r) (hx : y_nx t n r s) (hf : M 50 11 = 0) (hc : 1 ≤ c ∧ c ≤ 255) (h1 : s < n → t s = c → Q [] (xm_up M 50 10 (s + 1))) (h0 : ¬ (s < n ∧ t s = c) → Q [] (xm_up (xm_up M 50 10 s) 50 11 1)) : xm_call true (d + 2) 198 [.inr (.inr 50), .inl c] M Q := by
  have n0 : 0 ≤ s := by have := hx.1; have := hx.2.1.1; omega
  have tb := hT.1.2.2 s n0
  refine en198r50 (rg198r50_0 ⟨by omega, fun g => absurd hf g, fun _ => sp196 hT hr hx (xq_ki ⟨⟨by split <;> omega, by omega⟩, fun g => ⟨Or.inr rfl, h0 (fun q => g ?_)⟩, fun g => ?_⟩)⟩)
  · rw [if_pos q.1]; exact q.2
  · rw [xu_u, xu_s]
    split at g
    · exact h1 (by assumption) g
    · omega
theorem sp198f {M : xm_Mem} {c : Int} (hf : M 50 11 = 1) (h : Q [] M) : xm_call true (d + 2) 198 [.inr (.inr 50), .inl c] M Q := by
  have e : xm_up M 50 11 1 = M := by rw [← hf]; exact xu_id
  refine en198r50 (rg198r50_0 ⟨by omega, fun _ => ⟨Or.inr rfl, ?_⟩, fun g => by omega⟩)
  rw [e]; exact h
theorem sp199f {M : xm_Mem} {a b : Int} (hf : M 50 11 = 1) (h : Q [.inl a] M) : xm_call true (d + 3) 199 [.inr (.inr 50), .inl a, .inl b] M Q := by
  have e : xm_up M 50 11 1 = M := by rw [← hf]; exact xu_id
  refine en199r50 (rg199r50_0 ⟨by omega, fun _ => ⟨Or.inr rfl, ?_⟩, fun g => by omega⟩)
  rw [e]; exact h
theorem lo199 {M : xm_Mem} {least most e : Int} (hT : y_txt M t n) (hr : M 50 10 = s) (hs : 0 ≤ s ∧ s < n) (hk : x_kn (t s) = 2) (he : x_te t n s e) (hl : 0 ≤ least ∧ least ≤ most ∧ most ≤ 9999) (h1 : least ≤ x_nv t s e ∧ x_nv t s e ≤ most → Q [.inl (x_nv t s e)] (xm_up M 50 10 e)) (h0 : ¬ (least ≤ x_nv t s e ∧ x_nv t s e ≤ most) → Q [.inl least] (xm_up M 50 11 1)) : ∀ (m : Nat) (k v : Int), s + k + m = e → 0 ≤ k → (k = 0 → v = 0) → (k = 1 → v = t s - 48) → (k = 2 → v = 10 * (t s - 48) + t (s + 1) - 48) → 0 ≤ v ∧ v ≤ 999 → wp199r50_29 (xm_call true (d + 2)) Q least most k v M := by
  obtain ⟨dg, nb⟩ := nv_in hT.1 hs.1 he hk
  have hn := hT.1.2.1
  have d0 := dg s (by omega) he.1
  have fin : ∀ (k v : Int), s + k = e → 0 ≤ k → (k = 0 → v = 0) → (k = 1 → v = t s - 48) → (k = 2 → v = 10 * (t s - 48) + t (s + 1) - 48) → 0 ≤ v ∧ v ≤ 999 → (xm_in k ∧ xm_in 2) ∧ ((2 < k → ((1 : Int) = 0 ∨ (1 : Int) = 1) ∧ Q [.inl least] (xm_up M 50 11 1)) ∧ (k ≤ 2 → (xm_in k ∧ xm_in 2) ∧ ((k ≠ 2 → xm_call true (d + 2) 193 [.inl v, .inl least, .inl most] M (fun v1 M2 => xm_ki (fun r3 => (xm_in r3) ∧ ((r3 ≠ 0 → Q [.inl v] (xm_up M2 50 10 ((M2 50 10) + k))) ∧ (r3 = 0 → ((1 : Int) = 0 ∨ (1 : Int) = 1) ∧ Q [.inl least] (xm_up M2 50 11 1)))) v1)) ∧ (k = 2 → (xm_in v ∧ xm_in 10) ∧ ((v < 10 → ((1 : Int) = 0 ∨ (1 : Int) = 1) ∧ Q [.inl least] (xm_up M 50 11 1)) ∧ (10 ≤ v → xm_call true (d + 2) 193 [.inl v, .inl least, .inl most] M (fun v4 M5 => xm_ki (fun r6 => (xm_in r6) ∧ ((r6 ≠ 0 → Q [.inl v] (xm_up M5 50 10 ((M5 50 10) + k))) ∧ (r6 = 0 → ((1 : Int) = 0 ∨ (1 : Int) = 1) ∧ Q [.inl least] (xm_up M5 50 11 1)))) v4))))))) := by
    intro k v ek hk0 v0 v1 v2 vb
    have ese : e - s = k := by omega
    have pos := he.1
    have en := he.2.1
    unfold x_nv at h1 h0
    rw [ese] at h1 h0
    have inn : ∀ (z : Int), z = v → (least ≤ z ∧ z ≤ most → Q [.inl z] (xm_up M 50 10 e)) → (¬ (least ≤ z ∧ z ≤ most) → Q [.inl least] (xm_up M 50 11 1)) → xm_call true (d + 2) 193 [.inl v, .inl least, .inl most] M (fun v1 M2 => xm_ki (fun r3 => (xm_in r3) ∧ ((r3 ≠ 0 → Q [.inl v] (xm_up M2 50 10 ((M2 50 10) + k))) ∧ (r3 = 0 → ((1 : Int) = 0 ∨ (1 : Int) = 1) ∧ Q [.inl least] (xm_up M2 50 11 1)))) v1) := by
      intro z hz g1 g0
      subst hz
      refine sp193 (by omega) (by omega) (by omega) (fun g => xq_ki (xq_b2 ?_)) (fun g => xq_ki (xq_b4 ⟨Or.inr rfl, g0 g⟩))
      rw [hr, ek]
      exact g1 g
    refine ⟨⟨by omega, by omega⟩, fun g => ⟨Or.inr rfl, ?_⟩, fun g => ⟨⟨by omega, by omega⟩, fun g2 => ?_, fun g2 => ⟨⟨by omega, by omega⟩, fun g3 => ⟨Or.inr rfl, ?_⟩, fun g3 => ?_⟩⟩⟩
    · rw [if_neg (by omega), if_pos (Or.inl g)] at h0
      exact h0 (by omega)
    · have k1 : k = 1 := by omega
      rw [if_pos k1] at h1 h0
      exact inn _ (v1 k1).symm h1 h0
    · have v2 := v2 g2
      have d1 := dg (s + 1) (by omega) (by omega)
      rw [if_neg (by omega), if_pos (Or.inr (by omega))] at h0
      exact h0 (by omega)
    · have v2' := v2 g2
      have d1 := dg (s + 1) (by omega) (by omega)
      rw [if_neg (by omega), if_neg (by omega)] at h1 h0
      exact inn _ v2'.symm h1 h0
  intro m
  induction m with
  | zero =>
    intro k v e0 hk0 v0 v1 v2 vb
    have ek : s + k = e := by omega
    have f := fin k v ek hk0 v0 v1 v2 vb
    have en := he.2.1
    have stop := (he.2.2.1 (Or.inr hk)).2
    refine rg199r50_29 ?_
    rw [hr, hT.2.1]
    refine ⟨⟨by omega, by omega⟩, fun _ => f, fun g => ⟨by omega, ?_⟩⟩
    rw [hT.2.2 (s + k) (by omega) g]
    have tb := hT.1.2.2 (s + k) (by omega) g
    refine sp197 (by omega) (fun g2 => ?_) (fun _ => xq_ki (xq_b3 f))
    rw [ek] at g2 g
    rw [co_lt (by omega), hk] at stop
    exact absurd (kn2.mpr g2) stop
  | succ m ih =>
    intro k v e0 hk0 v0 v1 v2 vb
    have en := he.2.1
    have dk := dg (s + k) (by omega) (by omega)
    refine rg199r50_29 ?_
    rw [hr, hT.2.1]
    refine ⟨⟨by omega, by omega⟩, fun _ => by omega, fun g => ⟨by omega, ?_⟩⟩
    rw [hT.2.2 (s + k) (by omega) g]
    refine sp197 (by omega) (fun _ => xq_ki (xq_n1 ⟨⟨by omega, by omega⟩, fun g2 => ?_, fun g2 => ?_⟩)) (fun g2 => absurd dk g2)
    · exact ih (k + 1) v (by omega) (by omega) (fun q => by omega) (fun q => by omega) (fun q => by omega) vb
    · rw [hr, hT.2.2 (s + k) (by omega) g]
      refine ⟨by omega, ih (k + 1) _ (by omega) (by omega) (fun q => by omega) (fun q => ?_) (fun q => ?_) ?_⟩
      · have := v0 (by omega)
        rw [this, show s + k = s by omega]
        omega
      · have := v1 (by omega)
        rw [this, show s + k = s + 1 by omega]
      · have k3 : k = 0 ∨ k = 1 ∨ k = 2 := by omega
        rcases k3 with q | q | q
        · have := v0 q; omega
        · have := v1 q; omega
        · have := v2 q
          have := dg (s + 1) (by omega) (by omega)
          omega
/-- a number within bounds is wanted; the token that stands there ends at e -/
theorem sp199 {M : xm_Mem} {least most r : Int} (hT : y_txt M t n) (hr : M 50 10 = r) (hx : y_nx t n r s) (hf : M 50 11 = 0) (hl : 0 ≤ least ∧ least ≤ most ∧ most ≤ 9999) (h1 : ∀ e : Int, s < n → x_kn (t s) = 2 → x_te t n s e → least ≤ x_nv t s e ∧ x_nv t s e ≤ most → Q [.inl (x_nv t s e)] (xm_up M 50 10 e)) (h0 : (s < n → x_kn (t s) = 2 → ∀ e : Int, x_te t n s e → ¬ (least ≤ x_nv t s e ∧ x_nv t s e ≤ most)) → Q [.inl least] (xm_up (xm_up M 50 10 s) 50 11 1)) (hex : s < n → ∃ e : Int, x_te t n s e) (hun : ∀ e e' : Int, x_te t n s e → x_te t n s e' → e = e') : xm_call true (d + 3) 199 [.inr (.inr 50), .inl least, .inl most] M Q := by
  have n0 : 0 ≤ s := by have := hx.1; have := hx.2.1.1; omega
  have tb := hT.1.2.2 s n0
  refine en199r50 (rg199r50_0 ⟨by omega, fun g => absurd hf g, fun _ => sp196 hT hr hx (xq_ki ?_)⟩)
  refine sp197 (by split <;> omega) (fun g => xq_ki (xq_b2 ?_)) (fun g => xq_ki (xq_b4 ⟨Or.inr rfl, h0 (fun q1 q2 => ?_)⟩))
  · have sn : s < n := by
      split at g
      · assumption
      · omega
    rw [if_pos sn] at g
    obtain ⟨e, he⟩ := hex sn
    have hk := kn2.mpr g
    refine lo199 (M := xm_up M 50 10 s) (e := e) (ytx_up hT ⟨by omega, fun _ => by omega⟩) xu_s ⟨n0, sn⟩ hk he hl (fun b => ?_) (fun b => h0 (fun _ _ e' he' => by rw [hun e' e he' he]; exact b)) (e - s).toNat 0 0 (by have := he.1; omega) (by omega) (fun _ => rfl) (fun q => by omega) (fun q => by omega) (by omega)
    rw [xu_u]
    exact h1 e sn hk he b
  · rw [if_pos q1] at g
    exact absurd (kn2.mp q2) g
end YL
theorem te_one {t : Int → Int} {n s e e' : Int} (hT : x_txt n t) (h0 : 0 ≤ s) (h : x_te t n s e) (h' : x_te t n s e') : e = e' := by
  have key : ∀ e e' : Int, x_te t n s e → x_te t n s e' → ¬ e < e' := by
    intro e e' h h' lt
    by_cases g : x_kn (t s) = 1 ∨ x_kn (t s) = 2
    · have a := (h.2.2.1 g).2
      have b := (h'.2.2.1 g).1 e (by have := h.1; omega) lt
      rw [co_lt (by have := h.1; have := h'.2.1; omega)] at a
      exact a b
    · have a := h.2.2.2 (fun q => g (Or.inl q)) (fun q => g (Or.inr q))
      have b := h'.2.2.2 (fun q => g (Or.inl q)) (fun q => g (Or.inr q))
      omega
  have a := key e e' h h'
  have b := key e' e h' h
  omega
/-! words of the reference -/
def y_cf (t : Int → Int) (s : Int) : Nat → Int
  | 0 => 0
  | k + 1 => if k < 6 then 27 * y_cf t s k + t (s + k) - 96 else 0
def y_wc (w : Int) : Int := if w = 0 then 365647 else if w = 1 then 355568 else if w = 2 then 257105 else if w = 3 then 39942065 else if w = 4 then 323717 else 1960084
theorem cf_1 (t : Int → Int) (s : Int) : y_cf t s 1 = 27 * (0) + t (s + ((0 : Nat) : Int)) - 96 := rfl
theorem cf_2 (t : Int → Int) (s : Int) : y_cf t s 2 = 27 * (27 * (0) + t (s + ((0 : Nat) : Int)) - 96) + t (s + ((1 : Nat) : Int)) - 96 := rfl
theorem cf_3 (t : Int → Int) (s : Int) : y_cf t s 3 = 27 * (27 * (27 * (0) + t (s + ((0 : Nat) : Int)) - 96) + t (s + ((1 : Nat) : Int)) - 96) + t (s + ((2 : Nat) : Int)) - 96 := rfl
theorem cf_4 (t : Int → Int) (s : Int) : y_cf t s 4 = 27 * (27 * (27 * (27 * (0) + t (s + ((0 : Nat) : Int)) - 96) + t (s + ((1 : Nat) : Int)) - 96) + t (s + ((2 : Nat) : Int)) - 96) + t (s + ((3 : Nat) : Int)) - 96 := rfl
theorem cf_5 (t : Int → Int) (s : Int) : y_cf t s 5 = 27 * (27 * (27 * (27 * (27 * (0) + t (s + ((0 : Nat) : Int)) - 96) + t (s + ((1 : Nat) : Int)) - 96) + t (s + ((2 : Nat) : Int)) - 96) + t (s + ((3 : Nat) : Int)) - 96) + t (s + ((4 : Nat) : Int)) - 96 := rfl
theorem cf_6 (t : Int → Int) (s : Int) : y_cf t s 6 = 27 * (27 * (27 * (27 * (27 * (27 * (0) + t (s + ((0 : Nat) : Int)) - 96) + t (s + ((1 : Nat) : Int)) - 96) + t (s + ((2 : Nat) : Int)) - 96) + t (s + ((3 : Nat) : Int)) - 96) + t (s + ((4 : Nat) : Int)) - 96) + t (s + ((5 : Nat) : Int)) - 96 := rfl
theorem cf_say {t : Int → Int} {n s e : Int} (h0 : 0 ≤ s) (hn : e ≤ n) (hl : ∀ j : Int, s ≤ j → j < e → 97 ≤ t j ∧ t j ≤ 122) {L w : Nat} (hL : s + L = e) (h6 : 1 ≤ L ∧ L ≤ 6) (hw : w < 6) : y_cf t s L = y_wc w ↔ x_say t n s e (xm_sby.getD w []) := by
  have hk : ∀ k : Nat, k < L → x_co t n (s + k) = t (s + k) ∧ 97 ≤ t (s + k) ∧ t (s + k) ≤ 122 := fun k q => ⟨co_lt (by omega), hl _ (by omega) (by omega)⟩
  have hL' : L = 1 ∨ L = 2 ∨ L = 3 ∨ L = 4 ∨ L = 5 ∨ L = 6 := by omega
  have hw' : w = 0 ∨ w = 1 ∨ w = 2 ∨ w = 3 ∨ w = 4 ∨ w = 5 := by omega
  rcases hL' with rfl | rfl | rfl | rfl | rfl | rfl
  · rw [cf_1]
    have k0 := hk 0 (by omega)
    rcases hw' with rfl | rfl | rfl | rfl | rfl | rfl
    · rw [show y_wc ((0 : Nat) : Int) = 365647 from rfl]
      refine ⟨fun g => by omega, fun g => ?_⟩
      have g1 : e - s = 4 := g.1
      omega
    · rw [show y_wc ((1 : Nat) : Int) = 355568 from rfl]
      refine ⟨fun g => by omega, fun g => ?_⟩
      have g1 : e - s = 4 := g.1
      omega
    · rw [show y_wc ((2 : Nat) : Int) = 257105 from rfl]
      refine ⟨fun g => by omega, fun g => ?_⟩
      have g1 : e - s = 4 := g.1
      omega
    · rw [show y_wc ((3 : Nat) : Int) = 39942065 from rfl]
      refine ⟨fun g => by omega, fun g => ?_⟩
      have g1 : e - s = 6 := g.1
      omega
    · rw [show y_wc ((4 : Nat) : Int) = 323717 from rfl]
      refine ⟨fun g => by omega, fun g => ?_⟩
      have g1 : e - s = 4 := g.1
      omega
    · rw [show y_wc ((5 : Nat) : Int) = 1960084 from rfl]
      refine ⟨fun g => by omega, fun g => ?_⟩
      have g1 : e - s = 5 := g.1
      omega
  · rw [cf_2]
    have k0 := hk 0 (by omega)
    have k1 := hk 1 (by omega)
    rcases hw' with rfl | rfl | rfl | rfl | rfl | rfl
    · rw [show y_wc ((0 : Nat) : Int) = 365647 from rfl]
      refine ⟨fun g => by omega, fun g => ?_⟩
      have g1 : e - s = 4 := g.1
      omega
    · rw [show y_wc ((1 : Nat) : Int) = 355568 from rfl]
      refine ⟨fun g => by omega, fun g => ?_⟩
      have g1 : e - s = 4 := g.1
      omega
    · rw [show y_wc ((2 : Nat) : Int) = 257105 from rfl]
      refine ⟨fun g => by omega, fun g => ?_⟩
      have g1 : e - s = 4 := g.1
      omega
    · rw [show y_wc ((3 : Nat) : Int) = 39942065 from rfl]
      refine ⟨fun g => by omega, fun g => ?_⟩
      have g1 : e - s = 6 := g.1
      omega
    · rw [show y_wc ((4 : Nat) : Int) = 323717 from rfl]
      refine ⟨fun g => by omega, fun g => ?_⟩
      have g1 : e - s = 4 := g.1
      omega
    · rw [show y_wc ((5 : Nat) : Int) = 1960084 from rfl]
      refine ⟨fun g => by omega, fun g => ?_⟩
      have g1 : e - s = 5 := g.1
      omega
  · rw [cf_3]
    have k0 := hk 0 (by omega)
    have k1 := hk 1 (by omega)
    have k2 := hk 2 (by omega)
    rcases hw' with rfl | rfl | rfl | rfl | rfl | rfl
    · rw [show y_wc ((0 : Nat) : Int) = 365647 from rfl]
      refine ⟨fun g => by omega, fun g => ?_⟩
      have g1 : e - s = 4 := g.1
      omega
    · rw [show y_wc ((1 : Nat) : Int) = 355568 from rfl]
      refine ⟨fun g => by omega, fun g => ?_⟩
      have g1 : e - s = 4 := g.1
      omega
    · rw [show y_wc ((2 : Nat) : Int) = 257105 from rfl]
      refine ⟨fun g => by omega, fun g => ?_⟩
      have g1 : e - s = 4 := g.1
      omega
    · rw [show y_wc ((3 : Nat) : Int) = 39942065 from rfl]
      refine ⟨fun g => by omega, fun g => ?_⟩
      have g1 : e - s = 6 := g.1
      omega
    · rw [show y_wc ((4 : Nat) : Int) = 323717 from rfl]
      refine ⟨fun g => by omega, fun g => ?_⟩
      have g1 : e - s = 4 := g.1
      omega
    · rw [show y_wc ((5 : Nat) : Int) = 1960084 from rfl]
      refine ⟨fun g => by omega, fun g => ?_⟩
      have g1 : e - s = 5 := g.1
      omega
  · rw [cf_4]
    have k0 := hk 0 (by omega)
    have k1 := hk 1 (by omega)
    have k2 := hk 2 (by omega)
    have k3 := hk 3 (by omega)
    rcases hw' with rfl | rfl | rfl | rfl | rfl | rfl
    · rw [show y_wc ((0 : Nat) : Int) = 365647 from rfl]
      refine ⟨fun g => ⟨?_, fun k q => ?_⟩, fun g => ?_⟩
      · show e - s = ((4 : Nat) : Int)
        omega
      · have q : k < 4 := q
        have q2 : k = 0 ∨ k = 1 ∨ k = 2 ∨ k = 3 := by omega
        rcases q2 with rfl | rfl | rfl | rfl
        · rw [k0.1]
          show _ = (114 : Int)
          omega
        · rw [k1.1]
          show _ = (111 : Int)
          omega
        · rw [k2.1]
          show _ = (111 : Int)
          omega
        · rw [k3.1]
          show _ = (109 : Int)
          omega
      · have z0 : x_co t n (s + ((0 : Nat) : Int)) = 114 := g.2 0 (by show 0 < 4; omega)
        have z1 : x_co t n (s + ((1 : Nat) : Int)) = 111 := g.2 1 (by show 1 < 4; omega)
        have z2 : x_co t n (s + ((2 : Nat) : Int)) = 111 := g.2 2 (by show 2 < 4; omega)
        have z3 : x_co t n (s + ((3 : Nat) : Int)) = 109 := g.2 3 (by show 3 < 4; omega)
        omega
    · rw [show y_wc ((1 : Nat) : Int) = 355568 from rfl]
      refine ⟨fun g => ⟨?_, fun k q => ?_⟩, fun g => ?_⟩
      · show e - s = ((4 : Nat) : Int)
        omega
      · have q : k < 4 := q
        have q2 : k = 0 ∨ k = 1 ∨ k = 2 ∨ k = 3 := by omega
        rcases q2 with rfl | rfl | rfl | rfl
        · rw [k0.1]
          show _ = (114 : Int)
          omega
        · rw [k1.1]
          show _ = (97 : Int)
          omega
        · rw [k2.1]
          show _ = (116 : Int)
          omega
        · rw [k3.1]
          show _ = (101 : Int)
          omega
      · have z0 : x_co t n (s + ((0 : Nat) : Int)) = 114 := g.2 0 (by show 0 < 4; omega)
        have z1 : x_co t n (s + ((1 : Nat) : Int)) = 97 := g.2 1 (by show 1 < 4; omega)
        have z2 : x_co t n (s + ((2 : Nat) : Int)) = 116 := g.2 2 (by show 2 < 4; omega)
        have z3 : x_co t n (s + ((3 : Nat) : Int)) = 101 := g.2 3 (by show 3 < 4; omega)
        omega
    · rw [show y_wc ((2 : Nat) : Int) = 257105 from rfl]
      refine ⟨fun g => ⟨?_, fun k q => ?_⟩, fun g => ?_⟩
      · show e - s = ((4 : Nat) : Int)
        omega
      · have q : k < 4 := q
        have q2 : k = 0 ∨ k = 1 ∨ k = 2 ∨ k = 3 := by omega
        rcases q2 with rfl | rfl | rfl | rfl
        · rw [k0.1]
          show _ = (109 : Int)
          omega
        · rw [k1.1]
          show _ = (97 : Int)
          omega
        · rw [k2.1]
          show _ = (114 : Int)
          omega
        · rw [k3.1]
          show _ = (107 : Int)
          omega
      · have z0 : x_co t n (s + ((0 : Nat) : Int)) = 109 := g.2 0 (by show 0 < 4; omega)
        have z1 : x_co t n (s + ((1 : Nat) : Int)) = 97 := g.2 1 (by show 1 < 4; omega)
        have z2 : x_co t n (s + ((2 : Nat) : Int)) = 114 := g.2 2 (by show 2 < 4; omega)
        have z3 : x_co t n (s + ((3 : Nat) : Int)) = 107 := g.2 3 (by show 3 < 4; omega)
        omega
    · rw [show y_wc ((3 : Nat) : Int) = 39942065 from rfl]
      refine ⟨fun g => by omega, fun g => ?_⟩
      have g1 : e - s = 6 := g.1
      omega
    · rw [show y_wc ((4 : Nat) : Int) = 323717 from rfl]
      refine ⟨fun g => ⟨?_, fun k q => ?_⟩, fun g => ?_⟩
      · show e - s = ((4 : Nat) : Int)
        omega
      · have q : k < 4 := q
        have q2 : k = 0 ∨ k = 1 ∨ k = 2 ∨ k = 3 := by omega
        rcases q2 with rfl | rfl | rfl | rfl
        · rw [k0.1]
          show _ = (112 : Int)
          omega
        · rw [k1.1]
          show _ = (108 : Int)
          omega
        · rw [k2.1]
          show _ = (97 : Int)
          omega
        · rw [k3.1]
          show _ = (110 : Int)
          omega
      · have z0 : x_co t n (s + ((0 : Nat) : Int)) = 112 := g.2 0 (by show 0 < 4; omega)
        have z1 : x_co t n (s + ((1 : Nat) : Int)) = 108 := g.2 1 (by show 1 < 4; omega)
        have z2 : x_co t n (s + ((2 : Nat) : Int)) = 97 := g.2 2 (by show 2 < 4; omega)
        have z3 : x_co t n (s + ((3 : Nat) : Int)) = 110 := g.2 3 (by show 3 < 4; omega)
        omega
    · rw [show y_wc ((5 : Nat) : Int) = 1960084 from rfl]
      refine ⟨fun g => by omega, fun g => ?_⟩
      have g1 : e - s = 5 := g.1
      omega
  · rw [cf_5]
    have k0 := hk 0 (by omega)
    have k1 := hk 1 (by omega)
    have k2 := hk 2 (by omega)
    have k3 := hk 3 (by omega)
    have k4 := hk 4 (by omega)
    rcases hw' with rfl | rfl | rfl | rfl | rfl | rfl
    · rw [show y_wc ((0 : Nat) : Int) = 365647 from rfl]
      refine ⟨fun g => by omega, fun g => ?_⟩
      have g1 : e - s = 4 := g.1
      omega
    · rw [show y_wc ((1 : Nat) : Int) = 355568 from rfl]
      refine ⟨fun g => by omega, fun g => ?_⟩
      have g1 : e - s = 4 := g.1
      omega
    · rw [show y_wc ((2 : Nat) : Int) = 257105 from rfl]
      refine ⟨fun g => by omega, fun g => ?_⟩
      have g1 : e - s = 4 := g.1
      omega
    · rw [show y_wc ((3 : Nat) : Int) = 39942065 from rfl]
      refine ⟨fun g => by omega, fun g => ?_⟩
      have g1 : e - s = 6 := g.1
      omega
    · rw [show y_wc ((4 : Nat) : Int) = 323717 from rfl]
      refine ⟨fun g => by omega, fun g => ?_⟩
      have g1 : e - s = 4 := g.1
      omega
    · rw [show y_wc ((5 : Nat) : Int) = 1960084 from rfl]
      refine ⟨fun g => ⟨?_, fun k q => ?_⟩, fun g => ?_⟩
      · show e - s = ((5 : Nat) : Int)
        omega
      · have q : k < 5 := q
        have q2 : k = 0 ∨ k = 1 ∨ k = 2 ∨ k = 3 ∨ k = 4 := by omega
        rcases q2 with rfl | rfl | rfl | rfl | rfl
        · rw [k0.1]
          show _ = (99 : Int)
          omega
        · rw [k1.1]
          show _ = (114 : Int)
          omega
        · rw [k2.1]
          show _ = (111 : Int)
          omega
        · rw [k3.1]
          show _ = (115 : Int)
          omega
        · rw [k4.1]
          show _ = (115 : Int)
          omega
      · have z0 : x_co t n (s + ((0 : Nat) : Int)) = 99 := g.2 0 (by show 0 < 5; omega)
        have z1 : x_co t n (s + ((1 : Nat) : Int)) = 114 := g.2 1 (by show 1 < 5; omega)
        have z2 : x_co t n (s + ((2 : Nat) : Int)) = 111 := g.2 2 (by show 2 < 5; omega)
        have z3 : x_co t n (s + ((3 : Nat) : Int)) = 115 := g.2 3 (by show 3 < 5; omega)
        have z4 : x_co t n (s + ((4 : Nat) : Int)) = 115 := g.2 4 (by show 4 < 5; omega)
        omega
  · rw [cf_6]
    have k0 := hk 0 (by omega)
    have k1 := hk 1 (by omega)
    have k2 := hk 2 (by omega)
    have k3 := hk 3 (by omega)
    have k4 := hk 4 (by omega)
    have k5 := hk 5 (by omega)
    rcases hw' with rfl | rfl | rfl | rfl | rfl | rfl
    · rw [show y_wc ((0 : Nat) : Int) = 365647 from rfl]
      refine ⟨fun g => by omega, fun g => ?_⟩
      have g1 : e - s = 4 := g.1
      omega
    · rw [show y_wc ((1 : Nat) : Int) = 355568 from rfl]
      refine ⟨fun g => by omega, fun g => ?_⟩
      have g1 : e - s = 4 := g.1
      omega
    · rw [show y_wc ((2 : Nat) : Int) = 257105 from rfl]
      refine ⟨fun g => by omega, fun g => ?_⟩
      have g1 : e - s = 4 := g.1
      omega
    · rw [show y_wc ((3 : Nat) : Int) = 39942065 from rfl]
      refine ⟨fun g => ⟨?_, fun k q => ?_⟩, fun g => ?_⟩
      · show e - s = ((6 : Nat) : Int)
        omega
      · have q : k < 6 := q
        have q2 : k = 0 ∨ k = 1 ∨ k = 2 ∨ k = 3 ∨ k = 4 ∨ k = 5 := by omega
        rcases q2 with rfl | rfl | rfl | rfl | rfl | rfl
        · rw [k0.1]
          show _ = (98 : Int)
          omega
        · rw [k1.1]
          show _ = (117 : Int)
          omega
        · rw [k2.1]
          show _ = (100 : Int)
          omega
        · rw [k3.1]
          show _ = (103 : Int)
          omega
        · rw [k4.1]
          show _ = (101 : Int)
          omega
        · rw [k5.1]
          show _ = (116 : Int)
          omega
      · have z0 : x_co t n (s + ((0 : Nat) : Int)) = 98 := g.2 0 (by show 0 < 6; omega)
        have z1 : x_co t n (s + ((1 : Nat) : Int)) = 117 := g.2 1 (by show 1 < 6; omega)
        have z2 : x_co t n (s + ((2 : Nat) : Int)) = 100 := g.2 2 (by show 2 < 6; omega)
        have z3 : x_co t n (s + ((3 : Nat) : Int)) = 103 := g.2 3 (by show 3 < 6; omega)
        have z4 : x_co t n (s + ((4 : Nat) : Int)) = 101 := g.2 4 (by show 4 < 6; omega)
        have z5 : x_co t n (s + ((5 : Nat) : Int)) = 116 := g.2 5 (by show 5 < 6; omega)
        omega
    · rw [show y_wc ((4 : Nat) : Int) = 323717 from rfl]
      refine ⟨fun g => by omega, fun g => ?_⟩
      have g1 : e - s = 4 := g.1
      omega
    · rw [show y_wc ((5 : Nat) : Int) = 1960084 from rfl]
      refine ⟨fun g => by omega, fun g => ?_⟩
      have g1 : e - s = 5 := g.1
      omega
theorem say_len {t : Int → Int} {n s e : Int} {w : Nat} (hw : w < 6) (h : x_say t n s e (xm_sby.getD w [])) : 4 ≤ e - s ∧ e - s ≤ 6 := by
  have hw' : w = 0 ∨ w = 1 ∨ w = 2 ∨ w = 3 ∨ w = 4 ∨ w = 5 := by omega
  have g := h.1
  rcases hw' with rfl | rfl | rfl | rfl | rfl | rfl
  all_goals
    simp only [xm_sby, List.getD_cons_zero, List.getD_cons_succ, List.length_cons, List.length_nil] at g
    omega
section YW
variable {d : Nat} {Q : xm_K} {t : Int → Int} {n s : Int} {M : xm_Mem}
theorem sp206 {w : Int} (hw : 0 ≤ w ∧ w < 6) (h : Q [.inl (y_wc w)] M) : xm_call true (d + 2) 206 [.inl w] M Q := by
  have hw' : w = 0 ∨ w = 1 ∨ w = 2 ∨ w = 3 ∨ w = 4 ∨ w = 5 := by omega
  rcases hw' with rfl | rfl | rfl | rfl | rfl | rfl
  all_goals
    refine en206 (rg206_0 ?_)
    (repeat' (first | (with_reducible exact True.intro) | (with_reducible refine And.intro ?_ ?_) | (with_reducible intro) | (with_reducible refine xq_ki ?_) | (with_reducible refine xq_kl ?_) | (with_reducible refine xq_kv ?_) | (with_reducible refine xq_kq ?_) | (with_reducible refine en205 (rg205_0 ?_))))
    all_goals first | omega | skip
    all_goals first | exact h | (refine absurd ?_ (show ¬ False from id); omega)
theorem lo204_76 {e : Int} {L : Nat} (h0 : 0 ≤ s) (hn : e ≤ n) (hn2 : n ≤ 200) (hl : ∀ j : Int, s ≤ j → j < e → 97 ≤ t j ∧ t j ≤ 122) (hL : s + L = e) (hc : xm_in (y_cf t s L)) (h1 : ∀ w : Nat, w < 6 → x_say t n s e (xm_sby.getD w []) → Q [.inl (w : Int)] M) (hno : (∀ w : Nat, w < 6 → ¬ x_say t n s e (xm_sby.getD w [])) → Q [.inl (-9)] M) : ∀ (m k : Nat), k + m = 6 → (∀ w : Nat, w < k → ¬ x_say t n s e (xm_sby.getD w [])) → wp204r50_76 (xm_call true (d + 2)) Q L (y_cf t s L) k M
  | 0, k, e0, hk => by
    have ek : k = 6 := by omega
    subst ek
    exact rg204r50_76 ⟨⟨by omega, by omega⟩, fun _ => hno hk, fun _ => by omega⟩
  | m + 1, k, e0, hk => by
    have ih := lo204_76 h0 hn hn2 hl hL hc h1 hno m (k + 1) (by omega)
    have nxt : ¬ x_say t n s e (xm_sby.getD k []) → wp204r50_76 (xm_call true (d + 2)) Q L (y_cf t s L) ((k : Int) + 1) M := fun g => ih (fun w hw => by
      by_cases q : w = k
      · rw [q]; exact g
      · exact hk w (by omega))
    refine rg204r50_76 ⟨⟨by omega, by omega⟩, fun _ => by omega, fun _ => ⟨by omega, fun g => nxt (fun q => ?_), fun g => ⟨⟨by omega, by omega⟩, fun g2 => nxt (fun q => ?_), fun g2 => ?_⟩⟩⟩
    · have := say_len (by omega) q; omega
    · have := say_len (by omega) q; omega
    · have cs := cf_say h0 hn hl hL (by omega) (show k < 6 by omega)
      refine sp206 (by omega) (xq_ki ⟨⟨hc, ?_⟩, fun g3 => nxt (fun q => g3 (cs.mpr q)), fun g3 => h1 k (by omega) (cs.mp g3)⟩)
      unfold y_wc
      repeat' split
      all_goals exact ⟨by omega, by omega⟩
theorem cf_in {e : Int} (hl : ∀ j : Int, s ≤ j → j < e → 97 ≤ t j ∧ t j ≤ 122) : ∀ k : Nat, s + k ≤ e → 0 ≤ y_cf t s k ∧ y_cf t s k < 2147483648 ∧ (k ≤ 5 → y_cf t s k ≤ 14348906) ∧ (k ≤ 4 → y_cf t s k ≤ 531440) ∧ (k ≤ 3 → y_cf t s k ≤ 19682) ∧ (k ≤ 2 → y_cf t s k ≤ 728) ∧ (k ≤ 1 → y_cf t s k ≤ 26) ∧ (k = 0 → y_cf t s k = 0)
  | 0, _ => by simp [y_cf]
  | k + 1, h => by
    have ih := cf_in hl k (by omega)
    have g := hl (s + k) (by omega) (by omega)
    rw [y_cf]
    split
    · omega
    · refine ⟨by omega, by omega, fun q => by omega, fun q => by omega, fun q => by omega, fun q => by omega, fun q => by omega, fun q => by omega⟩
theorem lo204_4 {e : Int} (hT : y_txt M t n) (hr : M 50 10 = s) (h0 : 0 ≤ s ∧ s < n) (hk : x_kn (t s) = 1) (he : x_te t n s e) (h1 : ∀ w : Nat, w < 6 → x_say t n s e (xm_sby.getD w []) → Q [.inl (w : Int)] M) (hno : (∀ w : Nat, w < 6 → ¬ x_say t n s e (xm_sby.getD w [])) → Q [.inl (-9)] M) : ∀ (m k : Nat), s + k + m = e → wp204r50_4 (xm_call true (d + 2)) Q k (y_cf t s k) M
  | 0, k, e0 => by
    have hl := lt_in he hk
    have ek : s + k = e := by omega
    have en := he.2.1
    have hn := hT.1.2.1
    have stop := (he.2.2.1 (Or.inl hk)).2
    have ci := cf_in hl k (by omega)
    have f := lo204_76 (d := d) (Q := Q) (M := M) (n := n) h0.1 en hn hl ek ⟨by omega, by omega⟩ h1 hno 6 0 (by omega) (fun w hw => by omega)
    refine rg204r50_4 ?_
    rw [hr, hT.2.1]
    refine ⟨⟨by omega, by omega⟩, fun _ => f, fun g => ⟨by omega, ?_⟩⟩
    rw [hT.2.2 (s + k) (by omega) g]
    have tb := hT.1.2.2 (s + k) (by omega) g
    refine sp193 (by omega) (by omega) (by omega) (fun g2 => ?_) (fun _ => xq_ki (xq_b3 f))
    rw [ek] at g2 g
    rw [co_lt (by omega), hk] at stop
    exact absurd (kn1.mpr g2) stop
  | m + 1, k, e0 => by
    have hl := lt_in he hk
    have en := he.2.1
    have hn := hT.1.2.1
    have ih := lo204_4 hT hr h0 hk he h1 hno m (k + 1) (by omega)
    have dk := hl (s + k) (by omega) (by omega)
    rw [y_cf] at ih
    refine rg204r50_4 ?_
    rw [hr, hT.2.1]
    refine ⟨⟨by omega, by omega⟩, fun _ => by omega, fun g => ⟨by omega, ?_⟩⟩
    rw [hT.2.2 (s + k) (by omega) g]
    refine sp193 (by omega) (by omega) (by omega) (fun _ => xq_ki (xq_n1 ⟨⟨by omega, by omega⟩, fun g2 => ?_, fun g2 => ?_⟩)) (fun g2 => absurd dk g2)
    · rw [if_neg (by omega)] at ih
      exact ih
    · rw [if_pos (by omega)] at ih
      rw [hr, hT.2.2 (s + k) (by omega) g]
      exact ⟨by omega, ih⟩
theorem sp204 {e : Int} (hT : y_txt M t n) (hr : M 50 10 = s) (h0 : 0 ≤ s ∧ s < n) (hk : x_kn (t s) = 1) (he : x_te t n s e) (h1 : ∀ w : Nat, w < 6 → x_say t n s e (xm_sby.getD w []) → Q [.inl (w : Int)] M) (hno : (∀ w : Nat, w < 6 → ¬ x_say t n s e (xm_sby.getD w [])) → Q [.inl (-9)] M) : xm_call true (d + 3) 204 [.inr (.inr 50)] M Q := by
  refine en204r50 (rg204r50_0 ?_)
  exact lo204_4 hT hr h0 hk he h1 hno (e - s).toNat 0 (by have := he.1; omega)
theorem sp204n (hT : y_txt M t n) (hr : M 50 10 = s) (h0 : 0 ≤ s ∧ s ≤ n) (hk : s < n → x_kn (t s) ≠ 1) (h : Q [.inl (-9)] M) : xm_call true (d + 3) 204 [.inr (.inr 50)] M Q := by
  have hn := hT.1.2.1
  have lo : ∀ (m k : Nat), k + m = 6 → wp204r50_76 (xm_call true (d + 2)) Q 0 0 k M := by
    intro m
    induction m with
    | zero =>
      intro k e0
      exact rg204r50_76 ⟨⟨by omega, by omega⟩, fun _ => h, fun _ => by omega⟩
    | succ m ih =>
      intro k e0
      exact rg204r50_76 ⟨⟨by omega, by omega⟩, fun _ => by omega, fun _ => ⟨by omega, fun _ => ih (k + 1) (by omega), fun _ => by omega⟩⟩
  have f := lo 6 0 (by omega)
  refine en204r50 (rg204r50_0 (rg204r50_4 ?_))
  rw [hr, hT.2.1]
  refine ⟨⟨by omega, by omega⟩, fun _ => f, fun g => ⟨by omega, ?_⟩⟩
  rw [show s + 0 = s by omega] at g ⊢
  rw [hT.2.2 s h0.1 g]
  have tb := hT.1.2.2 s h0.1 g
  exact sp193 (by omega) (by omega) (by omega) (fun g2 => absurd (kn1.mpr g2) (hk g)) (fun _ => xq_ki (xq_b3 f))
end YW
