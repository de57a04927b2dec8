/-! predictions -/
/-- packets that n sources send in a slot -/
def x_pk (nu le : Int → Int) (slot : Int) : Nat → Int
  | 0 => 0
  | n + 1 => x_pk nu le slot n + if le n = 0 then 0 else nu (n * 400 + Int.tmod slot (le n))
/-- how many of a come in -/
def x_fit (cap q a : Int) : Int := if (if cap - q < 0 then 0 else cap - q) < a then (if cap - q < 0 then 0 else cap - q) else a
def x_qn (cap rate q : Int) (f : Int → Int) : Nat → Int
  | 0 => q
  | n + 1 => if x_qn cap rate q f n + x_fit cap (x_qn cap rate q f n) (f n) - rate < 0 then 0 else x_qn cap rate q f n + x_fit cap (x_qn cap rate q f n) (f n) - rate
def x_ln (cap rate q : Int) (f : Int → Int) : Nat → Int
  | 0 => 0
  | n + 1 => x_ln cap rate q f n + (f n - x_fit cap (x_qn cap rate q f n) (f n))
theorem qn_in {cap rate q : Int} {f : Int → Int} (hc : 1 ≤ cap ∧ cap ≤ 40) (hr : 1 ≤ rate ∧ rate ≤ 9) (hq : 0 ≤ q ∧ q ≤ 40) : ∀ (n : Nat), (∀ k : Int, 0 ≤ k → k < n → 0 ≤ f k ∧ f k ≤ 1000) → (0 ≤ x_qn cap rate q f n ∧ x_qn cap rate q f n ≤ 40) ∧ 0 ≤ x_ln cap rate q f n ∧ x_ln cap rate q f n ≤ 1000 * n
  | 0, _ => by simp only [x_qn, x_ln]; omega
  | n + 1, h => by
    have ih := qn_in hc hr hq n (fun k a b => h k a (by omega))
    have g := h n (by omega) (by omega)
    simp only [x_qn, x_ln, x_fit]
    generalize x_qn cap rate q f n = z at *
    generalize x_ln cap rate q f n = l at *
    generalize f n = a at *
    omega
theorem pk_bd {nu le : Int → Int} {slot : Int} (h0 : 0 ≤ slot) (h1 : ∀ s : Int, 0 ≤ s → s ≤ 4 → 0 ≤ le s ∧ le s ≤ 400) (h2 : ∀ s i : Int, 0 ≤ s → s ≤ 4 → 0 ≤ i → i < le s → 0 ≤ nu (s * 400 + i) ∧ nu (s * 400 + i) ≤ 20) : ∀ n : Nat, n ≤ 4 → 0 ≤ x_pk nu le slot n ∧ x_pk nu le slot n ≤ 20 * n
  | 0, _ => by simp only [x_pk]; omega
  | n + 1, hn => by
    have ih := pk_bd h0 h1 h2 n (by omega)
    have a := h1 n (by omega) (by omega)
    rw [x_pk]
    split
    · omega
    · have t1 := Int.tmod_nonneg (le n) h0
      have t2 := Int.tmod_lt_of_pos slot (b := le n) (by omega)
      have b := h2 n _ (by omega) (by omega) t1 t2
      omega
def x_fo (M : xm_Mem) (n : Int) (f : Int → Int) : xm_Mem := fun c k => if c = 48 ∧ k = 1 then n else if c = 49 ∧ 0 ≤ k ∧ k < n then f k else M c k
theorem xo_c {M : xm_Mem} {c : Nat} {n : Int} {f : Int → Int} (h : c ≠ 48 ∧ c ≠ 49) : x_fo M n f c = M c := by
  funext j
  unfold x_fo
  rw [if_neg (by omega), if_neg (by omega)]
theorem xo_n {M : xm_Mem} {n : Int} {f : Int → Int} : x_fo M n f 48 1 = n := by
  unfold x_fo
  rw [if_pos ⟨rfl, rfl⟩]
theorem xo_f {M : xm_Mem} {n k : Int} {f : Int → Int} (h : 0 ≤ k ∧ k < n) : x_fo M n f 49 k = f k := by
  unfold x_fo
  rw [if_neg (by omega), if_pos ⟨rfl, h⟩]
theorem xo_0 {M : xm_Mem} {f : Int → Int} : xm_up M 48 1 0 = x_fo M 0 f := by
  funext c k
  by_cases hc : c = 48
  · subst hc
    by_cases hk : k = 1
    · subst hk; rw [xu_s, xo_n]
    · rw [xu_k hk]; unfold x_fo; rw [if_neg (by omega), if_neg (by omega)]
  · rw [xu_c hc]; unfold x_fo; rw [if_neg (by omega), if_neg (by omega)]
theorem xo_up {M : xm_Mem} {n v : Int} {f : Int → Int} (h : 0 ≤ n) (hv : v = f n) : xm_up (xm_up (x_fo M n f) 49 n v) 48 1 (n + 1) = x_fo M (n + 1) f := by
  funext c k
  by_cases hc : c = 48
  · subst hc
    by_cases hk : k = 1
    · subst hk; rw [xu_s, xo_n]
    · rw [xu_k hk, xu_c (by omega)]; unfold x_fo; rw [if_neg (by omega), if_neg (by omega), if_neg (by omega), if_neg (by omega)]
  · rw [xu_c hc]
    by_cases h9 : c = 49
    · subst h9
      by_cases hk : k = n
      · subst hk; rw [xu_s, xo_f (by omega), hv]
      · rw [xu_k hk]
        by_cases g : 0 ≤ k ∧ k < n
        · rw [xo_f g, xo_f (by omega)]
        · unfold x_fo; rw [if_neg (by omega), if_neg (by omega), if_neg (by omega), if_neg (by omega)]
    · rw [xu_c h9, xo_c ⟨hc, h9⟩, xo_c ⟨hc, h9⟩]
theorem R_fo {M : xm_Mem} {n : Int} {f : Int → Int} (h : R_all M) : R_all (x_fo M n f) := by
  refine R_keep h (fun c hc => ?_) (fun k hk => ?_)
  · unfold x_live at hc
    exact xo_c (by omega)
  · rw [xo_c (by omega)]
section PO
variable {d : Nat} {Q : xm_K} {M : xm_Mem}
theorem lo174_11 {x : Int} (hx : 0 ≤ x ∧ x ≤ 99999) (hl : ∀ s : Int, 0 ≤ s → s ≤ 4 → 0 ≤ M 13 s ∧ M 13 s ≤ 400) (h : Q [.inl (x_pk (M 12) (M 13) x 4)] M) : ∀ (n k : Nat) (acc : Int), k + n = 4 → acc = x_pk (M 12) (M 13) x k → wp174r11_4 (xm_call true (d + 2)) Q x acc k M
  | 0, k, acc, h0, h1 => by
    have e : k = 4 := by omega
    subst e
    rw [h1]
    refine rg174r11_4 ⟨⟨by omega, by omega⟩, fun _ => h, fun _ => by omega⟩
  | n + 1, k, acc, h0, h1 => by
    have a := hl k (by omega) (by omega)
    have ih := fun acc e => lo174_11 hx hl h n (k + 1) acc (by omega) e
    refine rg174r11_4 ⟨⟨by omega, by omega⟩, fun _ => by omega, fun _ => ?_⟩
    refine sp173r11 (by omega) hx a (fun g => xq_ki ?_) (fun g g1 g2 => xq_ki ?_)
    · exact ih _ (by rw [x_pk, if_pos g, h1])
    · exact ih _ (by rw [x_pk, if_neg (by omega), h1])
theorem sp174_11 {x : Int} (hx : 0 ≤ x ∧ x ≤ 99999) (hl : ∀ s : Int, 0 ≤ s → s ≤ 4 → 0 ≤ M 13 s ∧ M 13 s ≤ 400) (h : Q [.inl (x_pk (M 12) (M 13) x 4)] M) : xm_call true (d + 3) 174 [.inr (.inr 11), .inl x] M Q := by
  refine en174r11 (rg174r11_0 ?_)
  exact lo174_11 hx hl h 4 0 0 (by omega) rfl
theorem lo174_14 {x : Int} (hx : 0 ≤ x ∧ x ≤ 99999) (hl : ∀ s : Int, 0 ≤ s → s ≤ 4 → 0 ≤ M 16 s ∧ M 16 s ≤ 400) (h : Q [.inl (x_pk (M 15) (M 16) x 4)] M) : ∀ (n k : Nat) (acc : Int), k + n = 4 → acc = x_pk (M 15) (M 16) x k → wp174r14_4 (xm_call true (d + 2)) Q x acc k M
  | 0, k, acc, h0, h1 => by
    have e : k = 4 := by omega
    subst e
    rw [h1]
    refine rg174r14_4 ⟨⟨by omega, by omega⟩, fun _ => h, fun _ => by omega⟩
  | n + 1, k, acc, h0, h1 => by
    have a := hl k (by omega) (by omega)
    have ih := fun acc e => lo174_14 hx hl h n (k + 1) acc (by omega) e
    refine rg174r14_4 ⟨⟨by omega, by omega⟩, fun _ => by omega, fun _ => ?_⟩
    refine sp173r14 (by omega) hx a (fun g => xq_ki ?_) (fun g g1 g2 => xq_ki ?_)
    · exact ih _ (by rw [x_pk, if_pos g, h1])
    · exact ih _ (by rw [x_pk, if_neg (by omega), h1])
theorem sp174_14 {x : Int} (hx : 0 ≤ x ∧ x ≤ 99999) (hl : ∀ s : Int, 0 ≤ s → s ≤ 4 → 0 ≤ M 16 s ∧ M 16 s ≤ 400) (h : Q [.inl (x_pk (M 15) (M 16) x 4)] M) : xm_call true (d + 3) 174 [.inr (.inr 14), .inl x] M Q := by
  refine en174r14 (rg174r14_0 ?_)
  exact lo174_14 hx hl h 4 0 0 (by omega) rfl
theorem sp82b {x : Int} (h0 : 0 ≤ x ∧ x < 99999) (h : Q [.inl (if x < 2003 then M 28 x else 0)] M) : xm_call true (d + 3) 82 [.inr (.inr 23), .inl x] M Q := by
  by_cases hx : x < 2003
  · rw [if_pos hx] at h
    exact sp82 ⟨h0.1, hx⟩ h
  · rw [if_neg hx] at h
    refine en82r23 (rg82r23_0 ?_)
    refine en83r23 (rg83r23_0 ?_)
    refine sp27_28 (by omega) (by omega) (fun a n ha hn => ?_)
    have e1 : n = 0 := by omega
    subst e1
    exact xq_ki (xq_ki h)
theorem lo95 {cs : xm_C} {cap rate q : Int} {f : Int → Int} {m : Nat} (hm : M 48 1 = m ∧ m ≤ 64) (hf : ∀ k : Int, 0 ≤ k → k < m → M 49 k = f k ∧ 0 ≤ f k ∧ f k ≤ 1000) (hc : 1 ≤ cap ∧ cap ≤ 40) (hr : 1 ≤ rate ∧ rate ≤ 9) (hq : 0 ≤ q ∧ q ≤ 40) (h : Q [.inl (x_ln cap rate q f m)] M) : ∀ (n k : Nat) (z l : Int) (o : Option xm_V), k + n = m → z = x_qn cap rate q f k → l = x_ln cap rate q f k → wp95r48_9 cs Q q cap rate z l k o M
  | 0, k, z, l, o, h0, h1, h2 => by
    have e : k = m := by omega
    subst e
    rw [h2]
    refine rg95r48_9 ⟨⟨by omega, by omega⟩, fun _ => h, fun _ => by omega⟩
  | n + 1, k, z, l, o, h0, h1, h2 => by
    have ih := fun z l o e1 e2 => lo95 (cs := cs) hm hf hc hr hq h n (k + 1) z l o (by omega) e1 e2
    have b := qn_in (f := f) hc hr hq k (fun j a c => (hf j a (by omega)).2)
    have g := hf k (by omega) (by omega)
    rw [← h1, ← h2] at b
    refine rg95r48_9 ⟨⟨by omega, by omega⟩, fun _ => by omega, fun _ => ⟨⟨by omega, by omega⟩, fun _ => by omega, fun _ => ?_⟩⟩
    refine ⟨by omega, ⟨by omega, by omega⟩, ⟨by omega, by omega⟩, by omega, ⟨by omega, by omega⟩, ?_⟩
    refine ih _ _ _ ?_ ?_
    · rw [x_qn, ← h1, x_fit, ← g.1]
    · rw [x_ln, ← h1, ← h2, x_fit, ← g.1]
theorem sp95 {cap rate q : Int} {f : Int → Int} {m : Nat} (hm : M 48 1 = m ∧ m ≤ 64) (hf : ∀ k : Int, 0 ≤ k → k < m → M 49 k = f k ∧ 0 ≤ f k ∧ f k ≤ 1000) (hc : 1 ≤ cap ∧ cap ≤ 40) (hr : 1 ≤ rate ∧ rate ≤ 9) (hq : 0 ≤ q ∧ q ≤ 40) (h : Q [.inl (x_ln cap rate q f m)] M) : xm_call true (d + 1) 95 [.inr (.inr 48), .inl q, .inl cap, .inl rate] M Q := by
  refine en95r48 (rg95r48_0 ?_)
  exact lo95 hm hf hc hr hq h m 0 q 0 none (by omega) rfl rfl
theorem lo41_11 {p more : Int} {f : Int → Int} {m : Nat} (hm : m ≤ 64) (hp : 0 ≤ p ∧ p ≤ 2000) (hc : M 1 3 = 11) (hl : ∀ s : Int, 0 ≤ s → s ≤ 4 → 0 ≤ M 13 s ∧ M 13 s ≤ 400) (hf : ∀ k : Int, 0 ≤ k → k < m → f k = x_pk (M 12) (M 13) (p + k) 4 + more + (if p + k < 2003 then M 28 (p + k) else 0)) (h : Q [] (x_fo M m f)) : ∀ (n k : Nat), k + n = m → wp41r1_18 (xm_call true (d + 3)) Q m more p k (x_fo M k f)
  | 0, k, h0 => by
    have e : k = m := by omega
    subst e
    refine rg41r1_18 ⟨⟨by omega, by omega⟩, fun _ => h, fun _ => by omega⟩
  | n + 1, k, h0 => by
    have ih := lo41_11 hm hp hc hl hf h n (k + 1) (by omega)
    refine rg41r1_18 ⟨⟨by omega, by omega⟩, fun _ => by omega, fun _ => ?_⟩
    rw [xo_c (c := 1) (by omega), hc]
    refine ⟨by omega, fun _ => ?_, fun _ => ?_⟩
    all_goals first | (exfalso; omega) | skip
    refine sp174_11 (by omega) ?_ (xq_ki ?_)
    · rw [xo_c (by omega)]; exact hl
    refine sp82b (by omega) (xq_ki ?_)
    refine en94r48 (rg94r48_0 ?_)
    rw [xo_n, xo_c (by omega), xo_c (by omega), xo_c (by omega), xo_up (by omega) (hf k (by omega) (by omega)).symm]
    exact ⟨⟨by omega, by omega⟩, fun _ => ⟨by omega, xq_kv ih⟩, fun _ => by omega⟩
theorem sp41_11 {x p more : Int} {f : Int → Int} (hx : 1 ≤ x ∧ x ≤ 64) (hp : 0 ≤ p ∧ p ≤ 2000) (hc : M 1 3 = 11) (hpp : M 29 2 = p) (hl : ∀ s : Int, 0 ≤ s → s ≤ 4 → 0 ≤ M 13 s ∧ M 13 s ≤ 400) (hf : ∀ k : Int, 0 ≤ k → k < x → f k = x_pk (M 12) (M 13) (p + k) 4 + more + (if p + k < 2003 then M 28 (p + k) else 0)) (h : Q [] (x_fo M x f)) : xm_call true (d + 4) 41 [.inr (.inr 1), .inl x, .inl more] M Q := by
  refine en41r1 (rg41r1_0 ?_)
  refine en93r48 (rg93r48_0 (xq_kv ?_))
  refine sp140r29 (xq_ki ?_)
  rw [xo_0 (f := f), xo_c (by omega), hpp]
  have e : x = (x.toNat : Int) := by omega
  have := lo41_11 (d := d) (m := x.toNat) (more := more) (f := f) (Q := Q) (by omega) hp hc hl (fun k a b => hf k a (by omega)) (by rw [← e]; exact h) x.toNat 0 (by omega)
  rw [← e] at this
  exact this
theorem lo41_14 {p more : Int} {f : Int → Int} {m : Nat} (hm : m ≤ 64) (hp : 0 ≤ p ∧ p ≤ 2000) (hc : M 1 3 = 14) (hl : ∀ s : Int, 0 ≤ s → s ≤ 4 → 0 ≤ M 16 s ∧ M 16 s ≤ 400) (hf : ∀ k : Int, 0 ≤ k → k < m → f k = x_pk (M 15) (M 16) (p + k) 4 + more + (if p + k < 2003 then M 28 (p + k) else 0)) (h : Q [] (x_fo M m f)) : ∀ (n k : Nat), k + n = m → wp41r1_18 (xm_call true (d + 3)) Q m more p k (x_fo M k f)
  | 0, k, h0 => by
    have e : k = m := by omega
    subst e
    refine rg41r1_18 ⟨⟨by omega, by omega⟩, fun _ => h, fun _ => by omega⟩
  | n + 1, k, h0 => by
    have ih := lo41_14 hm hp hc hl hf h n (k + 1) (by omega)
    refine rg41r1_18 ⟨⟨by omega, by omega⟩, fun _ => by omega, fun _ => ?_⟩
    rw [xo_c (c := 1) (by omega), hc]
    refine ⟨by omega, fun _ => ?_, fun _ => ?_⟩
    all_goals first | (exfalso; omega) | skip
    refine sp174_14 (by omega) ?_ (xq_ki ?_)
    · rw [xo_c (by omega)]; exact hl
    refine sp82b (by omega) (xq_ki ?_)
    refine en94r48 (rg94r48_0 ?_)
    rw [xo_n, xo_c (by omega), xo_c (by omega), xo_c (by omega), xo_up (by omega) (hf k (by omega) (by omega)).symm]
    exact ⟨⟨by omega, by omega⟩, fun _ => ⟨by omega, xq_kv ih⟩, fun _ => by omega⟩
theorem sp41_14 {x p more : Int} {f : Int → Int} (hx : 1 ≤ x ∧ x ≤ 64) (hp : 0 ≤ p ∧ p ≤ 2000) (hc : M 1 3 = 14) (hpp : M 29 2 = p) (hl : ∀ s : Int, 0 ≤ s → s ≤ 4 → 0 ≤ M 16 s ∧ M 16 s ≤ 400) (hf : ∀ k : Int, 0 ≤ k → k < x → f k = x_pk (M 15) (M 16) (p + k) 4 + more + (if p + k < 2003 then M 28 (p + k) else 0)) (h : Q [] (x_fo M x f)) : xm_call true (d + 4) 41 [.inr (.inr 1), .inl x, .inl more] M Q := by
  refine en41r1 (rg41r1_0 ?_)
  refine en93r48 (rg93r48_0 (xq_kv ?_))
  refine sp140r29 (xq_ki ?_)
  rw [xo_0 (f := f), xo_c (by omega), hpp]
  have e : x = (x.toNat : Int) := by omega
  have := lo41_14 (d := d) (m := x.toNat) (more := more) (f := f) (Q := Q) (by omega) hp hc hl (fun k a b => hf k a (by omega)) (by rw [← e]; exact h) x.toNat 0 (by omega)
  rw [← e] at this
  exact this
/-- packets that the reference's sources send in a slot -/
def x_pR (ro rl : Int → Int) (slot : Int) : Nat → Int
  | 0 => 0
  | n + 1 => x_pR ro rl slot n + ro (400 * n + Int.tmod slot (rl n))
theorem lo272_64 {cs : xm_C} {m more cap z l k slot base a : Int} (hc : 1 ≤ cap ∧ cap ≤ 40) (hr : 1 ≤ M 50 1 ∧ M 50 1 ≤ 9) (hz : 0 ≤ z ∧ z ≤ 40) (ha : 0 ≤ a ∧ a ≤ 1000) (hn : 0 ≤ M 50 32 ∧ M 50 32 ≤ 20) (hs : 0 ≤ slot ∧ slot ≤ 9999) (he : ∀ j : Int, 0 ≤ j → j < M 50 32 → M 68 j ≤ slot ∧ 0 ≤ M 68 j ∧ 0 ≤ M 67 j ∧ M 68 j + M 67 j ≤ 9999) (hb : a = base + x_due (M 68) (M 67) slot (M 50 32).toNat)
    (h : ∀ (q' l' : Int) (o7 o8 o9 : Option xm_V), q' = (if z + x_fit cap z a - M 50 1 < 0 then 0 else z + x_fit cap z a - M 50 1) → l' = l + (a - x_fit cap z a) → wp272r50_12 cs Q m more cap q' l' (k + 1) o7 o8 o9 M) : ∀ (n j : Nat) (x8 : Int), (j : Int) + n = M 50 32 → x8 = base + x_due (M 68) (M 67) slot j → wp272r50_64 cs Q m more cap z l k slot x8 j M
  | 0, j, x8, h0, h1 => by
    have e : j = (M 50 32).toNat := by omega
    subst e
    have e2 : x8 = a := by omega
    subst e2
    refine rg272r50_64 ⟨⟨by omega, by omega⟩, fun _ => ?_, fun _ => by omega⟩
    unfold x_fit at h
    (repeat' (first | (with_reducible exact True.intro) | (with_reducible refine And.intro ?_ ?_) | (with_reducible intro) | (with_reducible refine xq_ki ?_) | (with_reducible refine xq_kl ?_) | (with_reducible refine xq_kv ?_) | (with_reducible refine xq_kq ?_)))
    all_goals try omega
    all_goals refine h _ _ _ _ _ ?_ ?_ <;> omega
  | n + 1, j, x8, h0, h1 => by
    have g := he j (by omega) (by omega)
    have ih := fun x8 e => lo272_64 (cs := cs) hc hr hz ha hn hs he hb h n (j + 1) x8 (by omega) e
    refine rg272r50_64 ⟨⟨by omega, by omega⟩, fun _ => by omega, fun _ => ⟨by omega, by omega, ⟨by omega, by omega⟩, fun e => ?_, fun e => ?_⟩⟩
    · exact ih _ (by rw [x_due, if_neg (by omega), h1]; omega)
    · exact ih _ (by rw [x_due, if_pos (by omega), h1]; omega)
theorem lo272_33 {m more cap z l k slot a : Int} (hc : 1 ≤ cap ∧ cap ≤ 40) (hr : 1 ≤ M 50 1 ∧ M 50 1 ≤ 9) (hz : 0 ≤ z ∧ z ≤ 40) (ha : 0 ≤ a ∧ a ≤ 1000) (hn : 0 ≤ M 50 32 ∧ M 50 32 ≤ 20) (hs : 0 ≤ slot ∧ slot ≤ 9999) (he : ∀ j : Int, 0 ≤ j → j < M 50 32 → M 68 j ≤ slot ∧ 0 ≤ M 68 j ∧ 0 ≤ M 67 j ∧ M 68 j + M 67 j ≤ 9999) (h5 : 0 ≤ M 50 5 ∧ M 50 5 ≤ 4) (hl : ∀ s : Int, 0 ≤ s → s < M 50 5 → 0 < M 52 s ∧ M 52 s ≤ 400)
    (hb : a = more + x_pR (M 51) (M 52) slot (M 50 5).toNat + x_due (M 68) (M 67) slot (M 50 32).toNat)
    (h : ∀ (q' l' : Int) (o7 o8 o9 : Option xm_V), q' = (if z + x_fit cap z a - M 50 1 < 0 then 0 else z + x_fit cap z a - M 50 1) → l' = l + (a - x_fit cap z a) → wp272r50_12 (xm_call true (d + 1)) Q m more cap q' l' (k + 1) o7 o8 o9 M) : ∀ (n j : Nat) (x8 : Int), (j : Int) + n = M 50 5 → x8 = more + x_pR (M 51) (M 52) slot j → wp272r50_33 (xm_call true (d + 1)) Q m more cap z l k slot x8 j M
  | 0, j, x8, h0, h1 => by
    have e : j = (M 50 5).toNat := by omega
    subst e
    refine rg272r50_33 ⟨⟨by omega, by omega⟩, fun _ => ?_, fun _ => by omega⟩
    refine lo272_64 hc hr hz ha hn hs he hb h (M 50 32).toNat 0 x8 (by omega) ?_
    rw [h1, x_due, Int.add_zero]
  | n + 1, j, x8, h0, h1 => by
    have g := hl j (by omega) (by omega)
    have ih := fun x8 e => lo272_33 hc hr hz ha hn hs he h5 hl hb h n (j + 1) x8 (by omega) e
    have t1 := Int.tmod_nonneg (M 52 j) hs.1
    have t2 := Int.tmod_lt_of_pos slot (b := M 52 j) (by omega)
    refine rg272r50_33 ⟨⟨by omega, by omega⟩, fun _ => by omega, fun _ => ?_⟩
    refine en211r50 (rg211r50_0 ?_)
    refine ⟨by omega, ⟨by omega, by omega, by omega⟩, by omega, xq_ki ?_⟩
    exact ih _ (by rw [x_pR, h1]; omega)
theorem lo272_12 {more cap : Int} {f : Int → Int} {m : Nat} (hm : m ≤ 64) (hc : 1 ≤ cap ∧ cap ≤ 40) (hr : 1 ≤ M 50 1 ∧ M 50 1 ≤ 9) (hq : 0 ≤ M 50 24 ∧ M 50 24 ≤ 40) (hp : 0 ≤ M 50 20 ∧ M 50 20 ≤ 2000) (hf0 : ∀ k : Int, 0 ≤ k → k < m → 0 ≤ f k ∧ f k ≤ 1000) (hn : 0 ≤ M 50 32 ∧ M 50 32 ≤ 20) (he : ∀ j : Int, 0 ≤ j → j < M 50 32 → M 68 j ≤ M 50 20 ∧ 0 ≤ M 68 j ∧ 0 ≤ M 67 j ∧ M 68 j + M 67 j ≤ 9999) (h5 : 0 ≤ M 50 5 ∧ M 50 5 ≤ 4) (hl : ∀ s : Int, 0 ≤ s → s < M 50 5 → 0 < M 52 s ∧ M 52 s ≤ 400)
    (hf : ∀ k : Int, 0 ≤ k → k < m → f k = more + x_pR (M 51) (M 52) (M 50 20 + k) (M 50 5).toNat + x_due (M 68) (M 67) (M 50 20 + k) (M 50 32).toNat)
    (h : Q [.inl (x_ln cap (M 50 1) (M 50 24) f m)] M) : ∀ (n k : Nat) (z l : Int) (o7 o8 o9 : Option xm_V), k + n = m → z = x_qn cap (M 50 1) (M 50 24) f k → l = x_ln cap (M 50 1) (M 50 24) f k → wp272r50_12 (xm_call true (d + 1)) Q m more cap z l k o7 o8 o9 M
  | 0, k, z, l, o7, o8, o9, h0, h1, h2 => by
    have e : k = m := by omega
    subst e
    rw [h2]
    exact rg272r50_12 ⟨⟨by omega, by omega⟩, fun _ => h, fun _ => by omega⟩
  | n + 1, k, z, l, o7, o8, o9, h0, h1, h2 => by
    have ih := fun z l o7 o8 o9 e1 e2 => lo272_12 hm hc hr hq hp hf0 hn he h5 hl hf h n (k + 1) z l o7 o8 o9 (by omega) e1 e2
    have b := qn_in (f := f) hc hr hq k (fun j a c => hf0 j a (by omega))
    rw [← h1, ← h2] at b
    refine rg272r50_12 ⟨⟨by omega, by omega⟩, fun _ => by omega, fun _ => ?_⟩
    refine lo272_33 (a := f k) hc hr b.1 (hf0 k (by omega) (by omega)) hn (by omega) (fun j a b => ?_) h5 hl (hf k (by omega) (by omega)) (fun q' l' o7 o8 o9 e1 e2 => ?_) (M 50 5).toNat 0 more (by omega) (by rw [x_pR, Int.add_zero])
    · have := he j a b
      omega
    · exact ih q' l' o7 o8 o9 (by rw [x_qn, ← h1]; exact e1) (by rw [x_ln, ← h1, ← h2]; exact e2)
theorem sp272 {more cap x : Int} {f : Int → Int} (hm : 0 ≤ x ∧ x ≤ 64) (hc : 1 ≤ cap ∧ cap ≤ 40) (hr : 1 ≤ M 50 1 ∧ M 50 1 ≤ 9) (hq : 0 ≤ M 50 24 ∧ M 50 24 ≤ 40) (hp : 0 ≤ M 50 20 ∧ M 50 20 ≤ 2000) (hf0 : ∀ k : Int, 0 ≤ k → k < x → 0 ≤ f k ∧ f k ≤ 1000) (hn : 0 ≤ M 50 32 ∧ M 50 32 ≤ 20) (he : ∀ j : Int, 0 ≤ j → j < M 50 32 → M 68 j ≤ M 50 20 ∧ 0 ≤ M 68 j ∧ 0 ≤ M 67 j ∧ M 68 j + M 67 j ≤ 9999) (h5 : 0 ≤ M 50 5 ∧ M 50 5 ≤ 4) (hl : ∀ s : Int, 0 ≤ s → s < M 50 5 → 0 < M 52 s ∧ M 52 s ≤ 400)
    (hf : ∀ k : Int, 0 ≤ k → k < x → f k = more + x_pR (M 51) (M 52) (M 50 20 + k) (M 50 5).toNat + x_due (M 68) (M 67) (M 50 20 + k) (M 50 32).toNat)
    (h : Q [.inl (x_ln cap (M 50 1) (M 50 24) f x.toNat)] M) : xm_call true (d + 2) 272 [.inr (.inr 50), .inl x, .inl more, .inl cap] M Q := by
  refine en272r50 (rg272r50_0 ?_)
  have e : x = (x.toNat : Int) := by omega
  have := lo272_12 (d := d) (m := x.toNat) (more := more) (cap := cap) (f := f) (Q := Q) (by omega) hc hr hq hp (fun k a b => hf0 k a (by omega)) hn he h5 hl (fun k a b => hf k a (by omega)) h x.toNat 0 (M 50 24) 0 none none none (by omega) rfl rfl
  rw [← e] at this
  exact this
end PO
