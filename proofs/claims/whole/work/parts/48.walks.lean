/-! walks -/
def x_W (n : Nat) (w : Nat → Nat → Int) (a b : Nat) : Int := if a < n ∧ b < n then w a b else 0
def x_b0 (L : Nat → Int) (bit : Int) (S : Nat → Int) (t : Nat) : Int := if L t = bit then S t else 0
def x_mv (n : Nat) (w : Nat → Nat → Int) (L : Nat → Int) (bit : Int) (f : Nat → Int) (t : Nat) : Int := if L t = bit then x_s (fun a => f a * x_W n w a t) 5 else 0
theorem x_s_congr {f g : Nat → Int} : ∀ n : Nat, (∀ j : Nat, j < n → f j = g j) → x_s f n = x_s g n
  | 0, _ => rfl
  | n + 1, h => by rw [x_s, x_s, x_s_congr n (fun j hj => h j (by omega)), h n (by omega)]
theorem x_s_0 {f : Nat → Int} : ∀ n : Nat, (∀ j : Nat, j < n → f j = 0) → x_s f n = 0
  | 0, _ => rfl
  | n + 1, h => by rw [x_s, x_s_0 n (fun j hj => h j (by omega)), h n (by omega)]; rfl
theorem x_s_add (f g : Nat → Int) : ∀ n : Nat, x_s (fun a => f a + g a) n = x_s f n + x_s g n
  | 0 => rfl
  | n + 1 => by rw [x_s, x_s_add f g n, x_s, x_s]; omega
theorem x_s_mul (f : Nat → Int) (c : Int) : ∀ n : Nat, x_s f n * c = x_s (fun a => f a * c) n
  | 0 => Int.zero_mul c
  | n + 1 => by rw [x_s, Int.add_mul, x_s_mul f c n, x_s]
theorem x_s_swap (g : Nat → Nat → Int) (m : Nat) : ∀ n : Nat, x_s (fun a => x_s (fun b => g a b) m) n = x_s (fun b => x_s (fun a => g a b) n) m
  | 0 => by rw [x_s]; exact (x_s_0 m (fun _ _ => rfl)).symm
  | n + 1 => by
    rw [x_s, x_s_swap g m n, ← x_s_add]
    rfl
theorem x_s_ext {f : Nat → Int} {n : Nat} : ∀ m : Nat, n ≤ m → (∀ k : Nat, n ≤ k → k < m → f k = 0) → x_s f m = x_s f n
  | 0, h, _ => by rw [show n = 0 by omega]
  | m + 1, h, h0 => by
    by_cases e : n = m + 1
    · rw [e]
    · rw [x_s, h0 m (by omega) (by omega), x_s_ext m (by omega) (fun k a b => h0 k a (by omega))]
      omega
theorem x_s_le {f g : Nat → Int} : ∀ n : Nat, (∀ j : Nat, j < n → f j ≤ g j) → x_s f n ≤ x_s g n
  | 0, _ => Int.le_refl _
  | n + 1, h => by
    have ih := x_s_le n (fun j hj => h j (by omega))
    have g := h n (by omega)
    rw [x_s, x_s]
    omega
section WK
variable {d : Nat} {Q : xm_K} {M : xm_Mem} {n : Nat} {w : Nat → Nat → Int} {L : Nat → Int}
def x_Lc (M : xm_Mem) (L : Nat → Int) : Prop := ∀ t : Nat, t < 5 → M 39 t = L t ∧ (L t = 0 ∨ L t = 1)
theorem lo61_41 {cs : xm_C} {f : Nat → Int} (hf : ∀ t : Nat, t < 5 → M 41 t = f t) (h : Q [.inr (.inl (x_s f 5))] M) : ∀ (m k : Nat), k + m = 5 → wp61r41_4 cs Q (x_s f k) k M
  | 0, k, e0 => by
    have e : k = 5 := by omega
    subst e
    exact rg61r41_4 ⟨⟨by omega, by omega⟩, fun _ => h, fun _ => by omega⟩
  | m + 1, k, e0 => by
    have ih := lo61_41 (cs := cs) hf h m (k + 1) (by omega)
    rw [x_s, ← hf k (by omega)] at ih
    exact rg61r41_4 ⟨⟨by omega, by omega⟩, fun _ => by omega, fun _ => ⟨by omega, ih⟩⟩
theorem lo61_42 {cs : xm_C} {f : Nat → Int} (hf : ∀ t : Nat, t < 5 → M 42 t = f t) (h : Q [.inr (.inl (x_s f 5))] M) : ∀ (m k : Nat), k + m = 5 → wp61r42_4 cs Q (x_s f k) k M
  | 0, k, e0 => by
    have e : k = 5 := by omega
    subst e
    exact rg61r42_4 ⟨⟨by omega, by omega⟩, fun _ => h, fun _ => by omega⟩
  | m + 1, k, e0 => by
    have ih := lo61_42 (cs := cs) hf h m (k + 1) (by omega)
    rw [x_s, ← hf k (by omega)] at ih
    exact rg61r42_4 ⟨⟨by omega, by omega⟩, fun _ => by omega, fun _ => ⟨by omega, ih⟩⟩
theorem sp60 {f : Nat → Int} (hf : ∀ t : Nat, t < 5 → M 41 t = f t) (h : Q [.inr (.inl (x_s f 5))] M) : xm_call true (d + 2) 60 [.inr (.inr 38)] M Q := by
  refine en60r38 (rg60r38_0 (en61r41 (rg61r41_0 ?_)))
  exact lo61_41 hf (xq_kl h) 5 0 (by omega)
theorem sp65 {f : Nat → Int} (hf : ∀ t : Nat, t < 5 → M 42 t = f t) (h : Q [.inr (.inl (x_s f 5))] M) : xm_call true (d + 2) 65 [.inr (.inr 38)] M Q := by
  refine en65r38 (rg65r38_0 (en61r42 (rg61r42_0 ?_)))
  exact lo61_42 hf (xq_kl h) 5 0 (by omega)
theorem Lc_but {B : List Nat} {M N : xm_Mem} (h : x_Lc M L) (hb : x_but B M N) (h1 : 39 ∉ B) : x_Lc N L := by
  unfold x_Lc
  rw [hb 39 h1]
  exact h
theorem lo62 {cs : xm_C} {bit : Int} {S : Nat → Int} (hL : x_Lc M L) (hbit : bit = 0 ∨ bit = 1) (hS : ∀ t : Nat, t < 5 → M 41 t = S t) (h : ∀ N : xm_Mem, x_but [42] M N → (∀ t : Nat, t < 5 → N 42 t = x_b0 L bit S t) → Q [] N) : ∀ (m k : Nat) (N : xm_Mem), k + m = 5 → x_but [42] M N → (∀ t : Nat, t < k → N 42 t = x_b0 L bit S t) → wp62r38_2 cs Q bit k N
  | 0, k, N, e0, hb, hN => by
    have e : k = 5 := by omega
    subst e
    exact rg62r38_2 ⟨⟨by omega, by omega⟩, fun _ => h N hb hN, fun _ => by omega⟩
  | m + 1, k, N, e0, hb, hN => by
    have ih := fun N => lo62 (cs := cs) hL hbit hS h m (k + 1) N (by omega)
    have l := (Lc_but hL hb (by decide)) k (by omega)
    have s := hS k (by omega)
    rw [← hb 41 (by decide)] at s
    have st : ∀ v : Int, v = x_b0 L bit S k → wp62r38_2 cs Q bit ((k : Int) + 1) (xm_up N 42 k v) := fun v hv => by
      refine ih _ (but_up hb (by decide)) (fun t ht => ?_)
      by_cases e : t = k
      · rw [e, xu_s, hv]
      · rw [xu_k (by omega)]; exact hN t (by omega)
    refine rg62r38_2 ⟨⟨by omega, by omega⟩, fun _ => by omega, fun _ => ⟨by omega, ⟨by omega, by omega⟩, fun g => ⟨by omega, st _ ?_⟩, fun g => ⟨by omega, by omega, st _ ?_⟩⟩⟩
    · unfold x_b0; rw [if_neg (by omega)]
    · unfold x_b0; rw [if_pos (by omega)]; exact s
theorem sp62 {bit : Int} {S : Nat → Int} (hL : x_Lc M L) (hbit : bit = 0 ∨ bit = 1) (hS : ∀ t : Nat, t < 5 → M 41 t = S t) (h : ∀ N : xm_Mem, x_but [42] M N → (∀ t : Nat, t < 5 → N 42 t = x_b0 L bit S t) → Q [] N) : xm_call true (d + 1) 62 [.inr (.inr 38), .inl bit] M Q := by
  refine en62r38 (rg62r38_0 ?_)
  exact lo62 hL hbit hS h 5 0 M (by omega) (fun _ _ => rfl) (fun t ht => by omega)
theorem lo64 {f : Nat → Int} {t : Nat} (hc : x_cw M n w) (ht : t < 5) (hf : ∀ t : Nat, t < 5 → M 42 t = f t) (h : Q [.inr (.inl (x_s (fun a => f a * x_W n w a t) 5))] M) : ∀ (m k : Nat), k + m = 5 → wp64r38_5 (xm_call true (d + 2)) Q t (x_s (fun a => f a * x_W n w a t) k) k M
  | 0, k, e0 => by
    have e : k = 5 := by omega
    subst e
    exact rg64r38_5 ⟨⟨by omega, by omega⟩, fun _ => h, fun _ => by omega⟩
  | m + 1, k, e0 => by
    have ih := lo64 hc ht hf h m (k + 1) (by omega)
    have c1 := hc.1
    have c2 := hc.2.1
    rw [x_s, ← hf k (by omega)] at ih
    refine rg64r38_5 ⟨⟨by omega, by omega⟩, fun _ => by omega, fun _ => ⟨by omega, ?_⟩⟩
    by_cases g : k < n ∧ t < n
    · have c3 := (hc.2.2 k t g.1 g.2).2
      refine sp49w hc g.1 g.2 (xq_ki ⟨by omega, ?_⟩)
      unfold x_W at ih
      rw [if_pos g] at ih
      exact ih
    · refine sp49 (by omega) (by omega) (by omega) (fun q => by omega) (fun _ => xq_ki ⟨by omega, ?_⟩)
      unfold x_W at ih
      rw [if_neg g] at ih
      exact ih
theorem lo63 {bit : Int} {f : Nat → Int} (hc : x_cw M n w) (hL : x_Lc M L) (hbit : bit = 0 ∨ bit = 1) (hf : ∀ t : Nat, t < 5 → M 42 t = f t) (h : ∀ N : xm_Mem, x_but [42, 43] M N → (∀ t : Nat, t < 5 → N 42 t = x_mv n w L bit f t) → Q [] N) : ∀ (m k : Nat) (N : xm_Mem), k + m = 5 → x_but [43] M N → (∀ t : Nat, t < k → N 43 t = x_mv n w L bit f t) → wp63r38_2 (xm_call true (d + 3)) Q bit k N
  | 0, k, N, e0, hb, hN => by
    have e : k = 5 := by omega
    subst e
    refine rg63r38_2 ⟨⟨by omega, by omega⟩, fun _ => ⟨by omega, h _ (fun c hc' => ?_) (fun t ht => ?_)⟩, fun _ => by omega⟩
    · unfold xm_cp
      simp only [List.mem_cons, List.not_mem_nil, or_false] at hc'
      funext k'
      rw [if_neg (by omega), hb c (by simp only [List.mem_cons, List.not_mem_nil, or_false]; omega)]
    · unfold xm_cp
      rw [if_pos rfl, if_pos (by omega), show (0 : Int) + ((t : Int) - 0) = t by omega]
      exact hN t ht
  | m + 1, k, N, e0, hb, hN => by
    have ih := fun N => lo63 hc hL hbit hf h m (k + 1) N (by omega)
    have l := (Lc_but hL hb (by decide)) k (by omega)
    have st : ∀ v : Int, v = x_mv n w L bit f k → wp63r38_2 (xm_call true (d + 3)) Q bit ((k : Int) + 1) (xm_up N 43 k v) := fun v hv => by
      refine ih _ (but_up hb (by decide)) (fun t ht => ?_)
      by_cases e : t = k
      · rw [e, xu_s, hv]
      · rw [xu_k (by omega)]; exact hN t (by omega)
    refine rg63r38_2 ⟨⟨by omega, by omega⟩, fun _ => by omega, fun _ => ⟨by omega, ⟨by omega, by omega⟩, fun g => ⟨by omega, st _ ?_⟩, fun g => ?_⟩⟩
    · unfold x_mv; rw [if_neg (by omega)]
    · refine en64r38 (rg64r38_0 ?_)
      refine lo64 (d := d) (f := f) (cw_but hc hb (by decide) (by decide)) (by omega) (fun t ht => by rw [hb 42 (by decide)]; exact hf t ht) (xq_kl ⟨by omega, st _ ?_⟩) 5 0 (by omega)
      unfold x_mv; rw [if_pos (by omega)]
theorem sp63 {bit : Int} {f : Nat → Int} (hc : x_cw M n w) (hL : x_Lc M L) (hbit : bit = 0 ∨ bit = 1) (hf : ∀ t : Nat, t < 5 → M 42 t = f t) (h : ∀ N : xm_Mem, x_but [42, 43] M N → (∀ t : Nat, t < 5 → N 42 t = x_mv n w L bit f t) → Q [] N) : xm_call true (d + 4) 63 [.inr (.inr 38), .inl bit] M Q := by
  refine en63r38 (rg63r38_0 ?_)
  exact lo63 hc hL hbit hf h 5 0 M (by omega) (fun _ _ => rfl) (fun t ht => by omega)
/-- the ways of a pair, of a triple -/
def x_X2 (n : Nat) (w : Nat → Nat → Int) (L S : Nat → Int) (b0 b1 : Int) : Int := x_s (x_mv n w L b1 (x_b0 L b0 S)) 5
def x_X3 (n : Nat) (w : Nat → Nat → Int) (L S : Nat → Int) (b0 b1 b2 : Int) : Int := x_s (x_mv n w L b2 (x_mv n w L b1 (x_b0 L b0 S))) 5
theorem sp66_2 {S : Nat → Int} {x : Int} (hc : x_cw M n w) (hL : x_Lc M L) (hS : ∀ t : Nat, t < 5 → M 41 t = S t) (hx : 0 ≤ x ∧ x < 4) (h : ∀ N : xm_Mem, x_but [42, 43] M N → Q [.inr (.inl (x_X2 n w L S (x / 2 % 2) (x % 2)))] N) : xm_call true (d + 5) 66 [.inr (.inr 38), .inl 2, .inl x] M Q := by
  have e1 : ((x + 2147483648) % 4294967296 - 2147483648) / 2 ^ ((2 - 1 : Int)).toNat = x / 2 := by
    rw [show (2 : Int) ^ ((2 - 1 : Int)).toNat = 2 from rfl]; omega
  have e0 : ((x + 2147483648) % 4294967296 - 2147483648) / 2 ^ ((2 - 2 : Int)).toNat = x := by
    rw [show (2 : Int) ^ ((2 - 2 : Int)).toNat = 1 from rfl]; omega
  refine en66r38 (rg66r38_0 ⟨by omega, ?_⟩)
  rw [e1, xa_1]
  refine sp62 (S := S) hL (by omega) hS (fun N hb hN => xq_kv ?_)
  refine rg66r38_15 ⟨by omega, fun _ => by omega, fun _ => ⟨by omega, ?_⟩⟩
  rw [e0, xa_1]
  refine sp63 (f := x_b0 L (x / 2 % 2) S) (cw_but hc hb (by decide) (by decide)) (Lc_but hL hb (by decide)) (by omega) hN (fun N2 hb2 hN2 => xq_kv ?_)
  refine rg66r38_15 ⟨by omega, fun _ => ?_, fun _ => by omega⟩
  exact sp65 hN2 (xq_kl (h N2 (but_tr (but_mono hb (by decide)) hb2)))
theorem sp66_3 {S : Nat → Int} {x : Int} (hc : x_cw M n w) (hL : x_Lc M L) (hS : ∀ t : Nat, t < 5 → M 41 t = S t) (hx : 0 ≤ x ∧ x < 8) (h : ∀ N : xm_Mem, x_but [42, 43] M N → Q [.inr (.inl (x_X3 n w L S (x / 4 % 2) (x / 2 % 2) (x % 2)))] N) : xm_call true (d + 5) 66 [.inr (.inr 38), .inl 3, .inl x] M Q := by
  have e2 : ((x + 2147483648) % 4294967296 - 2147483648) / 2 ^ ((3 - 1 : Int)).toNat = x / 4 := by
    rw [show (2 : Int) ^ ((3 - 1 : Int)).toNat = 4 from rfl]; omega
  have e1 : ((x + 2147483648) % 4294967296 - 2147483648) / 2 ^ ((3 - 2 : Int)).toNat = x / 2 := by
    rw [show (2 : Int) ^ ((3 - 2 : Int)).toNat = 2 from rfl]; omega
  have e0 : ((x + 2147483648) % 4294967296 - 2147483648) / 2 ^ ((3 - 2 + (-1) : Int)).toNat = x := by
    rw [show (2 : Int) ^ ((3 - 2 + (-1) : Int)).toNat = 1 from rfl]; omega
  refine en66r38 (rg66r38_0 ⟨by omega, ?_⟩)
  rw [e2, xa_1]
  refine sp62 (S := S) hL (by omega) hS (fun N hb hN => xq_kv ?_)
  refine rg66r38_15 ⟨by omega, fun _ => by omega, fun _ => ⟨by omega, ?_⟩⟩
  rw [e1, xa_1]
  refine sp63 (f := x_b0 L (x / 4 % 2) S) (cw_but hc hb (by decide) (by decide)) (Lc_but hL hb (by decide)) (by omega) hN (fun N2 hb2 hN2 => xq_kv ?_)
  have hb3 := but_tr (but_mono hb (L' := [42, 43]) (by decide)) hb2
  refine rg66r38_15 ⟨by omega, fun _ => by omega, fun _ => ⟨by omega, ?_⟩⟩
  rw [e0, xa_1]
  refine sp63 (f := x_mv n w L (x / 2 % 2) (x_b0 L (x / 4 % 2) S)) (cw_but hc hb3 (by decide) (by decide)) (Lc_but hL hb3 (by decide)) (by omega) hN2 (fun N3 hb4 hN3 => xq_kv ?_)
  refine rg66r38_15 ⟨by omega, fun _ => ?_, fun _ => by omega⟩
  exact sp65 hN3 (xq_kl (h N3 (but_tr hb3 hb4)))
/-! due patterns -/
theorem sp112_45 {A : xm_Mem} {x y v : Int} (hx : x = 2 ∧ 0 ≤ y ∧ y < 4 ∨ x = 3 ∧ 0 ≤ y ∧ y < 8) (h : Q [] (if x = 2 then xm_up A 46 y (A 46 y + v) else xm_up A 47 y (A 47 y + v))) : xm_call true (d + 1) 112 [.inr (.inr 45), .inl x, .inl y, .inr (.inl v)] A Q := by
  refine en112r45 (rg112r45_0 ?_)
  by_cases c : x = 2
  · rw [if_pos c] at h
    (repeat' (first | (with_reducible exact True.intro) | (with_reducible refine And.intro ?_ ?_) | (with_reducible intro) | (with_reducible refine xq_ki ?_) | (with_reducible refine xq_kl ?_) | (with_reducible refine xq_kv ?_) | (with_reducible refine xq_kq ?_)))
    all_goals first | omega | exact h
  · rw [if_neg c] at h
    (repeat' (first | (with_reducible exact True.intro) | (with_reducible refine And.intro ?_ ?_) | (with_reducible intro) | (with_reducible refine xq_ki ?_) | (with_reducible refine xq_kl ?_) | (with_reducible refine xq_kv ?_) | (with_reducible refine xq_kq ?_)))
    all_goals first | omega | exact h
def x_p2v (n : Nat) (w : Nat → Nat → Int) (L S : Nat → Int) (x : Int) : Int := x_X2 n w L S (x / 2 % 2) (x % 2)
def x_p3v (n : Nat) (w : Nat → Nat → Int) (L S : Nat → Int) (x : Int) : Int := x_X3 n w L S (x / 4 % 2) (x / 2 % 2) (x % 2)
theorem lo68_41 {S : Nat → Int} (hc : x_cw M n w) (hL : x_Lc M L) (hS : ∀ t : Nat, t < 5 → M 41 t = S t) (h : ∀ N : xm_Mem, x_but [42, 43, 46, 47] M N → (∀ k : Int, 0 ≤ k → k < 4 → N 46 k = 12 * x_p2v n w L S k) → (∀ k : Int, 0 ≤ k → k < 8 → N 47 k = x_p3v n w L S k) → Q [.inr (.inr 45)] N) : ∀ (m k : Nat) (N : xm_Mem), k + m = 8 → x_but [42, 43, 46, 47] M N → (∀ k : Int, 0 ≤ k → k < 4 → N 46 k = 12 * x_p2v n w L S k) → (∀ j : Int, 0 ≤ j → j < 8 → N 47 j = if j < k then x_p3v n w L S j else 0) → wp68r38_41 (xm_call true (d + 5)) Q k N
  | 0, k, N, e0, hb, h4, h8 => by
    refine rg68r38_41 ⟨⟨by omega, by omega⟩, fun _ => h N hb h4 (fun j a b => ?_), fun _ => by omega⟩
    rw [h8 j a b, if_pos (by omega)]
  | m + 1, k, N, e0, hb, h4, h8 => by
    have ih := fun N => lo68_41 hc hL hS h m (k + 1) N (by omega)
    have a := h8 k (by omega) (by omega)
    rw [if_neg (by omega)] at a
    refine rg68r38_41 ⟨⟨by omega, by omega⟩, fun _ => by omega, fun _ => ?_⟩
    refine sp66_3 (S := S) (cw_but hc hb (by decide) (by decide)) (Lc_but hL hb (by decide)) (fun t ht => by rw [hb 41 (by decide)]; exact hS t ht) (by omega) (fun N2 hb2 => xq_kl (sp112_45 (by omega) (xq_kv ?_)))
    rw [if_neg (by omega), hb2 47 (by decide), a, Int.zero_add]
    have hb3 := but_tr hb (but_mono hb2 (by decide))
    refine ih _ (but_up hb3 (by decide)) (fun j a b => ?_) (fun j a b => ?_)
    · rw [xu_c (by omega), hb2 46 (by decide)]
      exact h4 j a b
    · by_cases e : j = k
      · rw [e, xu_s, if_pos (by omega)]; rfl
      · rw [xu_k e, hb2 47 (by decide), h8 j a b]
        by_cases c : j < k
        · rw [if_pos c, if_pos (by omega)]
        · rw [if_neg c, if_neg (by omega)]
theorem lo68_9 {S : Nat → Int} (hc : x_cw M n w) (hL : x_Lc M L) (hS : ∀ t : Nat, t < 5 → M 41 t = S t) (h : ∀ N : xm_Mem, x_but [42, 43, 46, 47] M N → (∀ k : Int, 0 ≤ k → k < 4 → N 46 k = 12 * x_p2v n w L S k) → (∀ k : Int, 0 ≤ k → k < 8 → N 47 k = x_p3v n w L S k) → Q [.inr (.inr 45)] N) : ∀ (m k : Nat) (N : xm_Mem), k + m = 4 → x_but [42, 43, 46, 47] M N → (∀ j : Int, 0 ≤ j → j < 4 → N 46 j = if j < k then 12 * x_p2v n w L S j else 0) → (∀ j : Int, 0 ≤ j → j < 8 → N 47 j = 0) → wp68r38_9 (xm_call true (d + 5)) Q k N
  | 0, k, N, e0, hb, h4, h8 => by
    refine rg68r38_9 ⟨⟨by omega, by omega⟩, fun _ => ?_, fun _ => by omega⟩
    refine lo68_41 hc hL hS h 8 0 N (by omega) hb (fun j a b => ?_) (fun j a b => ?_)
    · rw [h4 j a b, if_pos (by omega)]
    · rw [h8 j a b, if_neg (by omega)]
  | m + 1, k, N, e0, hb, h4, h8 => by
    have ih := fun N => lo68_9 hc hL hS h m (k + 1) N (by omega)
    have a := h4 k (by omega) (by omega)
    rw [if_neg (by omega)] at a
    refine rg68r38_9 ⟨⟨by omega, by omega⟩, fun _ => by omega, fun _ => ?_⟩
    refine sp66_2 (S := S) (cw_but hc hb (by decide) (by decide)) (Lc_but hL hb (by decide)) (fun t ht => by rw [hb 41 (by decide)]; exact hS t ht) (by omega) (fun N2 hb2 => xq_kl (sp112_45 (by omega) (xq_kv ?_)))
    rw [if_pos rfl, hb2 46 (by decide), a, Int.zero_add]
    have hb3 := but_tr hb (but_mono hb2 (by decide))
    refine ih _ (but_up hb3 (by decide)) (fun j a b => ?_) (fun j a b => ?_)
    · by_cases e : j = k
      · rw [e, xu_s, if_pos (by omega)]; rfl
      · rw [xu_k e, hb2 46 (by decide), h4 j a b]
        by_cases c : j < k
        · rw [if_pos c, if_pos (by omega)]
        · rw [if_neg c, if_neg (by omega)]
    · rw [xu_c (by omega), hb2 47 (by decide)]
      exact h8 j a b
theorem sp68 {S : Nat → Int} (hc : x_cw M n w) (hL : x_Lc M L) (hS : ∀ t : Nat, t < 5 → M 41 t = S t) (h : ∀ N : xm_Mem, x_but [42, 43, 46, 47] M N → (∀ k : Int, 0 ≤ k → k < 4 → N 46 k = 12 * x_p2v n w L S k) → (∀ k : Int, 0 ≤ k → k < 8 → N 47 k = x_p3v n w L S k) → Q [.inr (.inr 45)] N) : xm_call true (d + 6) 68 [.inr (.inr 38)] M Q := by
  refine en68r38 (rg68r38_0 (en111r45 (rg111r45_0 ?_)))
  (repeat' (first | (with_reducible exact True.intro) | (with_reducible refine And.intro ?_ ?_) | (with_reducible intro) | (with_reducible refine xq_ki ?_) | (with_reducible refine xq_kl ?_) | (with_reducible refine xq_kv ?_) | (with_reducible refine xq_kq ?_) | (with_reducible apply sp279_46) | (with_reducible apply sp279_47)))
  refine lo68_9 hc hL hS h 4 0 _ (by omega) (fun c hc' => ?_) (fun j a b => ?_) (fun j a b => ?_)
  · simp only [List.mem_cons, List.not_mem_nil, or_false] at hc'
    rw [xf_c (by omega), xf_c (by omega)]
  · rw [xf_c (by omega), xf_s (by omega), if_neg (by omega)]
  · rw [xf_s (by omega)]
theorem sp67 {S : Nat → Int} (hc : x_cw M n w) (hL : x_Lc M L) (hS : ∀ t : Nat, t < 5 → M 41 t = S t) (h : ∀ N : xm_Mem, x_but [42, 43] M N → (∀ t : Nat, t < 5 → N 42 t = x_mv n w L 1 (x_b0 L 0 S) t) → Q [.inr (.inl (x_X2 n w L S 0 1))] N) : xm_call true (d + 5) 67 [.inr (.inr 38)] M Q := by
  refine en67r38 (rg67r38_0 ?_)
  refine sp62 (S := S) hL (Or.inl rfl) hS (fun N hb hN => xq_kv ?_)
  refine sp63 (f := x_b0 L 0 S) (cw_but hc hb (by decide) (by decide)) (Lc_but hL hb (by decide)) (Or.inr rfl) hN (fun N2 hb2 hN2 => xq_kv ?_)
  exact sp65 hN2 (xq_kl (h N2 (but_tr (but_mono hb (by decide)) hb2) hN2))
end WK
