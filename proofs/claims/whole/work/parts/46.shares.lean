/-! the shares -/
/-- M is as it was but for the cells of L -/
def x_but (L : List Nat) (M N : xm_Mem) : Prop := ∀ c : Nat, c ∉ L → N c = M c
theorem but_tr {L : List Nat} {M N P : xm_Mem} (h1 : x_but L M N) (h2 : x_but L N P) : x_but L M P := fun c hc => (h2 c hc).trans (h1 c hc)
theorem but_up {L : List Nat} {M N : xm_Mem} {c : Nat} {k v : Int} (h : x_but L M N) (hc : c ∈ L) : x_but L M (xm_up N c k v) := fun c' hc' => by
  have e : c' ≠ c := fun e => hc' (by rw [e]; exact hc)
  rw [xu_c e]
  exact h c' hc'
theorem but_mono {L L' : List Nat} {M N : xm_Mem} (h : x_but L M N) (hL : ∀ c, c ∈ L → c ∈ L') : x_but L' M N := fun c hc => h c (fun q => hc (hL c q))
theorem cw_but {L : List Nat} {M N : xm_Mem} {n : Nat} {w : Nat → Nat → Int} (h : x_cw M n w) (hb : x_but L M N) (h1 : 38 ∉ L) (h2 : 40 ∉ L) : x_cw N n w := by
  unfold x_cw
  rw [hb 38 h1, hb 40 h2]
  exact h
/-- the shares before they are made small -/
def x_D (n : Nat) (w : Nat → Nat → Int) (t : Nat) : Int := if t < n then x_dt (x_A w t) (n - 1) else 0
def x_gc (f : Nat → Int) : Nat → Nat
  | 0 => 0
  | k + 1 => Nat.gcd (f k).toNat (x_gc f k)
def x_sh (n : Nat) (w : Nat → Nat → Int) (t : Nat) : Int := Int.tdiv (x_D n w t) ((x_gc (x_D n w) n : Nat) : Int)
theorem gc_dvd {f : Nat → Int} : ∀ m k : Nat, k < m → x_gc f m ∣ (f k).toNat
  | 0, k, h => by omega
  | m + 1, k, h => by
    rw [x_gc]
    by_cases e : k = m
    · rw [e]; exact Nat.gcd_dvd_left _ _
    · exact Nat.dvd_trans (Nat.gcd_dvd_right _ _) (gc_dvd m k (by omega))
theorem gc_pos {f : Nat → Int} {k : Nat} (h : 0 < f k) : ∀ m : Nat, k < m → 0 < x_gc f m
  | 0, hk => by omega
  | m + 1, hk => by
    rw [x_gc]
    by_cases e : k = m
    · rw [← e]; exact Nat.gcd_pos_of_pos_left _ (by omega)
    · exact Nat.gcd_pos_of_pos_right _ (gc_pos h m (by omega))
theorem gc_end {f : Nat → Int} {n : Nat} (h : ∀ k : Nat, n ≤ k → f k = 0) : ∀ m : Nat, n ≤ m → x_gc f m = x_gc f n
  | 0, hm => by rw [show n = 0 by omega]
  | m + 1, hm => by
    by_cases e : n = m + 1
    · rw [e]
    · rw [x_gc, h m (by omega), gc_end h m (by omega)]
      exact Nat.gcd_zero_left _
theorem gc_bd {f : Nat → Int} (hb : ∀ k : Nat, f k < 9223372036854775808) : ∀ m : Nat, x_gc f m < 9223372036854775808
  | 0 => by simp [x_gc]
  | m + 1 => by
    rw [x_gc]
    have ih := gc_bd hb m
    have g := hb m
    rcases Nat.eq_zero_or_pos (f m).toNat with e | e
    · rw [e, Nat.gcd_zero_left]; exact ih
    · have := Nat.gcd_le_left (x_gc f m) e
      omega
/-- all that is known of them -/
theorem sh_in {n : Nat} {w : Nat → Nat → Int} (hn : n ≤ 5) (hs : x_Snd n w) (hw : ∀ a b : Nat, a < n → b < n → 0 ≤ w a b) : (∀ t : Nat, t < n → 0 < x_D n w t ∧ x_D n w t ≤ 20736) ∧ (∀ t : Nat, 0 ≤ x_D n w t ∧ x_D n w t ≤ 20736) ∧ (0 < x_gc (x_D n w) n ∧ x_gc (x_D n w) n ≤ 20736) ∧ (∀ t : Nat, t < n → 1 ≤ x_sh n w t ∧ x_sh n w t ≤ 20736) ∧ (∀ t : Nat, n ≤ t → x_sh n w t = 0) := by
  have a1 : ∀ t : Nat, t < n → 0 < x_D n w t ∧ x_D n w t ≤ 20736 := fun t ht => by
    have f := fin_all hn ht hs hw
    unfold x_D
    rw [if_pos ht]
    exact ⟨f.1 (n - 1) (Nat.le_refl _), f.2.2⟩
  have h1 := hs.1
  have g1 := gc_pos (a1 0 (by omega)).1 n (by omega)
  have d0 := gc_dvd (f := x_D n w) n 0 (by omega)
  have l0 := Nat.le_of_dvd (by have := a1 0 (by omega); omega) d0
  have b0 := a1 0 (by omega)
  refine ⟨a1, fun t => ?_, ⟨g1, by omega⟩, fun t ht => ?_, fun t ht => ?_⟩
  · by_cases e : t < n
    · have := a1 t e; omega
    · unfold x_D; rw [if_neg e]; omega
  · have b := a1 t ht
    have dv := gc_dvd (f := x_D n w) n t ht
    obtain ⟨q, hq⟩ := dv
    unfold x_sh
    have e : x_D n w t = ((x_gc (x_D n w) n : Nat) : Int) * (q : Int) := by
      rw [← Int.natCast_mul, ← hq]
      omega
    rw [e, Int.mul_tdiv_cancel_left _ (by omega)]
    have q1 : 1 ≤ q := by
      rcases Nat.eq_zero_or_pos q with z | z
      · rw [z, Nat.mul_zero] at hq; omega
      · exact z
    have q2 : q ≤ x_gc (x_D n w) n * q := Nat.le_mul_of_pos_left q g1
    omega
  · unfold x_sh x_D
    rw [if_neg (by omega), Int.zero_tdiv]
section CS
variable {d : Nat} {Q : xm_K} {M : xm_Mem} {n : Nat} {w : Nat → Nat → Int}
theorem sp57 {r c : Nat} (hr : r < 4) (hc : c < 4) (h : Q [.inr (.inl (M 44 ((r : Int) * 4 + c)))] M) : xm_call true (d + 1) 57 [.inr (.inr 38), .inl (r : Int), .inl (c : Int)] M Q := by
  refine en57r38 (rg57r38_0 ⟨by omega, fun _ => by omega, fun _ => ⟨by omega, fun _ => by omega, fun _ => ⟨by omega, h⟩⟩⟩)
theorem sp58 {r c : Nat} {x : Int} (hr : r < 4) (hc : c < 4) (h : Q [] (xm_up M 44 ((r : Int) * 4 + c) x)) : xm_call true (d + 1) 58 [.inr (.inr 38), .inl (r : Int), .inl (c : Int), .inr (.inl x)] M Q := by
  refine en58r38 (rg58r38_0 ⟨by omega, fun _ => by omega, fun _ => ⟨by omega, fun _ => by omega, fun _ => ⟨by omega, h⟩⟩⟩)
theorem u44 {N : xm_Mem} {r c r' c' : Nat} {x : Int} (hc : c < 4) (hc' : c' < 4) : xm_up N 44 ((r : Int) * 4 + c) x 44 ((r' : Int) * 4 + c') = if r' = r ∧ c' = c then x else N 44 ((r' : Int) * 4 + c') := by
  by_cases e : r' = r ∧ c' = c
  · rw [if_pos e, e.1, e.2, xu_s]
  · rw [if_neg e, xu_k (by omega)]
theorem lo56_54 {s p r : Nat} {A : Nat → Nat → Int} {x2 x5 : Int} (hs : s ≤ 4) (hp : p < r) (hr : r < s) (h5 : x5 = x_ba A p p p) (h2 : x2 = x_pv A p ∧ 0 < x2 ∧ x2 < 9223372036854775808) (hg : ∀ r c : Nat, p < r → r < s → p < c → c < s → xm_inL (x_ba A p r c * x_ba A p p p - x_ba A p r p * x_ba A p p c)) (h : ∀ N : xm_Mem, x_but [44] M N → (∀ r' c' : Nat, r' < s → c' < s → N 44 ((r' : Int) * 4 + c') = if p < r' ∧ r' < r + 1 ∧ p < c' then x_ba A (p + 1) r' c' else x_ba A p r' c') → ∀ o, wp56r38_42 (xm_call true (d + 1)) Q s x2 p x5 ((r : Int) + 1) o N) : ∀ (m k : Nat) (N : xm_Mem), k + m = s → p < k → x_but [44] M N → (∀ r' c' : Nat, r' < s → c' < s → N 44 ((r' : Int) * 4 + c') = if p < r' ∧ p < c' ∧ (r' < r ∨ r' = r ∧ c' < k) then x_ba A (p + 1) r' c' else x_ba A p r' c') → wp56r38_54 (xm_call true (d + 1)) Q s x2 p x5 r k N
  | 0, k, N, e0, hk, hb, hN => by
    have e : k = s := by omega
    subst e
    refine rg56r38_54 ⟨⟨by omega, by omega⟩, fun _ => h N hb (fun r' c' q1 q2 => ?_) _, fun _ => by omega⟩
    rw [hN r' c' q1 q2]
    by_cases c : p < r' ∧ r' < r + 1 ∧ p < c'
    · rw [if_pos c, if_pos (by omega)]
    · rw [if_neg c, if_neg (by omega)]
  | m + 1, k, N, e0, hk, hb, hN => by
    have ih := fun N => lo56_54 hs hp hr h5 h2 hg h m (k + 1) N (by omega) (by omega)
    have a1 := hN r k hr (by omega)
    have a2 := hN r p hr (by omega)
    have a3 := hN p k (by omega) (by omega)
    rw [if_neg (by omega)] at a1 a2 a3
    have g := hg r k hp hr hk (by omega)
    refine rg56r38_54 ⟨⟨by omega, by omega⟩, fun _ => by omega, fun _ => ?_⟩
    refine sp57 (by omega) (by omega) (xq_kl (sp57 (by omega) (by omega) (xq_kl (sp57 (by omega) (by omega) (xq_kl ?_)))))
    rw [a1, a2, a3, h5]
    refine ⟨⟨g, ⟨by omega, by omega⟩, by omega⟩, sp58 (by omega) (by omega) (xq_kv ?_)⟩
    rw [← h5]
    refine ih _ (but_up hb (by decide)) (fun r' c' q1 q2 => ?_)
    rw [u44 (by omega) (by omega)]
    by_cases e : r' = r ∧ c' = k
    · rw [if_pos e, if_pos (by omega), e.1, e.2, ba_step, if_pos ⟨hp, hk⟩, h2.1, h5]
    · rw [if_neg e, hN r' c' q1 q2]
      by_cases c : p < r' ∧ p < c' ∧ (r' < r ∨ r' = r ∧ c' < k)
      · rw [if_pos c, if_pos (by omega)]
      · rw [if_neg c, if_neg (by omega)]
theorem lo56_42 {s p : Nat} {A : Nat → Nat → Int} {x2 x5 : Int} (hs : s ≤ 4) (hp : p < s) (h5 : x5 = x_ba A p p p) (h2 : x2 = x_pv A p ∧ 0 < x2 ∧ x2 < 9223372036854775808) (hg : ∀ r c : Nat, p < r → r < s → p < c → c < s → xm_inL (x_ba A p r c * x_ba A p p p - x_ba A p r p * x_ba A p p c)) (h : ∀ N : xm_Mem, x_but [44] M N → (∀ r' c' : Nat, r' < s → c' < s → N 44 ((r' : Int) * 4 + c') = x_ba A (p + 1) r' c') → ∀ o5 o7 o8, wp56r38_5 (xm_call true (d + 1)) Q s x5 ((p : Int) + 1) o5 o7 o8 N) : ∀ (m k : Nat) (N : xm_Mem) (o : Option xm_V), k + m = s → p < k → x_but [44] M N → (∀ r' c' : Nat, r' < s → c' < s → N 44 ((r' : Int) * 4 + c') = if p < r' ∧ r' < k ∧ p < c' then x_ba A (p + 1) r' c' else x_ba A p r' c') → wp56r38_42 (xm_call true (d + 1)) Q s x2 p x5 k o N
  | 0, k, N, o, e0, hk, hb, hN => by
    have e : k = s := by omega
    subst e
    refine rg56r38_42 ⟨⟨by omega, by omega⟩, fun _ => h N hb (fun r' c' q1 q2 => ?_) _ _ _, fun _ => by omega⟩
    rw [hN r' c' q1 q2]
    by_cases c : p < r' ∧ r' < k ∧ p < c'
    · rw [if_pos c]
    · rw [if_neg c, ba_step, if_neg (by omega)]
  | m + 1, k, N, o, e0, hk, hb, hN => by
    have ih := fun N o => lo56_42 hs hp h5 h2 hg h m (k + 1) N o (by omega) (by omega)
    refine rg56r38_42 ⟨⟨by omega, by omega⟩, fun _ => by omega, fun _ => ?_⟩
    have := lo56_54 (d := d) (Q := Q) (M := M) (s := s) (p := p) (r := k) (A := A) (x2 := x2) (x5 := x5) hs hk (by omega) h5 h2 hg (fun N hb hN o => ih N o hb hN) (s - (p + 1)) (p + 1) N (by omega) (by omega) hb (fun r' c' q1 q2 => by
      rw [hN r' c' q1 q2]
      by_cases c : p < r' ∧ r' < k ∧ p < c'
      · rw [if_pos c, if_pos (by omega)]
      · rw [if_neg c, if_neg (by omega)])
    exact this
theorem lo56_5 {s : Nat} {A : Nat → Nat → Int} {D : Int} (hs : s ≤ 4) (hgd : x_gd s A D) (h : ∀ N : xm_Mem, x_but [44] M N → Q [.inr (.inl D)] N) : ∀ (m p : Nat) (N : xm_Mem) (o5 o7 o8 : Option xm_V), p + m = s → x_but [44] M N → (∀ r' c' : Nat, r' < s → c' < s → N 44 ((r' : Int) * 4 + c') = x_ba A p r' c') → wp56r38_5 (xm_call true (d + 1)) Q s (x_pv A p) p o5 o7 o8 N
  | 0, p, N, o5, o7, o8, e0, hb, hN => by
    have e : p = s := by omega
    subst e
    refine rg56r38_5 ⟨⟨by omega, by omega⟩, fun _ => ?_, fun _ => by omega⟩
    rw [hgd.2]
    exact h N hb
  | m + 1, p, N, o5, o7, o8, e0, hb, hN => by
    have ih := fun N o5 o7 o8 => lo56_5 hs hgd h m (p + 1) N o5 o7 o8 (by omega)
    obtain ⟨g1, g2, g3⟩ := hgd.1 p (by omega)
    have a := hN p p (by omega) (by omega)
    have l1 := lc_z (a := x_ba A p p p) (by omega)
    have l2 := lc_z (a := x_pv A p) (by omega)
    refine rg56r38_5 ⟨⟨by omega, by omega⟩, fun _ => by omega, fun _ => ?_⟩
    refine sp57 (by omega) (by omega) (xq_kl ?_)
    rw [a]
    refine ⟨⟨⟨by omega, by omega⟩, by omega⟩, l1.2, fun e => by have := l1.1.1 e; omega, fun _ => ⟨⟨⟨by omega, by omega⟩, by omega⟩, l2.2, fun _ => ?_, fun e => by have := l2.1.1 e; omega⟩⟩
    have := lo56_42 (d := d) (Q := Q) (M := M) (s := s) (p := p) (A := A) (x2 := x_pv A p) (x5 := x_ba A p p p) hs (by omega) rfl ⟨rfl, g2⟩ g3 (fun N hb hN o5 o7 o8 => ih N o5 o7 o8 hb hN) (s - (p + 1)) (p + 1) N o8 (by omega) (by omega) hb (fun r' c' q1 q2 => by
      rw [hN r' c' q1 q2, if_neg (by omega)])
    exact this
theorem sp56 {s : Nat} {A : Nat → Nat → Int} {D : Int} (hs : s ≤ 4) (hgd : x_gd s A D) (hN : ∀ r' c' : Nat, r' < s → c' < s → M 44 ((r' : Int) * 4 + c') = A r' c') (h : ∀ N : xm_Mem, x_but [44] M N → Q [.inr (.inl D)] N) : xm_call true (d + 2) 56 [.inr (.inr 38), .inl (s : Int)] M Q := by
  refine en56r38 (rg56r38_0 ?_)
  exact lo56_5 hs hgd h s 0 M none none none (by omega) (fun _ _ => rfl) hN
theorem lo55_17 {t r : Nat} {s : Nat} (hc : x_cw M n w) (hn : n = s + 1) (ht : t < n) (hr : r < s) (h : ∀ N : xm_Mem, x_but [44] M N → (∀ r' c' : Nat, r' < r + 1 → c' < s → N 44 ((r' : Int) * 4 + c') = x_A w t r' c') → ∀ o4 o5 o6, wp55r38_9 (xm_call true (d + 2)) Q t s ((r : Int) + 1) o4 o5 o6 N) : ∀ (m k : Nat) (N : xm_Mem) (o5 o6 : Option xm_V), k + m = s → x_but [44] M N → (∀ r' c' : Nat, r' < s → c' < s → (r' < r ∨ r' = r ∧ c' < k) → N 44 ((r' : Int) * 4 + c') = x_A w t r' c') → wp55r38_17 (xm_call true (d + 2)) Q t s r k o5 o6 N
  | 0, k, N, o5, o6, e0, hb, hN => by
    have e : k = s := by omega
    subst e
    have c2 := hc.2.1
    exact rg55r38_17 ⟨⟨by omega, by omega⟩, fun _ => h N hb (fun r' c' q1 q2 => hN r' c' (by omega) q2 (by omega)) _ _ _, fun _ => by omega⟩
  | m + 1, k, N, o5, o6, e0, hb, hN => by
    have ih := fun N o5 o6 => lo55_17 hc hn ht hr h m (k + 1) N o5 o6 (by omega)
    have c2 := hc.2.1
    have hcN := cw_but hc hb (by decide) (by decide)
    have bw := (hc.2.2 (x_oi t r) (x_oi t k) (by unfold x_oi; split <;> omega) (by unfold x_oi; split <;> omega)).2
    have wr : ∀ (v : Int) (o5 o6 : Option xm_V), v = x_A w t r k → xm_call true (d + 2) 58 [.inr (.inr 38), .inl (r : Int), .inl (k : Int), .inr (.inl v)] N (fun v4 M5 => xm_kv (wp55r38_17 (xm_call true (d + 2)) Q t s r ((k : Int) + 1) o5 o6 M5) v4) := by
      intro v o5 o6 hv
      refine sp58 (by omega) (by omega) (xq_kv (ih _ o5 o6 (but_up hb (by decide)) (fun r' c' q1 q2 q3 => ?_)))
      rw [u44 (by omega) (by omega)]
      by_cases e : r' = r ∧ c' = k
      · rw [if_pos e, hv, e.1, e.2]
      · rw [if_neg e]
        exact hN r' c' q1 q2 (by omega)
    have leaf : ∀ fa fb : Int, fa = ((x_oi t r : Nat) : Int) → fb = ((x_oi t k : Nat) : Int) → (xm_in fa ∧ xm_in fb) ∧ ((fa ≠ fb → xm_call true (d + 2) 49 [.inr (.inr 38), .inl fa, .inl fb] N (fun v1 M2 => xm_ki (fun r3 => (xm_in (0 - r3)) ∧ xm_call true (d + 2) 58 [.inr (.inr 38), .inl (r : Int), .inl (k : Int), .inr (.inl (0 - r3))] M2 (fun v4 M5 => xm_kv (wp55r38_17 (xm_call true (d + 2)) Q t s r ((k : Int) + 1) (some (.inl fa)) (some (.inl fb)) M5) v4)) v1)) ∧ (fa = fb → xm_call true (d + 2) 49 [.inr (.inr 38), .inl fa, .inl fb] N (fun v6 M7 => xm_ki (fun r8 => (xm_in (12 - r8)) ∧ xm_call true (d + 2) 58 [.inr (.inr 38), .inl (r : Int), .inl (k : Int), .inr (.inl (12 - r8))] M7 (fun v9 M10 => xm_kv (wp55r38_17 (xm_call true (d + 2)) Q t s r ((k : Int) + 1) (some (.inl fa)) (some (.inl fb)) M10) v9)) v6))) := by
      intro fa fb h1 h2
      have l1 : x_oi t r < n := by unfold x_oi; split <;> omega
      have l2 : x_oi t k < n := by unfold x_oi; split <;> omega
      rw [h1, h2]
      refine ⟨⟨by omega, by omega⟩, fun g => sp49w hcN l1 l2 (xq_ki ⟨by omega, wr _ _ _ ?_⟩), fun g => sp49w hcN l1 l2 (xq_ki ⟨by omega, wr _ _ _ ?_⟩)⟩
      · unfold x_A
        rw [if_neg (by omega)]
      · unfold x_A
        rw [if_pos (by omega)]
    have oa : t ≤ r → ((r : Int) + 1) = ((x_oi t r : Nat) : Int) := fun q => by unfold x_oi; rw [if_neg (by omega)]; omega
    have ob : r < t → (r : Int) = ((x_oi t r : Nat) : Int) := fun q => by unfold x_oi; rw [if_pos q]
    have oc : t ≤ k → ((k : Int) + 1) = ((x_oi t k : Nat) : Int) := fun q => by unfold x_oi; rw [if_neg (by omega)]; omega
    have od : k < t → (k : Int) = ((x_oi t k : Nat) : Int) := fun q => by unfold x_oi; rw [if_pos q]
    refine rg55r38_17 ⟨⟨by omega, by omega⟩, fun _ => by omega, fun _ => ⟨⟨by omega, by omega⟩, fun g => ⟨⟨by omega, by omega⟩, fun g2 => leaf _ _ (oa (by omega)) (oc (by omega)), fun g2 => leaf _ _ (oa (by omega)) (od (by omega))⟩, fun g => ⟨⟨by omega, by omega⟩, fun g2 => leaf _ _ (ob (by omega)) (oc (by omega)), fun g2 => leaf _ _ (ob (by omega)) (od (by omega))⟩⟩⟩
theorem lo55_9 {t s : Nat} {D : Int} (hc : x_cw M n w) (hn : n = s + 1) (ht : t < n) (hgd : x_gd s (x_A w t) D) (h : ∀ N : xm_Mem, x_but [44] M N → Q [.inr (.inl D)] N) : ∀ (m k : Nat) (N : xm_Mem) (o4 o5 o6 : Option xm_V), k + m = s → x_but [44] M N → (∀ r' c' : Nat, r' < k → c' < s → N 44 ((r' : Int) * 4 + c') = x_A w t r' c') → wp55r38_9 (xm_call true (d + 2)) Q t s k o4 o5 o6 N
  | 0, k, N, o4, o5, o6, e0, hb, hN => by
    have e : k = s := by omega
    subst e
    have c2 := hc.2.1
    exact rg55r38_9 ⟨⟨by omega, by omega⟩, fun _ => sp56 (by omega) hgd hN (fun N' hb' => xq_kl (h N' (but_tr hb hb'))), fun _ => by omega⟩
  | m + 1, k, N, o4, o5, o6, e0, hb, hN => by
    have ih := fun N o4 o5 o6 => lo55_9 hc hn ht hgd h m (k + 1) N o4 o5 o6 (by omega)
    have c2 := hc.2.1
    refine rg55r38_9 ⟨⟨by omega, by omega⟩, fun _ => by omega, fun _ => ?_⟩
    exact lo55_17 hc hn ht (by omega) (fun N hb hN o4 o5 o6 => ih N o4 o5 o6 hb hN) s 0 N o5 o6 (by omega) hb (fun r' c' q1 q2 q3 => hN r' c' (by omega) q2)
theorem sp55 {t : Nat} {D : Int} (hc : x_cw M n w) (ht : t < n) (hgd : x_gd (n - 1) (x_A w t) D) (h : ∀ N : xm_Mem, x_but [44] M N → Q [.inr (.inl D)] N) : xm_call true (d + 3) 55 [.inr (.inr 38), .inl (t : Int)] M Q := by
  have c1 := hc.1
  refine en55r38 (rg55r38_0 ?_)
  rw [show M 38 0 - 1 = ((n - 1 : Nat) : Int) by omega]
  exact lo55_9 hc (by omega) ht hgd h (n - 1) 0 M none none none (by omega) (fun _ _ => rfl) (fun r' c' q1 q2 => by omega)
theorem lo54_58 {G : Int} (hG : 0 < G ∧ G < 9223372036854775808) {D : Nat → Int} (hD : ∀ t : Nat, 0 ≤ D t ∧ D t ≤ 20736) (h : ∀ N : xm_Mem, x_but [41, 44] M N → (∀ t : Nat, t < 5 → N 41 t = Int.tdiv (D t) G) → Q [] N) : ∀ (m k : Nat) (N : xm_Mem), k + m = 5 → x_but [41, 44] M N → (∀ t : Nat, t < 5 → N 41 t = if t < k then Int.tdiv (D t) G else D t) → wp54r38_58 (xm_call true (d + 3)) Q G k N
  | 0, k, N, e0, hb, hN => by
    refine rg54r38_58 ⟨⟨by omega, by omega⟩, fun _ => h N hb (fun t ht => ?_), fun _ => by omega⟩
    rw [hN t ht, if_pos (by omega)]
  | m + 1, k, N, e0, hb, hN => by
    have ih := fun N => lo54_58 hG hD h m (k + 1) N (by omega)
    have a := hN k (by omega)
    rw [if_neg (by omega)] at a
    have b := hD k
    refine rg54r38_58 ⟨⟨by omega, by omega⟩, fun _ => by omega, fun _ => ⟨by omega, ⟨by rw [a]; exact ⟨by omega, by omega⟩, ⟨by omega, by omega⟩, by omega⟩, by omega, ?_⟩⟩
    refine ih _ (but_up hb (by decide)) (fun t ht => ?_)
    by_cases e : t = k
    · rw [e, xu_s, if_pos (by omega), a]
    · rw [xu_k (by omega), hN t ht]
      by_cases c : t < k
      · rw [if_pos c, if_pos (by omega)]
      · rw [if_neg c, if_neg (by omega)]
theorem lo54_4 (hc : x_cw M n w) (hs : x_Snd n w) (h : ∀ N : xm_Mem, x_but [41, 44] M N → (∀ t : Nat, t < 5 → N 41 t = x_sh n w t) → Q [] N) : ∀ (m k : Nat) (N : xm_Mem), k + m = 5 → x_but [41, 44] M N → (∀ t : Nat, t < k → N 41 t = x_D n w t) → wp54r38_4 (xm_call true (d + 3)) Q ((x_gc (x_D n w) k : Nat) : Int) k N
  | 0, k, N, e0, hb, hN => by
    have c2 := hc.2.1
    have hw : ∀ a b : Nat, a < n → b < n → 0 ≤ w a b := fun a b ha hb => (hc.2.2 a b ha hb).2.1
    obtain ⟨s1, s2, s3, s4, s5⟩ := sh_in c2 hs hw
    have e : k = 5 := by omega
    subst e
    have ge := gc_end (f := x_D n w) (n := n) (fun k hk => by unfold x_D; rw [if_neg (by omega)]) 5 c2
    rw [ge]
    have l := lc_z (a := ((x_gc (x_D n w) n : Nat) : Int)) (by omega)
    refine rg54r38_4 ⟨⟨by omega, by omega⟩, fun _ => ⟨⟨⟨by omega, by omega⟩, by omega⟩, l.2, fun _ => ?_, fun q => by have := l.1.1 q; omega⟩, fun _ => by omega⟩
    refine lo54_58 (by omega) s2 h 5 0 N (by omega) hb (fun t ht => ?_)
    rw [if_neg (by omega)]
    exact hN t ht
  | m + 1, k, N, e0, hb, hN => by
    have ih := fun N => lo54_4 hc hs h m (k + 1) N (by omega)
    have c1 := hc.1
    have c2 := hc.2.1
    have hw : ∀ a b : Nat, a < n → b < n → 0 ≤ w a b := fun a b ha hb => (hc.2.2 a b ha hb).2.1
    obtain ⟨s1, s2, s3, s4, s5⟩ := sh_in c2 hs hw
    have hcN := cw_but hc hb (by decide) (by decide)
    have gb := gc_bd (f := x_D n w) (fun k => by have := s2 k; omega) k
    have go : ∀ N' : xm_Mem, x_but [41, 44] M N' → (∀ t : Nat, t < k → N' 41 t = x_D n w t) → xm_call true (d + 3) 30 [.inr (.inl ((xm_up N' 41 k (x_D n w k)) 41 k)), .inr (.inl ((x_gc (x_D n w) k : Nat) : Int))] (xm_up N' 41 k (x_D n w k)) (fun v10 M11 => xm_kl (fun r12 => wp54r38_4 (xm_call true (d + 3)) Q r12 ((k : Int) + 1) M11) v10) := by
      intro N' hb' hN'
      have b := s2 k
      rw [xu_s]
      refine sp30 (by omega) (by omega) (xq_kl ?_)
      have := ih (xm_up N' 41 k (x_D n w k)) (but_up hb' (by decide)) (fun t ht => by
        by_cases e : t = k
        · rw [e, xu_s]
        · rw [xu_k (by omega)]; exact hN' t (by omega))
      rw [x_gc] at this
      rw [Int.toNat_natCast]
      exact this
    refine rg54r38_4 ⟨⟨by omega, by omega⟩, fun _ => by omega, fun _ => ?_⟩
    refine sp45 (by omega) (by rw [hcN.1]; omega) (fun g => xq_ki (xq_n1 ?_)) (fun g => xq_ki (xq_b3 ?_))
    · rw [hcN.1] at g
      have ht : k < n := by omega
      have f := fin_all c2 ht hs hw
      have ed : x_D n w k = x_dt (x_A w k) (n - 1) := by unfold x_D; rw [if_pos ht]
      have hb12 : ∀ a b : Nat, a < n → b < n → 0 ≤ w a b ∧ w a b ≤ 12 := fun a b ha hb => (hc.2.2 a b ha hb).2
      have gd := gd_of (s := n - 1) (A := x_A w k) (by omega) (fun r c q1 q2 => by
        have := hb12 (x_oi k r) (x_oi k c) (by unfold x_oi; split <;> omega) (by unfold x_oi; split <;> omega)
        unfold x_A
        split <;> omega) f.1
      refine sp55 hcN ht gd (fun N' hb' => xq_kl ⟨by omega, by omega, ?_⟩)
      rw [← ed]
      refine go N' (but_tr hb (but_mono hb' (by decide))) (fun t ht => ?_)
      rw [hb' 41 (by decide)]
      exact hN t ht
    · rw [hcN.1] at g
      have ed : x_D n w k = 0 := by unfold x_D; rw [if_neg (by omega)]
      have := go N hb hN
      rw [ed] at this
      exact ⟨by omega, by omega, this⟩
theorem sp54 (hc : x_cw M n w) (hs : x_Snd n w) (h : ∀ N : xm_Mem, x_but [41, 44] M N → (∀ t : Nat, t < 5 → N 41 t = x_sh n w t) → Q [] N) : xm_call true (d + 4) 54 [.inr (.inr 38)] M Q := by
  refine en54r38 (rg54r38_0 ?_)
  exact lo54_4 hc hs h 5 0 M (by omega) (fun _ _ => rfl) (fun t ht => by omega)
end CS
