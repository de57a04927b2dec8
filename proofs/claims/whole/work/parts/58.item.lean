/-! one item is read in lockstep -/
def y_igo (d : Nat) (B B' : xm_Mem) : Prop := ∀ (N : xm_Mem) (R : xm_K), R [] (x_mx N B') → xm_call true (d + 7) 208 [.inr (.inr 50)] (x_mx N B) R
/-- what the reference does behind the word k -/
def y_rest (d k : Nat) (M : xm_Mem) (R : xm_K) : Prop := match k with
  | 0 => xm_call true (d + 6) 199 [.inr (.inr 50), .inl 1, .inl 40] M (fun v37 M38 => xm_ki (fun r39 => (0 ≤ (0 : Int) ∧ (0 : Int) < 5) ∧ wp208r50_223 (xm_call true (d + 6)) R ((0 : Nat) : Int) (xm_up M38 54 0 r39)) v37)
  | 1 => xm_call true (d + 6) 199 [.inr (.inr 50), .inl 1, .inl 9] M (fun v34 M35 => xm_ki (fun r36 => (0 ≤ (1 : Int) ∧ (1 : Int) < 5) ∧ wp208r50_223 (xm_call true (d + 6)) R ((1 : Nat) : Int) (xm_up M35 54 1 r36)) v34)
  | 2 => xm_call true (d + 6) 199 [.inr (.inr 50), .inl 0, .inl 40] M (fun v31 M32 => xm_ki (fun r33 => (0 ≤ (2 : Int) ∧ (2 : Int) < 5) ∧ wp208r50_223 (xm_call true (d + 6)) R ((2 : Nat) : Int) (xm_up M32 54 2 r33)) v31)
  | 3 => xm_call true (d + 6) 199 [.inr (.inr 50), .inl 0, .inl 20] M (fun v25 M26 => xm_ki (fun r27 => (0 ≤ (3 : Int) ∧ (3 : Int) < 5) ∧ xm_call true (d + 6) 199 [.inr (.inr 50), .inl 1, .inl 16] (xm_up M26 54 3 r27) (fun v28 M29 => xm_ki (fun r30 => (0 ≤ (4 : Int) ∧ (4 : Int) < 5) ∧ wp208r50_223 (xm_call true (d + 6)) R ((3 : Nat) : Int) (xm_up M29 54 4 r30)) v28)) v25)
  | 4 => xm_call true (d + 6) 203 [.inr (.inr 50), .inl 4] M (fun v23 M24 => xm_kv (wp208r50_223 (xm_call true (d + 6)) R ((4 : Nat) : Int) M24) v23)
  | _ => xm_call true (d + 6) 203 [.inr (.inr 50), .inl (M 50 14)] M (fun v40 M41 => xm_kv (wp208r50_223 (xm_call true (d + 6)) R ((5 : Nat) : Int) (xm_up M41 50 14 ((M41 50 14) + 1))) v40)
/-- the words that are told, one more -/
def y_T2 (b k : Nat) : Nat := if k < 5 then b ||| 2 ^ k else b
section IM
variable {d : Nat} {Q : xm_K} {t : Int → Int} {n m : Int} {E : Int → Int}
theorem tb_lt {b k : Nat} (hb : b < 32) (hk : k < 6) : y_T2 b k < 32 := by
  unfold y_T2
  split
  · have : 2 ^ k ≤ 2 ^ 4 := Nat.pow_le_pow_right (by omega) (by omega)
    exact Nat.or_lt_two_pow (n := 5) hb (by omega)
  · exact hb
theorem tb_T2 {b k w : Nat} (hk : k < 5) : (y_T2 b k).testBit w = (b.testBit w || decide (k = w)) := by
  unfold y_T2
  rw [if_pos hk, Nat.testBit_or, Nat.testBit_two_pow]
/-- the way of the reference up to what stands behind the word -/
theorem igo_of {e k b : Nat} {A B : xm_Mem} {i : Int} (hc : x_cur A t n m E i) (hT : y_txt B t n) (h10 : B 50 10 = A 6 i) (hf : B 50 11 = 0) (hi : i < m) (hk : A 5 i = 1) (hk6 : k < 6) (hs : x_say t n (A 6 i) (E i) (xm_sby.getD k [])) (hb : B 50 13 = b ∧ b < 32) (hun : k < 5 → b.testBit k = false) (hsrc : k = 5 → B 50 14 ≠ 4 ∧ xm_in (B 50 14)) {B' : xm_Mem} (h : ∀ (N : xm_Mem) (R : xm_K), R [] (x_mx N B') → y_rest e k (x_mx N (xm_up (xm_up B 50 10 (E i)) 50 13 (y_T2 b k : Nat))) R) : y_igo e B B' := by
  intro N R hR
  have h := h N R hR
  have kt := cur_tok hc
  obtain ⟨k1, k2, k3, k4, k5, k6, k7⟩ := kt.2.2.2 hi
  have un := fun a b ha hb => say_one (t := t) (n := n) (s := A 6 i) (e := E i) (i := a) (j := b) ha hb
  have n0 := kt.1.1
  have hn := hc.1.2.1
  have len : E i - A 6 i = (if (k : Int) = 3 then 6 else if (k : Int) = 5 then 5 else 4) := by
    have g := hs.1
    have hk' : k = 0 ∨ k = 1 ∨ k = 2 ∨ k = 3 ∨ k = 4 ∨ k = 5 := by omega
    rcases hk' with rfl | rfl | rfl | rfl | rfl | rfl <;> exact g
  have en := k3.2.1
  refine en208r50 (rg208r50_0 ?_)
  refine sp196 (s := A 6 i) (mtx hT) (by rw [mx_r (by omega)]; exact h10) (nx_id hc.1 ⟨n0, by omega⟩ (fun _ => k2)) (xq_ki ?_)
  refine sp204 (e := E i) (ytx_up (mtx hT) ⟨by omega, fun _ => by omega⟩) xu_s ⟨n0, k1⟩ (by omega) k3 (fun w hw hsw => xq_ki ?_) (fun z => absurd hs (z k hk6))
  have ew := un w k hw hk6 hsw hs
  subst ew
  have rest : wp208r50_52 (xm_call true (e + 6)) R (w : Int) (xm_up (x_mx N B) 50 10 (A 6 i)) := by
    refine rg208r50_52 (sp207 (by omega) (xq_ki ?_))
    have f10 : xm_up (x_mx N B) 50 10 (A 6 i) 50 10 + (if (w : Int) = 3 then 6 else if (w : Int) = 5 then 5 else 4) = E i := by rw [xu_s]; omega
    have f13 : xm_up (x_mx N B) 50 10 (A 6 i) 50 13 = (b : Int) := by rw [xu_k (by omega), mx_r (by omega)]; exact hb.1
    have f14 : xm_up (x_mx N B) 50 10 (A 6 i) 50 14 = B 50 14 := by rw [xu_k (by omega), mx_r (by omega)]
    rw [f10, f13, f14, xu_u, mx_up (by omega)]
    by_cases w5 : w < 5
    · have tp := tb_pow ⟨w, w5⟩
      dsimp only at tp
      have pw : 2 ^ w ≤ 2 ^ 4 := Nat.pow_le_pow_right (by omega) (by omega)
      have p4 : (2 : Nat) ^ 4 = 16 := rfl
      have eor : xm_or (b : Int) (1 * 2 ^ ((w : Int)).toNat) = ((y_T2 b w : Nat) : Int) := by
        rw [tp, xo_nat (by omega) (by omega)]
        unfold y_T2
        rw [if_pos w5]
      rw [eor, mx_up (by omega), mx_up (by omega)]
      have w' : w = 0 ∨ w = 1 ∨ w = 2 ∨ w = 3 ∨ w = 4 := by omega
      refine ⟨⟨by omega, by omega⟩, fun _ => by omega, fun _ => ⟨by omega, by omega, ⟨fun q => ?_, fun q => ?_, fun q => ?_, fun q => ?_, fun q => ?_, trivial⟩, fun q => by omega⟩⟩
      · have : w = 0 := by omega
        subst this; exact h
      · have : w = 1 := by omega
        subst this; exact h
      · have : w = 2 := by omega
        subst this; exact h
      · have : w = 3 := by omega
        subst this; exact h
      · have : w = 4 := by omega
        subst this; exact h
    · have w5' : w = 5 := by omega
      subst w5'
      have eor : xm_or (b : Int) 0 = ((y_T2 b 5 : Nat) : Int) := by
        rw [xo_0r (by omega)]
        rfl
      rw [eor, mx_up (by omega)]
      refine ⟨⟨by omega, by omega⟩, fun _ => ⟨by omega, ⟨fun q => by omega, fun q => by omega, fun q => by omega, fun q => by omega, fun q => by omega, trivial⟩, fun _ => ?_⟩, fun _ => by omega⟩
      have h2 : xm_call true (e + 6) 203 [.inr (.inr 50), .inl ((x_mx N (xm_up (xm_up B 50 10 (E i)) 50 13 ((y_T2 b 5 : Nat) : Int))) 50 14)] (x_mx N (xm_up (xm_up B 50 10 (E i)) 50 13 ((y_T2 b 5 : Nat) : Int))) (fun v40 M41 => xm_kv (wp208r50_223 (xm_call true (e + 6)) R ((5 : Nat) : Int) (xm_up M41 50 14 ((M41 50 14) + 1))) v40) := h
      have f14b : x_mx N (xm_up (xm_up B 50 10 (E i)) 50 13 ((y_T2 b 5 : Nat) : Int)) 50 14 = B 50 14 := by rw [mx_r (by omega), xu_k (by omega), xu_k (by omega)]
      rw [f14b] at h2
      exact h2
  refine ⟨⟨by omega, by omega⟩, fun q => by omega, fun _ => ⟨⟨by omega, by omega⟩, fun q => ?_, fun q => ?_⟩⟩
  · have w5' : w = 5 := by omega
    have z := hsrc w5'
    refine ⟨⟨by omega, by omega⟩, fun q2 => by omega, fun _ => ⟨⟨?_, by omega⟩, fun _ => rest, fun q2 => ?_⟩⟩
    · rw [xu_k (by omega), mx_r (by omega)]; exact z.2
    · rw [xu_k (by omega), mx_r (by omega)] at q2; exact absurd q2 z.1
  · have w5 : w < 5 := by omega
    have ts := tb_shr ⟨b, hb.2⟩ ⟨w, w5⟩
    dsimp only at ts
    have f13 : xm_up (x_mx N B) 50 10 (A 6 i) 50 13 = (b : Int) := by rw [xu_k (by omega), mx_r (by omega)]; exact hb.1
    rw [f13]
    refine ⟨by omega, ⟨xa_1i _, by omega⟩, fun q2 => ?_, fun _ => ⟨⟨by omega, by omega⟩, fun _ => rest, fun q2 => by omega⟩⟩
    have := ts.mp q2
    rw [hun w5] at this
    exact absurd this Bool.false_ne_true
/-- the reference refuses the item at its first letter -/
theorem igo_bad {e : Nat} {A B : xm_Mem} {i : Int} (hc : x_cur A t n m E i) (hT : y_txt B t n) (h10 : B 50 10 = A 6 i) (hf : B 50 11 = 0) (hi : i < m) {b : Nat} (hb : B 50 13 = b ∧ b < 32) (hsrc : xm_in (B 50 14)) (h : A 5 i ≠ 1 ∨ (A 5 i = 1 ∧ ∀ k : Nat, k < 6 → x_say t n (A 6 i) (E i) (xm_sby.getD k []) → k < 5 ∧ b.testBit k = true ∨ k = 5 ∧ B 50 14 = 4)) : y_igo e B (xm_up (xm_up B 50 10 (A 6 i)) 50 11 1) := by
  intro N R hR
  have kt := cur_tok hc
  obtain ⟨k1, k2, k3, k4, k5, k6, k7⟩ := kt.2.2.2 hi
  have n0 := kt.1.1
  rw [← mx_up (by omega), ← mx_up (by omega)] at hR
  refine en208r50 (rg208r50_0 ?_)
  refine sp196 (s := A 6 i) (mtx hT) (by rw [mx_r (by omega)]; exact h10) (nx_id hc.1 ⟨n0, by omega⟩ (fun _ => k2)) (xq_ki ?_)
  have bad : (xm_in (-9) ∧ xm_in (-9)) ∧ True := ⟨⟨⟨by omega, by omega⟩, ⟨by omega, by omega⟩⟩, trivial⟩
  rcases h with h | ⟨h, hall⟩
  · refine sp204n (s := A 6 i) (ytx_up (mtx hT) ⟨by omega, fun _ => by omega⟩) xu_s ⟨n0, by omega⟩ (fun _ => by omega) (xq_ki ?_)
    exact ⟨bad.1, fun _ => ⟨Or.inr rfl, hR⟩, fun q => absurd rfl q⟩
  · refine sp204 (e := E i) (ytx_up (mtx hT) ⟨by omega, fun _ => by omega⟩) xu_s ⟨n0, k1⟩ (by omega) k3 (fun w hw hsw => xq_ki ?_) (fun _ => xq_ki ⟨bad.1, fun _ => ⟨Or.inr rfl, hR⟩, fun q => absurd rfl q⟩)
    refine ⟨⟨by omega, by omega⟩, fun q => by omega, fun _ => ⟨⟨by omega, by omega⟩, fun q => ?_, fun q => ?_⟩⟩
    · rcases hall w hw hsw with z | z
      · omega
      · refine ⟨⟨by omega, by omega⟩, fun q2 => by omega, fun _ => ⟨⟨?_, by omega⟩, fun q2 => ?_, fun _ => ⟨Or.inr rfl, hR⟩⟩⟩
        · rw [xu_k (by omega), mx_r (by omega)]; exact hsrc
        · rw [xu_k (by omega), mx_r (by omega)] at q2; exact absurd z.2 q2
    · rcases hall w hw hsw with z | z
      · have ts := tb_shr ⟨b, hb.2⟩ ⟨w, z.1⟩
        dsimp only at ts
        have f13 : xm_up (x_mx N B) 50 10 (A 6 i) 50 13 = (b : Int) := by rw [xu_k (by omega), mx_r (by omega)]; exact hb.1
        rw [f13]
        exact ⟨by omega, ⟨xa_1i _, by omega⟩, fun _ => ⟨Or.inr rfl, hR⟩, fun q2 => absurd (ts.mpr z.2) q2⟩
      · omega
/-- the semicolon behind an item -/
theorem tail_1 {e k : Nat} {A B : xm_Mem} {j : Int} {N : xm_Mem} {R : xm_K} (hc : x_cur A t n m E j) (hT : y_txt B t n) (hx : y_nx t n (B 50 10) (A 6 j)) (hf : B 50 11 = 0) (h5 : A 5 j = 5) (hR : R [] (x_mx N (xm_up B 50 10 (E j)))) : wp208r50_223 (xm_call true (e + 6)) R (k : Int) (x_mx N B) := by
  refine rg208r50_223 (sstep (A := A) (j := j) hc (mtx hT) (by rw [mx_r (by omega)]; exact hx) (by rw [mx_r (by omega)]; exact hf) (fun _ _ => xq_kv ?_) (fun q => absurd h5 q))
  rw [mx_up (by omega)]; exact hR
theorem tail_2 {e k : Nat} {A B : xm_Mem} {j : Int} {N : xm_Mem} {R : xm_K} (hc : x_cur A t n m E j) (hT : y_txt B t n) (hx : y_nx t n (B 50 10) (A 6 j)) (hf : B 50 11 = 0) (h5 : A 5 j ≠ 5) (hR : R [] (x_mx N (xm_up (xm_up B 50 10 (A 6 j)) 50 11 1))) : wp208r50_223 (xm_call true (e + 6)) R (k : Int) (x_mx N B) := by
  refine rg208r50_223 (sstep (A := A) (j := j) hc (mtx hT) (by rw [mx_r (by omega)]; exact hx) (by rw [mx_r (by omega)]; exact hf) (fun q _ => absurd q h5) (fun _ => xq_kv ?_))
  rw [mx_up (by omega), mx_up (by omega)]; exact hR
theorem tail_3 {e k : Nat} {B : xm_Mem} {N : xm_Mem} {R : xm_K} (hf : B 50 11 = 1) (hR : R [] (x_mx N B)) : wp208r50_223 (xm_call true (e + 6)) R (k : Int) (x_mx N B) :=
  rg208r50_223 (sp198f (by rw [mx_r (by omega)]; exact hf) (xq_kv hR))
end IM
