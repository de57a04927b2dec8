/-! the pair of path -/
theorem x4_hi {M : xm_Mem} {c : Nat} (h : 50 ≤ c) : x_4 M c = M c := by
  unfold x_4
  rw [xf_c (by omega), xf_c (by omega), xf_c (by omega), xu_c (by omega), xu_c (by omega), xu_c (by omega), xf_c (by omega), xf_c (by omega), xf_c (by omega), xu_c (by omega), xu_c (by omega), xu_c (by omega), xu_c (by omega), xu_c (by omega), xu_c (by omega), xu_c (by omega), xu_c (by omega), xu_c (by omega), xu_c (by omega), xu_c (by omega), xf_c (by omega), xf_c (by omega), xf_c (by omega)]
theorem cp_first {cs : xm_C} {Q : xm_K} {M : xm_Mem} {x1 : Int} (h : wp210r50_112 cs Q x1 0 (x_cp M 51 55 2000)) : wp210r50_85 cs Q x1 0 M := by
  have k := lo210_85 h 2000 0 (by omega) (by omega)
  rw [cp_0] at k
  exact k
theorem ln_first {cs : xm_C} {Q : xm_K} {M : xm_Mem} {x1 : Int} (hb : xm_in (M 50 5)) (h : cs 213 [.inr (.inr 50)] (x_lns M 5) (fun v1 M2 => xm_kv (Q [.inl x1] (xm_up M2 50 9 0)) v1)) : wp210r50_112 cs Q x1 0 M := by
  have k := lo210_112 hb h 5 0 (by omega) (by omega)
  rw [ln_0] at k
  exact k
def x_210 (M : xm_Mem) : xm_Mem := xm_up (x_213 (x_lns (x_cp (xm_up (xm_up (xm_up (xm_up (xm_up (xm_up M 50 0 (M 54 0)) 50 1 (M 54 1)) 50 2 (M 54 2)) 50 3 (M 54 3)) 50 4 (M 54 4)) 50 5 (M 50 14)) 51 55 2000) 5)) 50 9 0
theorem mx_hi {N B : xm_Mem} (h : ∀ c : Nat, 50 ≤ c → N c = B c) : N = x_mx N B := by
  funext c
  by_cases z : c < 50
  · rw [mx_l z]
  · rw [mx_r (by omega), h c (by omega)]
theorem pend_ok {d : Nat} {Q : xm_K} {N B : xm_Mem} {k : Int} (hf : B 50 11 = 0) (hb : xm_in (B 50 14)) (h : Q [.inl k] (x_210 (x_mx N B))) (h9 : ∀ R : xm_K, R [.inl k] (x_mx N B) → xm_call true (d + 1) 209 [.inr (.inr 50)] N R) : xm_call true (d + 2) 210 [.inr (.inr 50)] N Q := by
  refine en210r50 (rg210r50_0 (h9 _ (xq_ki ?_)))
  have hf' : x_mx N B 50 11 = 0 := by rw [mx_r (by omega)]; exact hf
  have hb' : xm_in (x_mx N B 50 14) := by rw [mx_r (by omega)]; exact hb
  refine ⟨by omega, fun _ => ⟨by omega, by omega, by omega, by omega, by omega, cp_first (ln_first ?_ (sp213 (xq_kv h)))⟩, fun q => absurd hf' q⟩
  rw [cp_c (by omega), xu_s]
  exact hb'
theorem pend_no {d : Nat} {Q : xm_K} {N B : xm_Mem} {k s n : Int} {t : Int → Int} (hT : y_txt B t n) (hf : B 50 11 = 1) (h10 : B 50 10 = s) (hx : y_nx t n s s) (h : Q [.inl (-10 - s)] (x_mx N (xm_up B 50 10 s))) (h9 : ∀ R : xm_K, R [.inl k] (x_mx N B) → xm_call true (d + 1) 209 [.inr (.inr 50)] N R) : xm_call true (d + 2) 210 [.inr (.inr 50)] N Q := by
  refine en210r50 (rg210r50_0 (h9 _ (xq_ki ?_)))
  have hf' : x_mx N B 50 11 = 1 := by rw [mx_r (by omega)]; exact hf
  refine ⟨by omega, fun q => by omega, fun _ => sp196 (mtx hT) (by rw [mx_r (by omega)]; exact h10) hx (xq_ki ?_)⟩
  rw [mx_up (by omega), mx_r (by omega), xu_s]
  exact h
theorem sum_z {f : Int → Int} {a : Int} : ∀ n : Nat, (∀ s : Int, a ≤ s → s < a + n → f s = 0) → x_sum f a n = 0
  | 0, _ => rfl
  | n + 1, h => by
    simp only [x_sum]
    rw [sum_z n (fun s q1 q2 => h s q1 (by omega)), h (a + n) (by omega) (by omega)]
    rfl
theorem path_ok_14 {M A B : xm_Mem} {t : Int → Int} {n m : Int} {E : Int → Int} (hR : R_all M) (hA : ∀ q : Nat, q ≠ 4 → q ≠ 5 → q ≠ 6 → q ≠ 7 → q ≠ 8 → q ≠ 9 → q ≠ 10 → q ≠ 15 → q ≠ 16 → q ≠ 14 → A q = M q) (gB : x_gB M B) (hit : x_it 15 16 14 t n m E m A B) : R_all (x_210 (x_mx (x_4 (xm_up (xm_up (xm_up A 1 3 ((14 : Nat) : Int)) 1 4 ((11 : Nat) : Int)) 2 1 0)) B)) := by
  obtain ⟨c1, c2, c3, c4, c5, c6, c7, c8, c9⟩ := hR
  obtain ⟨hc, hTx, hf, hx, hp, htd⟩ := hit
  obtain ⟨p0, p1, p2, p3, p4, p5, p6, p7, p8, p9⟩ := hp
  unfold R_all
  refine ⟨?_, ?_, ?_, ?_, ?_, ?_, ?_, ?_, ?_⟩
  · simp only [x_210, x_213, x_4, xf_c, f3_c, ln_c, cp_c, mx_l, mx_r, Nat.reduceLT, Nat.reduceLeDiff, and_self, xu_c, xu_s, xu_k, ne_eq, Nat.reduceEqDiff, Int.reduceEq, not_false_eq_true]
    exact ⟨rfl, by omega, by omega, fun i q1 q2 => by omega⟩
  · unfold R_rt R_rtA
    simp only [x_210, x_213, x_4, xf_c, f3_c, ln_c, cp_c, mx_l, mx_r, Nat.reduceLT, Nat.reduceLeDiff, and_self, xu_c, xu_s, xu_k, ne_eq, Nat.reduceEqDiff, Int.reduceEq, not_false_eq_true]
    refine Or.inr ⟨rfl, rfl, p0, p1, p2, p3, p4, p5, fun s q1 q2 => ?_, fun s q1 q2 => ?_, fun s i q1 q2 q3 q4 => ?_, fun i q1 q2 => ?_⟩
    · rw [ln_s (by omega)]
      simp only [cp_c, mx_r, Nat.reduceLeDiff, xu_c, xu_s, xu_k, ne_eq, Nat.reduceEqDiff, Int.reduceEq, not_false_eq_true]
      by_cases z : s < B 50 14 ∨ s = 4
      · rw [if_pos z]
        rcases z with z | z
        · have := p6 s q1 (by omega); omega
        · rw [z]; exact p8
      · rw [if_neg z]
        have := p7 s (by omega) (by omega)
        omega
    · constructor
      · intro z
        have := p6 s q1 z; omega
      · intro z
        by_cases y : s < A 14 5
        · exact y
        · have := p7 s (by omega) q2; omega
    · have hs : 0 ≤ s ∧ s < A 14 5 ∨ s = 4 := by
        by_cases y : s < A 14 5
        · exact Or.inl ⟨q1, y⟩
        · by_cases z : s = 4
          · exact Or.inr z
          · have := p7 s (by omega) (by omega); omega
      have lb : A 16 s ≤ 400 := by
        rcases hs with q | q
        · exact (p6 s q.1 q.2).2.2
        · rw [q]; exact p8.2.2
      have g := p9 s i hs q3 q4
      rw [cp_s (by omega)]
      simp only [mx_r, Nat.reduceLeDiff, xu_c, xu_s, xu_k, ne_eq, Nat.reduceEqDiff, Int.reduceEq, not_false_eq_true]
      refine ⟨g.1, ?_⟩
      rw [g.1]
      have h1 := g.2.1
      have h2 := g.2.2
      omega
    · have g := p9 4 i (Or.inr rfl) q1 q2
      have e : A 15 (1600 + i) = B 55 (400 * 4 + i) := g.1
      rw [e]
      exact g.2.1 rfl
  · simp only [x_210, x_213, x_4, xf_c, f3_c, ln_c, cp_c, mx_l, mx_r, Nat.reduceLT, Nat.reduceLeDiff, and_self, xu_c, xu_s, xu_k, ne_eq, Nat.reduceEqDiff, Int.reduceEq, not_false_eq_true]
    refine ⟨rfl, by omega, by omega, fun s q1 q2 => by omega, fun s q1 q2 => ⟨?_, ?_⟩, rfl, rfl, fun k q1 q2 => ?_⟩
    · rw [xf_s (by omega)]
    · rw [xf_s (by omega)]
    · exact absurd q2 (by omega)
  · simp only [x_210, x_213, x_4, xf_c, f3_c, ln_c, cp_c, mx_l, mx_r, Nat.reduceLT, Nat.reduceLeDiff, and_self, xu_c, xu_s, xu_k, ne_eq, Nat.reduceEqDiff, Int.reduceEq, not_false_eq_true]
    refine ⟨rfl, by omega, by omega, fun k q1 q2 => by omega, fun s q1 q2 => by omega, fun s q1 q2 => ?_, fun s q1 q2 => ?_, fun a q1 q2 => ?_⟩
    · rw [xf_s (by omega)]; omega
    · rw [xf_s (by omega)]; rfl
    · rw [sum_z _ (fun s y1 y2 => xf_s (by omega))]
      omega
  · unfold R_ask
    simp only [x_210, x_213, x_4, xf_c, f3_c, ln_c, cp_c, mx_l, mx_r, Nat.reduceLT, Nat.reduceLeDiff, and_self, xu_c, xu_s, xu_k, ne_eq, Nat.reduceEqDiff, Int.reduceEq, not_false_eq_true]
    exact ⟨⟨True.intro, by omega, by omega⟩, fun k q1 q2 => absurd q2 (by omega), ⟨True.intro, by omega, by omega⟩, True.intro⟩
  · unfold R_lin
    simp only [x_210, x_213, x_4, xf_c, f3_c, ln_c, cp_c, mx_l, mx_r, Nat.reduceLT, Nat.reduceLeDiff, and_self, xu_c, xu_s, xu_k, ne_eq, Nat.reduceEqDiff, Int.reduceEq, not_false_eq_true]
    refine ⟨⟨True.intro, by omega, by omega, by omega⟩, ⟨by omega, by omega⟩, fun i q1 q2 => absurd q2 (by omega), fun s q1 q2 => ?_, True.intro, True.intro, by omega, by omega⟩
    rw [xf_s (by omega), xf_s (by omega), xf_s (by omega), f3_s (by omega) (by omega), f3_s (by omega) (by omega), f3_s (by omega) (by omega)]
    exact ⟨rfl, rfl, rfl, rfl⟩
  · unfold R_pat
    simp only [x_210, x_213, x_4, xf_c, f3_c, ln_c, cp_c, mx_l, mx_r, Nat.reduceLT, Nat.reduceLeDiff, and_self, xu_c, xu_s, xu_k, ne_eq, Nat.reduceEqDiff, Int.reduceEq, not_false_eq_true]
    refine ⟨fun k q1 q2 => ?_, fun k q1 q2 => ?_⟩
    · rw [xf_s (by omega), xf_s (by omega)]; omega
    · rw [xf_s (by omega), xf_s (by omega)]; omega
  · unfold R_tol
    simp only [x_210, x_213, x_4, xf_c, f3_c, ln_c, cp_c, mx_l, mx_r, Nat.reduceLT, Nat.reduceLeDiff, and_self, xu_c, xu_s, xu_k, ne_eq, Nat.reduceEqDiff, Int.reduceEq, not_false_eq_true]
    intro k q1 q2
    rw [xf_s (by omega), xf_s (by omega)]; omega
  · simp only [x_210, x_213, x_4, xf_c, f3_c, ln_c, cp_c, mx_l, mx_r, Nat.reduceLT, Nat.reduceLeDiff, and_self, xu_c, xu_s, xu_k, ne_eq, Nat.reduceEqDiff, Int.reduceEq, not_false_eq_true]
    rw [hA 38 (by omega) (by omega) (by omega) (by omega) (by omega) (by omega) (by omega) (by omega) (by omega) (by omega), hA 39 (by omega) (by omega) (by omega) (by omega) (by omega) (by omega) (by omega) (by omega) (by omega) (by omega), hA 40 (by omega) (by omega) (by omega) (by omega) (by omega) (by omega) (by omega) (by omega) (by omega) (by omega), gB.1 75 (by omega) (by omega) (by omega) (by omega) (by omega) (by omega), gB.1 76 (by omega) (by omega) (by omega) (by omega) (by omega) (by omega), gB.2 48 (by omega) (by omega) (by omega) (by omega) (by omega)]
    exact c9
theorem path_ok_11 {M A B : xm_Mem} {t : Int → Int} {n m : Int} {E : Int → Int} (hR : R_all M) (hA : ∀ q : Nat, q ≠ 4 → q ≠ 5 → q ≠ 6 → q ≠ 7 → q ≠ 8 → q ≠ 9 → q ≠ 10 → q ≠ 12 → q ≠ 13 → q ≠ 11 → A q = M q) (gB : x_gB M B) (hit : x_it 12 13 11 t n m E m A B) : R_all (x_210 (x_mx (x_4 (xm_up (xm_up (xm_up A 1 3 ((11 : Nat) : Int)) 1 4 ((14 : Nat) : Int)) 2 1 0)) B)) := by
  obtain ⟨c1, c2, c3, c4, c5, c6, c7, c8, c9⟩ := hR
  obtain ⟨hc, hTx, hf, hx, hp, htd⟩ := hit
  obtain ⟨p0, p1, p2, p3, p4, p5, p6, p7, p8, p9⟩ := hp
  unfold R_all
  refine ⟨?_, ?_, ?_, ?_, ?_, ?_, ?_, ?_, ?_⟩
  · simp only [x_210, x_213, x_4, xf_c, f3_c, ln_c, cp_c, mx_l, mx_r, Nat.reduceLT, Nat.reduceLeDiff, and_self, xu_c, xu_s, xu_k, ne_eq, Nat.reduceEqDiff, Int.reduceEq, not_false_eq_true]
    exact ⟨rfl, by omega, by omega, fun i q1 q2 => by omega⟩
  · unfold R_rt R_rtA
    simp only [x_210, x_213, x_4, xf_c, f3_c, ln_c, cp_c, mx_l, mx_r, Nat.reduceLT, Nat.reduceLeDiff, and_self, xu_c, xu_s, xu_k, ne_eq, Nat.reduceEqDiff, Int.reduceEq, not_false_eq_true]
    refine Or.inl ⟨rfl, rfl, p0, p1, p2, p3, p4, p5, fun s q1 q2 => ?_, fun s q1 q2 => ?_, fun s i q1 q2 q3 q4 => ?_, fun i q1 q2 => ?_⟩
    · rw [ln_s (by omega)]
      simp only [cp_c, mx_r, Nat.reduceLeDiff, xu_c, xu_s, xu_k, ne_eq, Nat.reduceEqDiff, Int.reduceEq, not_false_eq_true]
      by_cases z : s < B 50 14 ∨ s = 4
      · rw [if_pos z]
        rcases z with z | z
        · have := p6 s q1 (by omega); omega
        · rw [z]; exact p8
      · rw [if_neg z]
        have := p7 s (by omega) (by omega)
        omega
    · constructor
      · intro z
        have := p6 s q1 z; omega
      · intro z
        by_cases y : s < A 11 5
        · exact y
        · have := p7 s (by omega) q2; omega
    · have hs : 0 ≤ s ∧ s < A 11 5 ∨ s = 4 := by
        by_cases y : s < A 11 5
        · exact Or.inl ⟨q1, y⟩
        · by_cases z : s = 4
          · exact Or.inr z
          · have := p7 s (by omega) (by omega); omega
      have lb : A 13 s ≤ 400 := by
        rcases hs with q | q
        · exact (p6 s q.1 q.2).2.2
        · rw [q]; exact p8.2.2
      have g := p9 s i hs q3 q4
      rw [cp_s (by omega)]
      simp only [mx_r, Nat.reduceLeDiff, xu_c, xu_s, xu_k, ne_eq, Nat.reduceEqDiff, Int.reduceEq, not_false_eq_true]
      refine ⟨g.1, ?_⟩
      rw [g.1]
      have h1 := g.2.1
      have h2 := g.2.2
      omega
    · have g := p9 4 i (Or.inr rfl) q1 q2
      have e : A 12 (1600 + i) = B 55 (400 * 4 + i) := g.1
      rw [e]
      exact g.2.1 rfl
  · simp only [x_210, x_213, x_4, xf_c, f3_c, ln_c, cp_c, mx_l, mx_r, Nat.reduceLT, Nat.reduceLeDiff, and_self, xu_c, xu_s, xu_k, ne_eq, Nat.reduceEqDiff, Int.reduceEq, not_false_eq_true]
    refine ⟨rfl, by omega, by omega, fun s q1 q2 => by omega, fun s q1 q2 => ⟨?_, ?_⟩, rfl, rfl, fun k q1 q2 => ?_⟩
    · rw [xf_s (by omega)]
    · rw [xf_s (by omega)]
    · exact absurd q2 (by omega)
  · simp only [x_210, x_213, x_4, xf_c, f3_c, ln_c, cp_c, mx_l, mx_r, Nat.reduceLT, Nat.reduceLeDiff, and_self, xu_c, xu_s, xu_k, ne_eq, Nat.reduceEqDiff, Int.reduceEq, not_false_eq_true]
    refine ⟨rfl, by omega, by omega, fun k q1 q2 => by omega, fun s q1 q2 => by omega, fun s q1 q2 => ?_, fun s q1 q2 => ?_, fun a q1 q2 => ?_⟩
    · rw [xf_s (by omega)]; omega
    · rw [xf_s (by omega)]; rfl
    · rw [sum_z _ (fun s y1 y2 => xf_s (by omega))]
      omega
  · unfold R_ask
    simp only [x_210, x_213, x_4, xf_c, f3_c, ln_c, cp_c, mx_l, mx_r, Nat.reduceLT, Nat.reduceLeDiff, and_self, xu_c, xu_s, xu_k, ne_eq, Nat.reduceEqDiff, Int.reduceEq, not_false_eq_true]
    exact ⟨⟨True.intro, by omega, by omega⟩, fun k q1 q2 => absurd q2 (by omega), ⟨True.intro, by omega, by omega⟩, True.intro⟩
  · unfold R_lin
    simp only [x_210, x_213, x_4, xf_c, f3_c, ln_c, cp_c, mx_l, mx_r, Nat.reduceLT, Nat.reduceLeDiff, and_self, xu_c, xu_s, xu_k, ne_eq, Nat.reduceEqDiff, Int.reduceEq, not_false_eq_true]
    refine ⟨⟨True.intro, by omega, by omega, by omega⟩, ⟨by omega, by omega⟩, fun i q1 q2 => absurd q2 (by omega), fun s q1 q2 => ?_, True.intro, True.intro, by omega, by omega⟩
    rw [xf_s (by omega), xf_s (by omega), xf_s (by omega), f3_s (by omega) (by omega), f3_s (by omega) (by omega), f3_s (by omega) (by omega)]
    exact ⟨rfl, rfl, rfl, rfl⟩
  · unfold R_pat
    simp only [x_210, x_213, x_4, xf_c, f3_c, ln_c, cp_c, mx_l, mx_r, Nat.reduceLT, Nat.reduceLeDiff, and_self, xu_c, xu_s, xu_k, ne_eq, Nat.reduceEqDiff, Int.reduceEq, not_false_eq_true]
    refine ⟨fun k q1 q2 => ?_, fun k q1 q2 => ?_⟩
    · rw [xf_s (by omega), xf_s (by omega)]; omega
    · rw [xf_s (by omega), xf_s (by omega)]; omega
  · unfold R_tol
    simp only [x_210, x_213, x_4, xf_c, f3_c, ln_c, cp_c, mx_l, mx_r, Nat.reduceLT, Nat.reduceLeDiff, and_self, xu_c, xu_s, xu_k, ne_eq, Nat.reduceEqDiff, Int.reduceEq, not_false_eq_true]
    intro k q1 q2
    rw [xf_s (by omega), xf_s (by omega)]; omega
  · simp only [x_210, x_213, x_4, xf_c, f3_c, ln_c, cp_c, mx_l, mx_r, Nat.reduceLT, Nat.reduceLeDiff, and_self, xu_c, xu_s, xu_k, ne_eq, Nat.reduceEqDiff, Int.reduceEq, not_false_eq_true]
    rw [hA 38 (by omega) (by omega) (by omega) (by omega) (by omega) (by omega) (by omega) (by omega) (by omega) (by omega), hA 39 (by omega) (by omega) (by omega) (by omega) (by omega) (by omega) (by omega) (by omega) (by omega) (by omega), hA 40 (by omega) (by omega) (by omega) (by omega) (by omega) (by omega) (by omega) (by omega) (by omega) (by omega), gB.1 75 (by omega) (by omega) (by omega) (by omega) (by omega) (by omega), gB.1 76 (by omega) (by omega) (by omega) (by omega) (by omega) (by omega), gB.2 48 (by omega) (by omega) (by omega) (by omega) (by omega)]
    exact c9
