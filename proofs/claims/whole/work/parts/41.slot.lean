/-! a slot -/
def y_z (p : Int) (B : xm_Mem) : xm_Mem := xm_up (xm_up (xm_up B 59 p 0) 60 p 0) 61 p 0
def S_all (p : Int) (A B : xm_Mem) : Prop := A 29 2 = p ∧ T_fix A B ∧ R_rec (A 29 2) (B 50 20) (A 30) (A 31) (B 61) (B 60) (A 29 3) (A 29 4) (A 32) (A 33) ∧ R_exp p (B 50 4) (B 50 3) (A 23 3) (B 50 32) (A 24) (A 25) (A 26) (B 67) (B 68) (B 69) (A 28) (B 59) ∧ R_ask (A 23) (B 50) (A 27) (B 70) ∧ R_lin p (B 50 0) (A 17) (A 18) (A 19) (A 20) (A 21) (A 22) (B 50) (B 62) (B 63) (B 64) (B 65) (B 66) ∧ R_pat p (A 35) (A 36) (B 71)
theorem S_of {M : xm_Mem} (h : R_all M) : S_all (M 29 2) M M := by
  obtain ⟨h1, h2, h3, h4, h5, h6, h7, h8, h9⟩ := h
  exact ⟨rfl, ⟨h1, h2, h8, h9⟩, h3, h4, h5, h6, h7⟩
theorem S_to {p : Int} {M : xm_Mem} (h : S_all p M M) : R_all M := by
  obtain ⟨rfl, ⟨h1, h2, h8, h9⟩, h3, h4, h5, h6, h7⟩ := h
  exact ⟨h1, h2, h3, h4, h5, h6, h7, h8, h9⟩
theorem S_keep {p : Int} {A B A' B' : xm_Mem} (h : S_all p A B) (hA : ∀ c : Nat, c < 50 → A' c = A c) (hB : ∀ c : Nat, 50 ≤ c → B' c = B c) : S_all p A' B' := by
  unfold S_all T_fix T_rt at *
  rw [hA 1 (by omega), hA 2 (by omega), hA 3 (by omega), hA 11 (by omega), hA 12 (by omega), hA 13 (by omega), hA 14 (by omega), hA 15 (by omega), hA 16 (by omega), hA 17 (by omega), hA 18 (by omega), hA 19 (by omega), hA 20 (by omega), hA 21 (by omega), hA 22 (by omega), hA 23 (by omega), hA 24 (by omega), hA 25 (by omega), hA 26 (by omega), hA 27 (by omega), hA 28 (by omega), hA 29 (by omega), hA 30 (by omega), hA 31 (by omega), hA 32 (by omega), hA 33 (by omega), hA 35 (by omega), hA 36 (by omega), hA 37 (by omega), hA 38 (by omega), hA 39 (by omega), hA 40 (by omega)]
  rw [hB 50 (by omega), hB 51 (by omega), hB 52 (by omega), hB 53 (by omega), hB 59 (by omega), hB 60 (by omega), hB 61 (by omega), hB 62 (by omega), hB 63 (by omega), hB 64 (by omega), hB 65 (by omega), hB 66 (by omega), hB 67 (by omega), hB 68 (by omega), hB 69 (by omega), hB 70 (by omega), hB 71 (by omega), hB 72 (by omega), hB 75 (by omega), hB 76 (by omega)]
  exact h
theorem T_of_S {p : Int} {A B : xm_Mem} (h : S_all p A B) (hp : p < 2000) : T_all p 0 0 0 A (y_z p B) := by
  obtain ⟨e, f, ⟨r1, r2, r3, r4, r5, r6, r7, r8⟩, ⟨x1, x2, x3, x4, x5, x6, x7, x8⟩, k, ⟨l1, l2, l3, l4, l5, l6⟩, pt⟩ := h
  rw [e] at r1 r2 r3 r4 r5 r6 r7 r8
  unfold y_z
  refine ⟨?_, ?_, ?_, ?_, ?_, ?_⟩
  · unfold T_fix T_rt R_rtA at *
    simp only [xu_c, xu_s, xu_k, ne_eq, Nat.reduceEqDiff, Int.reduceEq, not_false_eq_true]
    exact f
  · unfold R_ask at *
    simp only [xu_c, xu_s, xu_k, ne_eq, Nat.reduceEqDiff, Int.reduceEq, not_false_eq_true]
    exact k
  · unfold T_exp
    simp only [xu_c, xu_s, xu_k, ne_eq, Nat.reduceEqDiff, Int.reduceEq, not_false_eq_true]
    refine ⟨x1, by omega, fun j a b => ?_, fun s a b => ?_, trivial, x6, x7, x8⟩
    · have g := x4 j a b
      rw [if_neg (by omega)]
      simp only [x_p2]
      omega
    · rw [xu_k (by omega)]
      exact x5 s a b
  · unfold T_lin
    simp only [xu_c, xu_s, xu_k, ne_eq, Nat.reduceEqDiff, Int.reduceEq, not_false_eq_true, Int.sub_zero, Int.zero_add]
    refine ⟨l1, l2, fun i a b => ?_, l4, l5, l6⟩
    have g := l3 i a b
    omega
  · unfold T_rec
    simp only [xu_c, xu_s, xu_k, ne_eq, Nat.reduceEqDiff, Int.reduceEq, not_false_eq_true]
    refine ⟨by omega, fun s a b => ?_, ?_, ?_, fun s a b => r5 s (by omega) b, r6, r7, fun j a b => r8 j a (by omega)⟩
    · rw [xu_k (by omega), xu_k (by omega)]
      exact r4 s a b
    · have g := r5 p (by omega) hp
      omega
    · have g := r5 p (by omega) hp
      omega
  · simp only [xu_c, xu_s, xu_k, ne_eq, Nat.reduceEqDiff, Int.reduceEq, not_false_eq_true]
    exact pt
theorem T_lvA {p t u i : Int} {A B : xm_Mem} (h : T_all p t u i A B) {n : Nat} (hn : n ≤ A 17 6) : T_all p t u i (x_lvn p A n) (y_lv p B n) := by
  obtain ⟨h1, h2, h3, h4, h5, h6⟩ := h
  have hp := h5.1.2.2
  have z := T_lv h4 hp hn
  have kc : ∀ c : Nat, c ≠ 50 → c ≠ 62 → c ≠ 63 → c ≠ 66 → y_lv p B n c = B c := fun c a b e f => by
    unfold y_lv
    rw [yh_c (by omega), xu_c (by omega), yln_c (by omega)]
  have kk : ∀ k : Int, k ≠ 24 → k ≠ 30 → k ≠ 31 → y_lv p B n 50 k = B 50 k := fun k a b e => by
    unfold y_lv
    rw [yh_c (by omega), xu_k (by omega), yln_k (by omega)]
  have kx : ∀ c : Nat, c ≠ 17 → c ≠ 22 → x_lvn p A n c = A c := fun c a b => xln_c ⟨a, b⟩ n
  rw [← kk 0 (by omega) (by omega) (by omega)] at z
  generalize x_lvn p A n = X at *
  generalize y_lv p B n = Y at *
  refine ⟨?_, ?_, ?_, z, ?_, ?_⟩
  · unfold T_fix T_rt R_rtA at *
    rw [kx 1 (by omega) (by omega), kx 2 (by omega) (by omega), kx 3 (by omega) (by omega), kx 11 (by omega) (by omega), kx 12 (by omega) (by omega), kx 13 (by omega) (by omega), kx 14 (by omega) (by omega), kx 15 (by omega) (by omega), kx 16 (by omega) (by omega), kx 37 (by omega) (by omega), kx 38 (by omega) (by omega), kx 39 (by omega) (by omega), kx 40 (by omega) (by omega)]
    rw [kc 51 (by omega) (by omega) (by omega) (by omega), kc 52 (by omega) (by omega) (by omega) (by omega), kc 53 (by omega) (by omega) (by omega) (by omega), kc 72 (by omega) (by omega) (by omega) (by omega), kc 75 (by omega) (by omega) (by omega) (by omega), kc 76 (by omega) (by omega) (by omega) (by omega)]
    rw [kk 0 (by omega) (by omega) (by omega), kk 1 (by omega) (by omega) (by omega), kk 2 (by omega) (by omega) (by omega), kk 3 (by omega) (by omega) (by omega), kk 4 (by omega) (by omega) (by omega), kk 5 (by omega) (by omega) (by omega), kk 9 (by omega) (by omega) (by omega), kk 48 (by omega) (by omega) (by omega)]
    exact h1
  · unfold R_ask at *
    rw [kx 23 (by omega) (by omega), kx 27 (by omega) (by omega), kc 70 (by omega) (by omega) (by omega) (by omega), kk 36 (by omega) (by omega) (by omega), kk 37 (by omega) (by omega) (by omega), kk 38 (by omega) (by omega) (by omega), kk 39 (by omega) (by omega) (by omega), kk 41 (by omega) (by omega) (by omega), kk 42 (by omega) (by omega) (by omega)]
    exact h2
  · unfold T_exp at *
    rw [kx 23 (by omega) (by omega), kx 24 (by omega) (by omega), kx 25 (by omega) (by omega), kx 26 (by omega) (by omega), kx 28 (by omega) (by omega), kc 59 (by omega) (by omega) (by omega) (by omega), kc 67 (by omega) (by omega) (by omega) (by omega), kc 68 (by omega) (by omega) (by omega) (by omega), kc 69 (by omega) (by omega) (by omega) (by omega), kk 32 (by omega) (by omega) (by omega), kk 3 (by omega) (by omega) (by omega), kk 4 (by omega) (by omega) (by omega)]
    exact h3
  · unfold T_rec at *
    rw [kx 29 (by omega) (by omega), kx 30 (by omega) (by omega), kx 31 (by omega) (by omega), kx 32 (by omega) (by omega), kx 33 (by omega) (by omega), kc 60 (by omega) (by omega) (by omega) (by omega), kc 61 (by omega) (by omega) (by omega) (by omega), kk 20 (by omega) (by omega) (by omega)]
    exact h5
  · rw [kx 35 (by omega) (by omega), kx 36 (by omega) (by omega), kc 71 (by omega) (by omega) (by omega) (by omega)]
    exact h6
theorem xcm_c {p : Int} {c : Nat} (h : c ≠ 23 ∧ c ≠ 24 ∧ c ≠ 25 ∧ c ≠ 26 ∧ c ≠ 35 ∧ c ≠ 36) : ∀ (n : Nat) (A : xm_Mem), x_cmn p n A c = A c
  | 0, _ => rfl
  | n + 1, A => by
    rw [x_cmn, xcm_c h n]
    unfold x_cm1
    split
    · rw [xr_c (by omega), xu_c (by omega)]
      split <;> rw [xu_c (by omega)]
    · rfl
theorem ycm_c {p : Int} {c : Nat} (h : c ≠ 50 ∧ c ≠ 67 ∧ c ≠ 68 ∧ c ≠ 69 ∧ c ≠ 71) : ∀ (n : Nat) (B : xm_Mem), y_cmn p n B c = B c
  | 0, _ => rfl
  | n + 1, B => by
    rw [y_cmn, ycm_c h n]
    unfold y_cm1
    split
    · rw [xr_c (by omega), xu_c (by omega)]
      split <;> rw [xu_c (by omega)]
    · rfl
theorem ycm_k {p k : Int} (h : k ≠ 32) : ∀ (n : Nat) (B : xm_Mem), y_cmn p n B 50 k = B 50 k
  | 0, _ => rfl
  | n + 1, B => by
    rw [y_cmn, ycm_k h n]
    unfold y_cm1
    split
    · rw [xr_c (by omega), xu_k (by omega)]
      split <;> rw [xu_c (by omega)]
    · rfl
theorem xof_c {A : xm_Mem} {cap s p : Int} {c : Nat} (h : c ≠ 17 ∧ c ≠ 18 ∧ c ≠ 19 ∧ c ≠ 20 ∧ c ≠ 21 ∧ c ≠ 30) : ∀ n : Nat, x_ofn cap A s p n c = A c
  | 0 => rfl
  | n + 1 => by rw [x_ofn, xo1_c h, xof_c h n]
theorem xsr_c {A : xm_Mem} {cap p : Int} {N : Int → Int} {c : Nat} (h : c ≠ 17 ∧ c ≠ 18 ∧ c ≠ 19 ∧ c ≠ 20 ∧ c ≠ 21 ∧ c ≠ 30) : ∀ n : Nat, x_srs cap p N A n c = A c
  | 0 => rfl
  | n + 1 => by rw [x_srs, xof_c h, xsr_c h n]
theorem xpn_c {A : xm_Mem} {cap mark p : Int} {c : Nat} (h : c ≠ 17 ∧ c ≠ 18 ∧ c ≠ 19 ∧ c ≠ 20 ∧ c ≠ 21 ∧ c ≠ 30 ∧ c ≠ 26 ∧ c ≠ 31) : ∀ n : Nat, x_prn cap mark p A n c = A c
  | 0 => rfl
  | n + 1 => by
    rw [x_prn]
    unfold x_pr1
    split
    · rw [xu_c (by omega), xo1_c (by omega), xpn_c h n]
    · rw [xu_c (by omega), xu_c (by omega), xo1_c (by omega), xpn_c h n]
theorem ypn_c {B : xm_Mem} {p : Int} {c : Nat} (h : c ≠ 50 ∧ c ≠ 61 ∧ c ≠ 62 ∧ c ≠ 63 ∧ c ≠ 64 ∧ c ≠ 65 ∧ c ≠ 69 ∧ c ≠ 59 ∧ c ≠ 60) : ∀ n : Nat, y_prn p B n c = B c
  | 0 => rfl
  | n + 1 => by
    rw [y_prn]
    unfold y_pr1
    rw [xu_c (by omega), xu_c (by omega), xu_c (by omega), yo_c (by omega), ypn_c h n]
theorem ypn_k {B : xm_Mem} {p k : Int} (h : k ≠ 24) : ∀ n : Nat, y_prn p B n 50 k = B 50 k
  | 0 => rfl
  | n + 1 => by rw [y_prn, yp_k h, ypn_k h n]
def x_t1 (M0 : xm_Mem) (p : Int) (A : xm_Mem) : xm_Mem := x_bgn (M0 50 3) (M0 50 4) p (y_pl M0 p) A
def x_t2 (M0 : xm_Mem) (p : Int) (A : xm_Mem) : xm_Mem := x_srs (M0 50 0) p (y_N M0 p) (x_t1 M0 p A) 4
def x_s3 (M0 : xm_Mem) (p : Int) (A : xm_Mem) : xm_Mem := x_prn (M0 50 0) (M0 50 2) p A (A 23 3).toNat
def x_t3 (M0 : xm_Mem) (p : Int) (A : xm_Mem) : xm_Mem := x_s3 M0 p (x_t2 M0 p A)
def x_s4 (M0 : xm_Mem) (p : Int) (A : xm_Mem) : xm_Mem := x_lvn p A (if A 17 6 < M0 50 1 then A 17 6 else M0 50 1).toNat
def x_t4 (M0 : xm_Mem) (p : Int) (A : xm_Mem) : xm_Mem := x_s4 M0 p (x_t3 M0 p A)
def x_s5 (p : Int) (A : xm_Mem) : xm_Mem := x_cmn p (A 23 3).toNat A
def x_t5 (M0 : xm_Mem) (p : Int) (A : xm_Mem) : xm_Mem := x_s5 p (x_t4 M0 p A)
def x_slot (M0 : xm_Mem) (p : Int) (A : xm_Mem) : xm_Mem := x_es (x_t5 M0 p A) p
def y_t1 (M0 : xm_Mem) (p : Int) (B : xm_Mem) : xm_Mem := y_bgn p (y_pl M0 p) (y_z p B)
def y_t2 (M0 : xm_Mem) (p : Int) (B : xm_Mem) : xm_Mem := y_srs p (y_N M0 p) (y_t1 M0 p B) 4
def y_s3 (p : Int) (B : xm_Mem) : xm_Mem := y_prn p B (B 50 32).toNat
def y_t3 (M0 : xm_Mem) (p : Int) (B : xm_Mem) : xm_Mem := y_s3 p (y_t2 M0 p B)
def y_s4 (M0 : xm_Mem) (p : Int) (B : xm_Mem) : xm_Mem := y_lv p B (if B 50 24 < M0 50 1 then B 50 24 else M0 50 1).toNat
def y_t4 (M0 : xm_Mem) (p : Int) (B : xm_Mem) : xm_Mem := y_s4 M0 p (y_t3 M0 p B)
def y_s5 (p : Int) (B : xm_Mem) : xm_Mem := y_cmn p (B 50 32).toNat B
def y_t5 (M0 : xm_Mem) (p : Int) (B : xm_Mem) : xm_Mem := y_s5 p (y_t4 M0 p B)
def y_slot (M0 : xm_Mem) (p : Int) (B : xm_Mem) : xm_Mem := xm_up (y_t5 M0 p B) 50 20 (p + 1)
def y_par (M0 B : xm_Mem) : Prop := B 51 = M0 51 ∧ B 52 = M0 52 ∧ ∀ k : Int, 0 ≤ k → k ≤ 5 → B 50 k = M0 50 k
theorem par_pl {M0 B : xm_Mem} (h : y_par M0 B) (p : Int) : y_pl B p = y_pl M0 p := by
  unfold y_pl
  rw [h.1, h.2.1]
theorem par_N {M0 B : xm_Mem} (h : y_par M0 B) (p : Int) : y_N B p = y_N M0 p := by
  funext s
  unfold y_N
  rw [h.1, h.2.1, h.2.2 5 (by omega) (by omega)]
theorem par_of {M0 B X : xm_Mem} (h : y_par M0 B) (h1 : X 51 = B 51) (h2 : X 52 = B 52) (h3 : ∀ k : Int, 0 ≤ k → k ≤ 5 → X 50 k = B 50 k) : y_par M0 X :=
  ⟨h1.trans h.1, h2.trans h.2.1, fun k a b => (h3 k a b).trans (h.2.2 k a b)⟩
theorem par_z {M0 B : xm_Mem} {p : Int} (h : y_par M0 B) : y_par M0 (y_z p B) := by
  refine par_of h ?_ ?_ (fun k a b => ?_)
  all_goals
    unfold y_z
    rw [xu_c (by omega), xu_c (by omega), xu_c (by omega)]
theorem par_1 {M0 B : xm_Mem} {p : Int} (h : y_par M0 B) : y_par M0 (y_t1 M0 p B) := by
  refine par_of (par_z (p := p) h) ?_ ?_ (fun k a b => ?_)
  · exact ybg_c (by unfold y_own; omega)
  · exact ybg_c (by unfold y_own; omega)
  · exact ybg_k (by unfold y_pln; omega)
theorem par_2 {M0 B : xm_Mem} {p : Int} (h : y_par M0 B) : y_par M0 (y_t2 M0 p B) :=
  par_of (par_1 (p := p) h) (ys_c (by omega) 4) (ys_c (by omega) 4) (fun k a b => ys_k (by omega) 4)
theorem par_3 {M0 B : xm_Mem} {p : Int} (h : y_par M0 B) : y_par M0 (y_t3 M0 p B) :=
  par_of (par_2 (p := p) h) (ypn_c (by omega) _) (ypn_c (by omega) _) (fun k a b => ypn_k (by omega) _)
theorem par_4 {M0 B : xm_Mem} {p : Int} (h : y_par M0 B) : y_par M0 (y_t4 M0 p B) := by
  refine par_of (par_3 (p := p) h) ?_ ?_ (fun k a b => ?_)
  · unfold y_t4 y_s4 y_lv
    rw [yh_c (by omega), xu_c (by omega), yln_c (by omega)]
  · unfold y_t4 y_s4 y_lv
    rw [yh_c (by omega), xu_c (by omega), yln_c (by omega)]
  · unfold y_t4 y_s4 y_lv
    rw [yh_c (by omega), xu_k (by omega), yln_k (by omega)]
theorem par_5 {M0 B : xm_Mem} {p : Int} (h : y_par M0 B) : y_par M0 (y_t5 M0 p B) :=
  par_of (par_4 (p := p) h) (ycm_c (by omega) _ _) (ycm_c (by omega) _ _) (fun k a b => ycm_k (by omega) _ _)
theorem par_6 {M0 B : xm_Mem} {p : Int} (h : y_par M0 B) : y_par M0 (y_slot M0 p B) :=
  par_of (par_5 (p := p) h) (xu_c (by omega)) (xu_c (by omega)) (fun k a b => xu_k (by omega))
theorem T_mono2 {p t t' u u' i : Int} {A B : xm_Mem} (h : T_all p t u i A B) (ht : t ≤ t') (hu : u ≤ u') : T_all p t' u' i A B := by
  obtain ⟨h1, h2, h3, h4, ⟨r1, r2, r3, r4, r5⟩, h6⟩ := h
  exact ⟨h1, h2, h3, h4, ⟨r1, r2, by omega, by omega, r5⟩, h6⟩
theorem TS_1 {p : Int} {M0 A B : xm_Mem} (h : S_all p A B) (hM : y_par M0 B) (hp : p < 2000) : T_all p 0 0 0 (x_t1 M0 p A) (y_t1 M0 p B) := by
  have t0 := T_of_S h hp
  have hp0 := t0.2.2.2.2.1.1.2.2
  have pz := par_z (p := p) hM
  exact T_bg t0 (pz.2.2 3 (by omega) (by omega)).symm (pz.2.2 4 (by omega) (by omega)).symm (by rw [← par_pl pz]; exact (y_pl_in t0.1.2.1 hp0.1).1)
theorem TS_2 {p : Int} {M0 A B : xm_Mem} (h : S_all p A B) (hM : y_par M0 B) (hp : p < 2000) : T_all p 80 0 0 (x_t2 M0 p A) (y_t2 M0 p B) := by
  have t1 := TS_1 h hM hp
  have hp0 := t1.2.2.2.2.1.1.2.2
  have p1 := par_1 (p := p) hM
  exact (T_srs (cap := M0 50 0) (N := y_N M0 p) (p1.2.2 0 (by omega) (by omega)).symm (by rw [← par_N p1]; exact y_N_in t1.1 hp0.1) t1 4 (by omega)).1
theorem TS_3a {p : Int} {M0 A B : xm_Mem} (h : T_all p 80 0 0 A B) (hM : y_par M0 B) : T_all p 100 20 (x_s3 M0 p A 23 3) (x_s3 M0 p A) (y_s3 p B) := by
  have a2 := h.2.2.1.2.1
  have e2 := h.2.2.1.1
  have z := T_prn (cap := M0 50 0) (mark := M0 50 2) h (hM.2.2 0 (by omega) (by omega)).symm (hM.2.2 2 (by omega) (by omega)).symm (A 23 3).toNat (by omega)
  unfold x_s3 y_s3
  rw [← e2, z.2.1]
  have := T_mono2 (t' := 100) (u' := 20) z.1 (by omega) (by omega)
  rw [show (((A 23 3).toNat : Nat) : Int) = A 23 3 by omega] at this
  exact this
theorem TS_3 {p : Int} {M0 A B : xm_Mem} (h : S_all p A B) (hM : y_par M0 B) (hp : p < 2000) : T_all p 100 20 (x_t3 M0 p A 23 3) (x_t3 M0 p A) (y_t3 M0 p B) :=
  TS_3a (TS_2 h hM hp) (par_2 hM)
theorem TS_4a {p t u i : Int} {M0 A B : xm_Mem} (h : T_all p t u i A B) (hM : y_par M0 B) : T_all p t u i (x_s4 M0 p A) (y_s4 M0 p B) := by
  have l1 := h.2.2.2.1.1
  have cp := T_cap h.1
  have e := hM.2.2 1 (by omega) (by omega)
  have := T_lvA (n := (if A 17 6 < M0 50 1 then A 17 6 else M0 50 1).toNat) h (by omega)
  unfold x_s4 y_s4
  rw [show B 50 24 = A 17 6 by omega]
  exact this
theorem TS_4 {p : Int} {M0 A B : xm_Mem} (h : S_all p A B) (hM : y_par M0 B) (hp : p < 2000) : T_com p 100 20 (x_t4 M0 p A 23 3) (20 * p) (x_t4 M0 p A) (y_t4 M0 p B) := by
  have k : x_t4 M0 p A 23 = x_t3 M0 p A 23 := by
    unfold x_t4 x_s4
    exact xln_c (by omega) _
  have z := TS_4a (TS_3 h hM hp) (par_3 hM)
  rw [← k] at z
  exact T_com_of z
theorem TS_5 {p : Int} {M0 A B : xm_Mem} (h : S_all p A B) (hM : y_par M0 B) (hp : p < 2000) : T_com p 100 20 0 (20 * p + 20) (x_t5 M0 p A) (y_t5 M0 p B) := by
  have z := TS_4 h hM hp
  unfold x_t5 y_t5 x_s5 y_s5
  generalize x_t4 M0 p A = X at *
  generalize y_t4 M0 p B = Y at *
  have e := z.2.2.1.2.1
  have e1 := z.2.2.1.1
  have g := T_cmn (X 23 3).toNat (20 * p) X Y (by rw [show (((X 23 3).toNat : Nat) : Int) = X 23 3 by omega]; exact z) (by omega)
  rw [← e1]
  obtain ⟨q1, q2, q3, q4, q5, q6, q7⟩ := g
  exact ⟨q1, q2, q3, q4, q5, fun k a b => by have := q6 k a b; omega, fun k a b => by have := q7 k a b; omega⟩
theorem S_next {p : Int} {M0 A B : xm_Mem} (h : S_all p A B) (hM : y_par M0 B) (hp : p < 2000) : S_all (p + 1) (x_slot M0 p A) (y_slot M0 p B) := by
  have z := TS_5 h hM hp
  unfold x_slot y_slot
  generalize x_t5 M0 p A = X at *
  generalize y_t5 M0 p B = Y at *
  obtain ⟨h1, h2, ⟨x1, x2, x3, x4, x6, x7, x8⟩, ⟨l1, l2, l3, l4, l5, l6⟩, h5, h6, h7⟩ := z
  have hp0 := h5.1.2.2
  have e := T_es h5 ⟨by omega, by omega⟩
  have k2 : x_es X p 29 2 = p + 1 := by unfold x_es; rw [xu_s]
  have kc := fun (c : Nat) (a : c ≠ 29 ∧ c ≠ 32 ∧ c ≠ 33) => xe_c (A := X) (p := p) a
  generalize x_es X p = Z at *
  refine ⟨k2, ?_, ?_, ?_, ?_, ?_, ?_⟩
  · unfold T_fix T_rt R_rtA at *
    rw [kc 1 (by omega), kc 2 (by omega), kc 3 (by omega), kc 11 (by omega), kc 12 (by omega), kc 13 (by omega), kc 14 (by omega), kc 15 (by omega), kc 16 (by omega), kc 37 (by omega), kc 38 (by omega), kc 39 (by omega), kc 40 (by omega)]
    simp only [xu_c, xu_s, xu_k, ne_eq, Nat.reduceEqDiff, Int.reduceEq, not_false_eq_true]
    exact h1
  · simp only [xu_c, xu_s, xu_k, ne_eq, Nat.reduceEqDiff, Int.reduceEq, not_false_eq_true]
    exact e
  · rw [kc 23 (by omega), kc 24 (by omega), kc 25 (by omega), kc 26 (by omega), kc 28 (by omega)]
    simp only [xu_c, xu_s, xu_k, ne_eq, Nat.reduceEqDiff, Int.reduceEq, not_false_eq_true]
    refine ⟨x1, by omega, by omega, fun j a b => ?_, fun s a b => x4 s a (by omega), x6, fun s a b => x7 s (by omega) b, x8⟩
    have g := x3 j a b
    simp only [x_p2] at g
    omega
  · unfold R_ask at *
    rw [kc 23 (by omega), kc 27 (by omega)]
    simp only [xu_c, xu_s, xu_k, ne_eq, Nat.reduceEqDiff, Int.reduceEq, not_false_eq_true]
    exact h2
  · rw [kc 17 (by omega), kc 18 (by omega), kc 19 (by omega), kc 20 (by omega), kc 21 (by omega), kc 22 (by omega)]
    unfold R_lin
    simp only [xu_c, xu_s, xu_k, ne_eq, Nat.reduceEqDiff, Int.reduceEq, not_false_eq_true]
    simp only [Int.sub_zero, Int.zero_add] at l1 l3 l4
    refine ⟨l1, l2, fun i a b => ?_, l4, l5, l6⟩
    have g := l3 i a b
    omega
  · rw [kc 35 (by omega), kc 36 (by omega)]
    simp only [xu_c, xu_s, xu_k, ne_eq, Nat.reduceEqDiff, Int.reduceEq, not_false_eq_true]
    exact ⟨fun k a b => by have := h6 k a b; omega, fun k a b => by have := h7 k a b; omega⟩
theorem xs_lo {M0 A : xm_Mem} {p : Int} {c : Nat} (h : 50 ≤ c) : x_slot M0 p A c = A c := by
  unfold x_slot x_t5 x_s5
  rw [xe_c (by omega), xcm_c (by omega)]
  unfold x_t4 x_s4
  rw [xln_c (by omega)]
  unfold x_t3 x_s3
  rw [xpn_c (by omega)]
  unfold x_t2
  rw [xsr_c (by omega)]
  unfold x_t1
  rw [xbg_c (by unfold x_own; omega)]
theorem ys_lo {M0 B : xm_Mem} {p : Int} {c : Nat} (h : c < 50) : y_slot M0 p B c = B c := by
  unfold y_slot y_t5 y_s5
  rw [xu_c (by omega), ycm_c (by omega)]
  unfold y_t4 y_s4 y_lv
  rw [yh_c (by omega), xu_c (by omega), yln_c (by omega)]
  unfold y_t3 y_s3
  rw [ypn_c (by omega)]
  unfold y_t2
  rw [ys_c (by omega)]
  unfold y_t1
  rw [ybg_c (by unfold y_own; omega)]
  unfold y_z
  rw [xu_c (by omega), xu_c (by omega), xu_c (by omega)]
/-- the lossy slots that are counted -/
theorem xs_cnt {p : Int} {M0 A B : xm_Mem} (h : S_all p A B) (hM : y_par M0 B) (hp : p < 2000) : x_slot M0 p A 29 3 = A 29 3 + (if 0 < y_slot M0 p B 61 p then 1 else 0) ∧ xm_in (y_slot M0 p B 61 p) := by
  have z := (TS_5 h hM hp).2.2.2.2.1.2.2.1
  have k : x_t5 M0 p A 29 = A 29 := by
    unfold x_t5 x_s5
    rw [xcm_c (by omega)]
    unfold x_t4 x_s4
    rw [xln_c (by omega)]
    unfold x_t3 x_s3
    rw [xpn_c (by omega)]
    unfold x_t2
    rw [xsr_c (by omega)]
    unfold x_t1
    rw [xbg_c (by unfold x_own; omega)]
  unfold x_slot y_slot
  rw [xu_c (c' := 61) (by omega), ← z.1, ← k]
  refine ⟨?_, by omega⟩
  unfold x_es
  rw [xu_k (by omega)]
  split
  · split
    · rw [xu_c (by omega), xu_k (by omega), xu_c (by omega), xu_s]
    · rw [xu_c (by omega), xu_s]
  · omega
