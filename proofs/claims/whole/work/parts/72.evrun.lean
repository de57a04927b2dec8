/-! the run of the constructors, by the kernel; what holds behind it -/
def ev_b1 : ev_M := match ev_call 8 0 [.inr (.inr 1)] 1 [] with
  | some (_, m) => m
  | none => []
def ev_b2 : ev_M := match ev_call 8 192 [.inr (.inr 50)] 50 ev_b1 with
  | some (_, m) => m
  | none => []
theorem ev_run1 : (match ev_call 8 0 [.inr (.inr 1)] 1 [] with
  | some (n, _) => Nat.beq n 49
  | none => false) = true := by decide +kernel
theorem ev_run2 : (match ev_call 8 192 [.inr (.inr 50)] 50 ev_b1 with
  | some (n, _) => Nat.beq n 83
  | none => false) = true := by decide +kernel
theorem ev_r1 : ev_call 8 0 [.inr (.inr 1)] 1 [] = some (49, ev_b1) := by
  have h := ev_run1
  unfold ev_b1
  split at h
  · rename_i n m e
    rw [e, Nat.eq_of_beq_eq_true h]
  · cases h
theorem ev_r2 : ev_call 8 192 [.inr (.inr 50)] 50 ev_b1 = some (83, ev_b2) := by
  have h := ev_run2
  unfold ev_b2
  split at h
  · rename_i n m e
    rw [e, Nat.eq_of_beq_eq_true h]
  · cases h
theorem ev_new1 : ev_no [] 1 = true := rfl
theorem ev_new2 : ev_no ev_b1 50 = true := by decide +kernel
def ev_z (m : ev_M) (c : Nat) : Bool := m.all fun q => !Nat.beq q.1 c || decide (q.2.2 = 0)
theorem ev_z_get {c : Nat} {k : Int} : ∀ {m : ev_M}, ev_z m c = true → ev_get m c k = 0
  | [], _ => rfl
  | (c', j, v) :: m, h => by
    unfold ev_z at h
    rw [List.all_cons, Bool.and_eq_true] at h
    have ih := ev_z_get (c := c) (k := k) (m := m) h.2
    rw [ev_get_c]
    by_cases e : c = c'
    · subst e
      have h1 := h.1
      simp only [Nat.beq_refl, Bool.not_true, Bool.false_or, decide_eq_true_eq] at h1
      by_cases e2 : k = j
      · subst e2; rw [xu_s]; exact h1
      · rw [xu_k e2]; exact ih
    · rw [xu_c e]; exact ih
def ev_zs : List Nat := [3, 13, 16, 20, 21, 22, 28, 30, 31, 35, 36, 39, 40, 51, 52, 53, 59, 60, 61, 62, 63, 64, 65, 66, 71, 75, 76]
theorem ev_zs_ok : (ev_zs.all fun c => ev_z ev_b2 c) = true := by decide +kernel
def ev_vs : List (Nat × Int × Int) := [(1, 3, 11), (1, 4, 14), (2, 1, 0), (11, 0, 10), (11, 1, 1), (11, 2, 40), (11, 3, 20), (11, 4, 1), (11, 5, 0), (50, 0, 10), (50, 1, 1), (50, 2, 40), (50, 3, 20), (50, 4, 1), (50, 5, 0), (50, 9, 0), (50, 20, 0), (50, 24, 0), (50, 30, 0), (50, 31, 0), (50, 32, 0), (50, 36, 0), (50, 37, 0), (50, 38, 0), (50, 39, 0), (50, 41, 0), (50, 42, 0), (50, 48, 0), (17, 5, 0), (17, 6, 0), (17, 7, 0), (17, 8, 0), (23, 3, 0), (23, 5, 0), (23, 6, 0), (23, 7, 0), (23, 8, 0), (23, 9, 0), (23, 10, 0), (29, 2, 0), (29, 3, 0), (29, 4, 0), (38, 0, 0), (37, 0, 9999), (37, 1, 9999), (37, 2, 9999), (37, 3, 9999), (72, 0, 9999), (72, 1, 9999), (72, 2, 9999), (72, 3, 9999)]
theorem ev_vs_ok : (ev_vs.all fun q => decide (ev_get ev_b2 q.1 q.2.1 = q.2.2)) = true := by decide +kernel
theorem ev_fin_ok : ((List.range 84).all fun c => Nat.ble 12 (xm_sh c).1 || (List.range (xm_N (xm_sh c).1)).all fun k => !Nat.beq (xm_fc (xm_sh c).1 k) 2 || decide (ev_get ev_b2 c (k : Nat) = (xm_fin c k : Nat))) = true := by decide +kernel
theorem st_z {c : Nat} (h : c ∈ ev_zs) (hc : c ≠ 0) (k : Int) : ev_mm 83 ev_b2 c k = 0 := by
  rw [ev_mm_r hc]
  exact ev_z_get (List.all_eq_true.mp ev_zs_ok c h)
theorem st_v {c : Nat} {k v : Int} (h : (c, k, v) ∈ ev_vs) (hc : c ≠ 0) : ev_mm 83 ev_b2 c k = v := by
  rw [ev_mm_r hc]
  exact of_decide_eq_true (List.all_eq_true.mp ev_vs_ok (c, k, v) h)
theorem st_F : xs_F (ev_mm 83 ev_b2) := by
  intro c k h1 h2 h3
  rcases xs_shr c with q | ⟨h0, h4⟩
  · rw [q] at h1; omega
  · rw [ev_mm_r (by omega)]
    have g := List.all_eq_true.mp ev_fin_ok c (List.mem_range.mpr h4)
    rw [Bool.or_eq_true] at g
    rcases g with g | g
    · have := Nat.le_of_ble_eq_true g; omega
    · have g := List.all_eq_true.mp g k (List.mem_range.mpr h2)
      rw [h3, Bool.or_eq_true] at g
      rcases g with g | g
      · cases g
      · exact of_decide_eq_true g
theorem st_all : R_all (ev_mm 83 ev_b2) := by
  have z : ∀ c : Nat, c ∈ ev_zs → c ≠ 0 → ∀ k : Int, ev_mm 83 ev_b2 c k = 0 := fun c h hc k => st_z h hc k
  have v : ∀ (c : Nat) (k w : Int), (c, k, w) ∈ ev_vs → c ≠ 0 → ev_mm 83 ev_b2 c k = w := fun c k w h hc => st_v h hc
  generalize ev_mm 83 ev_b2 = M at z v
  unfold R_all
  refine ⟨?_, Or.inl ⟨v 1 3 11 (by decide) (by omega), v 1 4 14 (by decide) (by omega), ?_⟩, ?_, ?_, ?_, ?_, ?_, ?_, ?_⟩
  · rw [v 2 1 0 (by decide) (by omega), v 50 9 0 (by decide) (by omega)]
    exact ⟨rfl, by omega, by omega, fun i q1 q2 => by omega⟩
  · unfold R_rtA
    rw [v 11 0 10 (by decide) (by omega), v 11 1 1 (by decide) (by omega), v 11 2 40 (by decide) (by omega), v 11 3 20 (by decide) (by omega), v 11 4 1 (by decide) (by omega), v 11 5 0 (by decide) (by omega), v 50 0 10 (by decide) (by omega), v 50 1 1 (by decide) (by omega), v 50 2 40 (by decide) (by omega), v 50 3 20 (by decide) (by omega), v 50 4 1 (by decide) (by omega), v 50 5 0 (by decide) (by omega)]
    have z13 := z 13 (by decide) (by omega)
    have z52 := z 52 (by decide) (by omega)
    refine ⟨⟨rfl, by omega, by omega⟩, ⟨rfl, by omega, by omega⟩, ⟨rfl, by omega, by omega⟩, ⟨rfl, by omega, by omega⟩, ⟨rfl, by omega, by omega⟩, ⟨rfl, by omega, by omega⟩, fun s q1 q2 => ?_, fun s q1 q2 => ?_, fun s i q1 q2 q3 q4 => ?_, fun i q1 q2 => ?_⟩
    · rw [z13, z52]; omega
    · rw [z13]; omega
    · rw [z13] at q4; omega
    · rw [z13] at q2; omega
  · rw [v 29 2 0 (by decide) (by omega), v 50 20 0 (by decide) (by omega), v 29 3 0 (by decide) (by omega), v 29 4 0 (by decide) (by omega)]
    refine ⟨rfl, by omega, by omega, fun s q1 q2 => by omega, fun s q1 q2 => ⟨z 30 (by decide) (by omega) s, z 31 (by decide) (by omega) s⟩, rfl, rfl, fun k q1 q2 => absurd q2 (by omega)⟩
  · rw [v 29 2 0 (by decide) (by omega), v 50 4 1 (by decide) (by omega), v 50 3 20 (by decide) (by omega), v 23 3 0 (by decide) (by omega), v 50 32 0 (by decide) (by omega)]
    have z28 := z 28 (by decide) (by omega)
    refine ⟨rfl, by omega, by omega, fun k q1 q2 => by omega, fun s q1 q2 => by omega, fun s q1 q2 => ?_, fun s q1 q2 => ?_, fun a q1 q2 => ?_⟩
    · rw [z28]; omega
    · rw [z28]; rfl
    · rw [sum_z _ (fun s _ _ => z28 s)]; omega
  · unfold R_ask
    rw [v 23 5 0 (by decide) (by omega), v 50 39 0 (by decide) (by omega), v 23 6 0 (by decide) (by omega), v 50 41 0 (by decide) (by omega), v 23 7 0 (by decide) (by omega), v 50 42 0 (by decide) (by omega), v 23 8 0 (by decide) (by omega), v 50 36 0 (by decide) (by omega), v 23 9 0 (by decide) (by omega), v 50 37 0 (by decide) (by omega), v 23 10 0 (by decide) (by omega), v 50 38 0 (by decide) (by omega)]
    exact ⟨⟨rfl, by omega, by omega⟩, fun k q1 q2 => absurd q2 (by omega), ⟨rfl, by omega, by omega⟩, rfl, rfl, rfl, rfl⟩
  · unfold R_lin
    rw [v 17 6 0 (by decide) (by omega), v 50 24 0 (by decide) (by omega), v 17 5 0 (by decide) (by omega), v 17 7 0 (by decide) (by omega), v 50 30 0 (by decide) (by omega), v 17 8 0 (by decide) (by omega), v 50 31 0 (by decide) (by omega), v 50 0 10 (by decide) (by omega)]
    refine ⟨⟨rfl, by omega, by omega, by omega⟩, ⟨by omega, by omega⟩, fun i q1 q2 => absurd q2 (by omega), fun s q1 q2 => ?_, rfl, rfl, by omega, by omega⟩
    rw [z 20 (by decide) (by omega), z 21 (by decide) (by omega), z 22 (by decide) (by omega), z 64 (by decide) (by omega), z 65 (by decide) (by omega), z 66 (by decide) (by omega)]
    exact ⟨rfl, rfl, rfl, rfl⟩
  · refine ⟨fun k q1 q2 => ?_, fun k q1 q2 => ?_⟩
    · rw [z 35 (by decide) (by omega), z 71 (by decide) (by omega), v 29 2 0 (by decide) (by omega)]; omega
    · rw [z 36 (by decide) (by omega), z 71 (by decide) (by omega), v 29 2 0 (by decide) (by omega)]; omega
  · intro k q1 q2
    have hk : k = 0 ∨ k = 1 ∨ k = 2 ∨ k = 3 := by omega
    rcases hk with rfl | rfl | rfl | rfl
    · rw [v 37 0 9999 (by decide) (by omega), v 72 0 9999 (by decide) (by omega)]; omega
    · rw [v 37 1 9999 (by decide) (by omega), v 72 1 9999 (by decide) (by omega)]; omega
    · rw [v 37 2 9999 (by decide) (by omega), v 72 2 9999 (by decide) (by omega)]; omega
    · rw [v 37 3 9999 (by decide) (by omega), v 72 3 9999 (by decide) (by omega)]; omega
  · rw [v 38 0 0 (by decide) (by omega), v 50 48 0 (by decide) (by omega)]
    refine ⟨rfl, by omega, by omega, fun s q1 q2 => by omega, fun a b q1 q2 => by omega, fun a b q1 q2 q3 q4 q5 => z 40 (by decide) (by omega) _, fun s q1 q2 => Or.inl (z 39 (by decide) (by omega) s)⟩
