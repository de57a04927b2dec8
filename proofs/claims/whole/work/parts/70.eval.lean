/-! the constructors run: an evaluator of the machine, for what they do -/
abbrev ev_M : Type := List (Nat × Int × Int)
def ev_get : ev_M → Nat → Int → Int
  | [], _, _ => 0
  | (c, k, v) :: m, c', k' => match Nat.beq c' c && decide (k' = k) with
    | true => v
    | false => ev_get m c' k'
def ev_mm (n : Nat) (m : ev_M) : xm_Mem := xm_up (ev_get m) 0 0 (n : Int)
theorem ev_get_c {c : Nat} {k v : Int} {m : ev_M} : ev_get ((c, k, v) :: m) = xm_up (ev_get m) c k v := by
  funext c' k'
  unfold ev_get
  by_cases h : c' = c
  · subst h
    rw [Nat.beq_refl, Bool.true_and]
    by_cases h2 : k' = k
    · subst h2
      rw [decide_eq_true rfl, xu_s]
    · rw [decide_eq_false h2, xu_k h2]
  · have : Nat.beq c' c = false := by
      cases hq : Nat.beq c' c with
      | false => rfl
      | true => exact absurd (Nat.eq_of_beq_eq_true hq) h
    rw [this, Bool.false_and, xu_c h]
theorem ev_mm_up {n : Nat} {m : ev_M} {r : Nat} {k v : Int} (hr : r ≠ 0) : xm_up (ev_mm n m) r k v = ev_mm n ((r, k, v) :: m) := by
  unfold ev_mm
  rw [ev_get_c]
  funext c j
  simp only [xm_up]
  repeat' split
  all_goals first | rfl | (exfalso; omega)
theorem ev_mm_0 {n : Nat} {m : ev_M} : ev_mm n m 0 0 = (n : Int) := xu_s
theorem ev_mm_r {n : Nat} {m : ev_M} {r : Nat} {k : Int} (hr : r ≠ 0) : ev_mm n m r k = ev_get m r k := by
  unfold ev_mm
  rw [xu_c hr]
def ev_no (m : ev_M) (r : Nat) : Bool := m.all fun q => !Nat.beq q.1 r
theorem ev_no_get {r : Nat} {k : Int} : ∀ {m : ev_M}, ev_no m r = true → ev_get m r k = 0
  | [], _ => rfl
  | (c, j, v) :: m, h => by
    unfold ev_no at h
    rw [List.all_cons, Bool.and_eq_true] at h
    unfold ev_get
    have h1 : Nat.beq r c = false := by
      cases hq : Nat.beq r c with
      | false => rfl
      | true =>
        have e := Nat.eq_of_beq_eq_true hq
        subst e
        have := h.1
        simp [Nat.beq_refl] at this
    rw [h1, Bool.false_and]
    exact ev_no_get (m := m) h.2
theorem ev_mm_z {n : Nat} {m : ev_M} (h : ev_no m (n + 1) = true) : xm_up (xm_z (ev_mm n m) (n + 1)) 0 0 ((n : Int) + 1) = ev_mm (n + 1) m := by
  funext c k
  by_cases e : c = n + 1
  · subst e
    rw [xu_c (by omega), ev_mm_r (by omega), ev_no_get h]
    unfold xm_z
    rw [if_pos rfl]
  · by_cases z : c = 0
    · subst z
      unfold ev_mm
      by_cases w : k = 0
      · subst w
        rw [xu_s, xu_s]
        omega
      · rw [xu_k w, xu_k w]
        unfold xm_z
        rw [if_neg e, xu_k w]
    · rw [xu_c z, ev_mm_r z]
      unfold xm_z
      rw [if_neg e, ev_mm_r z]
def ev_kd (n r : Nat) : Nat := match Nat.ble r n with
  | true => (xm_sh r).1
  | false => 999
theorem ev_kd_eq {lim : Int} {n r : Nat} {m : ev_M} : xm_kd (some lim) (ev_mm n m) r = ev_kd n r := by
  unfold xm_kd ev_kd
  dsimp only
  rw [ev_mm_0]
  cases h : Nat.ble r n with
  | true =>
    have := Nat.le_of_ble_eq_true h
    rw [if_pos (by omega)]
  | false =>
    rw [if_neg (fun q => ?_)]
    have : r ≤ n := by omega
    rw [Nat.ble_eq_true_of_le this] at h
    cases h
abbrev ev_R : Type := Option (Option (Nat × xm_L × List xm_V) × Nat × ev_M)
abbrev ev_C : Type := Nat → List xm_V → Nat → ev_M → Option (Nat × ev_M)
def ev_inv (call : ev_C) (lim : Nat) (kind np a b : Nat) (z : Int) (L : xm_L) (S : List xm_V) (n : Nat) (m : ev_M) : ev_R :=
  match decide (z = 0) && (Nat.ble (a + 1) 280 && (Nat.ble b (xm_len S) && (Nat.ble (xm_cats (xm_drop S b)) 8 && (Nat.beq kind 1 || (match xm_rev S b [] with
    | .inr (.inr r) :: _ => Nat.beq (ev_kd n r) (xm_m a).2.2.2.2.1
    | _ => false)) && (!Nat.beq kind 2 || Nat.ble (n + (xm_m a).2.2.2.2.2.2.2) lim)))) with
  | true => match call a (xm_rev S b []) n m with
    | some (n', m') => some (some (np, L, xm_drop S b), n', m')
    | none => none
  | false => none
def ev_step (call : ev_C) (lim : Nat) (e : xm_Ent) (L : xm_L) (S : List xm_V) (n : Nat) (m : ev_M) : ev_R :=
  match e with
  | (_, i, np, a, b, z, _) =>
  match i with
  | .iload_n _ => match xm_lget L a with
    | some (.inl x) => some (some (np, L, .inl x :: S), n, m)
    | _ => none
  | .aload_n _ => match xm_lget L a with
    | some (.inr (.inr x)) => some (some (np, L, .inr (.inr x) :: S), n, m)
    | _ => none
  | .istore_n _ => match S with
    | .inl x :: S => some (some (np, xm_st1 L a (.inl x), S), n, m)
    | _ => none
  | .iinc _ _ => match xm_lget L a with
    | some (.inl x) => some (some (np, xm_st1 L a (.inl (x + z)), S), n, m)
    | _ => none
  | .iconst _ => some (some (np, L, .inl z :: S), n, m)
  | .bipush _ => some (some (np, L, .inl z :: S), n, m)
  | .sipush _ => some (some (np, L, .inl z :: S), n, m)
  | .dup => match S with
    | .inr (.inr x) :: S => some (some (np, L, .inr (.inr x) :: .inr (.inr x) :: S), n, m)
    | _ => none
  | .if_icmp .ge _ => match S with
    | .inl y :: .inl x :: S => match decide (-2147483648 ≤ x) && (decide (x < 2147483648) && (decide (-2147483648 ≤ y) && decide (y < 2147483648))) with
      | true => match decide (y ≤ x) with
        | true => some (some (a, L, S), n, m)
        | false => some (some (np, L, S), n, m)
      | false => none
    | _ => none
  | .goto _ => some (some (a, L, S), n, m)
  | .getfield _ => match S with
    | .inr (.inr r) :: S => match Nat.beq (ev_kd n r) a && (Nat.ble 1 r && (Nat.beq (xm_fc a b) 2 || Nat.beq (xm_fc a b) 3)) with
      | true => some (some (np, L, .inr (.inr (ev_get m r b).toNat) :: S), n, m)
      | false => none
    | _ => none
  | .putfield _ => match S with
    | .inl x :: .inr (.inr r) :: S => match Nat.beq (ev_kd n r) a && (Nat.ble 1 r && (Nat.beq (xm_fc a b) 0 || (Nat.beq (xm_fc a b) 4 && (decide (x = 0) || decide (x = 1))))) with
      | true => some (some (np, L, S), n, (r, (b : Int), x) :: m)
      | false => none
    | .inr (.inr x) :: .inr (.inr r) :: S => match Nat.beq (ev_kd n r) a && (Nat.ble 1 r && (Nat.beq (xm_fc a b) 2 || Nat.beq (xm_fc a b) 3)) with
      | true => some (some (np, L, S), n, (r, (b : Int), (x : Int)) :: m)
      | false => none
    | _ => none
  | .arraylength => match S with
    | .inr (.inr r) :: S => match Nat.ble 100 (ev_kd n r) && Nat.ble (ev_kd n r) 103 with
      | true => some (some (np, L, .inl (xm_szi r) :: S), n, m)
      | false => none
    | _ => none
  | .iastore => match S with
    | .inl x :: .inl j :: .inr (.inr r) :: S => match Nat.beq (ev_kd n r) 100 && (Nat.ble 1 r && (decide (0 ≤ j) && decide (j < xm_szi r))) with
      | true => some (some (np, L, S), n, (r, j, x) :: m)
      | false => none
    | _ => none
  | .new _ => match Nat.ble (n + 1) lim && (decide (xm_sh (n + 1) = (a, xm_N a)) && ev_no m (n + 1)) with
    | true => some (some (np, L, .inr (.inr (n + 1)) :: S), n + 1, m)
    | false => none
  | .newarray _ => match S with
    | .inl x :: S => match Nat.ble (n + 1) lim && (decide (0 ≤ x) && (decide (x < 3000) && (decide (xm_sh (n + 1) = (a, x.toNat)) && ev_no m (n + 1)))) with
      | true => some (some (np, L, .inr (.inr (n + 1)) :: S), n + 1, m)
      | false => none
    | _ => none
  | .invokevirtual _ => ev_inv call lim 0 np a b z L S n m
  | .invokestatic _ => ev_inv call lim 1 np a b z L S n m
  | .invokespecial _ => match Nat.beq a 903 with
    | true => match S with
      | .inr (.inr r) :: S => match Nat.ble 1 r && (Nat.ble r 999 && Nat.ble (xm_cats S) 8) with
        | true => some (some (np, L, S), n, m)
        | false => none
      | _ => none
    | false => ev_inv call lim 2 np a b z L S n m
  | .return_ => match S with
    | [] => some (none, n, m)
    | _ => none
  | _ => none
def ev_run (call : ev_C) (lim : Nat) (C : List xm_Ent) : Nat → Nat → xm_L → List xm_V → Nat → ev_M → Option (Nat × ev_M)
  | 0, _, _, _, _, _ => none
  | f + 1, pc, L, S, n, m => match xm_find pc C with
    | none => none
    | some e => match ev_step call lim e L S n m with
      | none => none
      | some (none, n', m') => some (n', m')
      | some (some (pc, L, S), n', m') => ev_run call lim C f pc L S n' m'
def ev_call : Nat → ev_C
  | 0 => fun _ _ _ _ => none
  | d + 1 => fun a as n m => match Nat.ble (a + 1) 280 && (Nat.ble (xm_llen (xm_ent as)) (xm_m a).2.2.1 && Nat.ble (n + (xm_m a).2.2.2.2.2.2.2) 83) with
    | true => match ev_run (ev_call d) (n + (xm_m a).2.2.2.2.2.2.2) (xm_c a) 1000 0 (xm_pad (xm_ent as) (xm_m a).2.2.1) [] n m with
      | some (n', m') => match Nat.beq n' (n + (xm_m a).2.2.2.2.2.2.2) with
        | true => some (n', m')
        | false => none
      | none => none
    | false => none
