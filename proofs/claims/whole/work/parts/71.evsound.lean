/-! what the evaluator says holds of the machine -/
section EV
variable {call : ev_C} {cs : xm_C} {lim : Nat} {Q : xm_K} {X : xm_X}
def ev_to (Q : xm_K) (X : xm_X) (r : Option (Nat × xm_L × List xm_V) × Nat × ev_M) : Prop := match r with
  | (none, n, m) => Q [] (ev_mm n m)
  | (some (pc, L, S), n, m) => X pc L S (ev_mm n m)
def ev_ok (call : ev_C) (cs : xm_C) : Prop := ∀ (a : Nat) (as : List xm_V) (n : Nat) (m : ev_M) (n' : Nat) (m' : ev_M), call a as n m = some (n', m') → ∀ Q : xm_K, Q [] (ev_mm n' m') → cs a as (ev_mm n m) Q
theorem ev_inv_ok (hc : ev_ok call cs) {kind np a b : Nat} {z : Int} {L : xm_L} {S : List xm_V} {n : Nat} {m : ev_M} {r : Option (Nat × xm_L × List xm_V) × Nat × ev_M} (h : ev_inv call lim kind np a b z L S n m = some r) (hX : ev_to Q X r) :
    z = 0 ∧ a < 280 ∧ Nat.ble b (xm_len S) = true ∧ Nat.ble (xm_cats (xm_drop S b)) 8 = true ∧ (kind = 1 ∨ xm_recv (some (lim : Int)) (ev_mm n m) a (xm_rev S b []) = true) ∧ (kind = 2 → (n : Int) + ((xm_m a).2.2.2.2.2.2.2 : Nat) ≤ (lim : Int)) ∧ cs a (xm_rev S b []) (ev_mm n m) (fun v M' => xm_kr 0 (xm_drop S b) (fun S => X np L S M') v) := by
  unfold ev_inv at h
  split at h
  · rename_i hb
    simp only [Bool.and_eq_true, Bool.or_eq_true, decide_eq_true_eq] at hb
    obtain ⟨h1, h2, h3, ⟨h4, h5⟩, h6⟩ := hb
    split at h
    · rename_i n' m' hcall
      cases h
      refine ⟨h1, Nat.le_of_ble_eq_true h2, h3, h4, ?_, fun q => ?_, hc _ _ _ _ _ _ hcall _ hX⟩
      · rcases h5 with q | q
        · exact Or.inl (Nat.eq_of_beq_eq_true q)
        · refine Or.inr ?_
          unfold xm_recv
          split at q
          · rename_i e
            rw [e]
            dsimp only
            rw [ev_kd_eq]
            exact q
          · cases q
      · subst q
        have := Nat.le_of_ble_eq_true (h6.resolve_left (by decide))
        omega
    · cases h
  · cases h
set_option maxHeartbeats 4000000 in
theorem ev_step_ok (hc : ev_ok call cs) {e : xm_Ent} {L : xm_L} {S : List xm_V} {n : Nat} {m : ev_M} {r : Option (Nat × xm_L × List xm_V) × Nat × ev_M} (h : ev_step call lim e L S n m = some r) (hX : ev_to Q X r) : xm_step cs (some (lim : Int)) Q X e L S (ev_mm n m) := by
  obtain ⟨pc, i, np, a, b, z, T⟩ := e
  cases i
  case iload_n k =>
    dsimp only [ev_step] at h
    dsimp only [xm_step]
    split at h
    · rename_i q
      cases h
      rw [q]
      exact hX
    · cases h
  case aload_n k =>
    dsimp only [ev_step] at h
    dsimp only [xm_step]
    split at h
    · rename_i q
      cases h
      rw [q]
      exact hX
    · cases h
  case istore_n k =>
    dsimp only [ev_step] at h
    dsimp only [xm_step]
    split at h
    · cases h
      dsimp only
      rw [xm_st1k_eq]
      exact hX
    · cases h
  case iinc k w =>
    dsimp only [ev_step] at h
    dsimp only [xm_step]
    split at h
    · rename_i q
      cases h
      rw [q]
      dsimp only
      rw [xm_st1k_eq]
      exact hX
    · cases h
  case iconst k => cases (show some _ = some r from h); exact hX
  case bipush k => cases (show some _ = some r from h); exact hX
  case sipush k => cases (show some _ = some r from h); exact hX
  case goto k => cases (show some _ = some r from h); exact hX
  case dup =>
    dsimp only [ev_step] at h
    dsimp only [xm_step]
    split at h
    · cases h
      exact hX
    · cases h
  case if_icmp c k =>
    cases c
    case ge =>
      dsimp only [ev_step] at h
      dsimp only [xm_step]
      split at h
      · split at h
        · rename_i hb
          simp only [Bool.and_eq_true, decide_eq_true_eq] at hb
          refine ⟨⟨⟨by omega, by omega⟩, ⟨by omega, by omega⟩⟩, ?_⟩
          split at h
          · rename_i hb2
            cases h
            exact ⟨fun _ => hX, fun q => absurd q (by have := of_decide_eq_true hb2; omega)⟩
          · rename_i hb2
            cases h
            exact ⟨fun q => absurd q (of_decide_eq_false hb2), fun _ => hX⟩
        · cases h
      · cases h
    all_goals exact absurd (show none = some r from h) (by simp)
  case getfield k =>
    dsimp only [ev_step] at h
    dsimp only [xm_step]
    split at h
    · rename_i r0 S0
      split at h
      · rename_i hb
        simp only [Bool.and_eq_true, Bool.or_eq_true] at hb
        obtain ⟨h1, h2, h3⟩ := hb
        cases h
        dsimp only
        rw [ev_kd_eq, h1]
        dsimp only
        have hr : r0 ≠ 0 := by have := Nat.le_of_ble_eq_true h2; omega
        rw [ev_mm_r hr]
        rcases h3 with q | q
        · rw [Nat.eq_of_beq_eq_true q]; exact hX
        · rw [Nat.eq_of_beq_eq_true q]; exact hX
      · cases h
    · cases h
  case putfield k =>
    dsimp only [ev_step] at h
    dsimp only [xm_step]
    split at h
    · rename_i x0 r0 S0
      split at h
      · rename_i hb
        simp only [Bool.and_eq_true, Bool.or_eq_true, decide_eq_true_eq] at hb
        obtain ⟨h1, h2, h3⟩ := hb
        cases h
        dsimp only
        rw [ev_kd_eq, h1]
        dsimp only
        have hr : r0 ≠ 0 := by have := Nat.le_of_ble_eq_true h2; omega
        rw [ev_mm_up hr]
        rcases h3 with q | ⟨q, q2⟩
        · rw [Nat.eq_of_beq_eq_true q]; exact hX
        · rw [Nat.eq_of_beq_eq_true q]; exact ⟨q2, hX⟩
      · cases h
    · rename_i x0 r0 S0
      split at h
      · rename_i hb
        simp only [Bool.and_eq_true, Bool.or_eq_true] at hb
        obtain ⟨h1, h2, h3⟩ := hb
        cases h
        dsimp only
        rw [ev_kd_eq, h1]
        dsimp only
        have hr : r0 ≠ 0 := by have := Nat.le_of_ble_eq_true h2; omega
        rw [ev_mm_up hr]
        rcases h3 with q | q
        · rw [Nat.eq_of_beq_eq_true q]; exact hX
        · rw [Nat.eq_of_beq_eq_true q]; exact hX
      · cases h
    · cases h
  case arraylength =>
    dsimp only [ev_step] at h
    dsimp only [xm_step]
    split at h
    · split at h
      · rename_i hb
        cases h
        dsimp only
        rw [ev_kd_eq, hb]
        exact hX
      · cases h
    · cases h
  case iastore =>
    dsimp only [ev_step] at h
    dsimp only [xm_step]
    split at h
    · rename_i x0 j0 r0 S0
      split at h
      · rename_i hb
        simp only [Bool.and_eq_true, decide_eq_true_eq] at hb
        obtain ⟨h1, h2, h3⟩ := hb
        cases h
        dsimp only
        rw [ev_kd_eq, h1]
        dsimp only
        have hr : r0 ≠ 0 := by have := Nat.le_of_ble_eq_true h2; omega
        rw [ev_mm_up hr]
        exact ⟨h3, hX⟩
      · cases h
    · cases h
  case new k =>
    dsimp only [ev_step] at h
    dsimp only [xm_step]
    split at h
    · rename_i hb
      simp only [Bool.and_eq_true, decide_eq_true_eq] at hb
      obtain ⟨h1, h2, h3⟩ := hb
      cases h
      have := Nat.le_of_ble_eq_true h1
      rw [ev_mm_0, show ((n : Nat) : Int).toNat = n by omega, ev_mm_z h3]
      exact ⟨⟨by omega, h2⟩, hX⟩
    · cases h
  case newarray k =>
    dsimp only [ev_step] at h
    dsimp only [xm_step]
    split at h
    · split at h
      · rename_i hb
        simp only [Bool.and_eq_true, decide_eq_true_eq] at hb
        obtain ⟨h1, h2, h4, h5, h3⟩ := hb
        cases h
        have := Nat.le_of_ble_eq_true h1
        dsimp only
        rw [ev_mm_0, show ((n : Nat) : Int).toNat = n by omega, ev_mm_z h3]
        exact ⟨⟨by omega, h2, h4, h5⟩, hX⟩
      · cases h
    · cases h
  case invokevirtual k =>
    dsimp only [ev_step] at h
    obtain ⟨e1, e2, e3, e4, e5, e6, e7⟩ := ev_inv_ok hc h hX
    subst e1
    have e5 := e5.resolve_left (by decide)
    dsimp only [xm_step]
    rw [e3, e4, e5, xm_popk_eq]
    simp only [Bool.true_or, Bool.or_true, Bool.and_true]
    exact e7
  case invokestatic k =>
    dsimp only [ev_step] at h
    obtain ⟨e1, e2, e3, e4, e5, e6, e7⟩ := ev_inv_ok hc h hX
    subst e1
    dsimp only [xm_step]
    split
    · omega
    · omega
    · omega
    · omega
    · rw [e3, e4, xm_popk_eq]
      exact e7
  case invokespecial k =>
    dsimp only [ev_step] at h
    dsimp only [xm_step]
    split at h
    · rename_i hq
      rw [hq]
      dsimp only
      split at h
      · split at h
        · rename_i hb
          cases h
          dsimp only
          rw [hb]
          exact hX
        · cases h
      · cases h
    · rename_i hq
      rw [hq]
      obtain ⟨e1, e2, e3, e4, e5, e6, e7⟩ := ev_inv_ok hc h hX
      subst e1
      have e5 := e5.resolve_left (by decide)
      dsimp only
      rw [e3, e4, e5, xm_popk_eq, ev_mm_0]
      exact ⟨e6 rfl, e7⟩
  case return_ =>
    dsimp only [ev_step] at h
    dsimp only [xm_step]
    split at h
    · cases h
      exact hX
    · cases h
  all_goals exact absurd (show none = some r from h) (by simp)
theorem ev_run_ok (hc : ev_ok call cs) {C : List xm_Ent} : ∀ (f pc : Nat) (L : xm_L) (S : List xm_V) (n : Nat) (m : ev_M) (n' : Nat) (m' : ev_M), ev_run call lim C f pc L S n m = some (n', m') → Q [] (ev_mm n' m') → xm_W cs (some (lim : Int)) C Q pc L S (ev_mm n m)
  | 0, _, _, _, _, _, _, _, h, _ => by cases h
  | f + 1, pc, L, S, n, m, n', m', h, hQ => by
    unfold ev_run at h
    refine xm_W.in (Y := xm_W cs (some (lim : Int)) C Q) (fun _ _ _ _ q => q) ?_
    unfold xm_one
    split at h
    · cases h
    · rename_i e he
      rw [he]
      dsimp only
      split at h
      · cases h
      · rename_i n1 m1 hs
        cases h
        exact ev_step_ok hc hs hQ
      · rename_i pc1 L1 S1 n1 m1 hs
        exact ev_step_ok hc hs (ev_run_ok hc f pc1 L1 S1 n1 m1 n' m' h hQ)
theorem ev_call_ok : ∀ d : Nat, ev_ok (ev_call d) (xm_call false d)
  | 0 => fun a as n m n' m' h => by cases h
  | d + 1 => fun a as n m n' m' h Q hQ => by
    unfold ev_call at h
    split at h
    · rename_i hb
      simp only [Bool.and_eq_true] at hb
      obtain ⟨h1, h2, h3⟩ := hb
      have h1 := Nat.le_of_ble_eq_true h1
      split at h
      · rename_i n1 m1 hr
        split at h
        · rename_i hn
          cases h
          have hn := Nat.eq_of_beq_eq_true hn
          unfold xm_call
          have hble : Nat.ble 900 a = false := by
            cases hq : Nat.ble 900 a with
            | false => rfl
            | true => have := Nat.le_of_ble_eq_true hq; omega
          rw [hble, h2]
          dsimp only
          rw [ev_mm_0]
          refine ⟨by have := Nat.le_of_ble_eq_true h3; omega, ?_⟩
          have e : (n : Int) + ((xm_m a).2.2.2.2.2.2.2 : Nat) = ((n + (xm_m a).2.2.2.2.2.2.2 : Nat) : Int) := by omega
          rw [e]
          refine ev_run_ok (ev_call_ok d) _ _ _ _ _ _ _ _ hr ⟨?_, hQ⟩
          rw [ev_mm_0, hn]
        · cases h
      · cases h
    · cases h
end EV
