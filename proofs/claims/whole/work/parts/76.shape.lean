/-! what kind a call's answer is of -/
def sh_B (k : Nat) (e : xm_Ent) : Bool := match e.2.1 with
  | .ireturn => Nat.beq k 0
  | .lreturn => Nat.beq k 1
  | .areturn => false
  | .return_ => false
  | _ => true
def sh_v (k : Nat) (v : List xm_V) : Prop := (k = 0 ∧ ∃ x, v = [.inl x]) ∨ (k = 1 ∧ ∃ x, v = [.inr (.inl x)])
section SH
variable {cs : xm_C} {lim : Option Int} {Q : xm_K} {X : xm_X} {k : Nat}
set_option maxHeartbeats 1000000 in
theorem sh_step {e : xm_Ent} {L : xm_L} {S : List xm_V} {M : xm_Mem} (h : sh_B k e = true) (hs : xm_step cs lim Q X e L S M) : xm_step cs lim (fun v M => Q v M ∧ sh_v k v) X e L S M := by
  obtain ⟨pc, i, np, a, b, z, T⟩ := e
  cases i
  case ireturn =>
    have h : Nat.beq k 0 = true := h
    have hk := Nat.eq_of_beq_eq_true h
    dsimp only [xm_step] at hs ⊢
    split at hs
    · split at hs
      · exact ⟨hs, Or.inl ⟨hk, _, rfl⟩⟩
      · exact ⟨hs.1, hs.2, Or.inl ⟨hk, _, rfl⟩⟩
    · exact hs.elim
  case lreturn =>
    have h : Nat.beq k 1 = true := h
    have hk := Nat.eq_of_beq_eq_true h
    dsimp only [xm_step] at hs ⊢
    split at hs
    · exact ⟨hs, Or.inr ⟨hk, _, rfl⟩⟩
    · exact hs.elim
  case areturn => exact absurd (show false = true from h) (by decide)
  case return_ => exact absurd (show false = true from h) (by decide)
  all_goals exact hs
theorem sh_W {C : List xm_Ent} {pc : Nat} {L : xm_L} {S : List xm_V} {M : xm_Mem} (hC : ∀ e ∈ C, sh_B k e = true) (h : xm_W cs lim C Q pc L S M) : xm_W cs lim C (fun v M => Q v M ∧ sh_v k v) pc L S M := by
  refine h _ (fun Y pc L S M hY hone => xm_W.in hY ?_)
  unfold xm_one at hone ⊢
  split at hone
  · rename_i e he
    exact sh_step (hC e (xs_find he).1) hone
  · exact hone.elim
theorem sh_call {d a : Nat} {as : List xm_V} {M : xm_Mem} (ha : a < 280) (hC : (xm_c a).all (sh_B k) = true) (h : xm_call true (d + 1) a as M Q) : xm_call true (d + 1) a as M (fun v M => Q v M ∧ sh_v k v) := by
  have hble : Nat.ble 900 a = false := by
    cases hq : Nat.ble 900 a with
    | false => rfl
    | true => have := Nat.le_of_ble_eq_true hq; omega
  unfold xm_call at h ⊢
  rw [hble] at h ⊢
  dsimp only at h ⊢
  split at h
  · exact sh_W (fun e he => List.all_eq_true.mp hC e he) h
  · exact h.elim
end SH
