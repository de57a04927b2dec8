/-! every call of the pure machine is a contract of the machine's -/
theorem xs_find {pc : Nat} : ∀ {C : List xm_Ent} {e : xm_Ent}, xm_find pc C = some e → e ∈ C ∧ e.1 = pc
  | [], _, h => by cases h
  | q :: C, e, h => by
    unfold xm_find at h
    split at h
    · rename_i hq
      cases h
      exact ⟨List.mem_cons_self, Nat.eq_of_beq_eq_true hq⟩
    · obtain ⟨h1, h2⟩ := xs_find h
      exact ⟨List.mem_cons_of_mem _ h1, h2⟩
theorem xs_pad : ∀ (L : xm_L) (n k : Nat) (v : xm_V), xm_lget (xm_pad L n) k = some v → xm_lget L k = some v
  | L, 0, _, _, h => by cases L <;> exact h
  | [], n + 1, 0, v, h => by cases h
  | [], n + 1, k + 1, v, h => by
    have := xs_pad [] n k v h
    cases this
  | x :: L, n + 1, 0, v, h => h
  | x :: L, n + 1, k + 1, v, h => xs_pad L n k v h
theorem xs_entArgs {b : Nat} {ak : Nat → Nat} : ∀ (as : List xm_V) (i k : Nat) (v : xm_V), xm_lget (xm_ent as) k = some v → (i + k, xs_cv b ak v) ∈ lv_args i (as.map (xs_cv b ak))
  | [], _, _, _, h => by simp [xm_ent, xm_lget] at h
  | .inl x :: as, i, 0, v, h => by
    simp only [xm_ent, xm_lget, Option.some.injEq] at h
    subst h
    exact List.mem_cons_self
  | .inl x :: as, i, k + 1, v, h => by
    have h2 := xs_entArgs (b := b) (ak := ak) as (i + 1) k v h
    rw [show i + 1 + k = i + (k + 1) by omega] at h2
    exact List.mem_cons_of_mem _ h2
  | .inr (.inr x) :: as, i, 0, v, h => by
    simp only [xm_ent, xm_lget, Option.some.injEq] at h
    subst h
    exact List.mem_cons_self
  | .inr (.inr x) :: as, i, k + 1, v, h => by
    have h2 := xs_entArgs (b := b) (ak := ak) as (i + 1) k v h
    rw [show i + 1 + k = i + (k + 1) by omega] at h2
    rw [List.map_cons, lv_args, if_neg (by rw [xs_cvc]; show ¬ (1 = 2); decide)]
    exact List.mem_cons_of_mem _ h2
  | .inr (.inl x) :: as, i, 0, v, h => by
    simp only [xm_ent, xm_lget, Option.some.injEq] at h
    subst h
    exact List.mem_cons_self
  | .inr (.inl x) :: as, i, 1, v, h => by simp [xm_ent, xm_lget] at h
  | .inr (.inl x) :: as, i, k + 2, v, h => by
    have h2 := xs_entArgs (b := b) (ak := ak) as (i + 2) k v h
    rw [show i + 2 + k = i + (k + 2) by omega] at h2
    exact List.mem_cons_of_mem _ h2
theorem xs_slLen {b : Nat} {ak : Nat → Nat} : ∀ (as : List xm_V), (lg_sl (as.map (xs_cv b ak))).length = xm_llen (xm_ent as)
  | [] => rfl
  | v :: as => by
    have h := xs_slLen (b := b) (ak := ak) as
    unfold lg_sl at h ⊢
    rw [List.map_cons, List.flatMap_cons, List.length_append, h]
    rcases v with x | x | x
    · simp [xs_cv, Value.category, xm_ent, xm_llen]; omega
    · simp [xs_cv, Value.category, xm_ent, xm_llen]; omega
    · have := xs_cvc b ak (.inr (.inr x))
      rw [if_neg (by rw [this]; show ¬ (1 = 2); decide)]
      simp [xm_ent, xm_llen]; omega
theorem xs_main (l : Launch) (b : Nat) (ak av : Nat → Nat) (cA : Nat → ClassId) (D : va_G) (ph : Bool) (hext : ∀ (d a : Nat) (as : List xm_V) (M : xm_Mem) (Q : xm_K), a = 901 ∨ a = 902 → xm_call ph d a as M Q → xs_Met l b ak av cA D ph d a as M Q) :
    ∀ (d a : Nat) (as : List xm_V) (M : xm_Mem) (Q : xm_K), (a < 280 ∨ a = 901 ∨ a = 902) → xm_call ph d a as M Q → xs_Met l b ak av cA D ph d a as M Q := by
  intro d
  induction d with
  | zero => intro a as M Q _ h; exact h.elim
  | succ d ih =>
    intro a as M Q ha h
    by_cases hx9 : a = 901 ∨ a = 902
    · exact hext _ _ _ _ _ hx9 h
    have ha : a < 280 := by omega
    have hble : Nat.ble 900 a = false := by
      cases hq : Nat.ble 900 a with
      | false => rfl
      | true => have := Nat.le_of_ble_eq_true hq; omega
    have h2 : xm_llen (xm_ent as) ≤ (xm_m a).2.2.1 ∧ ∃ (lim : Option Int) (Q' : xm_K), (lim = none ↔ ph = true) ∧ (ph = false → lim = some (M 0 0 + (xs_mc ph a : Nat)) ∧ M 0 0 + (xs_mc ph a : Nat) ≤ 83) ∧ (∀ v M', (ph = true → M 0 0 = 83 ∧ M' 0 0 = 83) → Q' v M' → M' 0 0 = M 0 0 + (xs_mc ph a : Nat) ∧ Q v M') ∧ xm_W (xm_call ph d) lim (xm_c a) Q' 0 (xm_pad (xm_ent as) (xm_m a).2.2.1) [] M := by
      unfold xm_call at h
      rw [hble] at h
      dsimp only at h
      split at h
      · rename_i hlen
        refine ⟨Nat.le_of_ble_eq_true hlen, ?_⟩
        cases ph with
        | true => exact ⟨none, Q, ⟨fun _ => rfl, fun _ => rfl⟩, fun q => by (cases q), fun v M' hp hq => ⟨by obtain ⟨e1, e2⟩ := hp rfl; rw [e1, e2]; rfl, hq⟩, h⟩
        | false => exact ⟨_, _, ⟨fun q => by (cases q), fun q => by (cases q)⟩, fun _ => ⟨rfl, h.1⟩, fun v M' hp hq => hq, h.2⟩
      · exact h.elim
    obtain ⟨hlen, lim, Q', hl, hlim, hQ, hW⟩ := h2
    obtain ⟨b1, b2, b3, b4⟩ := xs_mbk ha
    obtain ⟨-, hents⟩ := xs_okm ha
    unfold xs_Met
    have hmm := xs_mm_lt ha
    refine Met.ofW (cc := (xm_m a).2.1) (maxL := (xm_m a).2.2.1) (ret := (xm_m a).2.2.2.1) (by rw [hmm]; exact b2) (ws' := xm_T) (by unfold xs_ws; rw [hmm]) ?_
    intro p e s m args below meth c s₁ B hml hv
    obtain ⟨rfl, hH, hK, hEU, hEH⟩ := hv
    have hts : ∀ w ∈ xs_ws a, w.before _ s = true := atoms_spec (ws := xs_ws a) B.pre
    have hn := (name_of_methodNamed B.named B.method).1
    rw [hmm] at hn
    have hown := findClass_of_methodNamed B.named
    rw [hmm, b1] at hown
    have g0 := hH.2.2.1
    have g1 := hH.2.2.2.1
    have hmc : ph = true → xs_mc ph a = 0 := fun q => by unfold xs_mc; rw [if_pos q]
    have h83 : ph = true → (M 0 0).toNat = 83 := fun q => by rw [(hH.2.2.2.2 q).1]; rfl
    have hnm : (M 0 0).toNat + xs_mc ph a ≤ 83 := by
      cases hp : ph with
      | true =>
        have e1 := hmc hp
        have e2 := h83 hp
        rw [hp] at e1
        omega
      | false =>
        have := (hlim hp).2
        rw [hp] at this
        omega
    have hbs : b < s.heap.size := by
      cases hp : ph with
      | false => have := hH.2.1 hp; omega
      | true =>
        have e2 := h83 hp
        have := (hH.1 0 _ (xs_wl_get (b := b) (ak := ak) (cA := cA) (M := M) (r := 1) (n := (M 0 0).toNat) (by omega) (by omega))).lt
        simp only at this
        omega
    have hC : xs_Cx b ak av cA D a p s m ((as.map (xs_cv b ak)).toArray) meth c := ⟨B.exec, B.bytes, hml, B.returns, fun w hw => hts w (List.mem_cons_of_mem _ hw), hown, hn, B.notSynchronized, hK, hEU, hEH, hbs⟩
    have key := hW (xs_W b ak cA D ph p l e (xs_rm (d + 1) (xs_mc ph a) (xm_sl ((M 0 0).toNat + xs_mc ph a) - xm_sl (M 0 0).toNat)) s m ((as.map (xs_cv b ak)).toArray) below meth c (xm_m a).2.2.1 (M 0 0).toNat (xs_mc ph a) (MQ below (xs_Q b ak cA D ph (fun v M' => M' 0 0 = M 0 0 + (xs_mc ph a : Nat) ∧ Q v M')) ((as.map (xs_cv b ak)).toArray) s (xs_mc ph a) (xm_sl ((M 0 0).toNat + xs_mc ph a) - xm_sl (M 0 0).toNat) (fun q => b < q))) ?_
    · have hle := lv_entry (as.map (xs_cv b ak)) (n := (xm_m a).2.2.1) (by rw [xs_slLen]; exact hlen)
      have hl2 : lv_has ((lg_sl (as.map (xs_cv b ak)) ++ List.replicate ((xm_m a).2.2.1 - (lg_sl (as.map (xs_cv b ak))).length) Slot.unset).toArray) (xm_m a).2.2.1 (xs_as b ak 0 (xm_pad (xm_ent as) (xm_m a).2.2.1)) := by
        refine ⟨hle.1, hle.2.1, fun q hq => hle.2.2 q ?_⟩
        obtain ⟨k, v, h1, h2⟩ := (xs_as_mem _ 0 q).mp hq
        rw [h2]
        exact xs_entArgs as 0 k v (xs_pad _ _ _ _ h1)
      have k := key s.heap [] _ hH va_S.rf hl2 ⟨Nat.le_refl _, by omega⟩
      rw [Nat.sub_self, Nat.sub_self] at k
      rw [lg_entry_eq]
      exact k
    · intro Y pc L S M2 hY hone
      unfold xm_one at hone
      split at hone
      · rename_i ent hf
        obtain ⟨hmem, hpc⟩ := xs_find hf
        obtain ⟨pc2, i, np, x, y, z, T⟩ := ent
        have hpc : pc2 = pc := hpc
        subst hpc
        have hG := List.all_eq_true.mp (List.all_eq_true.mp xs_gok a (List.mem_range.mpr ha)) _ hmem
        refine xs_step (lim := lim) hC ha hl (fun w hw => ?_) hmc rfl hnm h83 hG (hents _ hmem) hY ih (fun v M' hp hq => ?_) hone
        · cases hp : ph with
          | true => rw [hl.mpr hp] at hw; cases hw
          | false =>
            have h1 := (hlim hp).1
            rw [h1] at hw
            have := Option.some.inj hw
            rw [hp] at this
            omega
        · have h1 := hQ v M' (fun q => ⟨(hH.2.2.2.2 q).1, hp q⟩) hq
          exact ⟨h1, fun _ => by rw [h1.1]; omega⟩
      · exact hone.elim
