/-! length and charAt of the text constants, as the pure machine has them -/
section HX
variable {l : Launch} {b : Nat} {ak av : Nat → Nat} {cA : Nat → ClassId} {D : va_G} {ph : Bool}
theorem jk_ak {r : Nat} (h : 1000 ≤ r) : xs_cvr b ak r = .ref (ak (r - 1000)) := by
  unfold xs_cvr
  rw [if_neg (by omega), if_neg (by omega)]
theorem hx_mc (a : Nat) (ha : a = 901 ∨ a = 902) : xs_mc ph a = 0 := by
  rcases ha with rfl | rfl <;> cases ph <;> rfl
theorem hx_901 {d r : Nat} {M : xm_Mem} {Q : xm_K} (hr : 1000 ≤ r ∧ r < 1006) (hQ : Q [.inl ((xm_sln.getD (r - 1000) 0 : Nat) : Int)] M) : xs_Met l b ak av cA D ph (d + 1) 901 [.inr (.inr r)] M Q := by
  unfold xs_Met
  rw [hx_mc 901 (Or.inl rfl), show (M 0 0).toNat + 0 = (M 0 0).toNat from rfl, Nat.sub_self]
  have ev : ([.inr (.inr r)] : List xm_V).map (xs_cv b ak) = [.ref (ak (r - 1000))] := by
    show [xs_cvr b ak r] = _
    rw [jk_ak hr.1]
  rw [ev]
  have hr6 : r - 1000 < 6 := by omega
  generalize r - 1000 = i at *
  refine Met.ofW (cc := prog_15_method_54_code) (maxL := 1) (ret := some .int) (by decide) (ws' := xm_T) rfl ?_
  intro p e s m args below meth c s₁ B hml hv
  obtain ⟨rfl, hH, hK, hEU, hEH⟩ := hv
  have hts : ∀ w ∈ xs_ws 901, w.before _ s = true := atoms_spec (ws := xs_ws 901) B.pre
  have hts : ∀ w ∈ xm_T, w.before #[Value.ref (ak i)] s = true := fun w hw => hts w (List.mem_cons_of_mem _ hw)
  have hown : s.vm.findClass "java/lang/String" = some m.cls := findClass_of_methodNamed B.named
  have hx := B.exec
  have hb : c.code = prog_15_method_54_code := B.bytes
  have hre : meth.sig.returnType = some .int := B.returns
  have hlk := B.notSynchronized
  rw [lg_entry_eq]
  have hl : lv_has ((lg_sl [Value.ref (ak i)] ++ List.replicate (1 - (lg_sl [Value.ref (ak i)]).length) Slot.unset).toArray) 1 [(0, .ref (ak i))] := lv_entry [Value.ref (ak i)] (Nat.le_refl _)
  generalize (lg_sl [Value.ref (ak i)] ++ List.replicate (1 - (lg_sl [Value.ref (ak i)]).length) Slot.unset).toArray = ls at hl ⊢
  have hS : va_S (fun q => b < q) s.heap s.heap [] := va_S.rf
  refine lv_aload_n (i := 0) (x := ak i) hx hb (show decode prog_15_method_54_code 0 = .ok (.aload_n 0, 1) by decide +kernel) rfl (lv_at hl 0 rfl) ?_
  refine vk_getf hx hb (hEH.1.1 i hr6).2.2.1 hS hown (hts _ (wj_1 (.fieldLink "java/lang/String" 9 "java/lang/String" "value" "[B") (by simp))) (fun _ h => h) (show decode prog_15_method_54_code 1 = .ok (.getfield 9, 3) by decide +kernel) ?_
  refine va_tlen hx hb (hEH.1.1 i hr6).2.2.2 hS (v := Int32.ofNat (xm_sln.getD i 0)) rfl (show decode prog_15_method_54_code 4 = .ok (.arraylength, 1) by decide +kernel) ?_
  refine lv_aload_n (i := 0) (x := ak i) hx hb (show decode prog_15_method_54_code 5 = .ok (.aload_n 0, 1) by decide +kernel) rfl (lv_at hl 0 rfl) ?_
  refine jk_after (va_runV (C := "java/lang/String") (b := ak i) (As := []) (rest := [.int (Int32.ofNat (xm_sln.getD i 0))]) ⟨hx, hb, hml, hown, hts⟩ (jk_cod (d := d) (b := b) (ak := ak) (av := av) hr6) ⟨callB_of 0 hts (jk_good (wj_1 _ (by simp))) rfl rfl rfl (hts _ (wj_1 _ (by simp [yj_cod]))) (hts _ (wj_1 (.methodLink "java/lang/String" 335 yj_cod) (by simp))) ⟨by decide, by decide, by decide +kernel⟩ ⟨Nat.le_refl _, by show 8 + (1 + 11) + 37 * d ≤ 37 * (d + 1); omega⟩, hts _ (wj_1 _ (by simp)), hts _ (wj_1 _ (by simp))⟩ ⟨jk_blind, vk_recv hEH.1 hr6 hS, fun U hU hW => ⟨rfl, jk_pre hEH hS hU hW⟩⟩ rfl rfl hl.1 rfl (lv_room (by show 1 ≤ 8; omega)) (show decode prog_15_method_54_code 6 = .ok (.invokevirtual 335, 3) by decide +kernel) ⟨Nat.le_refl _, Nat.le_refl _⟩) hS (fun locs1 hS => ?_)
  refine lv_ishr hx hb (show decode prog_15_method_54_code 9 = .ok (.ishr, 1) by decide +kernel) ?_
  rw [jk_lens i hr6]
  exact W.iret hx hb hre (fun t ht hW => ⟨⟨[.inl ((xm_sln.getD i 0 : Nat) : Int)], M, ⟨by omega, hQ⟩, rfl, Or.inr ⟨_, rfl⟩, by rw [ht]; exact hH⟩, hS.F ht⟩) hS.2.2 (show decode prog_15_method_54_code 10 = .ok (.ireturn, 1) by decide +kernel) hlk
theorem hx_902 {d r j : Nat} {M : xm_Mem} {Q : xm_K} (hr : 1000 ≤ r ∧ r < 1006) (hj : j < xm_sln.getD (r - 1000) 0) (hQ : Q [.inl ((xm_sby.getD (r - 1000) []).getD j 0)] M) : xs_Met l b ak av cA D ph (d + 3) 902 [.inr (.inr r), .inl (j : Int)] M Q := by
  unfold xs_Met
  rw [hx_mc 902 (Or.inr rfl), show (M 0 0).toNat + 0 = (M 0 0).toNat from rfl, Nat.sub_self]
  have ev : ([.inr (.inr r), .inl (j : Int)] : List xm_V).map (xs_cv b ak) = [.ref (ak (r - 1000)), .int (Int32.ofInt (j : Int))] := by
    show [xs_cvr b ak r, _] = _
    rw [jk_ak hr.1]
    rfl
  rw [ev]
  have hr6 : r - 1000 < 6 := by omega
  generalize r - 1000 = i at *
  refine Met.ofW (cc := prog_15_method_56_code) (maxL := 2) (ret := some .char) (by decide) (ws' := xm_T) rfl ?_
  intro p e s m args below meth c s₁ B hml hv
  obtain ⟨rfl, hH, hK, hEU, hEH⟩ := hv
  have hts : ∀ w ∈ xs_ws 902, w.before _ s = true := atoms_spec (ws := xs_ws 902) B.pre
  have hts : ∀ w ∈ xm_T, w.before #[Value.ref (ak i), .int (Int32.ofInt (j : Int))] s = true := fun w hw => hts w (List.mem_cons_of_mem _ hw)
  have hown : s.vm.findClass "java/lang/String" = some m.cls := findClass_of_methodNamed B.named
  have hx := B.exec
  have hb : c.code = prog_15_method_56_code := B.bytes
  have hre : meth.sig.returnType = some .char := B.returns
  have hlk := B.notSynchronized
  obtain ⟨f1, f2, f3, f4, f5, f6⟩ := jk_let i hr6 j hj
  rw [lg_entry_eq]
  have hl : lv_has ((lg_sl [Value.ref (ak i), .int (Int32.ofInt (j : Int))] ++ List.replicate (2 - (lg_sl [Value.ref (ak i), .int (Int32.ofInt (j : Int))]).length) Slot.unset).toArray) 2 [(0, .ref (ak i)), (1, .int (Int32.ofInt (j : Int)))] := lv_entry [Value.ref (ak i), .int (Int32.ofInt (j : Int))] (Nat.le_refl _)
  generalize (lg_sl [Value.ref (ak i), .int (Int32.ofInt (j : Int))] ++ List.replicate (2 - (lg_sl [Value.ref (ak i), .int (Int32.ofInt (j : Int))]).length) Slot.unset).toArray = ls at hl ⊢
  have hS : va_S (fun q => b < q) s.heap s.heap [] := va_S.rf
  refine lv_aload_n (i := 0) (x := ak i) hx hb (show decode prog_15_method_56_code 0 = .ok (.aload_n 0, 1) by decide +kernel) rfl (lv_at hl 0 rfl) ?_
  refine jk_after (va_runV (C := "java/lang/String") (b := ak i) (As := []) (rest := []) ⟨hx, hb, hml, hown, hts⟩ (jk_isl (d := d + 2) (b := b) (ak := ak) (av := av) hr6) ⟨callB_of 0 hts (jk_good (wj_1 _ (by simp))) rfl rfl rfl (hts _ (wj_1 _ (by simp [yj_isl]))) (hts _ (wj_1 (.methodLink "java/lang/String" 492 yj_isl) (by simp))) ⟨by decide, by decide, by decide +kernel⟩ ⟨Nat.le_refl _, by show 8 + (1 + 11) + 37 * (d + 2) ≤ 37 * (d + 3); omega⟩, hts _ (wj_1 _ (by simp)), hts _ (wj_1 _ (by simp))⟩ ⟨jk_blind, vk_recv hEH.1 hr6 hS, fun U hU hW => ⟨rfl, jk_pre hEH hS hU hW⟩⟩ rfl rfl hl.1 rfl (lv_room (by decide)) (show decode prog_15_method_56_code 1 = .ok (.invokevirtual 492, 3) by decide +kernel) ⟨Nat.le_refl _, Nat.le_refl _⟩) hS (fun locs1 hS => ?_)
  refine lv_if_eq (tgt := 16) hx hb (show decode prog_15_method_56_code 4 = .ok (.ifCond .eq 12, 3) by decide +kernel) (by decide) (fun q => absurd q (by decide)) (fun _ => ?_)
  refine lv_aload_n (i := 0) (x := ak i) hx hb (show decode prog_15_method_56_code 7 = .ok (.aload_n 0, 1) by decide +kernel) rfl (lv_at hl 0 rfl) ?_
  refine vk_getf hx hb (hEH.1.1 i hr6).2.2.1 hS hown (hts _ (wj_1 (.fieldLink "java/lang/String" 9 "java/lang/String" "value" "[B") (by simp))) (fun _ h => h) (show decode prog_15_method_56_code 8 = .ok (.getfield 9, 3) by decide +kernel) ?_
  refine lv_iload_n (i := 1) (x := Int32.ofInt (j : Int)) hx hb (show decode prog_15_method_56_code 11 = .ok (.iload_n 1, 1) by decide +kernel) rfl (lv_at hl 1 rfl) ?_
  refine jk_after (va_runS (As := [.ref (av i), .int (Int32.ofInt (j : Int))]) (rest := []) ⟨hx, hb, hml, hown, hts⟩ (jk_l1 (d := d) (b := b) (ak := ak) (av := av) hr6 hj) ⟨callB_of 2 hts (jk_good (wj_1 _ (by simp))) rfl rfl rfl (hts _ (wj_1 _ (by simp [yj_l1]))) (hts _ (wj_1 (.methodLink "java/lang/String" 495 yj_l1) (by simp))) ⟨by decide, by decide, by decide +kernel⟩ ⟨Nat.le_refl _, by show 8 + (2 + 11) + 37 * (d + 2) ≤ 37 * (d + 3); omega⟩, hts _ (wj_1 _ (by simp))⟩ ⟨jk_blind, fun U hU hW => ⟨rfl, jk_pre hEH hS hU hW⟩⟩ rfl rfl hl.1 rfl (lv_room (Nat.zero_le _)) (show decode prog_15_method_56_code 12 = .ok (.invokestatic 495, 3) by decide +kernel) ⟨Nat.le_refl _, Nat.le_refl _⟩) hS (fun locs2 hS => ?_)
  exact W.zret hx hb hre (xs_narC f6) (fun t ht hW => ⟨⟨[.inl ((xm_sby.getD i []).getD j 0)], M, ⟨by omega, hQ⟩, rfl, Or.inr ⟨_, rfl⟩, by rw [ht]; exact hH⟩, hS.F ht⟩) hS.2.2 (show decode prog_15_method_56_code 15 = .ok (.ireturn, 1) by decide +kernel) hlk
theorem xs_hext : ∀ (d a : Nat) (as : List xm_V) (M : xm_Mem) (Q : xm_K), a = 901 ∨ a = 902 → xm_call ph d a as M Q → xs_Met l b ak av cA D ph d a as M Q := by
  intro d a as M Q ha h
  cases d with
  | zero => exact h.elim
  | succ d =>
    rcases ha with rfl | rfl
    · obtain ⟨r, rfl, ⟨h1, h2, h3⟩, hQ⟩ := xs_cx1 h
      exact hx_901 ⟨h2, h3⟩ hQ
    · obtain ⟨r, j, rfl, ⟨h1, h2, h3, h4, h5⟩, hQ⟩ := xs_cx2 h
      obtain ⟨z, rfl⟩ : ∃ z : Nat, d = z + 2 := ⟨d - 2, by omega⟩
      have ej : j = ((j.toNat : Nat) : Int) := by omega
      rw [ej]
      exact hx_902 ⟨h2, h3⟩ (by omega) hQ
theorem xs_all : ∀ (d a : Nat) (as : List xm_V) (M : xm_Mem) (Q : xm_K), a < 280 → xm_call ph d a as M Q → xs_Met l b ak av cA D ph d a as M Q := fun d a as M Q ha h => xs_main l b ak av cA D ph xs_hext d a as M Q (Or.inl ha) h
end HX
