/-! String.length and String.charAt on the text constants -/
def yj_pci : MethodName := ⟨"jdk/internal/util/Preconditions", "checkIndex", "(IILjava/util/function/BiFunction;)I"⟩
def yj_sci : MethodName := ⟨"java/lang/String", "checkIndex", "(II)V"⟩
def yj_l1 : MethodName := ⟨"java/lang/StringLatin1", "charAt", "([BI)C"⟩
def yj_cod : MethodName := ⟨"java/lang/String", "coder", "()B"⟩
def yj_isl : MethodName := ⟨"java/lang/String", "isLatin1", "()Z"⟩
theorem wj_1 : ∀ w ∈ [Jvm.Cond.code yj_pci prog_20_method_11_code 3 (some .int), .code yj_sci prog_15_method_155_code 2 none, .code yj_l1 prog_16_method_2_code 2 (some .char), .code yj_cod prog_15_method_152_code 1 (some .byte), .code yj_isl prog_15_method_154_code 1 (some .boolean),
  .initialized "jdk/internal/util/Preconditions", .initialized "java/lang/String", .initialized "java/lang/StringLatin1", .methodLink "java/lang/String" 1059 yj_pci, .static yj_pci, .methodLink "java/lang/StringLatin1" 9 yj_sci, .static yj_sci, .methodLink "java/lang/String" 495 yj_l1, .static yj_l1,
  .methodLink "java/lang/String" 335 yj_cod, .instanceMethod yj_cod, .selects "java/lang/String" yj_cod yj_cod, .methodLink "java/lang/String" 492 yj_isl, .instanceMethod yj_isl, .selects "java/lang/String" yj_isl yj_isl,
  .fieldLink "java/lang/String" 38 "java/lang/String" "COMPACT_STRINGS" "Z", .fieldLink "java/lang/String" 15 "java/lang/String" "coder" "B", .fieldLink "java/lang/String" 9 "java/lang/String" "value" "[B", .fieldLink "java/lang/String" 1053 "jdk/internal/util/Preconditions" "SIOOBE_FORMATTER" "Ljava/util/function/BiFunction;"], w ∈ xm_T := by decide +kernel
/-- what is so of each letter of each text constant -/
theorem jk_let : ∀ r : Nat, r < 6 → ∀ j : Nat, j < xm_sln.getD r 0 → ¬ ((Int32.ofInt (j : Int)) < 0 ∨ xm_sln.getD r 0 ≤ (Int32.ofInt (j : Int)).toNatClampNeg) ∧ (Int32.ofInt (j : Int)).toNatClampNeg = j ∧ ¬ Int32.ofInt (j : Int) < 0 ∧ Int32.ofInt (j : Int) < Int32.ofNat (xm_sln.getD r 0) ∧ (((((xs_by.getD r []).getD j 0) &&& 255).toUInt32 % 65536).toInt32 = Int32.ofInt ((xm_sby.getD r []).getD j 0)) ∧ 0 ≤ (xm_sby.getD r []).getD j 0 ∧ (xm_sby.getD r []).getD j 0 < 65536 := by decide +kernel
theorem jk_lens : ∀ r : Nat, r < 6 → Int32.ofNat (xm_sln.getD r 0) >>> ((0 : Int32) &&& 31) = Int32.ofInt ((xm_sln.getD r 0 : Nat) : Int) := by decide +kernel
section JKT
variable {l : Launch} {b : Nat} {ak av : Nat → Nat} {d : Nat}
theorem jk_ci {i n : Int32} {f : Value} (hf : f = .null ∨ ∃ q, f = .ref q) (h0 : ¬ i < 0) (h1 : i < n) : Met l yj_pci (Jvm.Cond.code yj_pci prog_20_method_11_code 3 (some .int) :: xm_T) (xs_rm d 0 0) (va_Pc [.int i, .int n, f] (jk_B b ak av)) (jk_Q b (some (.int i))) 0 0 (fun q => b < q) := by
  refine jk_met (by decide) (by rcases hf with rfl | ⟨q, rfl⟩ <;> exact Nat.le_refl _) ?_
  intro p e R s m below meth c ls hR ⟨hx, hb, hml, hr, hts, hown, hlk, hEH⟩ hl
  have hl : lv_has ls 3 ((0, .int i) :: (1, .int n) :: lv_args 2 [f]) := hl
  refine lv_iload_n (i := 0) (x := i) hx hb (show decode prog_20_method_11_code 0 = .ok (.iload_n 0, 1) by decide +kernel) rfl (lv_at hl 0 rfl) ?_
  refine lv_if_lt (tgt := 9) hx hb (show decode prog_20_method_11_code 1 = .ok (.ifCond .lt 8, 3) by decide +kernel) (by decide) (fun q => absurd q h0) (fun _ => ?_)
  refine lv_iload_n (i := 0) (x := i) hx hb (show decode prog_20_method_11_code 4 = .ok (.iload_n 0, 1) by decide +kernel) rfl (lv_at hl 0 rfl) ?_
  refine lv_iload_n (i := 1) (x := n) hx hb (show decode prog_20_method_11_code 5 = .ok (.iload_n 1, 1) by decide +kernel) rfl (lv_at hl 1 rfl) ?_
  refine lv_icmp_lt (tgt := 16) hx hb (show decode prog_20_method_11_code 6 = .ok (.if_icmp .lt 10, 3) by decide +kernel) (by decide) (fun _ => ?_) (fun q => absurd h1 q)
  refine lv_iload_n (i := 0) (x := i) hx hb (show decode prog_20_method_11_code 16 = .ok (.iload_n 0, 1) by decide +kernel) rfl (lv_at hl 0 rfl) ?_
  exact W.iret hx hb hr (fun t ht hW => ⟨rfl, ht, va_S.rf.F ht⟩) (fun q h => by simp at h) (show decode prog_20_method_11_code 17 = .ok (.ireturn, 1) by decide +kernel) hlk
theorem jk_sci {i n : Int32} (h0 : ¬ i < 0) (h1 : i < n) : Met l yj_sci (Jvm.Cond.code yj_sci prog_15_method_155_code 2 none :: xm_T) (xs_rm (d + 1) 0 0) (va_Pc [.int i, .int n] (jk_B b ak av)) (jk_Q b none) 0 0 (fun q => b < q) := by
  refine jk_met (by decide) (Nat.le_refl _) ?_
  intro p e R s m below meth c ls hR ⟨hx, hb, hml, hr, hts, hown, hlk, hEH⟩ hl
  subst hR
  have hown : s.vm.findClass "java/lang/String" = some m.cls := hown
  have hl : lv_has ls 2 [(0, .int i), (1, .int n)] := hl
  have hS : va_S (fun q => b < q) s.heap s.heap [] := va_S.rf
  refine lv_iload_n (i := 0) (x := i) hx hb (show decode prog_15_method_155_code 0 = .ok (.iload_n 0, 1) by decide +kernel) rfl (lv_at hl 0 rfl) ?_
  refine lv_iload_n (i := 1) (x := n) hx hb (show decode prog_15_method_155_code 1 = .ok (.iload_n 1, 1) by decide +kernel) rfl (lv_at hl 1 rfl) ?_
  have go : ∀ f : Value, (f = .null ∨ ∃ q, f = .ref q) → W p l e (headSpec (Jvm.Cond.code yj_sci prog_15_method_155_code 2 none :: xm_T) (xs_rm (d + 1) 0 0)).room s m #[.int i, .int n] below meth c s.heap [] 0 0 (MQ below (jk_Q b none) #[.int i, .int n] s 0 0 (fun q => b < q)) (F0 m 5 ls [f, .int n, .int i]) := fun f hf => by
    refine jk_after (va_runS (As := [.int i, .int n, f]) (rest := []) ⟨hx, hb, hml, hown, hts⟩ (jk_ci (d := d) (b := b) (ak := ak) (av := av) hf h0 h1) ⟨callB_of 3 hts (jk_good (wj_1 _ (by simp))) rfl rfl rfl (hts _ (wj_1 _ (by simp [yj_pci]))) (hts _ (wj_1 _ (by simp))) ⟨by decide, by decide, by decide +kernel⟩ ⟨Nat.le_refl _, by show 8 + (3 + 11) + 37 * d ≤ 37 * (d + 1); omega⟩, hts _ (wj_1 _ (by simp))⟩ ⟨jk_blind, fun U hU hW => ⟨rfl, jk_pre hEH hS hU hW⟩⟩ rfl rfl hl.1 rfl (lv_room (Nat.zero_le _)) (show decode prog_15_method_155_code 5 = .ok (.invokestatic 1059, 3) by decide +kernel) ⟨Nat.le_refl _, Nat.le_refl _⟩) hS (fun locs1 hS => ?_)
    refine lv_pop (va := .int i) hx hb (show decode prog_15_method_155_code 8 = .ok (.pop, 1) by decide +kernel) rfl ?_
    exact W.vret hx hb hr (fun t ht hW => ⟨rfl, ht, hS.F ht⟩) hS.2.2 (show decode prog_15_method_155_code 9 = .ok (.return_, 1) by decide +kernel) hlk
  rcases hEH.2.2 with hZ | ⟨t, hZ⟩
  · exact va_gets hx hb hZ hS hown (hts _ (wj_1 _ (by simp))) (fun _ h => h) (show decode prog_15_method_155_code 2 = .ok (.getstatic 1053, 3) by decide +kernel) (go .null (Or.inl rfl))
  · exact va_gets hx hb hZ hS hown (hts _ (wj_1 _ (by simp))) (fun _ h => h) (show decode prog_15_method_155_code 2 = .ok (.getstatic 1053, 3) by decide +kernel) (go (.ref t) (Or.inr ⟨t, rfl⟩))
theorem jk_l1 {r j : Nat} (hr6 : r < 6) (hj : j < xm_sln.getD r 0) : Met l yj_l1 (Jvm.Cond.code yj_l1 prog_16_method_2_code 2 (some .char) :: xm_T) (xs_rm (d + 2) 0 0) (va_Pc [.ref (av r), .int (Int32.ofInt (j : Int))] (jk_B b ak av)) (jk_Q b (some (.int (Int32.ofInt ((xm_sby.getD r []).getD j 0))))) 0 0 (fun q => b < q) := by
  refine jk_met (by decide) (Nat.le_refl _) ?_
  intro p e R s m below meth c ls hR ⟨hx, hb, hml, hr, hts, hown, hlk, hEH⟩ hl
  subst hR
  have hown : s.vm.findClass "java/lang/StringLatin1" = some m.cls := hown
  obtain ⟨f1, f2, f3, f4, f5, f6⟩ := jk_let r hr6 j hj
  generalize Int32.ofInt (j : Int) = i at *
  have hl : lv_has ls 2 [(0, .ref (av r)), (1, .int i)] := hl
  have hS : va_S (fun q => b < q) s.heap s.heap [] := va_S.rf
  have hT := (hEH.1.1 r hr6).2.2.2
  refine lv_iload_n (i := 1) (x := i) hx hb (show decode prog_16_method_2_code 0 = .ok (.iload_n 1, 1) by decide +kernel) rfl (lv_at hl 1 rfl) ?_
  refine lv_aload_n (i := 0) (x := av r) hx hb (show decode prog_16_method_2_code 1 = .ok (.aload_n 0, 1) by decide +kernel) rfl (lv_at hl 0 rfl) ?_
  refine va_tlen hx hb hT hS (v := Int32.ofNat (xm_sln.getD r 0)) rfl (show decode prog_16_method_2_code 2 = .ok (.arraylength, 1) by decide +kernel) ?_
  refine jk_after (va_runS (As := [.int i, .int (Int32.ofNat (xm_sln.getD r 0))]) (rest := []) ⟨hx, hb, hml, hown, hts⟩ (jk_sci (d := d) (b := b) (ak := ak) (av := av) f3 f4) ⟨callB_of 2 hts (jk_good (wj_1 _ (by simp))) rfl rfl rfl (hts _ (wj_1 _ (by simp [yj_sci]))) (hts _ (wj_1 _ (by simp))) ⟨by decide, by decide, by decide +kernel⟩ ⟨Nat.le_refl _, by show 8 + (2 + 11) + 37 * (d + 1) ≤ 37 * (d + 2); omega⟩, hts _ (wj_1 _ (by simp))⟩ ⟨jk_blind, fun U hU hW => ⟨rfl, jk_pre hEH hS hU hW⟩⟩ rfl rfl hl.1 rfl (lv_room (Nat.zero_le _)) (show decode prog_16_method_2_code 3 = .ok (.invokestatic 9, 3) by decide +kernel) ⟨Nat.le_refl _, Nat.le_refl _⟩) hS (fun locs1 hS => ?_)
  refine lv_aload_n (i := 0) (x := av r) hx hb (show decode prog_16_method_2_code 6 = .ok (.aload_n 0, 1) by decide +kernel) rfl (lv_at hl 0 rfl) ?_
  refine lv_iload_n (i := 1) (x := i) hx hb (show decode prog_16_method_2_code 7 = .ok (.iload_n 1, 1) by decide +kernel) rfl (lv_at hl 1 rfl) ?_
  refine va_tb hx hb hT hS f1 (v := .int ((xs_by.getD r []).getD j 0)) (by rw [f2]) (show decode prog_16_method_2_code 8 = .ok (.baload, 1) by decide +kernel) ?_
  refine lv_sipush (v := 255) hx hb (show decode prog_16_method_2_code 9 = .ok (.sipush 255, 3) by decide +kernel) (by decide) ?_
  refine lv_iand hx hb (show decode prog_16_method_2_code 12 = .ok (.iand, 1) by decide +kernel) ?_
  refine lv_i2c hx hb (show decode prog_16_method_2_code 13 = .ok (.i2c, 1) by decide +kernel) f5 ?_
  exact W.zret hx hb hr (xs_narC f6) (fun t ht hW => ⟨rfl, ht, hS.F ht⟩) hS.2.2 (show decode prog_16_method_2_code 14 = .ok (.ireturn, 1) by decide +kernel) hlk
theorem jk_cod {r : Nat} (hr6 : r < 6) : Met l yj_cod (Jvm.Cond.code yj_cod prog_15_method_152_code 1 (some .byte) :: xm_T) (xs_rm d 0 0) (va_Pc [.ref (ak r)] (jk_B b ak av)) (jk_Q b (some (.int 0))) 0 0 (fun q => b < q) := by
  refine jk_met (by decide) (Nat.le_refl _) ?_
  intro p e R s m below meth c ls hR ⟨hx, hb, hml, hr, hts, hown, hlk, hEH⟩ hl
  have hown : s.vm.findClass "java/lang/String" = some m.cls := hown
  have hl : lv_has ls 1 [(0, .ref (ak r))] := hl
  have hS : va_S (fun q => b < q) s.heap s.heap [] := va_S.rf
  refine va_gets hx hb hEH.2.1 hS hown (hts _ (wj_1 _ (by simp))) (fun _ h => h) (show decode prog_15_method_152_code 0 = .ok (.getstatic 38, 3) by decide +kernel) ?_
  refine lv_if_eq (tgt := 13) hx hb (show decode prog_15_method_152_code 3 = .ok (.ifCond .eq 10, 3) by decide +kernel) (by decide) (fun q => absurd q (by decide)) (fun _ => ?_)
  refine lv_aload_n (i := 0) (x := ak r) hx hb (show decode prog_15_method_152_code 6 = .ok (.aload_n 0, 1) by decide +kernel) rfl (lv_at hl 0 rfl) ?_
  refine vk_getf hx hb (hEH.1.1 r hr6).2.1 hS hown (hts _ (wj_1 _ (by simp))) (fun _ h => h) (show decode prog_15_method_152_code 7 = .ok (.getfield 15, 3) by decide +kernel) ?_
  refine lv_goto (tgt := 14) hx hb (show decode prog_15_method_152_code 10 = .ok (.goto 4, 3) by decide +kernel) (by decide) ?_
  exact W.zret hx hb hr (by rfl) (fun t ht hW => ⟨rfl, ht, hS.F ht⟩) hS.2.2 (show decode prog_15_method_152_code 14 = .ok (.ireturn, 1) by decide +kernel) hlk
theorem jk_isl {r : Nat} (hr6 : r < 6) : Met l yj_isl (Jvm.Cond.code yj_isl prog_15_method_154_code 1 (some .boolean) :: xm_T) (xs_rm d 0 0) (va_Pc [.ref (ak r)] (jk_B b ak av)) (jk_Q b (some (.int 1))) 0 0 (fun q => b < q) := by
  refine jk_met (by decide) (Nat.le_refl _) ?_
  intro p e R s m below meth c ls hR ⟨hx, hb, hml, hr, hts, hown, hlk, hEH⟩ hl
  have hown : s.vm.findClass "java/lang/String" = some m.cls := hown
  have hl : lv_has ls 1 [(0, .ref (ak r))] := hl
  have hS : va_S (fun q => b < q) s.heap s.heap [] := va_S.rf
  refine va_gets hx hb hEH.2.1 hS hown (hts _ (wj_1 _ (by simp))) (fun _ h => h) (show decode prog_15_method_154_code 0 = .ok (.getstatic 38, 3) by decide +kernel) ?_
  refine lv_if_eq (tgt := 17) hx hb (show decode prog_15_method_154_code 3 = .ok (.ifCond .eq 14, 3) by decide +kernel) (by decide) (fun q => absurd q (by decide)) (fun _ => ?_)
  refine lv_aload_n (i := 0) (x := ak r) hx hb (show decode prog_15_method_154_code 6 = .ok (.aload_n 0, 1) by decide +kernel) rfl (lv_at hl 0 rfl) ?_
  refine vk_getf hx hb (hEH.1.1 r hr6).2.1 hS hown (hts _ (wj_1 _ (by simp))) (fun _ h => h) (show decode prog_15_method_154_code 7 = .ok (.getfield 15, 3) by decide +kernel) ?_
  refine lv_if_ne (tgt := 17) hx hb (show decode prog_15_method_154_code 10 = .ok (.ifCond .ne 7, 3) by decide +kernel) (by decide) (fun q => absurd rfl q) (fun _ => ?_)
  refine lv_iconst (v := 1) hx hb (show decode prog_15_method_154_code 13 = .ok (.iconst 1, 1) by decide +kernel) (by decide) ?_
  refine lv_goto (tgt := 18) hx hb (show decode prog_15_method_154_code 14 = .ok (.goto 4, 3) by decide +kernel) (by decide) ?_
  exact W.zret hx hb hr (by rfl) (fun t ht hW => ⟨rfl, ht, hS.F ht⟩) hS.2.2 (show decode prog_15_method_154_code 18 = .ok (.ireturn, 1) by decide +kernel) hlk
end JKT
