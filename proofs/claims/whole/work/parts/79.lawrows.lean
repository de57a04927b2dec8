/-! the law's instructions, one by one -/
section LW
variable {p : Program} {l : Launch} {e : Env} {s : State} {m : MethodId} {below : List Frame} {meth : Method} {c : Code} {H : Heap} {locs : List Loc} {cells slots : Nat} {Qf : State → Prop} {b0 L : Nat} {xs : Nat → Int32} {b : Nat} {ak av : Nat → Nat} {cA : Nat → ClassId} {D : va_G} {ls : Array Slot} {M : xm_Mem} {pc : Nat}
theorem lw_run {k a r n kd : Nat} {as' : List xm_V} {Q : xm_K} {rest : List Value} {lv : List (Nat × Value)} (K : lw_K p s m meth c b0 L xs b ak av cA D) (hq : (k, a, r, n, kd) ∈ lw_tab) (hn : as'.length = n) (hd : decode code pc = .ok (.invokevirtual k, 3)) (hH : xs_H b ak cA D true M H) (hS : va_S (fun q => b < q) s.heap H locs) (hl : lv_has ls 4 lv) (hcat : (rest.map fun v => v.category).sum ≤ 8) (hf : cells ≤ 83 ∧ slots ≤ 31141)
    (hcall : xm_call true 11 a (.inr (.inr r) :: as') M Q)
    (go : ∀ (v : List xm_V) (M' : xm_Mem) (H1 : Heap) (locs1 : List Loc), Q v M' → sh_v kd v → xs_H b ak cA D true M' H1 → va_S (fun q => b < q) s.heap H1 locs1 → W p l e room_1 s m #[Value.ref b0] below meth c H1 locs1 cells slots Qf (F0 m (pc + 3) ls (v.map (xs_cv b ak) ++ rest))) :
    W p l e room_1 s m #[Value.ref b0] below meth c H locs cells slots Qf (F0 m pc ls ((as'.map (xs_cv b ak)).reverse ++ .ref (b + r) :: rest)) := by
  obtain ⟨hx, hb, hr, hml, hown, hts, hX, hbl, hlocks, hK, hEU, hEH, hsz⟩ := K
  obtain ⟨t1, ha, t3, t4, t5, t6, t7, t8, t9⟩ := lw_tab_ok _ hq
  dsimp only at t1 ha t3 t4 t5 t6 t7 t8 t9
  have htsT : ∀ w ∈ xm_T, w.before #[Value.ref b0] s = true := fun w hw => hts w (lw_Tin w hw)
  have hM := xs_all (l := l) (b := b) (ak := ak) (av := av) (cA := cA) (D := D) (ph := true) 11 a _ M _ ha (sh_call (d := 10) ha t9 hcall)
  unfold xs_Met at hM
  rw [show xs_mc true a = 0 from if_pos rfl, show (M 0 0).toNat + 0 = (M 0 0).toNat from rfl, Nat.sub_self, xs_mm_lt ha] at hM
  have hrecv : xm_recv none M a (.inr (.inr r) :: as') = true := by
    show Nat.beq (xm_sh r).1 (xm_m a).2.2.2.2.1 = true
    rw [t6]
    exact Nat.beq_refl _
  obtain ⟨r', as'', e1, hr1, hr2, hcell⟩ := xs_recv (lim := none) (ph := true) ⟨fun _ => rfl, fun _ => rfl⟩ hH hK ha hrecv t7
  obtain ⟨w1, w2, w3, w4⟩ := xs_mw ha
  obtain ⟨w4, w5⟩ := w4 t3
  obtain ⟨b1, b2, b3, b4⟩ := xs_mbk ha
  have e2 : r = r' ∧ as' = as'' := by
    injection e1 with h1 h2
    injection h1 with h1
    injection h1 with h1
    exact ⟨h1, h2⟩
  obtain ⟨rfl, rfl⟩ := e2
  have hg := xs_ngood (a := a) (by rw [xs_mm_lt ha]; exact w1)
  have hmh := xs_cn_mh (xm_m a).2.2.2.2.1
  rw [← b1] at hmh
  have hAq : (Sum.inr (Sum.inr r) :: as' : List xm_V).map (xs_cv b ak) = .ref (b + r) :: as'.map (xs_cv b ak) := by
    rw [List.map_cons]
    show xs_cvr b ak r :: _ = _
    rw [xs_cvr_ref hr1 hr2]
  have hpn : (parseMethodDescriptor (xm_m a).1.desc).map (fun d => d.parameters.length) = some (as'.map (xs_cv b ak)).length := by
    rw [t3] at b4
    cases hp : parseMethodDescriptor (xm_m a).1.desc with
    | none => rw [hp] at b4; cases b4
    | some sg =>
      rw [hp] at b4
      have b4 : sg.parameters.length + 1 = (xm_m a).2.2.2.2.2.2.1 := by simpa using b4
      show some sg.parameters.length = _
      rw [List.length_map]
      exact congrArg some (by omega)
  have hcw : CallW room_1 s #[Value.ref b0] R_law (xm_m a).1.cls k (xm_m a).1 (xm_m a).2.1 (xm_m a).2.2.1 (xm_m a).2.2.2.1 (xs_ws a) (xs_rm 11 0 0) 0 0 (as'.map (xs_cv b ak)).length :=
    ⟨callB_of _ htsT hg (by unfold xs_ws; rw [xs_mm_lt ha]) rfl rfl (htsT _ w2) (hts _ t1) ⟨hmh.1, hmh.2, hpn⟩ ⟨Nat.le_refl _, by show 8 + ((xm_m a).2.2.1 + 11) + 37 * 11 ≤ 444; omega⟩, htsT _ w4, htsT _ (w5 t4)⟩
  refine xs_after (va_runV (g := F0 m pc ls ((as'.map (xs_cv b ak)).reverse ++ .ref (b + r) :: rest)) (As := as'.map (xs_cv b ak)) (rest := rest) (b := b + r) ⟨hx, hb, hml, hown, htsT⟩ hM hcw ⟨xs_blind, hcell, fun U hU hW => ⟨by rw [hAq], xs_pre hK hEU hEH hS hH hU hW⟩⟩ rfl rfl hl.1 rfl (lv_room hcat) hd ⟨by show cells + 0 ≤ 83; omega, by show slots + 0 ≤ 31141; omega⟩) hS (fun v M' H1 locs1 k1 k2 k3 => ?_)
  exact go v M' H1 locs1 k1.2.1 k1.2.2 k2 k3
/-- a number of the script -/
theorem lw_arg {i j : Nat} {rest : List Value} {lv : List (Nat × Value)} (K : lw_K p s m meth c b0 L xs b ak av cA D) (hL : L ≤ 2048) (hj : 4 * i + j < L) (hS : va_S (fun q => b < q) s.heap H locs) (hl : lv_has ls 4 ((3, .int (nI (4 * i))) :: (0, .ref b0) :: lv)) (d0 : decode code pc = .ok (.aload_n 0, 1)) (d1 : decode code (pc + 1) = .ok (.iload_n 3, 1)) (d2 : decode code (pc + 1 + 1) = .ok (.iconst (j : Int), 1)) (d3 : decode code (pc + 1 + 1 + 1) = .ok (.iadd, 1)) (d4 : decode code (pc + 1 + 1 + 1 + 1) = .ok (.iaload, 1))
    (kk : W p l e room_1 s m #[Value.ref b0] below meth c H locs cells slots Qf (F0 m (pc + 1 + 1 + 1 + 1 + 1) ls (.int (Int32.ofInt (xs (4 * i + j)).toInt) :: rest))) : W p l e room_1 s m #[Value.ref b0] below meth c H locs cells slots Qf (F0 m pc ls rest) := by
  obtain ⟨hx, hb, hr, hml, hown, hts, hX, hbl, hlocks, hK, hEU, hEH, hsz⟩ := K
  refine lv_aload_n (i := 0) (x := b0) hx hb d0 rfl (lv_at hl 1 rfl) ?_
  refine lv_iload_n (i := 3) (x := nI (4 * i)) hx hb d1 rfl (lv_at hl 0 rfl) ?_
  refine lv_iconst (v := nI j) hx hb d2 rfl ?_
  refine lv_iadd hx hb d3 ?_
  rw [nI_add]
  refine va_sld hx hb hX hbl (fun q => by have : b < b0 := q; omega) hS (vp_in_nI hj (by omega)) d4 ?_
  rw [nI_clamp (by omega)]
  rw [Int32.ofInt_toInt] at kk
  exact kk
end LW
