/-! the law, from its entry -/
theorem ws_1 : ∀ w ∈ [Jvm.Cond.classLink R_law 7 (xm_cn 0), .classLink R_law 10 (xm_cn 11), .methodLink R_law 9 (xm_m 0).1, .methodLink R_law 12 (xm_m 192).1], w ∈ lw_tbl := by decide +kernel
theorem ws_2 : ∀ a ∈ [0, 192], a < 280 ∧ (xm_m a).2.2.2.2.2.1 = false ∧ (xm_m a).1.name = "<init>" ∧ (xm_m a).2.2.2.1 = none ∧ (xm_m a).2.2.2.2.2.2.1 = 1 ∧ (xm_m a).2.2.1 ≤ 18 := by decide +kernel
section ST
variable {p : Program} {l : Launch} {e : Env} {s : State} {m : MethodId} {below : List Frame} {meth : Method} {c : Code} {H : Heap} {locs : List Loc} {Qf : State → Prop} {b0 L : Nat} {xs : Nat → Int32} {b : Nat} {ak av : Nat → Nat} {cA : Nat → ClassId} {D : va_G} {ls : Array Slot} {pc : Nat}
/-- a new object of a class of ours -/
theorem st_new {x k n : Nat} {ms : ev_M} {rest : List Value} (K : lw_K p s m meth c b0 L xs b ak av cA D) (hx12 : x < 12) (hk : Jvm.Cond.classLink R_law k (xm_cn x) ∈ lw_tbl) (hd : decode code pc = .ok (.new k, 3)) (hH : xs_H b ak cA D false (ev_mm n ms) H) (hS : va_S (fun q => b < q) s.heap H locs) (hn : n < 83) (hsh : xm_sh (n + 1) = (x, xm_N x)) (hno : ev_no ms (n + 1) = true)
    (kk : ∀ H1 : Heap, xs_H b ak cA D false (ev_mm (n + 1) ms) H1 → va_S (fun q => b < q) s.heap H1 locs → W p l e room_1 s m #[Value.ref b0] below meth c H1 locs (n + 1) (xm_sl (n + 1)) Qf (F0 m (pc + 3) ls (.ref (b + (n + 1)) :: rest))) :
    W p l e room_1 s m #[Value.ref b0] below meth c H locs n (xm_sl n) Qf (F0 m pc ls rest) := by
  obtain ⟨hx, hb, hr, hml, hown, hts, hX, hbl, hlocks, hK, hEU, hEH, hsz⟩ := K
  have htsT : ∀ w ∈ xm_T, w.before #[Value.ref b0] s = true := fun w hw => hts w (lw_Tin w hw)
  have hi := List.all_eq_true.mp xm_in_ok x (List.mem_range.mpr hx12)
  simp only [Bool.and_eq_true, decide_eq_true_eq] at hi
  have hKn := hK.1 x _ (xs_clsk hx12)
  have hsl := xs_sl_succ (n := n) (by omega)
  rw [hsh] at hsl
  have hsl : xm_sl (n + 1) = xm_sl n + xm_N x := hsl
  have m3 := xs_sl_mono (n := n + 1) (k := 83) (by omega) (by omega)
  have e83 : xm_sl 83 = 31141 := by decide +kernel
  have hz := hH.2.1 rfl
  have en : (ev_mm n ms 0 0).toNat = n := by rw [ev_mm_0]; omega
  rw [en] at hz
  refine W.newcK hx hb hown (hts _ hk) (htsT _ hi.1) (htsT _ hi.2) rfl hd (by show n + 1 ≤ 83; omega) (by show xm_sl n + xm_N x ≤ 31141; omega) hKn.2.1 (h := b + (n + 1)) (by omega) (fun H1 kC hkC k1 k2 k3 => ?_)
  have hH1 := xs_H_new hH rfl (by omega) (H1 := H1) (by
    rw [en, hsh, xs_e_obj hx12]
    exact ⟨_, xs_clsk hx12, (u_born (xm_ty x) htsT (xs_ws1 hx12) hKn hkC k1 (fun j hj => xs_typ hx12 hj)).to (fun j hj => by
      rw [xs_def (b := b) (ak := ak) hx12 hj]
      unfold vp_V
      rw [List.getD_eq_getElem?_getD, List.getElem?_map, List.getElem?_range hj]
      rfl)⟩) (by omega) (fun q hq => k3 q (by omega))
  rw [en, ev_mm_0, ev_mm_z hno] at hH1
  have k := kk H1 hH1 ⟨by have := hS.1; omega, fun q q1 q2 => by rw [k3 q (by have := hS.1; omega)]; exact hS.2.1 q q1 q2, hS.2.2⟩
  rw [hsl] at k
  exact k
/-- its constructor -/
theorem st_ini {a k r n n' : Nat} {ms ms' : ev_M} {rest : List Value} {lv : List (Nat × Value)} (K : lw_K p s m meth c b0 L xs b ak av cA D) (ha : a ∈ [0, 192]) (hk : Jvm.Cond.methodLink R_law k (xm_m a).1 ∈ lw_tbl) (hd : decode code pc = .ok (.invokespecial k, 3)) (hH : xs_H b ak cA D false (ev_mm n ms) H) (hS : va_S (fun q => b < q) s.heap H locs) (hl : lv_has ls 4 lv) (hr : 1 ≤ r ∧ r ≤ 83) (hcat : (rest.map fun v => v.category).sum ≤ 8) (hrun : ev_call 8 a [.inr (.inr r)] n ms = some (n', ms')) (hn : n' = n + (xm_m a).2.2.2.2.2.2.2 ∧ n' ≤ 83)
    (kk : ∀ (H1 : Heap) (locs1 : List Loc), xs_H b ak cA D false (ev_mm n' ms') H1 → va_S (fun q => b < q) s.heap H1 locs1 → W p l e room_1 s m #[Value.ref b0] below meth c H1 locs1 n' (xm_sl n') Qf (F0 m (pc + 3) ls rest)) :
    W p l e room_1 s m #[Value.ref b0] below meth c H locs n (xm_sl n) Qf (F0 m pc ls (.ref (b + r) :: rest)) := by
  obtain ⟨hx, hb, hre, hml, hown, hts, hX, hbl, hlocks, hK, hEU, hEH, hsz⟩ := K
  obtain ⟨a1, a2, a3, a4, a5, a6⟩ := ws_2 a ha
  have htsT : ∀ w ∈ xm_T, w.before #[Value.ref b0] s = true := fun w hw => hts w (lw_Tin w hw)
  have hM := xs_all (l := l) (b := b) (ak := ak) (av := av) (cA := cA) (D := D) (ph := false) 8 a _ _ (fun v M' => v = [] ∧ M' = ev_mm n' ms') a1 (ev_call_ok 8 _ _ _ _ _ _ hrun _ ⟨rfl, rfl⟩)
  unfold xs_Met at hM
  have en : (ev_mm n ms 0 0).toNat = n := by rw [ev_mm_0]; omega
  have emc : xs_mc false a = (xm_m a).2.2.2.2.2.2.2 := if_neg (by decide)
  rw [en, emc, ← hn.1, xs_mm_lt a1] at hM
  obtain ⟨w1, w2, w3, w4⟩ := xs_mw a1
  obtain ⟨w4, w5⟩ := w4 a2
  obtain ⟨b1, b2, b3, b4⟩ := xs_mbk a1
  have hg := xs_ngood (a := a) (by rw [xs_mm_lt a1]; exact w1)
  have hmh := xs_cn_mh (xm_m a).2.2.2.2.1
  rw [← b1] at hmh
  have hpn : (parseMethodDescriptor (xm_m a).1.desc).map (fun d => d.parameters.length) = some ([] : List Value).length := by
    rw [a2] at b4
    cases hp : parseMethodDescriptor (xm_m a).1.desc with
    | none => rw [hp] at b4; cases b4
    | some sg =>
      rw [hp] at b4
      have b4 : sg.parameters.length + 1 = (xm_m a).2.2.2.2.2.2.1 := by simpa using b4
      show some sg.parameters.length = _
      exact congrArg some (by show sg.parameters.length = 0; omega)
  have hAq : ([.inr (.inr r)] : List xm_V).map (xs_cv b ak) = [.ref (b + r)] := by
    show [xs_cvr b ak r] = _
    rw [xs_cvr_ref hr.1 hr.2]
  have m1 := xs_sl_mono (n := n) (k := n') (by omega) hn.2
  have m2 := xs_sl_mono (n := n') (k := 83) hn.2 (by omega)
  have e83 : xm_sl 83 = 31141 := by decide +kernel
  have hcb : CallB room_1 s #[Value.ref b0] R_law k (xm_m a).1 (xm_m a).2.1 (xm_m a).2.2.1 none (xs_ws a) (xs_rm 8 (xm_m a).2.2.2.2.2.2.2 (xm_sl n' - xm_sl n)) (xm_m a).2.2.2.2.2.2.2 (xm_sl n' - xm_sl n) ([] : List Value).length :=
    callB_of _ htsT hg (by unfold xs_ws; rw [xs_mm_lt a1, a4]) rfl rfl (htsT _ w2) (hts _ hk) ⟨hmh.1, hmh.2, hpn⟩ ⟨by show 8 + 1 ≤ 12; omega, by show 8 + ((xm_m a).2.2.1 + 11) + 37 * 8 ≤ 444; omega⟩
  refine xs_after (va_runI (g := F0 m pc ls (.ref (b + r) :: rest)) (As := []) (rest := rest) (b := b + r) ⟨hx, hb, hml, hown, htsT⟩ hM ⟨hcb, a3, htsT _ w4⟩ ⟨xs_blind, fun U hU hW => ⟨by rw [hAq], xs_pre hK hEU hEH hS hH hU hW⟩⟩ rfl rfl hl.1 rfl (lv_room hcat) hd ⟨by show n + (xm_m a).2.2.2.2.2.2.2 ≤ 83; omega, by show xm_sl n + (xm_sl n' - xm_sl n) ≤ 31141; omega⟩) hS (fun v M' H1 locs1 k1 k2 k3 => ?_)
  obtain ⟨-, rfl, rfl⟩ := k1
  have k := kk H1 locs1 k2 k3
  rw [← hn.1, show xm_sl n + (xm_sl n' - xm_sl n) = xm_sl n' by omega]
  exact k
end ST
set_option maxHeartbeats 2000000 in
theorem whole_start {p : Program} {e : Env} {s : State} {m : MethodId} {below : List Frame} {meth : Method} {c : Code} (l : Launch) (hflags : l.flags = flags0) {b L : Nat} {xs : Nat → Int32} (hL : L ≤ 2048) (C0 : lw_At p s m meth c b L xs) : W p l e room_1 s m #[Value.ref b] below meth c s.heap [] 0 0 (lw_Z below #[Value.ref b] s) (entryFrame m ([Value.ref b] : List Value).toArray 4) := by
  obtain ⟨hx, hb, hr, hml, hown, hts, hX, hbl, hlocks, hgv⟩ := id C0
  obtain ⟨D, cA, hK⟩ := st_K hts
  obtain ⟨bb, hsz⟩ : ∃ bb : Nat, s.heap.size = bb + 1 := ⟨s.heap.size - 1, by omega⟩
  obtain ⟨ak, av, hEU, hEH⟩ := st_E hts hgv hsz
  have K : lw_K p s m meth c b L xs bb ak av cA D := ⟨hx, hb, hr, hml, hown, hts, hX, hbl, hlocks, hK, hEU, hEH, hsz⟩
  have hS : va_S (fun q => bb < q) s.heap s.heap [] := va_S.rf
  have hH : xs_H bb ak cA D false (ev_mm 0 []) s.heap := by
    refine ⟨fun k q h => ?_, fun _ => ?_, ?_, ?_, fun q => by cases q⟩
    · have := (xs_wl_lt h).1
      rw [ev_mm_0] at this
      omega
    · rw [ev_mm_0]; omega
    · rw [ev_mm_0]; omega
    · rw [ev_mm_0]; omega
  have hl : lv_has ((lg_sl [Value.ref b] ++ List.replicate (4 - (lg_sl [Value.ref b]).length) Slot.unset).toArray) 4 [(0, .ref b)] := lv_entry [Value.ref b] (Nat.le_of_ble_eq_true rfl)
  rw [lg_entry_eq]
  generalize (lg_sl [Value.ref b] ++ List.replicate (4 - (lg_sl [Value.ref b]).length) Slot.unset).toArray = ls at hl ⊢
  refine W.widen (k := 0) (n := xm_sl 0) (Nat.le_refl _) (Nat.zero_le _) ?_
  refine st_new (x := 0) (n := 0) (ms := []) K (by omega) (ws_1 _ (by simp)) (show decode code 0 = .ok (.new 7, 3) by decide +kernel) hH hS (by omega) (by decide +kernel) ev_new1 (fun H1 hH hS => ?_)
  refine lv_dup hx hb (show decode code 3 = .ok (.dup, 1) by decide +kernel) rfl ?_
  refine st_ini (a := 0) (r := 1) K (by simp) (ws_1 (.methodLink R_law 9 (xm_m 0).1) (by simp)) (show decode code 4 = .ok (.invokespecial 9, 3) by decide +kernel) hH hS hl (by omega) (by show 1 ≤ 8; omega) ev_r1 (by decide +kernel) (fun H2 locs2 hH hS => ?_)
  refine lv_astore_n (lv' := [(1, .ref (bb + 1)), (0, .ref b)]) hx hb (show decode code 7 = .ok (.astore_n 1, 1) by decide +kernel) rfl hl (by decide) rfl (fun ls hl => ?_)
  refine st_new (x := 11) (n := 49) (ms := ev_b1) K (by omega) (ws_1 (.classLink R_law 10 (xm_cn 11)) (by simp)) (show decode code 8 = .ok (.new 10, 3) by decide +kernel) hH hS (by omega) (by decide +kernel) ev_new2 (fun H3 hH hS => ?_)
  refine lv_dup hx hb (show decode code 11 = .ok (.dup, 1) by decide +kernel) rfl ?_
  refine st_ini (a := 192) (r := 50) K (by simp) (ws_1 (.methodLink R_law 12 (xm_m 192).1) (by simp)) (show decode code 12 = .ok (.invokespecial 12, 3) by decide +kernel) hH hS hl (by omega) (by show 1 ≤ 8; omega) ev_r2 (by decide +kernel) (fun H4 locs4 hH hS => ?_)
  refine lv_astore_n (lv' := [(2, .ref (bb + 50)), (1, .ref (bb + 1)), (0, .ref b)]) hx hb (show decode code 15 = .ok (.astore_n 2, 1) by decide +kernel) rfl hl (by decide) rfl (fun ls hl => ?_)
  refine lv_iconst (v := nI (4 * 0)) hx hb (show decode code 16 = .ok (.iconst 0, 1) by decide +kernel) (by decide) ?_
  refine lv_istore_n (lv' := [(3, .int (nI (4 * 0))), (2, .ref (bb + 50)), (1, .ref (bb + 1)), (0, .ref b)]) hx hb (show decode code 17 = .ok (.istore_n 3, 1) by decide +kernel) rfl hl (by decide) rfl (fun ls hl => ?_)
  have e83 : xm_sl 83 = 31141 := by decide +kernel
  rw [e83]
  have hH' : xs_H bb ak cA D true (ev_mm 83 ev_b2) H4 := ⟨hH.1, (fun q => by cases q), hH.2.2.1, hH.2.2.2.1, fun _ => ⟨ev_mm_0, st_F⟩⟩
  exact lw_loop K hL (L + 5) 0 _ H4 locs4 ls (by omega) (by omega) hH' st_all hS (lv_sub hl [0, 3, 2, 1] rfl)
