/-! what the pure machine says of a call holds of the machine -/
abbrev xs_rm (d mc ms : Nat) : Room := { frames := d, cells := mc, slots := ms, locals := 37 * d }
def xs_mm (a : Nat) : xm_MT := match a with
  | 901 => (⟨"java/lang/String", "length", "()I"⟩, prog_15_method_54_code, 1, some .int, 15, false, 1, 0)
  | 902 => (⟨"java/lang/String", "charAt", "(I)C"⟩, prog_15_method_56_code, 2, some .char, 15, false, 2, 0)
  | a => xm_m a
def xs_ws (a : Nat) : List Jvm.Cond := .code (xs_mm a).1 (xs_mm a).2.1 (xs_mm a).2.2.1 (xs_mm a).2.2.2.1 :: xm_T
def xs_mc (ph : Bool) (a : Nat) : Nat := if ph = true then 0 else (xm_m a).2.2.2.2.2.2.2
def xs_ret (b : Nat) (ak : Nat → Nat) : List xm_V → Option Value
  | [] => none
  | v :: _ => some (xs_cv b ak v)
def xs_Q (b : Nat) (ak : Nat → Nat) (cA : Nat → ClassId) (D : va_G) (ph : Bool) (Q : xm_K) : Array Value → State → Outcome → State → Prop := fun _ st o t =>
  (∃ (v : List xm_V) (M' : xm_Mem), Q v M' ∧ o = .returned (xs_ret b ak v) ∧ (v = [] ∨ ∃ w, v = [w]) ∧ xs_H b ak cA D ph M' t.heap) ∧ va_F (fun q => b < q) st t
def xs_Met (l : Launch) (b : Nat) (ak av : Nat → Nat) (cA : Nat → ClassId) (D : va_G) (ph : Bool) (d a : Nat) (as : List xm_V) (M : xm_Mem) (Q : xm_K) : Prop :=
  Met l (xs_mm a).1 (xs_ws a) (xs_rm d (xs_mc ph a) (xm_sl ((M 0 0).toNat + xs_mc ph a) - xm_sl (M 0 0).toNat)) (va_Pc (as.map (xs_cv b ak)) (fun U => xs_S b ak av cA D ph M U)) (xs_Q b ak cA D ph (fun v M' => M' 0 0 = M 0 0 + (xs_mc ph a : Nat) ∧ Q v M')) (xs_mc ph a) (xm_sl ((M 0 0).toNat + xs_mc ph a) - xm_sl (M 0 0).toNat) (fun q => b < q)
def xs_Cx (b : Nat) (ak av : Nat → Nat) (cA : Nat → ClassId) (D : va_G) (a : Nat) (p : Program) (s : State) (m : MethodId) (args : Array Value) (meth : Method) (c : Code) : Prop :=
  p.tables.exec = Jvm.exec ∧ c.code = (xm_m a).2.1 ∧ c.maxLocals = (xm_m a).2.2.1 ∧ meth.sig.returnType = (xm_m a).2.2.2.1 ∧ (∀ w ∈ xm_T, w.before args s = true) ∧ s.vm.findClass (xm_cn (xm_m a).2.2.2.2.1) = some m.cls ∧ meth.name = (xm_m a).1.name ∧ meth.locks = false ∧ va_K D xm_cls (xs_ar cA) s ∧ xs_EU ak s ∧ xs_EH b ak av s s.heap ∧ b < s.heap.size
def xs_W (b : Nat) (ak : Nat → Nat) (cA : Nat → ClassId) (D : va_G) (ph : Bool) (p : Program) (l : Launch) (e : Env) (R : Room) (s : State) (m : MethodId) (args : Array Value) (below : List Frame) (meth : Method) (c : Code) (nL n0 mc : Nat) (Qf : State → Prop) : xm_X := fun pc L S M =>
  ∀ (H : Heap) (locs : List Loc) (ls : Array Slot), xs_H b ak cA D ph M H → va_S (fun q => b < q) s.heap H locs → lv_has ls nL (xs_as b ak 0 L) → n0 ≤ (M 0 0).toNat ∧ (M 0 0).toNat ≤ n0 + mc →
    W p l e R s m args below meth c H locs ((M 0 0).toNat - n0) (xm_sl (M 0 0).toNat - xm_sl n0) Qf (F0 m pc ls (S.map (xs_cv b ak)))
theorem xs_blind {b : Nat} {ak av : Nat → Nat} {cA : Nat → ClassId} {D : va_G} {ph : Bool} {M : xm_Mem} {vs : List Value} : FrameBlind (va_Pc vs (fun U => xs_S b ak av cA D ph M U)) := by
  intro x U g mk ⟨q1, q2, q3, ⟨q4, q5⟩, q6, q7, q8⟩
  refine ⟨q1, q2, va_K.moved (u := U) (U := U.calling g mk x) (Vm.Alike.refl U.vm) q3, ⟨fun q hq => va_Nw.same (u := U) (U := U.calling g mk x) rfl rfl (q4 q hq), fun q hq => ?_⟩, vk_S.moved (u := U) (U := U.calling g mk x) (Vm.Alike.refl U.vm) q6, va_Z.moved (u := U) (U := U.calling g mk x) (Vm.Alike.refl U.vm) q7, ?_⟩
  · obtain ⟨tx, h⟩ := q5 q hq
    exact ⟨tx, vk_R.same (u := U) (U := U.calling g mk x) rfl h⟩
  · rcases q8 with h | ⟨t, h⟩
    · exact Or.inl (va_Z.moved (u := U) (U := U.calling g mk x) (Vm.Alike.refl U.vm) h)
    · exact Or.inr ⟨t, va_Z.moved (u := U) (U := U.calling g mk x) (Vm.Alike.refl U.vm) h⟩
theorem xs_pre {b : Nat} {ak av : Nat → Nat} {cA : Nat → ClassId} {D : va_G} {ph : Bool} {M : xm_Mem} {s U : State} {H : Heap} {locs : List Loc} (hK : va_K D xm_cls (xs_ar cA) s) (hEU : xs_EU ak s) (hEH : xs_EH b ak av s s.heap) (hV : va_S (fun q => b < q) s.heap H locs) (hH : xs_H b ak cA D ph M H) (hU : U.heap = H) (hW : s.WarmedH U.vm) : xs_S b ak av cA D ph M U := by
  have hm := hW.alike
  obtain ⟨q6, q7, q8⟩ := hEH
  refine ⟨by rw [hU]; exact hH, va_K.moved hm hK, ⟨fun q hq => va_Nw.warmM hW (hEU.1 q hq), fun q hq => ?_⟩, ?_, ?_, ?_⟩
  · obtain ⟨tx, h⟩ := hEU.2 q hq
    exact ⟨tx, vk_R.warm hW h⟩
  · rw [hU]; exact (vk_S.moved hm q6).kept hV.2.1
  · rw [hU]; exact (va_Z.moved hm q7).kept hV.2.1
  · rw [hU]
    rcases q8 with h | ⟨t, h⟩
    · exact Or.inl ((va_Z.moved hm h).kept hV.2.1)
    · exact Or.inr ⟨t, (va_Z.moved hm h).kept hV.2.1⟩
theorem xs_cn_mh (i : Nat) : xm_cn i ≠ "java/lang/invoke/MethodHandle" ∧ xm_cn i ≠ "java/lang/invoke/VarHandle" := by
  unfold xm_cn
  split <;> exact ⟨by decide, by decide⟩
theorem xs_cvc (b : Nat) (ak : Nat → Nat) (v : xm_V) : (xs_cv b ak v).category = xm_cat v := by
  rcases v with x | x | x
  · rfl
  · rfl
  · show (xs_cvr b ak x).category = 1
    unfold xs_cvr
    split
    · rfl
    · split <;> rfl
theorem xs_cats (b : Nat) (ak : Nat → Nat) : ∀ S : List xm_V, ((S.map (xs_cv b ak)).map fun v => v.category).sum = xm_cats S
  | [] => rfl
  | v :: S => by
    have h := xs_cats b ak S
    simp only [List.map_cons, List.sum_cons, xs_cvc, xm_cats] at h ⊢
    rw [h]
theorem xs_rev : ∀ (S : List xm_V) (n : Nat) (as : List xm_V), n ≤ xm_len S → (xm_rev S n as).length = n + as.length ∧ as.reverse ++ S = (xm_rev S n as).reverse ++ xm_drop S n
  | S, 0, as, _ => ⟨by simp [xm_rev], by simp [xm_rev, xm_drop]⟩
  | [], n + 1, as, h => by simp [xm_len] at h
  | v :: S, n + 1, as, h => by
    have h2 : n ≤ xm_len S := by simp only [xm_len] at h; omega
    obtain ⟨e1, e2⟩ := xs_rev S n (v :: as) h2
    refine ⟨by rw [xm_rev, e1]; simp; omega, ?_⟩
    rw [xm_rev, xm_drop, ← e2]
    simp
theorem xs_dec {n pc np : Nat} {cc : ByteArray} {i : Instr} (hd : decode cc pc = .ok (i, np - pc)) (h : Nat.beq np (pc + n) = true) : np = pc + n ∧ decode cc pc = .ok (i, n) := by
  have e := Nat.eq_of_beq_eq_true h
  subst e
  rw [show pc + n - pc = n by omega] at hd
  exact ⟨rfl, hd⟩
section XSK
variable {p : Program} {l : Launch} {e : Env} {R : Room} {s : State} {m : MethodId} {args : Array Value} {below : List Frame} {meth : Method} {c : Code} {H : Heap} {locs : List Loc} {cells slots mc ms : Nat} {Qf : State → Prop} {b : Nat} {ak av : Nat → Nat} {cA : Nat → ClassId} {D : va_G} {ph : Bool}
theorem xs_after {Q : xm_K} {pc : Nat} {ls : Array Slot} {st0 rest : List Value} {x : Array Value} (hr : va_Run p l e R s m args below meth c H locs cells slots mc ms (F0 m pc ls st0) rest (xs_Q b ak cA D ph Q x) (fun q => b < q)) (hS : va_S (fun q => b < q) s.heap H locs)
    (kk : ∀ (v : List xm_V) (M' : xm_Mem) (H1 : Heap) (locs1 : List Loc), Q v M' → xs_H b ak cA D ph M' H1 → va_S (fun q => b < q) s.heap H1 locs1 → W p l e R s m args below meth c H1 locs1 (cells + mc) (slots + ms) Qf (F0 m (pc + 3) ls (v.map (xs_cv b ak) ++ rest))) : W p l e R s m args below meth c H locs cells slots Qf (F0 m pc ls st0) := by
  intro T hT X
  obtain ⟨v, st₀, t, T', L, h0, X', hL, e1, e2, ⟨⟨vl, M', hq, hv, hlen, hh⟩, hz, hk⟩, st⟩ := hr T hT X
  cases hv
  rw [h0] at hz hk
  have k1 := kk vl M' T'.heap (locs ++ L) hq (by rw [e1]; exact hh) ⟨Nat.le_trans hS.1 (by rw [e1]; exact hz), fun q h1 h2 => by
      rw [e1, hk q (Nat.lt_of_lt_of_le h1 hS.1) h2]; exact hS.2.1 q h1 h2, fun q hq => by
      rcases List.mem_append.mp hq with h | h
      · exact hS.2.2 q h
      · exact hL q h⟩
  have e3 : (xs_ret b ak vl).toList ++ rest = vl.map (xs_cv b ak) ++ rest := by
    rcases hlen with rfl | ⟨w, rfl⟩ <;> rfl
  rw [← e3] at k1
  obtain ⟨t2, a1, b1⟩ := k1 T' rfl X'
  exact ⟨t2, st t2 a1, b1⟩
end XSK
theorem xs_oks : ((List.range 280).all xm_ok) = true := by
  refine List.all_eq_true.mpr fun i hi => ?_
  have hi := List.mem_range.mp hi
  have key : ∀ (k n : Nat), ((List.range n).all fun j => xm_ok (k + j)) = true → k ≤ i → i < k + n → xm_ok i = true := by
    intro k n h h1 h2
    have := List.all_eq_true.mp h (i - k) (List.mem_range.mpr (by omega))
    rwa [show k + (i - k) = i by omega] at this
  by_cases q0 : i < 10
  · exact key 0 10 xm_ok_0 (by omega) (by omega)
  by_cases q1 : i < 20
  · exact key 10 10 xm_ok_1 (by omega) (by omega)
  by_cases q2 : i < 30
  · exact key 20 10 xm_ok_2 (by omega) (by omega)
  by_cases q3 : i < 40
  · exact key 30 10 xm_ok_3 (by omega) (by omega)
  by_cases q4 : i < 50
  · exact key 40 10 xm_ok_4 (by omega) (by omega)
  by_cases q5 : i < 60
  · exact key 50 10 xm_ok_5 (by omega) (by omega)
  by_cases q6 : i < 70
  · exact key 60 10 xm_ok_6 (by omega) (by omega)
  by_cases q7 : i < 80
  · exact key 70 10 xm_ok_7 (by omega) (by omega)
  by_cases q8 : i < 90
  · exact key 80 10 xm_ok_8 (by omega) (by omega)
  by_cases q9 : i < 100
  · exact key 90 10 xm_ok_9 (by omega) (by omega)
  by_cases q10 : i < 110
  · exact key 100 10 xm_ok_10 (by omega) (by omega)
  by_cases q11 : i < 120
  · exact key 110 10 xm_ok_11 (by omega) (by omega)
  by_cases q12 : i < 130
  · exact key 120 10 xm_ok_12 (by omega) (by omega)
  by_cases q13 : i < 140
  · exact key 130 10 xm_ok_13 (by omega) (by omega)
  by_cases q14 : i < 150
  · exact key 140 10 xm_ok_14 (by omega) (by omega)
  by_cases q15 : i < 160
  · exact key 150 10 xm_ok_15 (by omega) (by omega)
  by_cases q16 : i < 170
  · exact key 160 10 xm_ok_16 (by omega) (by omega)
  by_cases q17 : i < 180
  · exact key 170 10 xm_ok_17 (by omega) (by omega)
  by_cases q18 : i < 190
  · exact key 180 10 xm_ok_18 (by omega) (by omega)
  by_cases q19 : i < 200
  · exact key 190 10 xm_ok_19 (by omega) (by omega)
  by_cases q20 : i < 210
  · exact key 200 10 xm_ok_20 (by omega) (by omega)
  by_cases q21 : i < 220
  · exact key 210 10 xm_ok_21 (by omega) (by omega)
  by_cases q22 : i < 230
  · exact key 220 10 xm_ok_22 (by omega) (by omega)
  by_cases q23 : i < 240
  · exact key 230 10 xm_ok_23 (by omega) (by omega)
  by_cases q24 : i < 250
  · exact key 240 10 xm_ok_24 (by omega) (by omega)
  by_cases q25 : i < 260
  · exact key 250 10 xm_ok_25 (by omega) (by omega)
  by_cases q26 : i < 270
  · exact key 260 10 xm_ok_26 (by omega) (by omega)
  exact key 270 10 xm_ok_27 (by omega) (by omega)
theorem xs_mps : ((List.range 280).all xm_mpB) = true := by
  refine List.all_eq_true.mpr fun i hi => ?_
  have hi := List.mem_range.mp hi
  have key : ∀ (k n : Nat), ((List.range n).all fun j => xm_mpB (k + j)) = true → k ≤ i → i < k + n → xm_mpB i = true := by
    intro k n h h1 h2
    have := List.all_eq_true.mp h (i - k) (List.mem_range.mpr (by omega))
    rwa [show k + (i - k) = i by omega] at this
  by_cases q0 : i < 20
  · exact key 0 20 xm_mp_0 (by omega) (by omega)
  by_cases q1 : i < 40
  · exact key 20 20 xm_mp_1 (by omega) (by omega)
  by_cases q2 : i < 60
  · exact key 40 20 xm_mp_2 (by omega) (by omega)
  by_cases q3 : i < 80
  · exact key 60 20 xm_mp_3 (by omega) (by omega)
  by_cases q4 : i < 100
  · exact key 80 20 xm_mp_4 (by omega) (by omega)
  by_cases q5 : i < 120
  · exact key 100 20 xm_mp_5 (by omega) (by omega)
  by_cases q6 : i < 140
  · exact key 120 20 xm_mp_6 (by omega) (by omega)
  by_cases q7 : i < 160
  · exact key 140 20 xm_mp_7 (by omega) (by omega)
  by_cases q8 : i < 180
  · exact key 160 20 xm_mp_8 (by omega) (by omega)
  by_cases q9 : i < 200
  · exact key 180 20 xm_mp_9 (by omega) (by omega)
  by_cases q10 : i < 220
  · exact key 200 20 xm_mp_10 (by omega) (by omega)
  by_cases q11 : i < 240
  · exact key 220 20 xm_mp_11 (by omega) (by omega)
  by_cases q12 : i < 260
  · exact key 240 20 xm_mp_12 (by omega) (by omega)
  exact key 260 20 xm_mp_13 (by omega) (by omega)
theorem xs_okm {a : Nat} (ha : a < 280) : xm_mB (xm_m a) = true ∧ ∀ e ∈ xm_c a, xm_entB (xm_m a) e = true := by
  have h := List.all_eq_true.mp xs_oks a (List.mem_range.mpr ha)
  simp only [xm_ok, Bool.and_eq_true, List.all_eq_true] at h
  exact h
theorem xs_flk {cn k x y : Nat} (h : xm_flk cn k x y = true) : x < 12 ∧ y < xm_N x ∧ (xm_F x y).1 = xm_cn x ∧ Jvm.Cond.fieldLink (xm_cn cn) k (xm_cn x) (xm_F x y).2.1 (xm_F x y).2.2.1 ∈ xm_T := by
  obtain ⟨q, hq, h1⟩ := List.any_eq_true.mp h
  simp only [Bool.and_eq_true, Nat.beq_eq] at h1
  obtain ⟨e1, e2, e3, e4⟩ := h1
  have h2 := List.all_eq_true.mp xm_fl_ok q hq
  simp only [Bool.and_eq_true, Nat.ble_eq, decide_eq_true_eq] at h2
  obtain ⟨f1, f2, f3, f4⟩ := h2
  subst e1; subst e2; subst e3; subst e4
  exact ⟨f2, f3, f4, xm_w.mem f1⟩
theorem xs_tyk {x y : Nat} (hx : x < 12) (hy : y < xm_N x) : xm_tyB x y = true := List.all_eq_true.mp (List.all_eq_true.mp xm_ty_ok x (List.mem_range.mpr hx)) y (List.mem_range.mpr hy)
theorem xs_typ {x y : Nat} (hx : x < 12) (hy : y < xm_N x) : parseFieldDescriptor (xm_F x y).2.2.1 = some (xm_ty x y) := by
  have h := xs_tyk hx hy
  simp only [xm_tyB, Bool.and_eq_true, decide_eq_true_eq] at h
  exact h.1
theorem xs_ws1 {x : Nat} (hx : x < 12) : ∀ w ∈ u_ws (xm_cn x) (xm_F x) (xm_N x), w ∈ xm_T := by
  intro w hw
  have h := List.all_eq_true.mp (List.all_eq_true.mp xm_ws_ok x (List.mem_range.mpr hx)) w hw
  simp only [Bool.and_eq_true, decide_eq_true_eq] at h
  exact List.mem_filter.mpr h
theorem xs_nn {x : Nat} (hx : x < 12) : ∀ u, u < xm_N x → ∀ v, v < xm_N x → u ≠ v → (xm_F x u).2.1 ≠ (xm_F x v).2.1 := by
  intro u hu v hv hne
  have h := List.all_eq_true.mp (List.all_eq_true.mp (List.all_eq_true.mp xm_nn_ok x (List.mem_range.mpr hx)) u (List.mem_range.mpr hu)) v (List.mem_range.mpr hv)
  simp only [Bool.or_eq_true, decide_eq_true_eq] at h
  rcases h with h | h
  · exact absurd h hne
  · exact h
theorem xs_clsk {x : Nat} (hx : x < 12) : xm_cls[x]? = some (xm_cn x, xm_F x, xm_N x) := by
  match x, hx with
  | 0, _ => rfl
  | 1, _ => rfl
  | 2, _ => rfl
  | 3, _ => rfl
  | 4, _ => rfl
  | 5, _ => rfl
  | 6, _ => rfl
  | 7, _ => rfl
  | 8, _ => rfl
  | 9, _ => rfl
  | 10, _ => rfl
  | 11, _ => rfl
theorem xs_cvr_ref {b : Nat} {ak : Nat → Nat} {r : Nat} (h1 : 1 ≤ r) (h2 : r ≤ 83) : xs_cvr b ak r = .ref (b + r) := by
  unfold xs_cvr
  rw [if_neg (by omega), if_pos (by omega)]
theorem xs_H_up {b : Nat} {ak : Nat → Nat} {cA : Nat → ClassId} {D : va_G} {ph : Bool} {M : xm_Mem} {H H1 : Heap} {r : Nat} {k v : Int} (hH : xs_H b ak cA D ph M H) (h1 : 1 ≤ r) (h2 : r ≤ (M 0 0).toNat) (he : va_at D xm_cls (b + r, xs_e b ak cA (xm_sh r) (xm_up M r k v r)) H1) (z : H1.size = H.size) (oq : ∀ q : Nat, q ≠ b + r → H1[q]? = H[q]?) (hF : ph = true → ∀ k' : Nat, (k' : Int) = k → (xm_sh r).1 < 12 → xm_fc (xm_sh r).1 k' ≠ 2) : xs_H b ak cA D ph (xm_up M r k v) H1 := by
  obtain ⟨hP, hz, g0, g1, g2⟩ := hH
  have e0 : xm_up M r k v 0 0 = M 0 0 := by rw [xs_up_ne (by omega)]
  unfold xs_H
  rw [e0]
  refine ⟨?_, fun hp => by rw [z]; exact hz hp, g0, g1, fun hp => ⟨(g2 hp).1, fun c k' q1 q2 q3 => ?_⟩⟩
  · have := va_P.set hP xs_wl_D (xs_wl_get h1 h2) he oq
    rw [xs_wl_set h1 h2 (fun c hc _ => xs_up_ne hc)] at this
    exact this
  · by_cases hc : c = r
    · subst hc
      rw [xs_up_eq]
      dsimp only
      rw [if_neg (fun q => hF hp k' q q1 q3)]
      exact (g2 hp).2 c k' q1 q2 q3
    · rw [xs_up_ne hc]
      exact (g2 hp).2 c k' q1 q2 q3
theorem xs_S_put {b : Nat} {H0 H H1 : Heap} {locs : List Loc} {r k : Nat} (h : va_S (fun q => b < q) H0 H locs) (z : H1.size = H.size) (oq : ∀ q : Nat, q ≠ b + r → H1[q]? = H[q]?) (h1 : 1 ≤ r) : va_S (fun q => b < q) H0 H1 (locs ++ [⟨b + r, k⟩]) := h.put z oq (show b < b + r by omega)
theorem xs_narC {x : Int} (hc : 0 ≤ x ∧ x < 65536) : narrow .char (.int (Int32.ofInt x)) = .int (Int32.ofInt x) := by
  obtain ⟨n, rfl⟩ := Int.eq_ofNat_of_zero_le hc.1
  have := pk_charN (q := n) (by omega)
  rw [Int32.ofInt_eq_ofNat]
  exact this.1
theorem xs_narZ {x : Int} (hc : x = 0 ∨ x = 1) : narrow .boolean (.int (Int32.ofInt x)) = .int (Int32.ofInt x) := by
  rcases hc with rfl | rfl <;> decide
section XSL
variable {p : Program} {l : Launch} {e : Env} {R : Room} {s : State} {m : MethodId} {args : Array Value} {below : List Frame} {meth : Method} {c : Code} {H : Heap} {locs : List Loc} {cells slots : Nat} {Qf : State → Prop} {b : Nat} {ak av : Nat → Nat} {cA : Nat → ClassId} {D : va_G} {ph : Bool} {lim : Option Int} {M : xm_Mem} {a pc : Nat} {ls : Array Slot} {rest : List Value}
theorem xs_getf {x y r k : Nat} (hC : xs_Cx b ak av cA D a p s m args meth c) (hH : xs_H b ak cA D ph M H) (hl : lim = none ↔ ph = true) (hk : xm_kd lim M r = x) (hf : xm_flk (xm_m a).2.2.2.2.1 k x y = true) (hd : decode (xm_m a).2.1 pc = .ok (.getfield k, 3))
    (kk : W p l e R s m args below meth c H locs cells slots Qf (F0 m (pc + 3) ls (xs_fv b ak (xm_fc x y) (M r (y : Int)) :: rest))) : W p l e R s m args below meth c H locs cells slots Qf (F0 m pc ls (xs_cvr b ak r :: rest)) := by
  obtain ⟨hx, hb, hml, hr, hts, hown, hnm, hlk, hK, hEU, hEH, hbs⟩ := hC
  obtain ⟨f1, f2, f3, f4⟩ := xs_flk hf
  obtain ⟨e1, e2, e3⟩ := xs_kd hl (fun q => (hH.2.2.2.2 q).1) hk (by omega)
  have hN : (xm_sh r).2 = xm_N x := by
    rcases xs_shk r with ⟨q1, q2⟩ | q | ⟨q1, q2⟩
    · rw [q2, e1]
    · omega
    · omega
  have h83 : r ≤ 83 := by have := hH.2.2.2.1; omega
  rw [xs_cvr_ref e2 h83]
  have he := xs_wl_get (b := b) (ak := ak) (cA := cA) (M := M) e2 e3
  rw [xs_sh_eq e1, hN, xs_e_obj f1] at he
  exact va_get hx hb hts (xs_ws1 f1) hown hK hH.1 (r - 1) he (xs_clsk f1) y f2 (hts _ f4) (fun q h => by rw [← f3]; exact h) (xs_fld f2) hd kk
theorem xs_alen {t r : Nat} (hC : xs_Cx b ak av cA D a p s m args meth c) (hH : xs_H b ak cA D ph M H) (hl : lim = none ↔ ph = true) (hk : xm_kd lim M r = t) (ht : t = 100 ∨ t = 101 ∨ t = 102 ∨ t = 103) (hd : decode (xm_m a).2.1 pc = .ok (.arraylength, 1))
    (kk : W p l e R s m args below meth c H locs cells slots Qf (F0 m (pc + 1) ls (.int (Int32.ofInt (xm_szi r)) :: rest))) : W p l e R s m args below meth c H locs cells slots Qf (F0 m pc ls (xs_cvr b ak r :: rest)) := by
  obtain ⟨hx, hb, hml, hr, hts, hown, hnm, hlk, hK, hEU, hEH, hbs⟩ := hC
  obtain ⟨e1, e2, e3⟩ := xs_kd hl (fun q => (hH.2.2.2.2 q).1) hk (by omega)
  have h83 : r ≤ 83 := by have := hH.2.2.2.1; omega
  rw [xs_cvr_ref e2 h83]
  have he := xs_wl_get (b := b) (ak := ak) (cA := cA) (M := M) e2 e3
  have hs := xs_szi r (by omega)
  rw [hs] at kk
  have ev : Int32.ofNat (xm_sh r).2 = Int32.ofInt (((xm_sh r).2 : Nat) : Int) := Int32.ofInt_eq_ofNat.symm
  rw [xs_sh_eq e1] at he
  rcases ht with rfl | rfl | rfl | rfl
  · rw [xs_e_100] at he
    exact va_alen hx hb hK hH.1 (r - 1) 0 he (ty := .int) rfl ev hd kk
  · rw [xs_e_101] at he
    exact va_alen hx hb hK hH.1 (r - 1) 1 he (ty := .long) rfl ev hd kk
  · rw [xs_e_102] at he
    exact va_alen hx hb hK hH.1 (r - 1) 2 he (ty := .char) rfl ev hd kk
  · rw [xs_e_103] at he
    exact va_alen hx hb hK hH.1 (r - 1) 3 he (ty := .boolean) rfl ev hd kk
theorem xs_iald {r : Nat} {j : Int} (hC : xs_Cx b ak av cA D a p s m args meth c) (hH : xs_H b ak cA D ph M H) (hl : lim = none ↔ ph = true) (hk : xm_kd lim M r = 100) (hj : 0 ≤ j ∧ j < xm_szi r) (hd : decode (xm_m a).2.1 pc = .ok (.iaload, 1))
    (kk : W p l e R s m args below meth c H locs cells slots Qf (F0 m (pc + 1) ls (.int (Int32.ofInt (M r j)) :: rest))) : W p l e R s m args below meth c H locs cells slots Qf (F0 m pc ls (.int (Int32.ofInt j) :: xs_cvr b ak r :: rest)) := by
  obtain ⟨hx, hb, hml, hr, hts, hown, hnm, hlk, hK, hEU, hEH, hbs⟩ := hC
  obtain ⟨e1, e2, e3⟩ := xs_kd hl (fun q => (hH.2.2.2.2 q).1) hk (by omega)
  have h83 : r ≤ 83 := by have := hH.2.2.2.1; omega
  rw [xs_cvr_ref e2 h83]
  have he := xs_wl_get (b := b) (ak := ak) (cA := cA) (M := M) e2 e3
  have hs := xs_szi r (by omega)
  have hsz : (xm_sh r).2 ≤ 2500 := by rcases xs_shk r with ⟨q1, q2⟩ | q | ⟨q1, q2⟩ <;> omega
  rw [xs_sh_eq e1, xs_e_100] at he
  obtain ⟨v1, v2⟩ := xn_vp hj.1 (by rw [← hs]; exact hj.2) (by omega)
  have ej : ((j.toNat : Nat) : Int) = j := Int.toNat_of_nonneg hj.1
  refine va_iald hx hb hK hH.1 (r - 1) 0 he rfl v1 hd ?_
  rw [v2, ej]
  exact kk
theorem xs_lald {r : Nat} {j : Int} (hC : xs_Cx b ak av cA D a p s m args meth c) (hH : xs_H b ak cA D ph M H) (hl : lim = none ↔ ph = true) (hk : xm_kd lim M r = 101) (hj : 0 ≤ j ∧ j < xm_szi r) (hd : decode (xm_m a).2.1 pc = .ok (.laload, 1))
    (kk : W p l e R s m args below meth c H locs cells slots Qf (F0 m (pc + 1) ls (.long (Int64.ofInt (M r j)) :: rest))) : W p l e R s m args below meth c H locs cells slots Qf (F0 m pc ls (.int (Int32.ofInt j) :: xs_cvr b ak r :: rest)) := by
  obtain ⟨hx, hb, hml, hr, hts, hown, hnm, hlk, hK, hEU, hEH, hbs⟩ := hC
  obtain ⟨e1, e2, e3⟩ := xs_kd hl (fun q => (hH.2.2.2.2 q).1) hk (by omega)
  have h83 : r ≤ 83 := by have := hH.2.2.2.1; omega
  rw [xs_cvr_ref e2 h83]
  have he := xs_wl_get (b := b) (ak := ak) (cA := cA) (M := M) e2 e3
  have hs := xs_szi r (by omega)
  have hsz : (xm_sh r).2 ≤ 2500 := by rcases xs_shk r with ⟨q1, q2⟩ | q | ⟨q1, q2⟩ <;> omega
  rw [xs_sh_eq e1, xs_e_101] at he
  obtain ⟨v1, v2⟩ := xn_vp hj.1 (by rw [← hs]; exact hj.2) (by omega)
  have ej : ((j.toNat : Nat) : Int) = j := Int.toNat_of_nonneg hj.1
  refine va_lald hx hb hK hH.1 (r - 1) 1 he rfl v1 hd ?_
  rw [v2, ej]
  exact kk
theorem xs_cald {r : Nat} {j : Int} (hC : xs_Cx b ak av cA D a p s m args meth c) (hH : xs_H b ak cA D ph M H) (hl : lim = none ↔ ph = true) (hk : xm_kd lim M r = 102) (hj : 0 ≤ j ∧ j < xm_szi r) (hd : decode (xm_m a).2.1 pc = .ok (.caload, 1))
    (kk : W p l e R s m args below meth c H locs cells slots Qf (F0 m (pc + 1) ls (.int (Int32.ofInt (M r j)) :: rest))) : W p l e R s m args below meth c H locs cells slots Qf (F0 m pc ls (.int (Int32.ofInt j) :: xs_cvr b ak r :: rest)) := by
  obtain ⟨hx, hb, hml, hr, hts, hown, hnm, hlk, hK, hEU, hEH, hbs⟩ := hC
  obtain ⟨e1, e2, e3⟩ := xs_kd hl (fun q => (hH.2.2.2.2 q).1) hk (by omega)
  have h83 : r ≤ 83 := by have := hH.2.2.2.1; omega
  rw [xs_cvr_ref e2 h83]
  have he := xs_wl_get (b := b) (ak := ak) (cA := cA) (M := M) e2 e3
  have hs := xs_szi r (by omega)
  have hsz : (xm_sh r).2 ≤ 2500 := by rcases xs_shk r with ⟨q1, q2⟩ | q | ⟨q1, q2⟩ <;> omega
  rw [xs_sh_eq e1, xs_e_102] at he
  obtain ⟨v1, v2⟩ := xn_vp hj.1 (by rw [← hs]; exact hj.2) (by omega)
  have ej : ((j.toNat : Nat) : Int) = j := Int.toNat_of_nonneg hj.1
  refine va_cald hx hb hK hH.1 (r - 1) 2 he rfl v1 hd ?_
  rw [v2, ej]
  exact kk
theorem xs_zald {r : Nat} {j : Int} (hC : xs_Cx b ak av cA D a p s m args meth c) (hH : xs_H b ak cA D ph M H) (hl : lim = none ↔ ph = true) (hk : xm_kd lim M r = 103) (hj : 0 ≤ j ∧ j < xm_szi r) (hd : decode (xm_m a).2.1 pc = .ok (.baload, 1))
    (kk : W p l e R s m args below meth c H locs cells slots Qf (F0 m (pc + 1) ls (.int (Int32.ofInt (M r j)) :: rest))) : W p l e R s m args below meth c H locs cells slots Qf (F0 m pc ls (.int (Int32.ofInt j) :: xs_cvr b ak r :: rest)) := by
  obtain ⟨hx, hb, hml, hr, hts, hown, hnm, hlk, hK, hEU, hEH, hbs⟩ := hC
  obtain ⟨e1, e2, e3⟩ := xs_kd hl (fun q => (hH.2.2.2.2 q).1) hk (by omega)
  have h83 : r ≤ 83 := by have := hH.2.2.2.1; omega
  rw [xs_cvr_ref e2 h83]
  have he := xs_wl_get (b := b) (ak := ak) (cA := cA) (M := M) e2 e3
  have hs := xs_szi r (by omega)
  have hsz : (xm_sh r).2 ≤ 2500 := by rcases xs_shk r with ⟨q1, q2⟩ | q | ⟨q1, q2⟩ <;> omega
  rw [xs_sh_eq e1, xs_e_103] at he
  obtain ⟨v1, v2⟩ := xn_vp hj.1 (by rw [← hs]; exact hj.2) (by omega)
  have ej : ((j.toNat : Nat) : Int) = j := Int.toNat_of_nonneg hj.1
  refine va_zald hx hb hK hH.1 (r - 1) 3 he rfl v1 hd ?_
  rw [v2, ej]
  exact kk
theorem xs_iast {r : Nat} {j x : Int} (hC : xs_Cx b ak av cA D a p s m args meth c) (hH : xs_H b ak cA D ph M H) (hS : va_S (fun q => b < q) s.heap H locs) (hl : lim = none ↔ ph = true) (hk : xm_kd lim M r = 100) (hj : 0 ≤ j ∧ j < xm_szi r) (hd : decode (xm_m a).2.1 pc = .ok (.iastore, 1))
    (kk : ∀ (H1 : Heap) (locs1 : List Loc), xs_H b ak cA D ph (xm_up M r j x) H1 → va_S (fun q => b < q) s.heap H1 locs1 → W p l e R s m args below meth c H1 locs1 cells slots Qf (F0 m (pc + 1) ls rest)) : W p l e R s m args below meth c H locs cells slots Qf (F0 m pc ls (.int (Int32.ofInt x) :: .int (Int32.ofInt j) :: xs_cvr b ak r :: rest)) := by
  obtain ⟨hx, hb, hml, hr, hts, hown, hnm, hlk, hK, hEU, hEH, hbs⟩ := hC
  obtain ⟨e1, e2, e3⟩ := xs_kd hl (fun q => (hH.2.2.2.2 q).1) hk (by omega)
  have h83 : r ≤ 83 := by have := hH.2.2.2.1; omega
  rw [xs_cvr_ref e2 h83]
  have he := xs_wl_get (b := b) (ak := ak) (cA := cA) (M := M) e2 e3
  have hs := xs_szi r (by omega)
  have hsz : (xm_sh r).2 ≤ 2500 := by rcases xs_shk r with ⟨q1, q2⟩ | q | ⟨q1, q2⟩ <;> omega
  rw [xs_sh_eq e1, xs_e_100] at he
  obtain ⟨v1, v2⟩ := xn_vp hj.1 (by rw [← hs]; exact hj.2) (by omega)
  have ej : ((j.toNat : Nat) : Int) = j := Int.toNat_of_nonneg hj.1
  refine W.iast hx hb (hH.1 _ _ he) ((hK.2 0 _ rfl).1 _ _) (fun q => by cases q) (by show ¬ (_ ∨ (arrV _ _ _).slots.size ≤ _); rw [arrV_size]; exact v1) rfl rfl hd fun H1 g1 g2 g3 => ?_
  rw [v2] at g1 ⊢
  refine kk H1 _ (xs_H_up hH e2 e3 ?_ g2 g3 (fun hp k' hk' hlt => by omega)) (xs_S_put hS g2 g3 e2)
  rw [xs_sh_eq e1, xs_up_eq, xs_e_100]
  show H1[b + r]? = some (vp_cell _ _)
  rw [g1]
  show some ((vp_cell _ _).setSlot _ _) = _
  rw [vp_cell_i, vp_cell_i, arrV_store]
  congr 2
  funext q
  unfold updV
  by_cases hq : q = j.toNat
  · subst hq
    rw [if_pos rfl, if_pos ej]
  · rw [if_neg hq, if_neg (by omega)]
theorem xs_last {r : Nat} {j x : Int} (hC : xs_Cx b ak av cA D a p s m args meth c) (hH : xs_H b ak cA D ph M H) (hS : va_S (fun q => b < q) s.heap H locs) (hl : lim = none ↔ ph = true) (hk : xm_kd lim M r = 101) (hj : 0 ≤ j ∧ j < xm_szi r) (hd : decode (xm_m a).2.1 pc = .ok (.lastore, 1))
    (kk : ∀ (H1 : Heap) (locs1 : List Loc), xs_H b ak cA D ph (xm_up M r j x) H1 → va_S (fun q => b < q) s.heap H1 locs1 → W p l e R s m args below meth c H1 locs1 cells slots Qf (F0 m (pc + 1) ls rest)) : W p l e R s m args below meth c H locs cells slots Qf (F0 m pc ls (.long (Int64.ofInt x) :: .int (Int32.ofInt j) :: xs_cvr b ak r :: rest)) := by
  obtain ⟨hx, hb, hml, hr, hts, hown, hnm, hlk, hK, hEU, hEH, hbs⟩ := hC
  obtain ⟨e1, e2, e3⟩ := xs_kd hl (fun q => (hH.2.2.2.2 q).1) hk (by omega)
  have h83 : r ≤ 83 := by have := hH.2.2.2.1; omega
  rw [xs_cvr_ref e2 h83]
  have he := xs_wl_get (b := b) (ak := ak) (cA := cA) (M := M) e2 e3
  have hs := xs_szi r (by omega)
  have hsz : (xm_sh r).2 ≤ 2500 := by rcases xs_shk r with ⟨q1, q2⟩ | q | ⟨q1, q2⟩ <;> omega
  rw [xs_sh_eq e1, xs_e_101] at he
  obtain ⟨v1, v2⟩ := xn_vp hj.1 (by rw [← hs]; exact hj.2) (by omega)
  have ej : ((j.toNat : Nat) : Int) = j := Int.toNat_of_nonneg hj.1
  refine W.last hx hb (hH.1 _ _ he) ((hK.2 1 _ rfl).1 _ _) (fun q => by cases q) (by show ¬ (_ ∨ (arrV _ _ _).slots.size ≤ _); rw [arrV_size]; exact v1) rfl rfl hd fun H1 g1 g2 g3 => ?_
  rw [v2] at g1 ⊢
  refine kk H1 _ (xs_H_up hH e2 e3 ?_ g2 g3 (fun hp k' hk' hlt => by omega)) (xs_S_put hS g2 g3 e2)
  rw [xs_sh_eq e1, xs_up_eq, xs_e_101]
  show H1[b + r]? = some (vp_cell _ _)
  rw [g1]
  show some ((vp_cell _ _).setSlot _ _) = _
  rw [vp_cell_l, vp_cell_l, arrV_store]
  congr 2
  funext q
  unfold updV
  by_cases hq : q = j.toNat
  · subst hq
    rw [if_pos rfl, if_pos ej]
  · rw [if_neg hq, if_neg (by omega)]
theorem xs_cast {r : Nat} {j x : Int} (hC : xs_Cx b ak av cA D a p s m args meth c) (hH : xs_H b ak cA D ph M H) (hS : va_S (fun q => b < q) s.heap H locs) (hl : lim = none ↔ ph = true) (hk : xm_kd lim M r = 102) (hj : 0 ≤ j ∧ j < xm_szi r) (hc : 0 ≤ x ∧ x < 65536) (hd : decode (xm_m a).2.1 pc = .ok (.castore, 1))
    (kk : ∀ (H1 : Heap) (locs1 : List Loc), xs_H b ak cA D ph (xm_up M r j x) H1 → va_S (fun q => b < q) s.heap H1 locs1 → W p l e R s m args below meth c H1 locs1 cells slots Qf (F0 m (pc + 1) ls rest)) : W p l e R s m args below meth c H locs cells slots Qf (F0 m pc ls (.int (Int32.ofInt x) :: .int (Int32.ofInt j) :: xs_cvr b ak r :: rest)) := by
  obtain ⟨hx, hb, hml, hr, hts, hown, hnm, hlk, hK, hEU, hEH, hbs⟩ := hC
  obtain ⟨e1, e2, e3⟩ := xs_kd hl (fun q => (hH.2.2.2.2 q).1) hk (by omega)
  have h83 : r ≤ 83 := by have := hH.2.2.2.1; omega
  rw [xs_cvr_ref e2 h83]
  have he := xs_wl_get (b := b) (ak := ak) (cA := cA) (M := M) e2 e3
  have hs := xs_szi r (by omega)
  have hsz : (xm_sh r).2 ≤ 2500 := by rcases xs_shk r with ⟨q1, q2⟩ | q | ⟨q1, q2⟩ <;> omega
  rw [xs_sh_eq e1, xs_e_102] at he
  obtain ⟨v1, v2⟩ := xn_vp hj.1 (by rw [← hs]; exact hj.2) (by omega)
  have ej : ((j.toNat : Nat) : Int) = j := Int.toNat_of_nonneg hj.1
  refine W.cast hx hb (hH.1 _ _ he) ((hK.2 2 _ rfl).1 _ _) (fun q => by cases q) (by show ¬ (_ ∨ (arrV _ _ _).slots.size ≤ _); rw [arrV_size]; exact v1) rfl rfl hd fun H1 g1 g2 g3 => ?_
  rw [v2] at g1 ⊢
  refine kk H1 _ (xs_H_up hH e2 e3 ?_ g2 g3 (fun hp k' hk' hlt => by omega)) (xs_S_put hS g2 g3 e2)
  rw [xs_sh_eq e1, xs_up_eq, xs_e_102]
  show H1[b + r]? = some (vp_cell _ _)
  rw [g1]
  show some ((vp_cell _ _).setSlot _ _) = _
  rw [vp_cell_i, vp_cell_i, arrV_store]
  congr 2
  funext q
  unfold updV
  by_cases hq : q = j.toNat
  · subst hq
    rw [if_pos rfl, if_pos ej]
    exact xs_narC hc
  · rw [if_neg hq, if_neg (by omega)]
theorem xs_zast {r : Nat} {j x : Int} (hC : xs_Cx b ak av cA D a p s m args meth c) (hH : xs_H b ak cA D ph M H) (hS : va_S (fun q => b < q) s.heap H locs) (hl : lim = none ↔ ph = true) (hk : xm_kd lim M r = 103) (hj : 0 ≤ j ∧ j < xm_szi r) (hc : x = 0 ∨ x = 1) (hd : decode (xm_m a).2.1 pc = .ok (.bastore, 1))
    (kk : ∀ (H1 : Heap) (locs1 : List Loc), xs_H b ak cA D ph (xm_up M r j x) H1 → va_S (fun q => b < q) s.heap H1 locs1 → W p l e R s m args below meth c H1 locs1 cells slots Qf (F0 m (pc + 1) ls rest)) : W p l e R s m args below meth c H locs cells slots Qf (F0 m pc ls (.int (Int32.ofInt x) :: .int (Int32.ofInt j) :: xs_cvr b ak r :: rest)) := by
  obtain ⟨hx, hb, hml, hr, hts, hown, hnm, hlk, hK, hEU, hEH, hbs⟩ := hC
  obtain ⟨e1, e2, e3⟩ := xs_kd hl (fun q => (hH.2.2.2.2 q).1) hk (by omega)
  have h83 : r ≤ 83 := by have := hH.2.2.2.1; omega
  rw [xs_cvr_ref e2 h83]
  have he := xs_wl_get (b := b) (ak := ak) (cA := cA) (M := M) e2 e3
  have hs := xs_szi r (by omega)
  have hsz : (xm_sh r).2 ≤ 2500 := by rcases xs_shk r with ⟨q1, q2⟩ | q | ⟨q1, q2⟩ <;> omega
  rw [xs_sh_eq e1, xs_e_103] at he
  obtain ⟨v1, v2⟩ := xn_vp hj.1 (by rw [← hs]; exact hj.2) (by omega)
  have ej : ((j.toNat : Nat) : Int) = j := Int.toNat_of_nonneg hj.1
  refine W.zast hx hb (hH.1 _ _ he) ((hK.2 3 _ rfl).1 _ _) (fun q => by cases q) (by show ¬ (_ ∨ (arrV _ _ _).slots.size ≤ _); rw [arrV_size]; exact v1) rfl rfl hd fun H1 g1 g2 g3 => ?_
  rw [v2] at g1 ⊢
  refine kk H1 _ (xs_H_up hH e2 e3 ?_ g2 g3 (fun hp k' hk' hlt => by omega)) (xs_S_put hS g2 g3 e2)
  rw [xs_sh_eq e1, xs_up_eq, xs_e_103]
  show H1[b + r]? = some (vp_cell _ _)
  rw [g1]
  show some ((vp_cell _ _).setSlot _ _) = _
  rw [vp_cell_i, vp_cell_i, arrV_store]
  congr 2
  funext q
  unfold updV
  by_cases hq : q = j.toNat
  · subst hq
    rw [if_pos rfl, if_pos ej]
    exact xs_narZ hc
  · rw [if_neg hq, if_neg (by omega)]
theorem xs_putf {x y r k : Nat} {w : Int} {v : Value} (hC : xs_Cx b ak av cA D a p s m args meth c) (hH : xs_H b ak cA D ph M H) (hS : va_S (fun q => b < q) s.heap H locs) (hl : lim = none ↔ ph = true) (hk : xm_kd lim M r = x) (hf : xm_flk (xm_m a).2.2.2.2.1 k x y = true) (hd : decode (xm_m a).2.1 pc = .ok (.putfield k, 3))
    (hfin : (!((xm_F x y).2.2.2) || (decide ((xm_m a).1.name = "<init>") && Nat.beq x (xm_m a).2.2.2.2.1)) = true) (hv : v = xs_fv b ak (xm_fc x y) w) (hn : narrow (xm_ty x y) v = v) (hfit : fits (xm_ty x y) v = true) (hph : ph = true → xm_fc x y ≠ 2)
    (kk : ∀ (H1 : Heap) (locs1 : List Loc), xs_H b ak cA D ph (xm_up M r (y : Int) w) H1 → va_S (fun q => b < q) s.heap H1 locs1 → W p l e R s m args below meth c H1 locs1 cells slots Qf (F0 m (pc + 3) ls rest)) : W p l e R s m args below meth c H locs cells slots Qf (F0 m pc ls (v :: xs_cvr b ak r :: rest)) := by
  obtain ⟨hx, hb, hml, hr, hts, hown, hnm, hlk, hK, hEU, hEH, hbs⟩ := hC
  obtain ⟨f1, f2, f3, f4⟩ := xs_flk hf
  obtain ⟨e1, e2, e3⟩ := xs_kd hl (fun q => (hH.2.2.2.2 q).1) hk (by omega)
  have hN : (xm_sh r).2 = xm_N x := by
    rcases xs_shk r with ⟨q1, q2⟩ | q | ⟨q1, q2⟩
    · rw [q2, e1]
    · omega
    · omega
  have h83 : r ≤ 83 := by have := hH.2.2.2.1; omega
  rw [xs_cvr_ref e2 h83]
  have hin := xs_ws1 f1
  have hty : ∀ j, j < xm_N x → parseFieldDescriptor (xm_F x j).2.2.1 = some (xm_ty x j) := fun j hj => xs_typ f1 hj
  have hap := va_apart (own := xm_cn x) hts hin (xm_ty x) hty (xs_nn f1) hK (xs_clsk f1)
  have he := xs_wl_get (b := b) (ak := ak) (cA := cA) (M := M) e2 e3
  rw [xs_sh_eq e1, hN, xs_e_obj f1] at he
  obtain ⟨q0, h1, cell, q1, q2, q3, q4⟩ := hH.1 _ _ he
  have hq : q0 = (xm_cn x, xm_F x, xm_N x) := Option.some.inj (h1.symm.trans (xs_clsk f1))
  subst hq
  obtain ⟨hSl, hfc, kC, hkC, hkind⟩ := hK.1 x _ (xs_clsk f1)
  obtain ⟨cf, kf, fi, f, hi, hsl⟩ := hSl y f2
  have hst := (u_facts hfc hkC (u_lays hts hin f2) hi).1
  have hi2 : s.fieldFound? (xm_cn x) (xm_F x y).2.1 (xm_F x y).2.2.1 = some (cf, kf, fi, f) := by rw [← f3]; exact hi
  have key : ∀ H' : Heap, H'[b + r]? = some (cell.setSlot f.slot v) → H'.size = H.size → (∀ q : Nat, q ≠ b + r → H'[q]? = H[q]?) → W p l e R s m args below meth c H' (locs ++ [⟨b + r, f.slot⟩]) cells slots Qf (F0 m (pc + 3) ls rest) := by
    intro H' g1 g2 g3
    refine kk H' _ (xs_H_up hH e2 e3 ?_ g2 g3 (fun hp k' hk' _ => ?_)) (xs_S_put hS g2 g3 e2)
    · rw [xs_sh_eq e1, hN, xs_e_obj f1, xs_up_eq, ← xs_fld_set (v := w) f2]
      refine ⟨_, xs_clsk f1, t_OB.to (V := updV (vp_V ((List.range (xm_N x)).map fun j => xs_fv b ak (xm_fc x j) (M r (j : Int)))) y v) ⟨_, g1, q2, q3, ?_⟩ (fun j _ => ?_)⟩
      · rw [hsl]; exact t_set q4 hap f2 v
      · rw [hv]; exact vp_updV_set (by simpa using f2) _ j
    · have : k' = y := by omega
      rw [this, e1]; exact hph hp
  cases hfn : (xm_F x y).2.2.2 with
  | false =>
    have hlay := hts _ (hin _ (u_in_lay f2))
    unfold u_lay at hlay
    rw [if_neg (by rw [hfn]; decide)] at hlay
    have h6 := u_store hfc hkC hkind hlay hi (hty y f2) hn hfit
    exact W.putK hx hb (f := f) ⟨hown, hts _ f4, ⟨_, _, _, hi2⟩, hst⟩ (by rw [q2]; exact h6) q1 q3 (by rw [hsl]; exact k2_hasslot (q4 y f2)) rfl rfl hd key
  | true =>
    rw [hfn] at hfin
    simp only [Bool.not_true, Bool.false_or, Bool.and_eq_true, decide_eq_true_eq, Nat.beq_eq] at hfin
    have hlay := hts _ (hin _ (u_in_lay f2))
    unfold u_lay at hlay
    rw [if_pos hfn] at hlay
    have hcf : m.cls = cf := by
      obtain ⟨_, _, c', _, _, _, -, -, hf', -, -, -, hown2, -⟩ := Cond.laysFinal_spec hlay
      have w1 : c' = cf := by have := hi.symm.trans hf'; simp at this; exact this.1.symm
      rw [f3, hfin.2] at hown2
      rw [← w1]; exact Option.some.inj (hown.symm.trans hown2)
    have h6 := u_fits hfc hkC hkind (Or.inr hlay) hi (hty y f2) hn hfit
    exact W.putFinK hx hb hown (hts _ f4) hi2 hst hcf (hnm.trans hfin.1) (by rw [q2]; exact h6) q1 q3 (by rw [hsl]; exact k2_hasslot (q4 y f2)) rfl rfl hd key
end XSL
