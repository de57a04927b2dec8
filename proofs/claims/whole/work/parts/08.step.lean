/-! each instruction of the pure machine is the machine's -/
theorem xs_any3 {α : Type} {l : List (Nat × Nat × α)} {f : Nat × Nat × α → Bool} (h : l.any f = true) : ∃ q ∈ l, f q = true := List.any_eq_true.mp h
theorem xs_mlk {cn k x : Nat} (h : xm_mlk cn k x = true) : Jvm.Cond.methodLink (xm_cn cn) k (xm_nm x) ∈ xm_T := by
  obtain ⟨q, hq, h1⟩ := List.any_eq_true.mp h
  simp only [Bool.and_eq_true, Nat.beq_eq] at h1
  obtain ⟨e1, e2, e3⟩ := h1
  have h2 := List.all_eq_true.mp xm_ml_ok q hq
  rw [← e1, ← e2, ← e3]
  exact xm_w.mem h2
theorem xs_mnk {cn k x : Nat} {U : State} {ak : Nat → Nat} (h : xm_mnk cn k x = true) (hE : xs_EU ak U) : va_Nw (.methodLinkNest (xm_cn cn) k (xm_nm x) (xm_cn 0)) U := by
  obtain ⟨q, hq, h1⟩ := List.any_eq_true.mp h
  simp only [Bool.and_eq_true, Nat.beq_eq] at h1
  obtain ⟨e1, e2, e3⟩ := h1
  rw [← e1, ← e2, ← e3]
  exact hE.1 q hq
theorem xs_cik {cn k : Nat} {z : Int} (h : (xm_ci.any fun q => Nat.beq q.1 cn && (Nat.beq q.2.1 k && decide (q.2.2.1 = z))) = true) : Jvm.Cond.constant (xm_cn cn) k (Int32.ofInt z) ∈ xm_T := by
  obtain ⟨q, hq, h1⟩ := List.any_eq_true.mp h
  simp only [Bool.and_eq_true, Nat.beq_eq, decide_eq_true_eq] at h1
  obtain ⟨e1, e2, e3⟩ := h1
  have h2 := List.all_eq_true.mp xm_ci_ok q hq
  rw [← e1, ← e2, ← e3]
  exact xm_w.mem h2
theorem xs_clk {cn k : Nat} {z : Int} (h : (xm_cl.any fun q => Nat.beq q.1 cn && (Nat.beq q.2.1 k && decide (q.2.2.1 = z))) = true) : Jvm.Cond.constantLong (xm_cn cn) k (Int64.ofInt z) ∈ xm_T := by
  obtain ⟨q, hq, h1⟩ := List.any_eq_true.mp h
  simp only [Bool.and_eq_true, Nat.beq_eq, decide_eq_true_eq] at h1
  obtain ⟨e1, e2, e3⟩ := h1
  have h2 := List.all_eq_true.mp xm_cl_ok q hq
  rw [← e1, ← e2, ← e3]
  exact xm_w.mem h2
theorem xs_nwk {cn k x : Nat} (h : (xm_nw.any fun q => Nat.beq q.1 cn && (Nat.beq q.2.1 k && Nat.beq q.2.2.1 x)) = true) : Jvm.Cond.classLink (xm_cn cn) k (xm_cn x) ∈ xm_T := by
  obtain ⟨q, hq, h1⟩ := List.any_eq_true.mp h
  simp only [Bool.and_eq_true, Nat.beq_eq] at h1
  obtain ⟨e1, e2, e3⟩ := h1
  have h2 := List.all_eq_true.mp xm_nw_ok q hq
  rw [← e1, ← e2, ← e3]
  exact xm_w.mem h2
/-- what is known of a method that is called -/
theorem xs_mw {a : Nat} (ha : a < 280) : Jvm.Cond.code (xm_m a).1 (xm_m a).2.1 (xm_m a).2.2.1 (xm_m a).2.2.2.1 ∈ xm_T ∧ Jvm.Cond.initialized (xm_m a).1.cls ∈ xm_T ∧ ((xm_m a).2.2.2.2.2.1 = true → Jvm.Cond.static (xm_m a).1 ∈ xm_T) ∧ ((xm_m a).2.2.2.2.2.1 = false → Jvm.Cond.instanceMethod (xm_m a).1 ∈ xm_T ∧ ((xm_m a).1.name ≠ "<init>" → Jvm.Cond.selects (xm_m a).1.cls (xm_m a).1 (xm_m a).1 ∈ xm_T)) := by
  have h := List.all_eq_true.mp xs_mps a (List.mem_range.mpr ha)
  unfold xm_mpB at h
  generalize xm_mp.getD a ((0, 0), (0, 0), (0, 0), (0, 0)) = q at h
  obtain ⟨q1, q2, q3, q4⟩ := q
  simp only [Bool.and_eq_true] at h
  obtain ⟨h1, h2, h3⟩ := h
  refine ⟨xm_w.mem h1, xm_w.mem h2, fun e => ?_, fun e => ?_⟩
  · rw [e] at h3; exact xm_w.mem h3
  · rw [e] at h3
    simp only [Bool.and_eq_true, Bool.or_eq_true, decide_eq_true_eq] at h3
    exact ⟨xm_w.mem h3.1, fun hn => by rcases h3.2 with q | q; exact absurd q hn; exact xm_w.mem q⟩
theorem xs_mbk {a : Nat} (ha : a < 280) : (xm_m a).1.cls = xm_cn (xm_m a).2.2.2.2.1 ∧ plainName (xm_m a).1.cls = true ∧ (xm_m a).2.2.1 ≤ 18 ∧ (parseMethodDescriptor (xm_m a).1.desc).map (fun d => d.parameters.length + (if (xm_m a).2.2.2.2.2.1 then 0 else 1)) = some (xm_m a).2.2.2.2.2.2.1 := by
  have h := (xs_okm ha).1
  simp only [xm_mB, Bool.and_eq_true, decide_eq_true_eq, Nat.ble_eq] at h
  exact ⟨h.1, h.2.1, h.2.2.1, h.2.2.2.1.1⟩
theorem xs_ngood {a : Nat} (h : Jvm.Cond.code (xs_mm a).1 (xs_mm a).2.1 (xs_mm a).2.2.1 (xs_mm a).2.2.2.1 ∈ xm_T) : GoodIn xm_T (xs_ws a) := by
  intro w hw
  rcases List.mem_cons.mp hw with rfl | hw
  · exact xm_T_good _ h
  · exact xm_T_good _ hw
theorem xs_mm_lt {a : Nat} (ha : a < 280) : xs_mm a = xm_m a := by
  unfold xs_mm
  split
  · omega
  · omega
  · rfl
theorem xs_nm_lt {a : Nat} (ha : a < 280) : xm_nm a = (xm_m a).1 := by
  unfold xm_nm
  split <;> first | omega | rfl
theorem xs_mwx {a : Nat} (ha : a = 901 ∨ a = 902) : Jvm.Cond.code (xs_mm a).1 (xs_mm a).2.1 (xs_mm a).2.2.1 (xs_mm a).2.2.2.1 ∈ xm_T ∧ Jvm.Cond.initialized (xs_mm a).1.cls ∈ xm_T ∧ Jvm.Cond.instanceMethod (xs_mm a).1 ∈ xm_T ∧ Jvm.Cond.selects (xs_mm a).1.cls (xs_mm a).1 (xs_mm a).1 ∈ xm_T ∧ xm_nm a = (xs_mm a).1 ∧ (xs_mm a).1.cls = "java/lang/String" ∧ (xs_mm a).2.2.1 ≤ 18 := by
  rcases ha with rfl | rfl <;> decide +kernel
theorem xs_recv {b : Nat} {ak : Nat → Nat} {cA : Nat → ClassId} {D : va_G} {ph : Bool} {lim : Option Int} {M : xm_Mem} {s : State} {H : Heap} {a : Nat} {as : List xm_V} (hl : lim = none ↔ ph = true) (hH : xs_H b ak cA D ph M H) (hK : va_K D xm_cls (xs_ar cA) s) (ha : a < 280) (h : xm_recv lim M a as = true) (hcn : (xm_m a).2.2.2.2.1 < 12) : ∃ (r : Nat) (as' : List xm_V), as = .inr (.inr r) :: as' ∧ 1 ≤ r ∧ r ≤ 83 ∧ ∃ cell : Cell, H[b + r]? = some cell ∧ cell.vm.isStatics = false ∧ s.vm.findClass (xm_m a).1.cls = some cell.cls := by
  unfold xm_recv at h
  split at h
  · rename_i r as'
    have hx := Nat.eq_of_beq_eq_true h
    obtain ⟨e1, e2, e3⟩ := xs_kd hl (fun q => (hH.2.2.2.2 q).1) hx (by omega)
    have h83 : r ≤ 83 := by have := hH.2.2.2.1; omega
    refine ⟨r, as', rfl, e2, h83, ?_⟩
    have he := xs_wl_get (b := b) (ak := ak) (cA := cA) (M := M) e2 e3
    rw [xs_sh_eq e1, xs_e_obj hcn] at he
    rw [(xs_mbk ha).1]
    exact va_recv hK hH.1 (xs_clsk hcn) he
  · cases h
theorem xs_cn12 : ((List.range 280).all fun a => (xm_m a).2.2.2.2.2.1 || Nat.ble ((xm_m a).2.2.2.2.1 + 1) 12) = true := by decide +kernel
def xs_gB (i : Instr) (pc np : Nat) : Bool := match i with
  | .goto _ => Nat.beq np (pc + 3)
  | .ireturn | .lreturn | .areturn | .return_ => Nat.beq np (pc + 1)
  | _ => true
theorem xs_isref (b : Nat) (ak : Nat → Nat) (w : Nat) : xs_cvr b ak w = .null ∨ ∃ q, xs_cvr b ak w = .ref q := by
  unfold xs_cvr
  split
  · exact Or.inl rfl
  · split <;> exact Or.inr ⟨_, rfl⟩
theorem xs_gok : ((List.range 280).all fun a => (xm_c a).all fun e => xs_gB e.2.1 e.1 e.2.2.1) = true := by decide +kernel
theorem xs_lk {X : Nat → Prop} {w d : Int} {dt pc : Nat} (hd : (pc : Int) + d = (dt : Int)) : ∀ (T : List (Int × Nat)) (ps : List (Int × Int)), T.map (fun q => (q.1, (q.2 : Int))) = ps.map (fun q => (q.1, (pc : Int) + q.2)) → xm_sw w X T → (xm_sn w T → X dt) → ∃ t : Nat, X t ∧ (pc : Int) + Op.lookupswitch.offset ps d w = (t : Int)
  | [], [], _, _, h => ⟨dt, h trivial, hd⟩
  | [], _ :: _, e, _, _ => by simp at e
  | _ :: _, [], e, _, _ => by simp at e
  | (v, t) :: T, (v2, o) :: ps, e, h1, h2 => by
    simp only [List.map_cons, List.cons.injEq, Prod.mk.injEq] at e
    obtain ⟨⟨e1, e2⟩, e3⟩ := e
    subst e1
    rw [Op.lookupswitch.offset_cons]
    by_cases hw : v = w
    · rw [if_pos hw]
      exact ⟨t, h1.1 hw.symm, e2.symm⟩
    · rw [if_neg hw]
      exact xs_lk hd T ps e3 h1.2 (fun q => h2 ⟨Ne.symm hw, q⟩)
theorem xs_swAt {X : Nat → Prop} {w : Int} : ∀ (T : List (Int × Nat)), xm_sw w X T → ∀ (j t : Nat), T[j]? = some (w, t) → X t
  | [], _, j, t, h => by simp at h
  | (v, t0) :: T, hs, 0, t, h => by
    simp only [List.getElem?_cons_zero, Option.some.injEq, Prod.mk.injEq] at h
    rw [← h.2]
    exact hs.1 h.1.symm
  | (v, t0) :: T, hs, j + 1, t, h => xs_swAt T hs.2 j t (by simpa using h)
theorem xs_snOf {w : Int} : ∀ (T : List (Int × Nat)), (∀ v ∈ T.map (fun q => q.1), w ≠ v) → xm_sn w T
  | [], _ => trivial
  | (v, t) :: T, h => ⟨h v (by simp), xs_snOf T (fun u hu => h u (by simp at hu ⊢; exact Or.inr hu))⟩
theorem xs_tb {X : Nat → Prop} {w lo hi d : Int} {dt pc : Nat} {T : List (Int × Nat)} {os : Array Int} (hd : (pc : Int) + d = (dt : Int)) (h1 : T.map (fun q => q.1) = (List.range os.size).map (fun (j : Nat) => lo + (j : Int))) (h2 : T.map (fun q => (q.2 : Int)) = os.toList.map (fun o => (pc : Int) + o)) (h3 : lo + (os.size : Int) = hi + 1) (hs : xm_sw w X T) (hn : xm_sn w T → X dt) :
    ((w < lo ∨ hi < w) ∧ X dt) ∨ (¬ w < lo ∧ ¬ hi < w ∧ ∃ (o : Int) (t : Nat), os[(w - lo).toNat]? = some o ∧ (pc : Int) + o = (t : Int) ∧ X t) := by
  by_cases hw : w < lo ∨ hi < w
  · refine Or.inl ⟨hw, hn (xs_snOf T (fun v hv => ?_))⟩
    rw [h1] at hv
    obtain ⟨j, hj, rfl⟩ := List.mem_map.mp hv
    have := List.mem_range.mp hj
    omega
  · refine Or.inr ⟨fun q => hw (Or.inl q), fun q => hw (Or.inr q), ?_⟩
    have hj : (w - lo).toNat < os.size := by omega
    have hlen : T.length = os.size := by have := congrArg List.length h1; simpa using this
    have e1 : (T.map (fun q => q.1))[(w - lo).toNat]? = some w := by
      rw [h1, List.getElem?_map, List.getElem?_range hj]
      show some (lo + (((w - lo).toNat : Nat) : Int)) = some w
      congr 1
      omega
    have e2 : (T.map (fun q => (q.2 : Int)))[(w - lo).toNat]? = some ((pc : Int) + os[(w - lo).toNat]) := by
      rw [h2, List.getElem?_map, Array.getElem?_toList, Array.getElem?_eq_getElem hj]
      rfl
    rw [List.getElem?_map] at e1 e2
    cases hT : T[(w - lo).toNat]? with
    | none => rw [hT] at e1; cases e1
    | some q =>
      rw [hT] at e1 e2
      obtain ⟨q1, q2⟩ := q
      have f1 : q1 = w := Option.some.inj e1
      have f2 : (q2 : Int) = (pc : Int) + os[(w - lo).toNat] := Option.some.inj e2
      subst f1
      exact ⟨_, q2, Array.getElem?_eq_getElem hj, f2.symm, xs_swAt T hs _ _ hT⟩
theorem xs_refT {ty : FieldType} {b : Nat} {ak : Nat → Nat} {r : Nat} (h : ty.isReference = true) : narrow ty (xs_cvr b ak r) = xs_cvr b ak r ∧ fits ty (xs_cvr b ak r) = true := by
  unfold xs_cvr
  cases ty <;> first | (cases h; done) | (split <;> first | exact ⟨rfl, rfl⟩ | (split <;> exact ⟨rfl, rfl⟩))
theorem xs_fitsZ {w : Int} (h : w = 0 ∨ w = 1) : fits .boolean (.int (Int32.ofInt w)) = true := by
  rcases h with rfl | rfl <;> decide
theorem xs_tyf {x y : Nat} (hx : x < 12) (hy : y < xm_N x) : (xm_fc x y = 0 → xm_ty x y = .int ∧ (xm_F x y).2.2.2 = false) ∧ (xm_fc x y = 1 → xm_ty x y = .long ∧ (xm_F x y).2.2.2 = false) ∧ (xm_fc x y = 2 → (xm_ty x y).isReference = true) ∧ (xm_fc x y = 3 → (xm_ty x y).isReference = true ∧ (xm_F x y).2.2.2 = false) ∧ (xm_fc x y = 4 → xm_ty x y = .boolean ∧ (xm_F x y).2.2.2 = false) := by
  have h := xs_tyk hx hy
  simp only [xm_tyB, Bool.and_eq_true, decide_eq_true_eq] at h
  obtain ⟨-, h⟩ := h
  refine ⟨fun e => ?_, fun e => ?_, fun e => ?_, fun e => ?_, fun e => ?_⟩ <;> rw [e] at h <;> simp only [Bool.and_eq_true, decide_eq_true_eq, Bool.not_eq_true'] at h <;> first | exact h | exact h.1
/-- all places of a new object hold their first values -/
theorem xs_def {x j : Nat} {b : Nat} {ak : Nat → Nat} (hx : x < 12) (hj : j < xm_N x) : defaultValue (xm_ty x j) = xs_fv b ak (xm_fc x j) 0 := by
  have h := xs_tyk hx hj
  simp only [xm_tyB, Bool.and_eq_true, decide_eq_true_eq] at h
  obtain ⟨-, h⟩ := h
  split at h
  · rename_i e; simp only [Bool.and_eq_true, decide_eq_true_eq] at h; rw [e, h.1]; rfl
  · rename_i e; simp only [Bool.and_eq_true, decide_eq_true_eq] at h; rw [e, h.1]; rfl
  · rename_i e
    simp only [Bool.and_eq_true] at h
    rw [e]
    generalize xm_ty x j = t at h
    cases t <;> first | rfl | (exact absurd h.1 (by decide))
  · rename_i e
    simp only [Bool.and_eq_true] at h
    rw [e]
    generalize xm_ty x j = t at h
    cases t <;> first | rfl | (exact absurd h.1 (by decide))
  · rename_i e; simp only [Bool.and_eq_true, decide_eq_true_eq] at h; rw [e, h.1]; rfl
  · cases h
theorem xs_slm : ((List.range 84).all fun n => (List.range 84).all fun k => !(Nat.ble n k) || Nat.ble (xm_sl n) (xm_sl k)) = true := by decide +kernel
theorem xs_sl_mono {n k : Nat} (h : n ≤ k) (hk : k ≤ 83) : xm_sl n ≤ xm_sl k := by
  have := List.all_eq_true.mp (List.all_eq_true.mp xs_slm n (List.mem_range.mpr (by omega))) k (List.mem_range.mpr (by omega))
  simp only [Bool.or_eq_true, Bool.not_eq_true', Nat.ble_eq] at this
  rcases this with q | q
  · have : Nat.ble n k = true := Nat.ble_eq.mpr h
    rw [this] at q; cases q
  · exact q
theorem xs_sls : ((List.range 83).all fun n => Nat.beq (xm_sl (n + 1)) (xm_sl n + (xm_sh (n + 1)).2)) = true := by decide +kernel
theorem xs_sl_succ {n : Nat} (h : n < 83) : xm_sl (n + 1) = xm_sl n + (xm_sh (n + 1)).2 := Nat.eq_of_beq_eq_true (List.all_eq_true.mp xs_sls n (List.mem_range.mpr h))
/-- behind the making of a cell -/
theorem xs_H_new {b : Nat} {ak : Nat → Nat} {cA : Nat → ClassId} {D : va_G} {ph : Bool} {M : xm_Mem} {H H1 : Heap} (hH : xs_H b ak cA D ph M H) (hph : ph = false) (hn : (M 0 0).toNat < 83) (he : va_at D xm_cls (b + ((M 0 0).toNat + 1), xs_e b ak cA (xm_sh ((M 0 0).toNat + 1)) (fun _ => 0)) H1) (z : H1.size = H.size + 1) (oq : ∀ q : Nat, q < H.size → H1[q]? = H[q]?) : xs_H b ak cA D ph (xm_up (xm_z M ((M 0 0).toNat + 1)) 0 0 (M 0 0 + 1)) H1 := by
  obtain ⟨hP, hz, g0, g1, g2⟩ := hH
  have e0 : xm_up (xm_z M ((M 0 0).toNat + 1)) 0 0 (M 0 0 + 1) 0 0 = M 0 0 + 1 := by rw [xs_up_eq]; simp
  have et : (M 0 0 + 1).toNat = (M 0 0).toNat + 1 := by omega
  unfold xs_H
  rw [e0, et]
  have en : ∀ c : Nat, c ≠ (M 0 0).toNat + 1 → 1 ≤ c → xm_up (xm_z M ((M 0 0).toNat + 1)) 0 0 (M 0 0 + 1) c = M c := by
    intro c hc h1
    rw [xs_up_ne (by omega)]
    funext k
    unfold xm_z
    rw [if_neg hc]
  have ew : xm_up (xm_z M ((M 0 0).toNat + 1)) 0 0 (M 0 0 + 1) ((M 0 0).toNat + 1) = fun _ => 0 := by
    rw [xs_up_ne (by omega)]
    funext k
    unfold xm_z
    rw [if_pos rfl]
  have hz := hz hph
  refine ⟨?_, fun _ => by omega, by omega, by omega, fun q => by rw [hph] at q; cases q⟩
  rw [← xs_wl_push en, ew]
  refine va_P.app (hP.kept (fun k q hk => oq q.1 ?_)) (fun k q hk => ?_)
  · have := xs_wl_lt hk; omega
  · have hk1 : k < 1 := (List.getElem?_eq_some_iff.mp hk).1
    rw [show k = 0 by omega] at hk
    cases hk
    exact he
theorem xs_alcok : ((List.range 280).all fun a => (decide ((xm_m a).1.name = "<init>") && decide ((xm_m a).2.2.2.1 = none)) || (Nat.beq (xm_m a).2.2.2.2.2.2.2 0 && decide ((xm_m a).1.name ≠ "<init>"))) = true := by decide +kernel
theorem xs_alc {a : Nat} (ha : a < 280) : ((xm_m a).1.name = "<init>" → (xm_m a).2.2.2.1 = none) ∧ ((xm_m a).1.name ≠ "<init>" → (xm_m a).2.2.2.2.2.2.2 = 0) := by
  have h := List.all_eq_true.mp xs_alcok a (List.mem_range.mpr ha)
  simp only [Bool.or_eq_true, Bool.and_eq_true, decide_eq_true_eq, Nat.beq_eq] at h
  rcases h with ⟨q1, q2⟩ | ⟨q1, q2⟩
  · exact ⟨fun _ => q2, fun q => absurd q1 q⟩
  · exact ⟨fun q => absurd q q2, fun _ => q1⟩
theorem xs_natw : nativeFrameWords "java/lang/System" "arraycopy" 5 ≤ 10 := by decide +kernel
theorem xs_cx1 {ph : Bool} {d : Nat} {as : List xm_V} {M : xm_Mem} {Q : xm_K} (h : xm_call ph (d + 1) 901 as M Q) : ∃ r : Nat, as = [.inr (.inr r)] ∧ (3 ≤ d + 1 ∧ 1000 ≤ r ∧ r < 1006) ∧ Q [.inl ((xm_sln.getD (r - 1000) 0 : Nat) : Int)] M := by
  change xm_ext (d + 1) 901 as M Q at h
  unfold xm_ext at h
  split at h
  · split at h
    · exact ⟨_, rfl, h⟩
    · exact h.elim
  · omega
  · exact h.elim
theorem xs_cx2 {ph : Bool} {d : Nat} {as : List xm_V} {M : xm_Mem} {Q : xm_K} (h : xm_call ph (d + 1) 902 as M Q) : ∃ (r : Nat) (j : Int), as = [.inr (.inr r), .inl j] ∧ (5 ≤ d + 1 ∧ 1000 ≤ r ∧ r < 1006 ∧ 0 ≤ j ∧ j < ((xm_sln.getD (r - 1000) 0 : Nat) : Int)) ∧ Q [.inl ((xm_sby.getD (r - 1000) []).getD j.toNat 0)] M := by
  change xm_ext (d + 1) 902 as M Q at h
  unfold xm_ext at h
  split at h
  · omega
  · split at h
    · exact ⟨_, _, rfl, h⟩
    · exact h.elim
  · exact h.elim
theorem xs_nm903 : xm_nm 903 = Lib.objectInit := rfl
section R16
variable {p : Program} {l : Launch} {e : Env} {R : Room} {s : State} {m : MethodId} {args : Array Value} {below : List Frame} {meth : Method} {c : Code} {H : Heap} {locs : List Loc} {cells slots : Nat} {y : MethodName} {bytes cc : ByteArray} {maxL nL mc ms n index : Nat} {ret : Option FieldType} {ws : List Jvm.Cond} {rm : Room} {Pc : Array Value → State → Prop} {Qc : Array Value → State → Outcome → State → Prop} {free : Addr → Prop} {Ts : List Jvm.Cond} {own C : String} {b : Addr} {As rest : List Value} {g : JFrame}
/-- a call with up to 16 words below it on the stack -/
theorem xs_runV16 (S : CallFix p m c cc nL s args Ts own) (hM : Met l y ws rm Pc Qc mc ms free) (cw : CallW R s args own C index y bytes maxL ret ws rm mc ms n) (hlo : 16 + (maxL + 11) + rm.locals ≤ R.locals) (hp : PreV s H C b Pc As)
    (hg : g.method = m) (hn : As.length = n) (hsize : g.locals.size = nL) (hstack : g.stack = As.reverse ++ .ref b :: rest) (hW : 2 * g.monitorRoom + (rest.map fun v => v.category).sum ≤ 16) (hdg : decode cc g.pc = .ok (.invokevirtual index, 3)) (hf : cells + mc ≤ R.cells ∧ slots + ms ≤ R.slots) :
    va_Run p l e R s m args below meth c H locs cells slots mc ms g rest (Qc (Value.ref b :: As).toArray) (free) := by
  obtain ⟨⟨hrc, hrs, hfr, -, hws, hcw, hcode, hini, hy, hlen, hl⟩, hin, hse⟩ := cw
  have hK : Back l R p e below s args y 3 16 (PreOf R mc ms Pc) (PostOf Qc mc ms free) := back_of (bytes := bytes) (maxL := maxL) (ret := ret) hM hp.1 hrc hrs hfr hlo hws hcw (fun a' U hW => word_at hW (Or.inl (by first | rfl | simp [Cond.onTables, Cond.keeps, Cond.steady])) hini)
  obtain ⟨hx, hb, hml, ho, -⟩ := S
  obtain ⟨-, ⟨cellB, hcB, hoB, hclB⟩, hPc⟩ := hp
  intro T hT X
  obtain ⟨v, vm₁, ⟨U', l2, c2, s2⟩, hW₁, X', ⟨g', mk, t, L, e1, e2, hq, h1, hL, h2, h3⟩, st⟩ := callV X hx (C := C) (bytes := bytes) (maxL := maxL) (ret := ret) ho hl hin hse hcode hy hK (by rw [hT]; exact hcB) hoB hclB hg (hsize.trans hml.symm) (argsL := As) (rest := rest) (fun sig h => hn.trans (hlen sig h)) hstack hW (by rw [hb]; exact hdg)
    (fun vm₁ hW₁ => ⟨hf.1, hf.2, hPc (T.setVm vm₁) hT hW₁⟩)
  dsimp only [Pt.U, Pt.locs, Pt.cells, Pt.slots] at X' e1 e2 h1 h2 h3 st
  subst h1; subst h2; subst h3
  exact ⟨v, (T.setVm vm₁).calling g' mk (Value.ref b :: As).toArray, t, U', L, hT, X', hL, e1, e2, hq, st⟩
end R16
section XST
variable {p : Program} {l : Launch} {e : Env} {s : State} {m : MethodId} {args : Array Value} {below : List Frame} {meth : Method} {c : Code} {Qf : State → Prop} {b : Nat} {ak av : Nat → Nat} {cA : Nat → ClassId} {D : va_G} {ph : Bool} {lim : Option Int} {M : xm_Mem} {a pc np x y n0 mc ms d : Nat} {S : List xm_V} {L : xm_L} {i : Instr} {z : Int} {T : List (Int × Nat)} {Q Q1 : xm_K} {Y : xm_X}
set_option maxHeartbeats 4000000 in
theorem xs_step (hC : xs_Cx b ak av cA D a p s m args meth c) (ha : a < 280) (hl : lim = none ↔ ph = true) (hlim : ∀ w, lim = some w → w = ((n0 + mc : Nat) : Int)) (hmc : ph = true → mc = 0) (hms : ms = xm_sl (n0 + mc) - xm_sl n0) (hnm : n0 + mc ≤ 83)
    (hn0 : ph = true → n0 = 83) (hG : xs_gB i pc np = true) (hE : xm_entB (xm_m a) (pc, i, np, x, y, z, T) = true)
    (hY : ∀ pc L S M, Y pc L S M → xs_W b ak cA D ph p l e (xs_rm (d + 1) mc ms) s m args below meth c (xm_m a).2.2.1 n0 mc (MQ below (xs_Q b ak cA D ph Q1) args s mc ms (fun q => b < q)) pc L S M)
    (hcall : ∀ a' as M K, (a' < 280 ∨ a' = 901 ∨ a' = 902) → xm_call ph d a' as M K → xs_Met l b ak av cA D ph d a' as M K)
    (hQ : ∀ v M, (ph = true → M 0 0 = 83) → Q v M → Q1 v M ∧ (ph = false → (M 0 0).toNat = n0 + mc))
    (h : xm_step (xm_call ph d) lim Q Y (pc, i, np, x, y, z, T) L S M) :
    xs_W b ak cA D ph p l e (xs_rm (d + 1) mc ms) s m args below meth c (xm_m a).2.2.1 n0 mc (MQ below (xs_Q b ak cA D ph Q1) args s mc ms (fun q => b < q)) pc L S M := by
  simp only [xm_entB, Bool.and_eq_true, decide_eq_true_eq, Nat.ble_eq] at hE
  obtain ⟨hdec, hle, hop⟩ := hE
  obtain ⟨hx, hb, hml, hr, hts, hown, hmn, hlk, hK, hEU, hEH, hbs⟩ := id hC
  cases i
  all_goals try exact (show False from h).elim
  case iload_n kk =>
    simp only [xm_opB, Bool.and_eq_true] at hop
    obtain ⟨hk, hn⟩ := hop
    have hk := Nat.eq_of_beq_eq_true hk
    obtain ⟨e1, hd⟩ := xs_dec hdec hn
    subst e1
    simp only [xm_step] at h
    split at h
    · rename_i w hw
      intro H locs ls h1 h2 h3 h4
      have k := hY _ _ _ _ h H locs ls h1 h2 h3 h4
      have hq := xs_at h3 hw
      exact lv_iload_n hx hb hd hk hq k
    · exact h.elim
  case iload kk =>
    simp only [xm_opB, Bool.and_eq_true] at hop
    obtain ⟨hk, hn⟩ := hop
    have hk := Nat.eq_of_beq_eq_true hk
    obtain ⟨e1, hd⟩ := xs_dec hdec hn
    subst e1
    simp only [xm_step] at h
    split at h
    · rename_i w hw
      intro H locs ls h1 h2 h3 h4
      have k := hY _ _ _ _ h H locs ls h1 h2 h3 h4
      have hq := xs_at h3 hw
      subst hk
      exact lv_iload hx hb hd  hq k
    · exact h.elim
  case lload_n kk =>
    simp only [xm_opB, Bool.and_eq_true] at hop
    obtain ⟨hk, hn⟩ := hop
    have hk := Nat.eq_of_beq_eq_true hk
    obtain ⟨e1, hd⟩ := xs_dec hdec hn
    subst e1
    simp only [xm_step] at h
    split at h
    · rename_i w hw
      intro H locs ls h1 h2 h3 h4
      have k := hY _ _ _ _ h H locs ls h1 h2 h3 h4
      have hq := xs_at h3 hw
      exact lv_lload_n hx hb hd hk hq k
    · exact h.elim
  case lload kk =>
    simp only [xm_opB, Bool.and_eq_true] at hop
    obtain ⟨hk, hn⟩ := hop
    have hk := Nat.eq_of_beq_eq_true hk
    obtain ⟨e1, hd⟩ := xs_dec hdec hn
    subst e1
    simp only [xm_step] at h
    split at h
    · rename_i w hw
      intro H locs ls h1 h2 h3 h4
      have k := hY _ _ _ _ h H locs ls h1 h2 h3 h4
      have hq := xs_at h3 hw
      subst hk
      exact lv_lload hx hb hd  hq k
    · exact h.elim
  case aload_n kk =>
    simp only [xm_opB, Bool.and_eq_true] at hop
    obtain ⟨hk, hn⟩ := hop
    have hk := Nat.eq_of_beq_eq_true hk
    obtain ⟨e1, hd⟩ := xs_dec hdec hn
    subst e1
    simp only [xm_step] at h
    split at h
    · rename_i w hw
      intro H locs ls h1 h2 h3 h4
      have k := hY _ _ _ _ h H locs ls h1 h2 h3 h4
      have hq := xs_at h3 hw
      show W _ _ _ _ _ _ _ _ _ _ _ _ _ _ _ (F0 m pc ls (S.map (xs_cv b ak)))
      have hq : ls[x]? = some (.val (xs_cvr b ak w)) := hq
      have k : W p l e (xs_rm (d + 1) mc ms) s m args below meth c H locs ((M 0 0).toNat - n0) (xm_sl (M 0 0).toNat - xm_sl n0) (MQ below (xs_Q b ak cA D ph Q1) args s mc ms (fun q => b < q)) (F0 m (pc + 1) ls (xs_cvr b ak w :: S.map (xs_cv b ak))) := k
      unfold xs_cvr at hq k
      split at hq
      · rename_i g
        rw [if_pos g] at k
        exact lv_aload_nN hx hb hd hk hq k
      · rename_i g
        rw [if_neg g] at k
        split at hq
        · rename_i g2
          rw [if_pos g2] at k
          exact lv_aload_n hx hb hd hk hq k
        · rename_i g2
          rw [if_neg g2] at k
          exact lv_aload_n hx hb hd hk hq k
    · exact h.elim
  case aload kk =>
    simp only [xm_opB, Bool.and_eq_true] at hop
    obtain ⟨hk, hn⟩ := hop
    have hk := Nat.eq_of_beq_eq_true hk
    obtain ⟨e1, hd⟩ := xs_dec hdec hn
    subst e1
    simp only [xm_step] at h
    split at h
    · rename_i w hw
      intro H locs ls h1 h2 h3 h4
      have k := hY _ _ _ _ h H locs ls h1 h2 h3 h4
      have hq := xs_at h3 hw
      subst hk
      show W _ _ _ _ _ _ _ _ _ _ _ _ _ _ _ (F0 m pc ls (S.map (xs_cv b ak)))
      have hq : ls[kk]? = some (.val (xs_cvr b ak w)) := hq
      have k : W p l e (xs_rm (d + 1) mc ms) s m args below meth c H locs ((M 0 0).toNat - n0) (xm_sl (M 0 0).toNat - xm_sl n0) (MQ below (xs_Q b ak cA D ph Q1) args s mc ms (fun q => b < q)) (F0 m (pc + 2) ls (xs_cvr b ak w :: S.map (xs_cv b ak))) := k
      unfold xs_cvr at hq k
      split at hq
      · rename_i g
        rw [if_pos g] at k
        exact lv_aloadN hx hb hd  hq k
      · rename_i g
        rw [if_neg g] at k
        split at hq
        · rename_i g2
          rw [if_pos g2] at k
          exact lv_aload hx hb hd  hq k
        · rename_i g2
          rw [if_neg g2] at k
          exact lv_aload hx hb hd  hq k
    · exact h.elim
  case istore_n kk =>
    simp only [xm_opB, Bool.and_eq_true, Nat.ble_eq] at hop
    obtain ⟨hk, hm, hn⟩ := hop
    have hk := Nat.eq_of_beq_eq_true hk
    obtain ⟨e1, hd⟩ := xs_dec hdec hn
    subst e1
    simp only [xm_step, xm_st1k_eq, xm_st2k_eq] at h
    split at h
    · rename_i w S2
      intro H locs ls h1 h2 h3 h4
      exact lv_istore_n hx hb hd hk h3 (by omega) rfl (fun ls2 h5 => hY _ _ _ _ h H locs ls2 h1 h2 (xs_st1 (v := .inl w) h5) h4)
    · exact h.elim
  case istore kk =>
    simp only [xm_opB, Bool.and_eq_true, Nat.ble_eq] at hop
    obtain ⟨hk, hm, hn⟩ := hop
    have hk := Nat.eq_of_beq_eq_true hk
    obtain ⟨e1, hd⟩ := xs_dec hdec hn
    subst e1
    simp only [xm_step, xm_st1k_eq, xm_st2k_eq] at h
    split at h
    · rename_i w S2
      intro H locs ls h1 h2 h3 h4
      subst hk
      exact lv_istore hx hb hd  h3 (by omega) rfl (fun ls2 h5 => hY _ _ _ _ h H locs ls2 h1 h2 (xs_st1 (v := .inl w) h5) h4)
    · exact h.elim
  case lstore_n kk =>
    simp only [xm_opB, Bool.and_eq_true, Nat.ble_eq] at hop
    obtain ⟨hk, hm, hn⟩ := hop
    have hk := Nat.eq_of_beq_eq_true hk
    obtain ⟨e1, hd⟩ := xs_dec hdec hn
    subst e1
    simp only [xm_step, xm_st1k_eq, xm_st2k_eq] at h
    split at h
    · rename_i w S2
      intro H locs ls h1 h2 h3 h4
      exact lv_lstore_n hx hb hd hk h3 (by omega) rfl (fun ls2 h5 => hY _ _ _ _ h H locs ls2 h1 h2 (xs_st2 (v := .inr (.inl w)) h5) h4)
    · exact h.elim
  case lstore kk =>
    simp only [xm_opB, Bool.and_eq_true, Nat.ble_eq] at hop
    obtain ⟨hk, hm, hn⟩ := hop
    have hk := Nat.eq_of_beq_eq_true hk
    obtain ⟨e1, hd⟩ := xs_dec hdec hn
    subst e1
    simp only [xm_step, xm_st1k_eq, xm_st2k_eq] at h
    split at h
    · rename_i w S2
      intro H locs ls h1 h2 h3 h4
      subst hk
      exact lv_lstore hx hb hd  h3 (by omega) rfl (fun ls2 h5 => hY _ _ _ _ h H locs ls2 h1 h2 (xs_st2 (v := .inr (.inl w)) h5) h4)
    · exact h.elim
  case astore_n kk =>
    simp only [xm_opB, Bool.and_eq_true, Nat.ble_eq] at hop
    obtain ⟨hk, hm, hn⟩ := hop
    have hk := Nat.eq_of_beq_eq_true hk
    obtain ⟨e1, hd⟩ := xs_dec hdec hn
    subst e1
    simp only [xm_step, xm_st1k_eq, xm_st2k_eq] at h
    split at h
    · rename_i w S2
      intro H locs ls h1 h2 h3 h4
      have k : ∀ ls2 : Array Slot, lv_has ls2 (xm_m a).2.2.1 ((x, xs_cvr b ak w) :: (xs_as b ak 0 L).filter (fun q => !(q.1 == x) && !(q.1 + 1 == x && q.2.category == 2))) → _ := fun ls2 h5 => hY _ _ _ _ h H locs ls2 h1 h2 (xs_st1 (v := .inr (.inr w)) h5) h4
      show W _ _ _ _ _ _ _ _ _ _ _ _ _ _ _ (F0 m pc ls (xs_cvr b ak w :: S2.map (xs_cv b ak)))
      unfold xs_cvr at k ⊢
      split
      · rename_i g
        rw [if_pos g] at k
        exact lv_astore_nN hx hb hd hk h3 (by omega) rfl k
      · rename_i g
        rw [if_neg g] at k
        split
        · rename_i g2
          rw [if_pos g2] at k
          exact lv_astore_n hx hb hd hk h3 (by omega) rfl k
        · rename_i g2
          rw [if_neg g2] at k
          exact lv_astore_n hx hb hd hk h3 (by omega) rfl k
    · exact h.elim
  case astore kk =>
    simp only [xm_opB, Bool.and_eq_true, Nat.ble_eq] at hop
    obtain ⟨hk, hm, hn⟩ := hop
    have hk := Nat.eq_of_beq_eq_true hk
    obtain ⟨e1, hd⟩ := xs_dec hdec hn
    subst e1
    simp only [xm_step, xm_st1k_eq, xm_st2k_eq] at h
    split at h
    · rename_i w S2
      intro H locs ls h1 h2 h3 h4
      subst hk
      have k : ∀ ls2 : Array Slot, lv_has ls2 (xm_m a).2.2.1 ((kk, xs_cvr b ak w) :: (xs_as b ak 0 L).filter (fun q => !(q.1 == kk) && !(q.1 + 1 == kk && q.2.category == 2))) → _ := fun ls2 h5 => hY _ _ _ _ h H locs ls2 h1 h2 (xs_st1 (v := .inr (.inr w)) h5) h4
      show W _ _ _ _ _ _ _ _ _ _ _ _ _ _ _ (F0 m pc ls (xs_cvr b ak w :: S2.map (xs_cv b ak)))
      unfold xs_cvr at k ⊢
      split
      · rename_i g
        rw [if_pos g] at k
        exact lv_astoreN hx hb hd  h3 (by omega) rfl k
      · rename_i g
        rw [if_neg g] at k
        split
        · rename_i g2
          rw [if_pos g2] at k
          exact lv_astore hx hb hd  h3 (by omega) rfl k
        · rename_i g2
          rw [if_neg g2] at k
          exact lv_astore hx hb hd  h3 (by omega) rfl k
    · exact h.elim
  case iinc kk cc =>
    simp only [xm_opB, Bool.and_eq_true, Nat.ble_eq, decide_eq_true_eq] at hop
    obtain ⟨hk, hz, hm, hn⟩ := hop
    have hk := Nat.eq_of_beq_eq_true hk
    obtain ⟨e1, hd⟩ := xs_dec hdec hn
    subst e1
    subst hk
    simp only [xm_step, xm_st1k_eq] at h
    split at h
    · rename_i w hw
      intro H locs ls h1 h2 h3 h4
      have hmem : (kk, Value.int (Int32.ofInt w)) ∈ xs_as b ak 0 L := (xs_as_mem L 0 _).mpr ⟨kk, .inl w, hw, by rw [Nat.zero_add]; rfl⟩
      obtain ⟨j, hj⟩ := List.getElem?_of_mem hmem
      refine lv_iinc hx hb hd h3 hj rfl (by omega) rfl (fun ls2 h5 => ?_)
      rw [← Int32.ofInt_add, hz] at h5
      exact hY _ _ _ _ h H locs ls2 h1 h2 (xs_st1 (v := .inl (w + z)) h5) h4
    · exact h.elim
  case iconst kk =>
    simp only [xm_opB, Bool.and_eq_true, decide_eq_true_eq] at hop
    obtain ⟨hk, hn⟩ := hop
    obtain ⟨e1, hd⟩ := xs_dec hdec hn
    subst e1
    subst hk
    intro H locs ls h1 h2 h3 h4
    exact lv_iconst hx hb hd rfl (hY _ _ _ _ h H locs ls h1 h2 h3 h4)
  case bipush kk =>
    simp only [xm_opB, Bool.and_eq_true, decide_eq_true_eq] at hop
    obtain ⟨hk, hn⟩ := hop
    obtain ⟨e1, hd⟩ := xs_dec hdec hn
    subst e1
    intro H locs ls h1 h2 h3 h4
    exact lv_bipush hx hb hd hk (hY _ _ _ _ h H locs ls h1 h2 h3 h4)
  case sipush kk =>
    simp only [xm_opB, Bool.and_eq_true, decide_eq_true_eq] at hop
    obtain ⟨hk, hn⟩ := hop
    obtain ⟨e1, hd⟩ := xs_dec hdec hn
    subst e1
    intro H locs ls h1 h2 h3 h4
    exact lv_sipush hx hb hd hk (hY _ _ _ _ h H locs ls h1 h2 h3 h4)
  case lconst kk =>
    simp only [xm_opB, Bool.and_eq_true, decide_eq_true_eq] at hop
    obtain ⟨hk, hn⟩ := hop
    obtain ⟨e1, hd⟩ := xs_dec hdec hn
    subst e1
    subst hk
    intro H locs ls h1 h2 h3 h4
    exact lv_lconst hx hb hd Int64.ofInt_eq_ofNat.symm (hY _ _ _ _ h H locs ls h1 h2 h3 h4)
  case ldc2_w kk =>
    simp only [xm_opB, Bool.and_eq_true] at hop
    obtain ⟨hk, hn⟩ := hop
    obtain ⟨e1, hd⟩ := xs_dec hdec hn
    subst e1
    intro H locs ls h1 h2 h3 h4
    exact lv_ldc2 hx hb hown (hts _ (xs_clk hk)) hd (hY _ _ _ _ h H locs ls h1 h2 h3 h4)
  case ldc kk =>
    simp only [xm_opB, Bool.and_eq_true] at hop
    obtain ⟨hk, hn⟩ := hop
    obtain ⟨e1, hd⟩ := xs_dec hdec hn
    subst e1
    intro H locs ls h1 h2 h3 h4
    cases y with
    | zero => exact lv_ldc hx hb hown (hts _ (xs_cik hk)) hd (hY _ _ _ _ h H locs ls h1 h2 h3 h4)
    | succ y =>
      simp only [Bool.and_eq_true, Nat.ble_eq] at hk
      obtain ⟨hk, hx6⟩ := hk
      obtain ⟨q, hq, h5⟩ := List.any_eq_true.mp hk
      simp only [Bool.and_eq_true, Nat.beq_eq] at h5
      obtain ⟨g1, g2, g3⟩ := h5
      obtain ⟨tx, hv⟩ := hEU.2 q hq
      rw [g1, g2, g3] at hv
      have k := hY _ _ _ _ h H locs ls h1 h2 h3 h4
      have e9 : xs_cvr b ak (1000 + x) = .ref (ak x) := by
        unfold xs_cvr
        rw [if_neg (by omega), if_neg (by omega), show 1000 + x - 1000 = x by omega]
      refine va_ldcS hx hb hown hv hd ?_
      rw [← e9]
      exact k
  case iadd =>
    obtain ⟨e1, hd⟩ := xs_dec hdec (show Nat.beq np (pc + 1) = true from hop)
    subst e1
    simp only [xm_step] at h
    split at h
    · rename_i w2 w1 S2
      intro H locs ls h1 h2 h3 h4
      have k := hY _ _ _ _ h H locs ls h1 h2 h3 h4
      simp only [List.map_cons, xs_cv, Int32.ofInt_add] at k ⊢
      exact lv_iadd hx hb hd k
    · exact h.elim
  case isub =>
    obtain ⟨e1, hd⟩ := xs_dec hdec (show Nat.beq np (pc + 1) = true from hop)
    subst e1
    simp only [xm_step] at h
    split at h
    · rename_i w2 w1 S2
      intro H locs ls h1 h2 h3 h4
      have k := hY _ _ _ _ h H locs ls h1 h2 h3 h4
      simp only [List.map_cons, xs_cv, Int32.ofInt_sub] at k ⊢
      exact lv_isub hx hb hd k
    · exact h.elim
  case imul =>
    obtain ⟨e1, hd⟩ := xs_dec hdec (show Nat.beq np (pc + 1) = true from hop)
    subst e1
    simp only [xm_step] at h
    split at h
    · rename_i w2 w1 S2
      intro H locs ls h1 h2 h3 h4
      have k := hY _ _ _ _ h H locs ls h1 h2 h3 h4
      simp only [List.map_cons, xs_cv, Int32.ofInt_mul] at k ⊢
      exact lv_imul hx hb hd k
    · exact h.elim
  case iand =>
    obtain ⟨e1, hd⟩ := xs_dec hdec (show Nat.beq np (pc + 1) = true from hop)
    subst e1
    simp only [xm_step] at h
    split at h
    · rename_i w2 w1 S2
      intro H locs ls h1 h2 h3 h4
      have k := hY _ _ _ _ h H locs ls h1 h2 h3 h4
      simp only [List.map_cons, xs_cv, xn_and] at k ⊢
      exact lv_iand hx hb hd k
    · exact h.elim
  case ior =>
    obtain ⟨e1, hd⟩ := xs_dec hdec (show Nat.beq np (pc + 1) = true from hop)
    subst e1
    simp only [xm_step] at h
    split at h
    · rename_i w2 w1 S2
      intro H locs ls h1 h2 h3 h4
      have k := hY _ _ _ _ h H locs ls h1 h2 h3 h4
      simp only [List.map_cons, xs_cv, xn_or] at k ⊢
      exact lv_ior hx hb hd k
    · exact h.elim
  case idiv =>
    obtain ⟨e1, hd⟩ := xs_dec hdec (show Nat.beq np (pc + 1) = true from hop)
    subst e1
    simp only [xm_step] at h
    split at h
    · rename_i w2 w1 S2
      intro H locs ls h1 h2 h3 h4
      obtain ⟨hc, h⟩ := h
      have k := hY _ _ _ _ h H locs ls h1 h2 h3 h4
      simp only [List.map_cons, xs_cv] at k ⊢
      rw [xn_div hc.1 hc.2.1] at k
      exact lv_idiv hx hb hd (xn_ne0 hc.2.1 hc.2.2) k
    · exact h.elim
  case irem =>
    obtain ⟨e1, hd⟩ := xs_dec hdec (show Nat.beq np (pc + 1) = true from hop)
    subst e1
    simp only [xm_step] at h
    split at h
    · rename_i w2 w1 S2
      intro H locs ls h1 h2 h3 h4
      obtain ⟨hc, h⟩ := h
      have k := hY _ _ _ _ h H locs ls h1 h2 h3 h4
      simp only [List.map_cons, xs_cv] at k ⊢
      rw [xn_rem hc.1 hc.2.1] at k
      exact lv_irem hx hb hd (xn_ne0 hc.2.1 hc.2.2) k
    · exact h.elim
  case ishl =>
    obtain ⟨e1, hd⟩ := xs_dec hdec (show Nat.beq np (pc + 1) = true from hop)
    subst e1
    simp only [xm_step] at h
    split at h
    · rename_i w2 w1 S2
      intro H locs ls h1 h2 h3 h4
      obtain ⟨hc, h⟩ := h
      have k := hY _ _ _ _ h H locs ls h1 h2 h3 h4
      simp only [List.map_cons, xs_cv] at k ⊢
      rw [xn_shl hc.1 hc.2] at k
      exact lv_ishl hx hb hd k
    · exact h.elim
  case ishr =>
    obtain ⟨e1, hd⟩ := xs_dec hdec (show Nat.beq np (pc + 1) = true from hop)
    subst e1
    simp only [xm_step] at h
    split at h
    · rename_i w2 w1 S2
      intro H locs ls h1 h2 h3 h4
      obtain ⟨hc, h⟩ := h
      have k := hY _ _ _ _ h H locs ls h1 h2 h3 h4
      simp only [List.map_cons, xs_cv] at k ⊢
      rw [xn_shw hc.1 hc.2] at k
      exact lv_ishr hx hb hd k
    · exact h.elim
  case iushr =>
    obtain ⟨e1, hd⟩ := xs_dec hdec (show Nat.beq np (pc + 1) = true from hop)
    subst e1
    simp only [xm_step] at h
    split at h
    · rename_i w2 w1 S2
      intro H locs ls h1 h2 h3 h4
      obtain ⟨hc, h⟩ := h
      have k := hY _ _ _ _ h H locs ls h1 h2 h3 h4
      simp only [List.map_cons, xs_cv] at k ⊢
      exact lv_iushr hx hb hd (xn_ushr hc.1 hc.2) k
    · exact h.elim
  case ladd =>
    obtain ⟨e1, hd⟩ := xs_dec hdec (show Nat.beq np (pc + 1) = true from hop)
    subst e1
    simp only [xm_step] at h
    split at h
    · rename_i w2 w1 S2
      intro H locs ls h1 h2 h3 h4
      have k := hY _ _ _ _ h H locs ls h1 h2 h3 h4
      simp only [List.map_cons, xs_cv, Int64.ofInt_add] at k ⊢
      exact lv_ladd hx hb hd k
    · exact h.elim
  case lsub =>
    obtain ⟨e1, hd⟩ := xs_dec hdec (show Nat.beq np (pc + 1) = true from hop)
    subst e1
    simp only [xm_step] at h
    split at h
    · rename_i w2 w1 S2
      intro H locs ls h1 h2 h3 h4
      have k := hY _ _ _ _ h H locs ls h1 h2 h3 h4
      simp only [List.map_cons, xs_cv, Int64.ofInt_sub] at k ⊢
      exact lv_lsub hx hb hd k
    · exact h.elim
  case lmul =>
    obtain ⟨e1, hd⟩ := xs_dec hdec (show Nat.beq np (pc + 1) = true from hop)
    subst e1
    simp only [xm_step] at h
    split at h
    · rename_i w2 w1 S2
      intro H locs ls h1 h2 h3 h4
      have k := hY _ _ _ _ h H locs ls h1 h2 h3 h4
      simp only [List.map_cons, xs_cv, Int64.ofInt_mul] at k ⊢
      exact lv_lmul hx hb hd k
    · exact h.elim
  case ldiv =>
    obtain ⟨e1, hd⟩ := xs_dec hdec (show Nat.beq np (pc + 1) = true from hop)
    subst e1
    simp only [xm_step] at h
    split at h
    · rename_i w2 w1 S2
      intro H locs ls h1 h2 h3 h4
      obtain ⟨hc, h⟩ := h
      have k := hY _ _ _ _ h H locs ls h1 h2 h3 h4
      simp only [List.map_cons, xs_cv] at k ⊢
      rw [xn_divL hc.1 hc.2.1] at k
      exact lv_ldiv hx hb hd (xn_ne0L hc.2.1 hc.2.2) k
    · exact h.elim
  case lrem =>
    obtain ⟨e1, hd⟩ := xs_dec hdec (show Nat.beq np (pc + 1) = true from hop)
    subst e1
    simp only [xm_step] at h
    split at h
    · rename_i w2 w1 S2
      intro H locs ls h1 h2 h3 h4
      obtain ⟨hc, h⟩ := h
      have k := hY _ _ _ _ h H locs ls h1 h2 h3 h4
      simp only [List.map_cons, xs_cv] at k ⊢
      rw [xn_remL hc.1 hc.2.1] at k
      exact lv_lrem hx hb hd (xn_ne0L hc.2.1 hc.2.2) k
    · exact h.elim
  case lcmp =>
    obtain ⟨e1, hd⟩ := xs_dec hdec (show Nat.beq np (pc + 1) = true from hop)
    subst e1
    simp only [xm_step] at h
    split at h
    · rename_i w2 w1 S2
      intro H locs ls h1 h2 h3 h4
      obtain ⟨hc, h⟩ := h
      have k := hY _ _ _ _ h H locs ls h1 h2 h3 h4
      simp only [List.map_cons, xs_cv] at k ⊢
      rw [xn_lc hc.1 hc.2] at k
      exact W.lcmp hx hb hd k
    · exact h.elim
  case i2l =>
    obtain ⟨e1, hd⟩ := xs_dec hdec (show Nat.beq np (pc + 1) = true from hop)
    subst e1
    simp only [xm_step] at h
    split at h
    · rename_i w1 S2
      intro H locs ls h1 h2 h3 h4
      obtain ⟨hc, h⟩ := h
      have k := hY _ _ _ _ h H locs ls h1 h2 h3 h4
      simp only [List.map_cons, xs_cv] at k ⊢
      exact lv_i2l hx hb hd (xn_i2l hc) k
    · exact h.elim
  case i2c =>
    obtain ⟨e1, hd⟩ := xs_dec hdec (show Nat.beq np (pc + 1) = true from hop)
    subst e1
    simp only [xm_step] at h
    split at h
    · rename_i w1 S2
      intro H locs ls h1 h2 h3 h4
      have k := hY _ _ _ _ h H locs ls h1 h2 h3 h4
      simp only [List.map_cons, xs_cv] at k ⊢
      exact lv_i2c hx hb hd (xn_i2c _) k
    · exact h.elim
  case lneg =>
    obtain ⟨e1, hd⟩ := xs_dec hdec (show Nat.beq np (pc + 1) = true from hop)
    subst e1
    simp only [xm_step] at h
    split at h
    · rename_i w1 S2
      intro H locs ls h1 h2 h3 h4
      have k := hY _ _ _ _ h H locs ls h1 h2 h3 h4
      simp only [List.map_cons, xs_cv, Int64.ofInt_neg] at k ⊢
      exact lv_lneg hx hb hd k
    · exact h.elim
  case pop =>
    obtain ⟨e1, hd⟩ := xs_dec hdec (show Nat.beq np (pc + 1) = true from hop)
    subst e1
    simp only [xm_step] at h
    split at h
    · rename_i w1 S2
      intro H locs ls h1 h2 h3 h4
      have k := hY _ _ _ _ h H locs ls h1 h2 h3 h4
      simp only [List.map_cons, xs_cv] at k ⊢
      exact lv_pop hx hb hd rfl k
    · exact h.elim
  case dup =>
    obtain ⟨e1, hd⟩ := xs_dec hdec (show Nat.beq np (pc + 1) = true from hop)
    subst e1
    simp only [xm_step] at h
    split at h
    · intro H locs ls h1 h2 h3 h4
      exact lv_dup hx hb hd (xs_cvc b ak (.inl _)) (hY _ _ _ _ h H locs ls h1 h2 h3 h4)
    · intro H locs ls h1 h2 h3 h4
      exact lv_dup hx hb hd (xs_cvc b ak (.inr (.inr _))) (hY _ _ _ _ h H locs ls h1 h2 h3 h4)
    · exact h.elim
  case dup2 =>
    obtain ⟨e1, hd⟩ := xs_dec hdec (show Nat.beq np (pc + 1) = true from hop)
    subst e1
    simp only [xm_step] at h
    split at h
    · intro H locs ls h1 h2 h3 h4
      exact lv_dup2_11 hx hb hd (xs_cvc b ak (.inl _)) (xs_cvc b ak (.inl _)) (hY _ _ _ _ h H locs ls h1 h2 h3 h4)
    · intro H locs ls h1 h2 h3 h4
      exact lv_dup2_11 hx hb hd (xs_cvc b ak (.inl _)) (xs_cvc b ak (.inr (.inr _))) (hY _ _ _ _ h H locs ls h1 h2 h3 h4)
    · exact h.elim
  case ifCond cc0 off =>
    simp only [xm_opB, Bool.and_eq_true, decide_eq_true_eq] at hop
    obtain ⟨ht, hn⟩ := hop
    obtain ⟨e1, hd⟩ := xs_dec hdec hn
    subst e1
    simp only [xm_step] at h
    split at h
    · rename_i w1 S2
      intro H locs ls h1 h2 h3 h4
      obtain ⟨hc, h⟩ := h
      have z0 : (0 : Int32) = Int32.ofInt 0 := xn_0.symm
      cases cc0
      · exact lv_if_eq hx hb hd ht (fun q => hY _ _ _ _ (h.1 ((xn_eq hc xn_i0).mp q)) H locs ls h1 h2 h3 h4) (fun q => hY _ _ _ _ (h.2 (fun z => q ((xn_eq hc xn_i0).mpr z))) H locs ls h1 h2 h3 h4)
      · exact lv_if_ne hx hb hd ht (fun q => hY _ _ _ _ (h.1 (fun z => q ((xn_eq hc xn_i0).mpr z))) H locs ls h1 h2 h3 h4) (fun q => hY _ _ _ _ (h.2 ((xn_eq hc xn_i0).mp q)) H locs ls h1 h2 h3 h4)
      · exact lv_if_lt hx hb hd ht (fun q => hY _ _ _ _ (h.1 ((xn_lt hc xn_i0).mp q)) H locs ls h1 h2 h3 h4) (fun q => hY _ _ _ _ (h.2 (by have := mt (xn_lt hc xn_i0).mpr q; omega)) H locs ls h1 h2 h3 h4)
      · exact lv_if_ge hx hb hd ht (fun q => hY _ _ _ _ (h.1 ((xn_le xn_i0 hc).mp q)) H locs ls h1 h2 h3 h4) (fun q => hY _ _ _ _ (h.2 (by have := mt (xn_le xn_i0 hc).mpr q; omega)) H locs ls h1 h2 h3 h4)
      · exact lv_if_gt hx hb hd ht (fun q => hY _ _ _ _ (h.1 ((xn_lt xn_i0 hc).mp q)) H locs ls h1 h2 h3 h4) (fun q => hY _ _ _ _ (h.2 (by have := mt (xn_lt xn_i0 hc).mpr q; omega)) H locs ls h1 h2 h3 h4)
      · exact lv_if_le hx hb hd ht (fun q => hY _ _ _ _ (h.1 ((xn_le hc xn_i0).mp q)) H locs ls h1 h2 h3 h4) (fun q => hY _ _ _ _ (h.2 (by have := mt (xn_le hc xn_i0).mpr q; omega)) H locs ls h1 h2 h3 h4)
    · exact h.elim
  case if_icmp cc0 off =>
    simp only [xm_opB, Bool.and_eq_true, decide_eq_true_eq] at hop
    obtain ⟨ht, hn⟩ := hop
    obtain ⟨e1, hd⟩ := xs_dec hdec hn
    subst e1
    simp only [xm_step] at h
    split at h
    · rename_i w2 w1 S2
      intro H locs ls h1 h2 h3 h4
      obtain ⟨hc, h⟩ := h
      cases cc0
      · exact lv_icmp_eq hx hb hd ht (fun q => hY _ _ _ _ (h.1 ((xn_eq hc.1 hc.2).mp q)) H locs ls h1 h2 h3 h4) (fun q => hY _ _ _ _ (h.2 (fun z => q ((xn_eq hc.1 hc.2).mpr z))) H locs ls h1 h2 h3 h4)
      · exact lv_icmp_ne hx hb hd ht (fun q => hY _ _ _ _ (h.1 (fun z => q ((xn_eq hc.1 hc.2).mpr z))) H locs ls h1 h2 h3 h4) (fun q => hY _ _ _ _ (h.2 ((xn_eq hc.1 hc.2).mp q)) H locs ls h1 h2 h3 h4)
      · exact lv_icmp_lt hx hb hd ht (fun q => hY _ _ _ _ (h.1 ((xn_lt hc.1 hc.2).mp q)) H locs ls h1 h2 h3 h4) (fun q => hY _ _ _ _ (h.2 (by have := mt (xn_lt hc.1 hc.2).mpr q; omega)) H locs ls h1 h2 h3 h4)
      · exact lv_icmp_ge hx hb hd ht (fun q => hY _ _ _ _ (h.1 ((xn_le hc.2 hc.1).mp q)) H locs ls h1 h2 h3 h4) (fun q => hY _ _ _ _ (h.2 (by have := mt (xn_le hc.2 hc.1).mpr q; omega)) H locs ls h1 h2 h3 h4)
      · exact lv_icmp_gt hx hb hd ht (fun q => hY _ _ _ _ (h.1 ((xn_lt hc.2 hc.1).mp q)) H locs ls h1 h2 h3 h4) (fun q => hY _ _ _ _ (h.2 (by have := mt (xn_lt hc.2 hc.1).mpr q; omega)) H locs ls h1 h2 h3 h4)
      · exact lv_icmp_le hx hb hd ht (fun q => hY _ _ _ _ (h.1 ((xn_le hc.1 hc.2).mp q)) H locs ls h1 h2 h3 h4) (fun q => hY _ _ _ _ (h.2 (by have := mt (xn_le hc.1 hc.2).mpr q; omega)) H locs ls h1 h2 h3 h4)
    · exact h.elim
  case goto off =>
    simp only [xm_opB, decide_eq_true_eq] at hop
    obtain ⟨e1, hd⟩ := xs_dec hdec (show Nat.beq np (pc + 3) = true from hG)
    intro H locs ls h1 h2 h3 h4
    exact lv_goto hx hb hd hop (hY _ _ _ _ h H locs ls h1 h2 h3 h4)
  case lookupswitch dd ps =>
    simp only [xm_opB, Bool.and_eq_true, decide_eq_true_eq] at hop
    obtain ⟨ht, hm, hz⟩ := hop
    simp only [xm_step] at h
    split at h
    · rename_i w S2
      intro H locs ls h1 h2 h3 h4
      obtain ⟨hc, h5, h6⟩ := h
      obtain ⟨t, q1, q2⟩ := xs_lk ht T _ hm h5 h6
      exact lv_lookup hx hb hdec hz (by rw [xn_in hc]) q2 (hY _ _ _ _ q1 H locs ls h1 h2 h3 h4)
    · exact h.elim
  case tableswitch dd lo hi os =>
    simp only [xm_opB, Bool.and_eq_true, decide_eq_true_eq] at hop
    obtain ⟨ht, hm1, hm2, hm3⟩ := hop
    simp only [xm_step] at h
    split at h
    · rename_i w S2
      intro H locs ls h1 h2 h3 h4
      obtain ⟨hc, h5, h6⟩ := h
      rcases xs_tb ht hm1 hm2 hm3 h5 h6 with ⟨q1, q2⟩ | ⟨q1, q2, o, t, q3, q4, q5⟩
      · exact lv_tableOut hx hb hdec (by rw [xn_in hc]; exact q1) ht (hY _ _ _ _ q2 H locs ls h1 h2 h3 h4)
      · exact lv_tableIn hx hb hdec (by rw [xn_in hc]; exact q1) (by rw [xn_in hc]; exact q2) (by rw [xn_in hc]; exact q3) q4 (hY _ _ _ _ q5 H locs ls h1 h2 h3 h4)
    · exact h.elim
  case getfield kk =>
    simp only [xm_opB, Bool.and_eq_true] at hop
    obtain ⟨hf, hn⟩ := hop
    obtain ⟨e1, hd⟩ := xs_dec hdec hn
    subst e1
    simp only [xm_step] at h
    split at h
    · rename_i r S2
      split at h
      · rename_i hkd
        have hkd := Nat.eq_of_beq_eq_true hkd
        intro H locs ls h1 h2 h3 h4
        obtain ⟨f1, f2, f3, f4⟩ := xs_flk hf
        obtain ⟨g1, g2, g3⟩ := xs_kd hl (fun q => (h1.2.2.2.2 q).1) hkd (by omega)
        refine xs_getf hC h1 hl hkd hf hd ?_
        split at h
        · rename_i hfc; rw [hfc]; exact hY _ _ _ _ h H locs ls h1 h2 h3 h4
        · rename_i hfc; rw [hfc]; exact hY _ _ _ _ h H locs ls h1 h2 h3 h4
        · rename_i hfc
          rw [hfc]
          split at h
          · have k := hY _ _ _ _ h H locs ls h1 h2 h3 h4
            have hM := (h1.2.2.2.2 (hl.mp rfl)).2 r y (by omega) (by rw [g1]; exact f2) (by rw [g1]; exact hfc)
            show W _ _ _ _ _ _ _ _ _ _ _ _ _ _ _ (F0 m (pc + 3) ls (xs_cvr b ak (M r y).toNat :: _))
            rw [hM, Int.toNat_natCast]
            exact k
          · exact hY _ _ _ _ h H locs ls h1 h2 h3 h4
        · rename_i hfc
          rw [hfc]
          split at h
          · obtain ⟨q0, q1, q2⟩ := h
            show W _ _ _ _ _ _ _ _ _ _ _ _ _ _ _ (F0 m (pc + 3) ls (xs_cvr b ak (M r y).toNat :: _))
            rcases q0 with q0 | q0
            · have k := hY _ _ _ _ (q1 q0) H locs ls h1 h2 h3 h4
              rw [q0]
              exact k
            · have k := hY _ _ _ _ (q2 q0) H locs ls h1 h2 h3 h4
              rw [q0]
              exact k
          · exact hY _ _ _ _ h H locs ls h1 h2 h3 h4
        · rename_i hfc; rw [hfc]; exact hY _ _ _ _ h H locs ls h1 h2 h3 h4
        · exact h.elim
      · exact h.elim
    · exact h.elim
  case putfield kk =>
    simp only [xm_opB, Bool.and_eq_true] at hop
    obtain ⟨hf, hn, hfn⟩ := hop
    obtain ⟨e1, hd⟩ := xs_dec hdec hn
    subst e1
    obtain ⟨f1, f2, f3, f4⟩ := xs_flk hf
    obtain ⟨t0, t1, t2, t3, t4⟩ := xs_tyf f1 f2
    have up0 : ∀ (M : xm_Mem) (r : Nat) (w : Int), 1 ≤ r → xm_up M r (y : Int) w 0 0 = M 0 0 := fun M r w hr => by rw [xs_up_ne (by omega)]
    simp only [xm_step] at h
    split at h
    · rename_i w r S2
      split at h
      · rename_i hkd
        have hkd := Nat.eq_of_beq_eq_true hkd
        intro H locs ls h1 h2 h3 h4
        obtain ⟨g1, g2, g3⟩ := xs_kd hl (fun q => (h1.2.2.2.2 q).1) hkd (by omega)
        split at h
        · rename_i hfc
          obtain ⟨ty, -⟩ := t0 hfc
          refine xs_putf (w := w) hC h1 h2 hl hkd hf hd hfn (by rw [hfc]; rfl) (by rw [ty]; rfl) (by rw [ty]; rfl) (fun _ => by omega) ?_
          intro H1 locs1 k1 k2
          have k := hY _ _ _ _ h H1 locs1 ls k1 k2 h3 (by rw [up0 _ _ _ g2]; exact h4)
          rw [up0 _ _ _ g2] at k
          exact k
        · rename_i hfc
          obtain ⟨hw, h⟩ := h
          obtain ⟨ty, -⟩ := t4 hfc
          refine xs_putf (w := w) hC h1 h2 hl hkd hf hd hfn (by rw [hfc]; rfl) (by rw [ty]; exact xs_narZ hw) (by rw [ty]; exact xs_fitsZ hw) (fun _ => by omega) ?_
          intro H1 locs1 k1 k2
          have k := hY _ _ _ _ h H1 locs1 ls k1 k2 h3 (by rw [up0 _ _ _ g2]; exact h4)
          rw [up0 _ _ _ g2] at k
          exact k
        · exact h.elim
      · exact h.elim
    · rename_i w r S2
      split at h
      · rename_i hkd
        have hkd := Nat.eq_of_beq_eq_true hkd
        intro H locs ls h1 h2 h3 h4
        obtain ⟨g1, g2, g3⟩ := xs_kd hl (fun q => (h1.2.2.2.2 q).1) hkd (by omega)
        split at h
        · rename_i hfc
          obtain ⟨ty, -⟩ := t1 hfc
          refine xs_putf (w := w) hC h1 h2 hl hkd hf hd hfn (by rw [hfc]; rfl) (by rw [ty]; rfl) (by rw [ty]; rfl) (fun _ => by omega) ?_
          intro H1 locs1 k1 k2
          have k := hY _ _ _ _ h H1 locs1 ls k1 k2 h3 (by rw [up0 _ _ _ g2]; exact h4)
          rw [up0 _ _ _ g2] at k
          exact k
        · exact h.elim
      · exact h.elim
    · rename_i w r S2
      split at h
      · rename_i hkd
        have hkd := Nat.eq_of_beq_eq_true hkd
        intro H locs ls h1 h2 h3 h4
        obtain ⟨g1, g2, g3⟩ := xs_kd hl (fun q => (h1.2.2.2.2 q).1) hkd (by omega)
        have ev : ∀ n : Nat, xs_cvr b ak w = xs_cvr b ak ((w : Nat) : Int).toNat := fun _ => by rw [Int.toNat_natCast]
        split at h
        · rename_i hfc
          split at h
          · exact h.elim
          · obtain ⟨ty1, ty2⟩ := xs_refT (b := b) (ak := ak) (r := w) (t2 hfc)
            refine xs_putf (w := (w : Int)) hC h1 h2 hl hkd hf hd hfn (by rw [hfc]; exact ev 0) ty1 ty2 (fun q => by have := hl.mpr q; cases this) ?_
            intro H1 locs1 k1 k2
            have k := hY _ _ _ _ h H1 locs1 ls k1 k2 h3 (by rw [up0 _ _ _ g2]; exact h4)
            rw [up0 _ _ _ g2] at k
            exact k
        · rename_i hfc
          obtain ⟨ty1, ty2⟩ := xs_refT (b := b) (ak := ak) (r := w) (t3 hfc).1
          refine xs_putf (w := (w : Int)) hC h1 h2 hl hkd hf hd hfn (by rw [hfc]; exact ev 0) ty1 ty2 (fun _ => by omega) ?_
          intro H1 locs1 k1 k2
          have k := hY _ _ _ _ h H1 locs1 ls k1 k2 h3 (by rw [up0 _ _ _ g2]; exact h4)
          rw [up0 _ _ _ g2] at k
          exact k
        · exact h.elim
      · exact h.elim
    · exact h.elim
  case arraylength =>
    obtain ⟨e1, hd⟩ := xs_dec hdec (show Nat.beq np (pc + 1) = true from hop)
    subst e1
    simp only [xm_step] at h
    split at h
    · rename_i r S2
      split at h
      · rename_i hkd
        simp only [Bool.and_eq_true, Nat.ble_eq] at hkd
        intro H locs ls h1 h2 h3 h4
        exact xs_alen hC h1 hl rfl (by omega) hd (hY _ _ _ _ h H locs ls h1 h2 h3 h4)
      · exact h.elim
    · exact h.elim
  case iaload =>
    obtain ⟨e1, hd⟩ := xs_dec hdec (show Nat.beq np (pc + 1) = true from hop)
    subst e1
    simp only [xm_step] at h
    split at h
    · rename_i j r S2
      split at h
      · rename_i hkd
        have hkd := Nat.eq_of_beq_eq_true hkd
        obtain ⟨hj, h⟩ := h
        intro H locs ls h1 h2 h3 h4
        exact xs_iald hC h1 hl hkd hj hd (hY _ _ _ _ h H locs ls h1 h2 h3 h4)
      · exact h.elim
    · exact h.elim
  case laload =>
    obtain ⟨e1, hd⟩ := xs_dec hdec (show Nat.beq np (pc + 1) = true from hop)
    subst e1
    simp only [xm_step] at h
    split at h
    · rename_i j r S2
      split at h
      · rename_i hkd
        have hkd := Nat.eq_of_beq_eq_true hkd
        obtain ⟨hj, h⟩ := h
        intro H locs ls h1 h2 h3 h4
        exact xs_lald hC h1 hl hkd hj hd (hY _ _ _ _ h H locs ls h1 h2 h3 h4)
      · exact h.elim
    · exact h.elim
  case caload =>
    obtain ⟨e1, hd⟩ := xs_dec hdec (show Nat.beq np (pc + 1) = true from hop)
    subst e1
    simp only [xm_step] at h
    split at h
    · rename_i j r S2
      split at h
      · rename_i hkd
        have hkd := Nat.eq_of_beq_eq_true hkd
        obtain ⟨hj, h⟩ := h
        intro H locs ls h1 h2 h3 h4
        exact xs_cald hC h1 hl hkd hj hd (hY _ _ _ _ h H locs ls h1 h2 h3 h4)
      · exact h.elim
    · exact h.elim
  case baload =>
    obtain ⟨e1, hd⟩ := xs_dec hdec (show Nat.beq np (pc + 1) = true from hop)
    subst e1
    simp only [xm_step] at h
    split at h
    · rename_i j r S2
      split at h
      · rename_i hkd
        have hkd := Nat.eq_of_beq_eq_true hkd
        obtain ⟨hj, h⟩ := h
        intro H locs ls h1 h2 h3 h4
        exact xs_zald hC h1 hl hkd hj hd (hY _ _ _ _ h H locs ls h1 h2 h3 h4)
      · exact h.elim
    · exact h.elim
  case iastore =>
    obtain ⟨e1, hd⟩ := xs_dec hdec (show Nat.beq np (pc + 1) = true from hop)
    subst e1
    simp only [xm_step] at h
    split at h
    · rename_i w j r S2
      split at h
      · rename_i hkd
        have hkd := Nat.eq_of_beq_eq_true hkd
        obtain ⟨hj, h⟩ := h
        intro H locs ls h1 h2 h3 h4
        obtain ⟨g1, g2, g3⟩ := xs_kd hl (fun q => (h1.2.2.2.2 q).1) hkd (by omega)
        refine xs_iast hC h1 h2 hl hkd hj hd (fun H1 locs1 k1 k2 => ?_)
        have e0 : xm_up M r j w 0 0 = M 0 0 := by rw [xs_up_ne (by omega)]
        have k := hY _ _ _ _ h H1 locs1 ls k1 k2 h3 (by rw [e0]; exact h4)
        rw [e0] at k
        exact k
      · exact h.elim
    · exact h.elim
  case lastore =>
    obtain ⟨e1, hd⟩ := xs_dec hdec (show Nat.beq np (pc + 1) = true from hop)
    subst e1
    simp only [xm_step] at h
    split at h
    · rename_i w j r S2
      split at h
      · rename_i hkd
        have hkd := Nat.eq_of_beq_eq_true hkd
        obtain ⟨hj, h⟩ := h
        intro H locs ls h1 h2 h3 h4
        obtain ⟨g1, g2, g3⟩ := xs_kd hl (fun q => (h1.2.2.2.2 q).1) hkd (by omega)
        refine xs_last hC h1 h2 hl hkd hj hd (fun H1 locs1 k1 k2 => ?_)
        have e0 : xm_up M r j w 0 0 = M 0 0 := by rw [xs_up_ne (by omega)]
        have k := hY _ _ _ _ h H1 locs1 ls k1 k2 h3 (by rw [e0]; exact h4)
        rw [e0] at k
        exact k
      · exact h.elim
    · exact h.elim
  case castore =>
    obtain ⟨e1, hd⟩ := xs_dec hdec (show Nat.beq np (pc + 1) = true from hop)
    subst e1
    simp only [xm_step] at h
    split at h
    · rename_i w j r S2
      split at h
      · rename_i hkd
        have hkd := Nat.eq_of_beq_eq_true hkd
        obtain ⟨hj, h⟩ := h
        intro H locs ls h1 h2 h3 h4
        obtain ⟨g1, g2, g3⟩ := xs_kd hl (fun q => (h1.2.2.2.2 q).1) hkd (by omega)
        refine xs_cast hC h1 h2 hl hkd hj.1 hj.2 hd (fun H1 locs1 k1 k2 => ?_)
        have e0 : xm_up M r j w 0 0 = M 0 0 := by rw [xs_up_ne (by omega)]
        have k := hY _ _ _ _ h H1 locs1 ls k1 k2 h3 (by rw [e0]; exact h4)
        rw [e0] at k
        exact k
      · exact h.elim
    · exact h.elim
  case bastore =>
    obtain ⟨e1, hd⟩ := xs_dec hdec (show Nat.beq np (pc + 1) = true from hop)
    subst e1
    simp only [xm_step] at h
    split at h
    · rename_i w j r S2
      split at h
      · rename_i hkd
        have hkd := Nat.eq_of_beq_eq_true hkd
        obtain ⟨hj, h⟩ := h
        intro H locs ls h1 h2 h3 h4
        obtain ⟨g1, g2, g3⟩ := xs_kd hl (fun q => (h1.2.2.2.2 q).1) hkd (by omega)
        refine xs_zast hC h1 h2 hl hkd hj.1 hj.2 hd (fun H1 locs1 k1 k2 => ?_)
        have e0 : xm_up M r j w 0 0 = M 0 0 := by rw [xs_up_ne (by omega)]
        have k := hY _ _ _ _ h H1 locs1 ls k1 k2 h3 (by rw [e0]; exact h4)
        rw [e0] at k
        exact k
      · exact h.elim
    · exact h.elim
  case ireturn =>
    simp only [xm_step] at h
    have hd0 := hdec
    simp only [xm_opB] at hop
    split at h
    · rename_i w
      cases y with
      | zero =>
        have hop := of_decide_eq_true hop
        have hd : decode (xm_m a).2.1 pc = .ok (.ireturn, 1) := (xs_dec hdec (show Nat.beq np (pc + 1) = true from hG)).2
        have h : Q [.inl w] M := h
        intro H locs ls h1 h2 h3 h4
        obtain ⟨hq, hn⟩ := hQ _ _ (fun q => (h1.2.2.2.2 q).1) h
        have hc : (M 0 0).toNat - n0 = mc ∧ xm_sl (M 0 0).toNat - xm_sl n0 = ms := by
          cases hp : ph with
          | false => rw [hn hp, hms]; exact ⟨by omega, rfl⟩
          | true =>
            have := (h1.2.2.2.2 hp).1
            have e1 := hmc hp
            have e2 := hn0 hp
            rw [hms, e1, e2, this]
            exact ⟨rfl, rfl⟩
        rw [hc.1, hc.2]
        exact W.iret hx hb (hr.trans hop) (fun t ht hW => ⟨⟨[.inl w], M, hq, rfl, Or.inr ⟨_, rfl⟩, by rw [ht]; exact h1⟩, h2.F ht⟩) h2.2.2 hd hlk
      | succ y =>
        have hop := of_decide_eq_true hop
        have hd : decode (xm_m a).2.1 pc = .ok (.ireturn, 1) := (xs_dec hdec (show Nat.beq np (pc + 1) = true from hG)).2
        obtain ⟨hw, h⟩ : (w = 0 ∨ w = 1) ∧ Q [.inl w] M := h
        intro H locs ls h1 h2 h3 h4
        obtain ⟨hq, hn⟩ := hQ _ _ (fun q => (h1.2.2.2.2 q).1) h
        have hc : (M 0 0).toNat - n0 = mc ∧ xm_sl (M 0 0).toNat - xm_sl n0 = ms := by
          cases hp : ph with
          | false => rw [hn hp, hms]; exact ⟨by omega, rfl⟩
          | true =>
            have := (h1.2.2.2.2 hp).1
            have e1 := hmc hp
            have e2 := hn0 hp
            rw [hms, e1, e2, this]
            exact ⟨rfl, rfl⟩
        rw [hc.1, hc.2]
        exact W.zret hx hb (hr.trans hop) (xs_narZ hw) (fun t ht hW => ⟨⟨[.inl w], M, hq, rfl, Or.inr ⟨_, rfl⟩, by rw [ht]; exact h1⟩, h2.F ht⟩) h2.2.2 hd hlk
    · exact h.elim
  case lreturn =>
    simp only [xm_step] at h
    have hop := of_decide_eq_true (show decide ((xm_m a).2.2.2.1 = some .long) = true from hop)
    split at h
    · rename_i w
      have hd : decode (xm_m a).2.1 pc = .ok (.lreturn, 1) := (xs_dec hdec (show Nat.beq np (pc + 1) = true from hG)).2
      intro H locs ls h1 h2 h3 h4
      obtain ⟨hq, hn⟩ := hQ _ _ (fun q => (h1.2.2.2.2 q).1) h
      have hc : (M 0 0).toNat - n0 = mc ∧ xm_sl (M 0 0).toNat - xm_sl n0 = ms := by
        cases hp : ph with
        | false => rw [hn hp, hms]; exact ⟨by omega, rfl⟩
        | true =>
          have := (h1.2.2.2.2 hp).1
          have e1 := hmc hp
          have e2 := hn0 hp
          rw [hms, e1, e2, this]
          exact ⟨rfl, rfl⟩
      rw [hc.1, hc.2]
      exact W.lret hx hb (hr.trans hop) (fun t ht hW => ⟨⟨[.inr (.inl w)], M, hq, rfl, Or.inr ⟨_, rfl⟩, by rw [ht]; exact h1⟩, h2.F ht⟩) h2.2.2 hd hlk
    · exact h.elim
  case areturn =>
    simp only [xm_step] at h
    have hop := of_decide_eq_true (show decide ((xm_m a).2.2.2.1 = some (.object (xm_cn 5))) = true from hop)
    split at h
    · rename_i w
      have hd : decode (xm_m a).2.1 pc = .ok (.areturn, 1) := (xs_dec hdec (show Nat.beq np (pc + 1) = true from hG)).2
      intro H locs ls h1 h2 h3 h4
      obtain ⟨hq, hn⟩ := hQ _ _ (fun q => (h1.2.2.2.2 q).1) h
      have hc : (M 0 0).toNat - n0 = mc ∧ xm_sl (M 0 0).toNat - xm_sl n0 = ms := by
        cases hp : ph with
        | false => rw [hn hp, hms]; exact ⟨by omega, rfl⟩
        | true =>
          have := (h1.2.2.2.2 hp).1
          have e1 := hmc hp
          have e2 := hn0 hp
          rw [hms, e1, e2, this]
          exact ⟨rfl, rfl⟩
      rw [hc.1, hc.2]
      exact W.aret hx hb (hr.trans hop) (Or.inl ⟨_, rfl⟩) (xs_isref b ak w) (fun t ht hW => ⟨⟨[.inr (.inr w)], M, hq, rfl, Or.inr ⟨_, rfl⟩, by rw [ht]; exact h1⟩, h2.F ht⟩) h2.2.2 hd hlk
    · exact h.elim
  case return_ =>
    simp only [xm_step] at h
    have hop := of_decide_eq_true (show decide ((xm_m a).2.2.2.1 = none) = true from hop)
    split at h
    · have hd : decode (xm_m a).2.1 pc = .ok (.return_, 1) := (xs_dec hdec (show Nat.beq np (pc + 1) = true from hG)).2
      intro H locs ls h1 h2 h3 h4
      obtain ⟨hq, hn⟩ := hQ _ _ (fun q => (h1.2.2.2.2 q).1) h
      have hc : (M 0 0).toNat - n0 = mc ∧ xm_sl (M 0 0).toNat - xm_sl n0 = ms := by
        cases hp : ph with
        | false => rw [hn hp, hms]; exact ⟨by omega, rfl⟩
        | true =>
          have := (h1.2.2.2.2 hp).1
          have e1 := hmc hp
          have e2 := hn0 hp
          rw [hms, e1, e2, this]
          exact ⟨rfl, rfl⟩
      rw [hc.1, hc.2]
      exact W.vret hx hb (hr.trans hop) (fun t ht hW => ⟨⟨[], M, hq, rfl, Or.inl rfl, by rw [ht]; exact h1⟩, h2.F ht⟩) h2.2.2 hd hlk
    · exact h.elim
  case invokevirtual kk =>
    simp only [xm_opB, Bool.and_eq_true, Bool.or_eq_true, Nat.beq_eq, Nat.ble_eq, decide_eq_true_eq, Bool.not_eq_true'] at hop
    obtain ⟨ho, hlk2, hy1, hn⟩ := hop
    obtain ⟨e1, hd⟩ := xs_dec hdec (show Nat.beq np (pc + 3) = true from by rw [hn]; exact Nat.beq_refl _)
    subst e1
    simp only [xm_step, xm_popk_eq] at h
    split at h
    · rename_i hcnd
      simp only [Bool.and_eq_true, Nat.ble_eq, Bool.or_eq_true] at hcnd
      obtain ⟨hlen, hcat, hrecv⟩ := hcnd
      have n1 : (xm_rev S y []).length = y := by simpa using (xs_rev S y [] hlen).1
      have n2 : S = (xm_rev S y []).reverse ++ xm_drop S y := by simpa using (xs_rev S y [] hlen).2
      generalize hAs : xm_rev S y [] = As at h n1 n2 hrecv
      generalize hRs : xm_drop S y = Rs at h n2 hcat
      subst n2
      have hv : x = 901 ∨ x = 902 ∨ (x < 280 ∧ (xm_m x).2.2.2.2.2.1 = false ∧ (xm_m x).2.2.2.2.2.2.1 = y ∧ (xm_m x).1.name ≠ "<init>") := by
        rcases ho with (q | q) | ⟨q1, q2, q3, q4⟩
        · exact Or.inl q
        · exact Or.inr (Or.inl q)
        · exact Or.inr (Or.inr ⟨by omega, q2, q3, q4⟩)
      intro H locs ls h1 h2 h3 h4
      have hmet := hcall x As M _ (by rcases hv with q | q | q; exact Or.inr (Or.inl q); exact Or.inr (Or.inr q); exact Or.inl q.1) h
      have hmc0 : xs_mc ph x = 0 := by
        unfold xs_mc
        split
        · rfl
        · rcases hv with q | q | q
          · rw [q]; decide +kernel
          · rw [q]; decide +kernel
          · exact (xs_alc q.1).2 q.2.2.2
      have hfit : (M 0 0).toNat - n0 + xs_mc ph x ≤ mc ∧ xm_sl (M 0 0).toNat - xm_sl n0 + (xm_sl ((M 0 0).toNat + xs_mc ph x) - xm_sl (M 0 0).toNat) ≤ ms := by
        have m1 := xs_sl_mono (n := n0) (k := (M 0 0).toNat) h4.1 (by omega)
        have m2 := xs_sl_mono (n := (M 0 0).toNat) (k := (M 0 0).toNat + xs_mc ph x) (by omega) (by omega)
        have m3 := xs_sl_mono (n := (M 0 0).toNat + xs_mc ph x) (k := n0 + mc) (by omega) hnm
        omega
      have hrm : xs_rm d (xs_mc ph x) (xm_sl ((M 0 0).toNat + xs_mc ph x) - xm_sl (M 0 0).toNat) = xs_rm d (xs_mc ph x) (xm_sl ((M 0 0).toNat + xs_mc ph x) - xm_sl (M 0 0).toNat) := rfl
      obtain ⟨q, As', hAq, hcw, cell, hc1, hc2, hc3⟩ : ∃ (q : Nat) (As' : List Value), As.map (xs_cv b ak) = .ref q :: As' ∧ CallW (xs_rm (d + 1) mc ms) s args (xm_cn (xm_m a).2.2.2.2.1) (xs_mm x).1.cls kk (xs_mm x).1 (xs_mm x).2.1 (xs_mm x).2.2.1 (xs_mm x).2.2.2.1 (xs_ws x) (xs_rm d (xs_mc ph x) (xm_sl ((M 0 0).toNat + xs_mc ph x) - xm_sl (M 0 0).toNat)) (xs_mc ph x) (xm_sl ((M 0 0).toNat + xs_mc ph x) - xm_sl (M 0 0).toNat) As'.length ∧ ∃ cell : Cell, H[q]? = some cell ∧ cell.vm.isStatics = false ∧ s.vm.findClass (xs_mm x).1.cls = some cell.cls := by
        by_cases hx9 : x = 901 ∨ x = 902
        · obtain ⟨w1, w2, w3, w4, w5, w6, w7⟩ := xs_mwx hx9
          have hmt : ∃ (r : Nat) (as' : List xm_V), As = .inr (.inr r) :: as' ∧ 1000 ≤ r ∧ r < 1006 ∧ (parseMethodDescriptor (xs_mm x).1.desc).map (fun d => d.parameters.length) = some as'.length := by
            cases d with
            | zero => exact h.elim
            | succ d =>
              rcases hx9 with rfl | rfl
              · obtain ⟨r, q1, q2, -⟩ := xs_cx1 h
                exact ⟨r, [], q1, q2.2.1, q2.2.2, by decide +kernel⟩
              · obtain ⟨r, j, q1, q2, -⟩ := xs_cx2 h
                exact ⟨r, [.inl j], q1, q2.2.1, q2.2.2.1, by show _ = some 1; decide +kernel⟩
          obtain ⟨r, as', rfl, hr1, hr2, hpd⟩ := hmt
          have e9 : xs_cvr b ak r = .ref (ak (r - 1000)) := by unfold xs_cvr; rw [if_neg (by omega), if_neg (by omega)]
          refine ⟨ak (r - 1000), as'.map (xs_cv b ak), by rw [List.map_cons]; show xs_cvr b ak r :: _ = _; rw [e9], ?_, ?_⟩
          · refine ⟨callB_of _ hts (xs_ngood w1) rfl rfl rfl (hts _ w2) (hts _ (w5 ▸ xs_mlk hlk2)) ⟨by rw [w6]; decide, by rw [w6]; decide, by rw [List.length_map]; exact hpd⟩ ⟨Nat.le_refl _, by show 8 + ((xs_mm x).2.2.1 + 11) + 37 * d ≤ 37 * (d + 1); omega⟩, hts _ w3, hts _ w4⟩
          · rw [w6]; exact vk_recv hEH.1 (by omega) h2
        · have hv : x < 280 ∧ (xm_m x).2.2.2.2.2.1 = false ∧ (xm_m x).2.2.2.2.2.2.1 = y ∧ (xm_m x).1.name ≠ "<init>" := by
            rcases hv with q | q | q
            · exact absurd (Or.inl q) hx9
            · exact absurd (Or.inr q) hx9
            · exact q
          obtain ⟨v1, v2, v3, v4⟩ := hv
          obtain ⟨w1, w2, w3, w4⟩ := xs_mw v1
          obtain ⟨w4, w5⟩ := w4 v2
          obtain ⟨b1, b2, b3, b4⟩ := xs_mbk v1
          have hc12 : (xm_m x).2.2.2.2.1 < 12 := by
            have := List.all_eq_true.mp xs_cn12 x (List.mem_range.mpr v1)
            rw [v2] at this
            simp only [Bool.false_or, Nat.ble_eq] at this
            omega
          have hrecv : xm_recv lim M x As = true := by
            rcases hrecv with q | q
            · omega
            · exact q
          obtain ⟨r, as', rfl, hr1, hr2, hcell⟩ := xs_recv hl h1 hK v1 hrecv hc12
          rw [xs_mm_lt v1]
          refine ⟨b + r, as'.map (xs_cv b ak), by rw [List.map_cons]; show xs_cvr b ak r :: _ = _; rw [xs_cvr_ref hr1 hr2], ?_, hcell⟩
          have hg := xs_ngood (a := x) (by rw [xs_mm_lt v1]; exact w1)
          have hmh := xs_cn_mh (xm_m x).2.2.2.2.1
          rw [← b1] at hmh
          refine ⟨callB_of _ hts hg (by unfold xs_ws; rw [xs_mm_lt v1]) rfl rfl (hts _ w2) (hts _ (by have := xs_mlk hlk2; rw [xs_nm_lt v1] at this; exact this)) ⟨hmh.1, hmh.2, ?_⟩ ⟨Nat.le_refl _, by show 8 + ((xm_m x).2.2.1 + 11) + 37 * d ≤ 37 * (d + 1); omega⟩, hts _ w4, hts _ (w5 v4)⟩
          rw [v2] at b4
          cases hp : parseMethodDescriptor (xm_m x).1.desc with
          | none => rw [hp] at b4; cases b4
          | some sg =>
            rw [hp] at b4
            have b4 : sg.parameters.length + 1 = (xm_m x).2.2.2.2.2.2.1 := by simpa using b4
            show some sg.parameters.length = _
            rw [List.length_map]
            congr 1
            rw [v3] at b4
            simp only [List.length_cons] at n1
            omega
      have hrun : va_Run p l e (xs_rm (d + 1) mc ms) s m args below meth c H locs ((M 0 0).toNat - n0) (xm_sl (M 0 0).toNat - xm_sl n0) (xs_mc ph x) (xm_sl ((M 0 0).toNat + xs_mc ph x) - xm_sl (M 0 0).toNat) (F0 m pc ls (((As.reverse ++ Rs)).map (xs_cv b ak))) (Rs.map (xs_cv b ak)) (xs_Q b ak cA D ph (fun v M' => M' 0 0 = M 0 0 + (xs_mc ph x : Nat) ∧ xm_kr z Rs (fun S => Y (pc + 3) L S M') v) (Value.ref q :: As').toArray) (fun q => b < q) := by
        rcases hcat with q | ⟨w1, w2, w3⟩
        · exact va_runV (g := F0 m pc ls (((As.reverse ++ Rs)).map (xs_cv b ak))) (As := As') (rest := Rs.map (xs_cv b ak)) (p := p) (l := l) (e := e) (below := below) (meth := meth) (H := H) (locs := locs) (cells := (M 0 0).toNat - n0) (slots := xm_sl (M 0 0).toNat - xm_sl n0) ⟨hx, hb, hml, hown, hts⟩ hmet hcw ⟨xs_blind, ⟨cell, hc1, hc2, hc3⟩, fun U hU hW => ⟨by rw [hAq], xs_pre hK hEU hEH h2 h1 hU hW⟩⟩ rfl rfl h3.1 (by show List.map _ _ = _; rw [List.map_append, List.map_reverse, hAq]; simp) (lv_room (by rw [xs_cats]; exact q)) hd hfit
        · exact xs_runV16 (g := F0 m pc ls (((As.reverse ++ Rs)).map (xs_cv b ak))) (As := As') (rest := Rs.map (xs_cv b ak)) (p := p) (l := l) (e := e) (below := below) (meth := meth) (H := H) (locs := locs) (cells := (M 0 0).toNat - n0) (slots := xm_sl (M 0 0).toNat - xm_sl n0) ⟨hx, hb, hml, hown, hts⟩ hmet hcw (by rw [xs_mm_lt (by omega)]; show 16 + ((xm_m x).2.2.1 + 11) + 37 * d ≤ 37 * (d + 1); omega) ⟨xs_blind, ⟨cell, hc1, hc2, hc3⟩, fun U hU hW => ⟨by rw [hAq], xs_pre hK hEU hEH h2 h1 hU hW⟩⟩ rfl rfl h3.1 (by show List.map _ _ = _; rw [List.map_append, List.map_reverse, hAq]; simp) (by show 2 * 0 + _ ≤ 16; rw [xs_cats]; omega) hd hfit
      refine xs_after hrun h2 (fun v M' H1 locs1 k1 k2 k3 => ?_)
      obtain ⟨k1, kq⟩ := k1
      have kq := xm_kr_to kq
      have g0 := h1.2.2.1
      have en : (M' 0 0).toNat = (M 0 0).toNat + xs_mc ph x := by rw [k1]; omega
      have hn83 : (M' 0 0).toNat ≤ 83 := by have := k2.2.2.2.1; omega
      have m1 := xs_sl_mono (n := n0) (k := (M 0 0).toNat) h4.1 (by omega)
      have m2 := xs_sl_mono (n := (M 0 0).toNat) (k := (M' 0 0).toNat) (by omega) hn83
      have k := hY _ _ _ _ kq H1 locs1 ls k2 k3 h3 (by rw [en]; exact ⟨by omega, by omega⟩)
      rw [List.map_append, en] at k
      rw [en] at m2
      rw [show (M 0 0).toNat + xs_mc ph x - n0 = (M 0 0).toNat - n0 + xs_mc ph x by omega, show xm_sl ((M 0 0).toNat + xs_mc ph x) - xm_sl n0 = xm_sl (M 0 0).toNat - xm_sl n0 + (xm_sl ((M 0 0).toNat + xs_mc ph x) - xm_sl (M 0 0).toNat) by omega] at k
      exact k
    · exact h.elim
  case invokestatic kk =>
    simp only [xm_opB, Bool.and_eq_true, Bool.or_eq_true, Nat.beq_eq, Nat.ble_eq, decide_eq_true_eq] at hop
    obtain ⟨ho, hlk2, hn⟩ := hop
    obtain ⟨e1, hd⟩ := xs_dec hdec (show Nat.beq np (pc + 3) = true from by rw [hn]; exact Nat.beq_refl _)
    subst e1
    simp only [xm_step, xm_popk_eq] at h
    split at h
    · -- arraycopy
      split at h
      · exact h.elim
      · split at h
        · rename_i n dp r sp r0 S2
          split at h
          · rename_i hcnd
            simp only [Bool.and_eq_true, Nat.ble_eq, Nat.beq_eq] at hcnd
            obtain ⟨hr, hr0, hcat⟩ := hcnd
            obtain ⟨⟨hc1, hc2, hc3⟩, h⟩ := h
            intro H locs ls h1 h2 h3 h4
            obtain ⟨y1, y2, y3, y4⟩ := xm_sys_ok
            obtain ⟨a1, a2, a3⟩ := xs_kd hl (fun q => (h1.2.2.2.2 q).1) hr (by omega)
            obtain ⟨c1, c2, c3⟩ := xs_kd hl (fun q => (h1.2.2.2.2 q).1) hr0 (by omega)
            have h83 := h1.2.2.2.1
            have hlink : Jvm.Cond.methodLink (xm_cn (xm_m a).2.2.2.2.1) kk arraycopyName ∈ xm_T := by
              rw [← y4]
              rcases hlk2 with q | q
              · exact xs_mlk q
              · omega
            have ea := xs_wl_get (b := b) (ak := ak) (cA := cA) (M := M) a2 a3
            have ec := xs_wl_get (b := b) (ak := ak) (cA := cA) (M := M) c2 c3
            have sa := xs_szi r (by omega)
            have sc := xs_szi r0 (by omega)
            have za : (xm_sh r).2 ≤ 2500 := by rcases xs_shk r with ⟨q1, q2⟩ | q | ⟨q1, q2⟩ <;> omega
            have zc : (xm_sh r0).2 ≤ 2500 := by rcases xs_shk r0 with ⟨q1, q2⟩ | q | ⟨q1, q2⟩ <;> omega
            rw [xs_sh_eq a1, xs_e_101] at ea
            rw [xs_sh_eq c1, xs_e_101] at ec
            rw [sa] at hc3
            rw [sc] at hc2
            have in1 : xm_in n := ⟨by omega, by omega⟩
            have in2 : xm_in sp := ⟨by omega, by omega⟩
            have in3 : xm_in dp := ⟨by omega, by omega⟩
            have t1 : (Int32.ofInt n).toNatClampNeg = n.toNat := Int32.toNatClampNeg_ofInt_of_le (by omega) (by omega)
            have t2 : (Int32.ofInt sp).toNatClampNeg = sp.toNat := Int32.toNatClampNeg_ofInt_of_le (by omega) (by omega)
            have t3 : (Int32.ofInt dp).toNatClampNeg = dp.toNat := Int32.toNatClampNeg_ofInt_of_le (by omega) (by omega)
            have nn : ∀ w : Int, xm_in w → 0 ≤ w → ¬ Int32.ofInt w < 0 := by
              intro w hw h0 q
              rw [← xn_0] at q
              have := (xn_lt hw xn_i0).mp q
              omega
            show W _ _ _ _ _ _ _ _ _ _ _ _ _ _ _ (F0 m pc ls (.int (Int32.ofInt n) :: .int (Int32.ofInt dp) :: xs_cvr b ak r :: .int (Int32.ofInt sp) :: xs_cvr b ak r0 :: S2.map (xs_cv b ak)))
            rw [xs_cvr_ref a2 (by omega), xs_cvr_ref c2 (by omega)]
            refine va_copyl hx hb (hml.trans h3.1.symm) hown (hts _ hlink) (hts _ y1) (hts _ y2) (hts _ y3) hK h1.1 xs_wl_D h2 (r0 - 1) (r - 1) 1 1 ec ea rfl rfl rfl (nn _ in2 hc2.1) (nn _ in3 hc3.1) (nn _ in1 hc1.1) (by rw [t1, t2]; omega) (by rw [t1, t3]; omega) (fun _ _ => rfl) (by show 1 ≤ d + 1; omega) (by rw [xs_cats]; have := xs_natw; show _ ≤ 37 * (d + 1); omega) hd (fun H1 locs1 k1 k2 k3 => ?_)
            have e0 : xm_cp M r0 sp r dp n 0 0 = M 0 0 := by unfold xm_cp; rw [if_neg (by omega)]
            have k := hY _ _ _ _ h H1 locs1 ls ?_ k3 h3 (by rw [e0]; exact h4)
            · rw [e0] at k; exact k
            · unfold xs_H
              rw [e0]
              refine ⟨?_, fun q => (by have := hl.mp rfl; rw [this] at q; cases q), h1.2.2.1, h1.2.2.2.1, fun hp => ⟨(h1.2.2.2.2 hp).1, fun c' k' q1 q2 q3 => ?_⟩⟩
              · have hset := xs_wl_set (b := b) (ak := ak) (cA := cA) (M := M) (M' := xm_cp M r0 sp r dp n) a2 a3 (fun c' hc' _ => by funext j; unfold xm_cp; rw [if_neg hc'])
                rw [← hset, xs_sh_eq a1, xs_e_101]
                rw [t1, t2, t3] at k1
                have ef : va_cpy (fun j : Nat => Int64.ofInt (M r0 (j : Int))) (fun j : Nat => Int64.ofInt (M r (j : Int))) sp.toNat dp.toNat n.toNat = fun j : Nat => Int64.ofInt (xm_cp M r0 sp r dp n r (j : Int)) := by
                  funext j
                  unfold va_cpy xm_cp
                  rw [if_pos rfl]
                  by_cases hj : dp.toNat ≤ j ∧ j < dp.toNat + n.toNat
                  · rw [if_pos hj, if_pos (by omega)]
                    have ej : ((sp.toNat + (j - dp.toNat) : Nat) : Int) = sp + ((j : Int) - dp) := by omega
                    show Int64.ofInt (M r0 ((sp.toNat + (j - dp.toNat) : Nat) : Int)) = _
                    rw [ej]
                  · rw [if_neg hj, if_neg (by omega)]
                rw [ef] at k1
                exact k1
              · by_cases hc' : c' = r
                · subst hc'; omega
                · have : xm_cp M r0 sp r dp n c' k' = M c' k' := by unfold xm_cp; rw [if_neg hc']
                  rw [this]
                  exact (h1.2.2.2.2 hp).2 c' k' q1 q2 q3
          · exact h.elim
        · exact h.elim
    · -- abs
      split at h
      · rename_i w S2
        split at h
        · rename_i hcat
          have hcat := Nat.le_of_ble_eq_true hcat
          obtain ⟨hc, h⟩ := h
          intro H locs ls h1 h2 h3 h4
          obtain ⟨y0, -, -, y1, y2, y3⟩ := xm_mth_ok
          have hlink : Jvm.Cond.methodLink (xm_cn (xm_m a).2.2.2.2.1) kk Lib.MathLoose.abs_long.x ∈ xm_T := by
            rw [← y3]
            rcases hlk2 with q | q
            · exact xs_mlk q
            · omega
          have k := hY _ _ _ _ h H locs ls h1 h2 h3 h4
          simp only [List.map_cons, xs_cv] at k ⊢
          refine va_mabs_long hx hb (hml.trans h3.1.symm) hown (hts _ hlink) (hts _ y1) (hts _ y0) (hts _ y2) (by show 1 ≤ d + 1; omega) (by rw [xs_cats]; show _ ≤ 37 * (d + 1); omega) (by show _ ≤ mc; omega) (by have m1 := xs_sl_mono (n := (M 0 0).toNat) (k := n0 + mc) h4.2 hnm; show _ ≤ ms; omega) hd ?_
          have ew : Int64.ofInt (if 0 < w then w else -w) = if 0 < Int64.ofInt w then Int64.ofInt w else -Int64.ofInt w := by
            have := xn_ltL (x := 0) (y := w) ⟨by decide, by decide⟩ hc
            rw [xn_0L] at this
            by_cases q : 0 < w
            · rw [if_pos q, if_pos (this.mpr q)]
            · rw [if_neg q, if_neg (fun z => q (this.mp z)), Int64.ofInt_neg]
          rw [← ew]
          exact k
        · exact h.elim
      · exact h.elim
    · -- max
      split at h
      · rename_i w2 w1 S2
        split at h
        · rename_i hcat
          have hcat := Nat.le_of_ble_eq_true hcat
          obtain ⟨hc, h⟩ := h
          intro H locs ls h1 h2 h3 h4
          obtain ⟨y0, ⟨y1, y2, y3⟩, -, -⟩ := xm_mth_ok
          have hlink : Jvm.Cond.methodLink (xm_cn (xm_m a).2.2.2.2.1) kk Lib.Math.max.name ∈ xm_T := by
            rw [← y3]
            rcases hlk2 with q | q
            · exact xs_mlk q
            · omega
          have k := hY _ _ _ _ h H locs ls h1 h2 h3 h4
          simp only [List.map_cons, xs_cv] at k ⊢
          refine va_mmax hx hb (hml.trans h3.1.symm) hown (hts _ hlink) (hts _ y1) (hts _ y0) (hts _ y2) (by show 1 ≤ d + 1; omega) (by rw [xs_cats]; show _ ≤ 37 * (d + 1); omega) (by show _ ≤ mc; omega) (by have m1 := xs_sl_mono (n := (M 0 0).toNat) (k := n0 + mc) h4.2 hnm; show _ ≤ ms; omega) hd ?_
          have ew : Int32.ofInt (if w1 < w2 then w2 else w1) = if Int32.ofInt w1 < Int32.ofInt w2 then Int32.ofInt w2 else Int32.ofInt w1 := by
            have := xn_lt hc.1 hc.2
            by_cases q : w1 < w2
            · rw [if_pos q, if_pos (this.mpr q)]
            · rw [if_neg q, if_neg (fun z => q (this.mp z))]
          rw [← ew]
          exact k
        · exact h.elim
      · exact h.elim
    · -- min
      split at h
      · rename_i w2 w1 S2
        split at h
        · rename_i hcat
          have hcat := Nat.le_of_ble_eq_true hcat
          obtain ⟨hc, h⟩ := h
          intro H locs ls h1 h2 h3 h4
          obtain ⟨y0, -, ⟨y1, y2, y3⟩, -⟩ := xm_mth_ok
          have hlink : Jvm.Cond.methodLink (xm_cn (xm_m a).2.2.2.2.1) kk Lib.Math.min.name ∈ xm_T := by
            rw [← y3]
            rcases hlk2 with q | q
            · exact xs_mlk q
            · omega
          have k := hY _ _ _ _ h H locs ls h1 h2 h3 h4
          simp only [List.map_cons, xs_cv] at k ⊢
          refine va_mmin hx hb (hml.trans h3.1.symm) hown (hts _ hlink) (hts _ y1) (hts _ y0) (hts _ y2) (by show 1 ≤ d + 1; omega) (by rw [xs_cats]; show _ ≤ 37 * (d + 1); omega) (by show _ ≤ mc; omega) (by have m1 := xs_sl_mono (n := (M 0 0).toNat) (k := n0 + mc) h4.2 hnm; show _ ≤ ms; omega) hd ?_
          have ew : Int32.ofInt (if w2 < w1 then w2 else w1) = if Int32.ofInt w2 < Int32.ofInt w1 then Int32.ofInt w2 else Int32.ofInt w1 := by
            have := xn_lt hc.2 hc.1
            by_cases q : w2 < w1
            · rw [if_pos q, if_pos (this.mpr q)]
            · rw [if_neg q, if_neg (fun z => q (this.mp z))]
          rw [← ew]
          exact k
        · exact h.elim
      · exact h.elim
    · -- a static method
      rename_i ne0 ne1 ne2 ne3
      split at h
      · rename_i hcnd
        simp only [Bool.and_eq_true, Nat.ble_eq] at hcnd
        obtain ⟨hlen, hcat⟩ := hcnd
        have n1 : (xm_rev S y []).length = y := by simpa using (xs_rev S y [] hlen).1
        have n2 : S = (xm_rev S y []).reverse ++ xm_drop S y := by simpa using (xs_rev S y [] hlen).2
        generalize hAs : xm_rev S y [] = As at h n1 n2
        generalize hRs : xm_drop S y = Rs at h n2 hcat
        subst n2
        have hv : x < 280 ∧ (xm_m x).2.2.2.2.2.1 = true ∧ (xm_m x).2.2.2.2.2.2.1 = y := by
          rcases ho with ((((q | q) | q) | q) | ⟨q1, q2, q3⟩)
          · exact absurd q ne0
          · exact absurd q ne1
          · exact absurd q ne2
          · exact absurd q ne3
          · exact ⟨by omega, q2, q3⟩
        obtain ⟨v1, v2, v3⟩ := hv
        intro H locs ls h1 h2 h3 h4
        have hmet := hcall x As M _ (Or.inl v1) h
        obtain ⟨w1, w2, w3, w4⟩ := xs_mw v1
        obtain ⟨b1, b2, b3, b4⟩ := xs_mbk v1
        have hg := xs_ngood (a := x) (by rw [xs_mm_lt v1]; exact w1)
        have hmh := xs_cn_mh (xm_m x).2.2.2.2.1
        rw [← b1] at hmh
        have hmc0 : xs_mc ph x = 0 := by
          unfold xs_mc
          split
          · rfl
          · refine (xs_alc v1).2 (fun q => ?_)
            have := (xs_okm v1).1
            unfold xm_mB at this
            simp only [Bool.and_eq_true, Bool.not_eq_true', Bool.and_eq_false_iff, decide_eq_false_iff_not] at this
            rcases this.2.2.2.2 with z | z
            · rw [v2] at z; cases z
            · exact z q
        have hfit : (M 0 0).toNat - n0 + xs_mc ph x ≤ mc ∧ xm_sl (M 0 0).toNat - xm_sl n0 + (xm_sl ((M 0 0).toNat + xs_mc ph x) - xm_sl (M 0 0).toNat) ≤ ms := by
          have m1 := xs_sl_mono (n := n0) (k := (M 0 0).toNat) h4.1 (by omega)
          have m2 := xs_sl_mono (n := (M 0 0).toNat) (k := (M 0 0).toNat + xs_mc ph x) (by omega) (by omega)
          have m3 := xs_sl_mono (n := (M 0 0).toNat + xs_mc ph x) (k := n0 + mc) (by omega) hnm
          omega
        have hpn : (parseMethodDescriptor (xm_m x).1.desc).map (fun d => d.parameters.length) = some (As.map (xs_cv b ak)).length := by
          rw [v2] at b4
          cases hp : parseMethodDescriptor (xm_m x).1.desc with
          | none => rw [hp] at b4; cases b4
          | some sg =>
            rw [hp] at b4
            have b4 : sg.parameters.length = (xm_m x).2.2.2.2.2.2.1 := by simpa using b4
            show some sg.parameters.length = _
            rw [List.length_map, n1, b4, v3]
        have hrun : va_Run p l e (xs_rm (d + 1) mc ms) s m args below meth c H locs ((M 0 0).toNat - n0) (xm_sl (M 0 0).toNat - xm_sl n0) (xs_mc ph x) (xm_sl ((M 0 0).toNat + xs_mc ph x) - xm_sl (M 0 0).toNat) (F0 m pc ls (((As.reverse ++ Rs)).map (xs_cv b ak))) (Rs.map (xs_cv b ak)) (xs_Q b ak cA D ph (fun v M' => M' 0 0 = M 0 0 + (xs_mc ph x : Nat) ∧ xm_kr z Rs (fun S => Y (pc + 3) L S M') v) (As.map (xs_cv b ak)).toArray) (fun q => b < q) := by
          rcases hlk2 with hlk2 | ⟨hlk2, -⟩
          · have hcb := callB_of (R := xs_rm (d + 1) mc ms) (own := xm_cn (xm_m a).2.2.2.2.1) (index := kk) (y := (xs_mm x).1) (rm := xs_rm d (xs_mc ph x) (xm_sl ((M 0 0).toNat + xs_mc ph x) - xm_sl (M 0 0).toNat)) (As.map (xs_cv b ak)).length hts hg rfl rfl rfl (by rw [xs_mm_lt v1]; exact hts _ w2) (by have := xs_mlk hlk2; rw [xs_nm_lt v1] at this; rw [xs_mm_lt v1]; exact hts _ this) (by rw [xs_mm_lt v1]; exact ⟨hmh.1, hmh.2, hpn⟩) ⟨Nat.le_refl _, by rw [xs_mm_lt v1]; show 8 + ((xm_m x).2.2.1 + 11) + 37 * d ≤ 37 * (d + 1); omega⟩
            exact va_runS ⟨hx, hb, hml, hown, hts⟩ hmet ⟨hcb, by rw [xs_mm_lt v1]; exact hts _ (w3 v2)⟩ ⟨xs_blind, fun U hU hW => ⟨rfl, xs_pre hK hEU hEH h2 h1 hU hW⟩⟩ rfl rfl h3.1 (by show List.map _ _ = _; rw [List.map_append, List.map_reverse]) (lv_room (by rw [xs_cats]; exact hcat)) hd hfit
          · have hnw := xs_mnk hlk2 hEU
            rw [xs_nm_lt v1] at hnw
            have hcb := va_cnB (R := xs_rm (d + 1) mc ms) (own := xm_cn (xm_m a).2.2.2.2.1) (index := kk) (y := (xs_mm x).1) (host := xm_cn 0) (rm := xs_rm d (xs_mc ph x) (xm_sl ((M 0 0).toNat + xs_mc ph x) - xm_sl (M 0 0).toNat)) (As.map (xs_cv b ak)).length hts hg rfl rfl rfl (by rw [xs_mm_lt v1]; exact hnw) (by rw [xs_mm_lt v1]; exact hts _ w2) (by rw [xs_mm_lt v1]; exact ⟨hmh.1, hmh.2, hpn⟩) ⟨Nat.le_refl _, by rw [xs_mm_lt v1]; show 8 + ((xm_m x).2.2.1 + 11) + 37 * d ≤ 37 * (d + 1); omega⟩
            exact va_runSN ⟨hx, hb, hml, hown, hts⟩ hmet ⟨hcb, by rw [xs_mm_lt v1]; exact hts _ (w3 v2), trivial⟩ ⟨xs_blind, fun U hU hW => ⟨rfl, xs_pre hK hEU hEH h2 h1 hU hW⟩⟩ rfl rfl h3.1 (by show List.map _ _ = _; rw [List.map_append, List.map_reverse]) (lv_room (by rw [xs_cats]; exact hcat)) hd hfit
        refine xs_after hrun h2 (fun v M' H1 locs1 k1 k2 k3 => ?_)
        obtain ⟨k1, kq⟩ := k1
        have kq := xm_kr_to kq
        have g0 := h1.2.2.1
        have en : (M' 0 0).toNat = (M 0 0).toNat + xs_mc ph x := by rw [k1]; omega
        have hn83 : (M' 0 0).toNat ≤ 83 := by have := k2.2.2.2.1; omega
        have m1 := xs_sl_mono (n := n0) (k := (M 0 0).toNat) h4.1 (by omega)
        have m2 := xs_sl_mono (n := (M 0 0).toNat) (k := (M' 0 0).toNat) (by omega) hn83
        have k := hY _ _ _ _ kq H1 locs1 ls k2 k3 h3 (by rw [en]; exact ⟨by omega, by omega⟩)
        rw [List.map_append, en] at k
        rw [en] at m2
        rw [show (M 0 0).toNat + xs_mc ph x - n0 = (M 0 0).toNat - n0 + xs_mc ph x by omega, show xm_sl ((M 0 0).toNat + xs_mc ph x) - xm_sl n0 = xm_sl (M 0 0).toNat - xm_sl n0 + (xm_sl ((M 0 0).toNat + xs_mc ph x) - xm_sl (M 0 0).toNat) by omega] at k
        exact k
      · exact h.elim
  case invokespecial kk =>
    simp only [xm_opB, Bool.and_eq_true, Bool.or_eq_true, Nat.beq_eq, Nat.ble_eq, decide_eq_true_eq, Bool.not_eq_true'] at hop
    obtain ⟨ho, hlk2, hy1, hn⟩ := hop
    obtain ⟨e1, hd⟩ := xs_dec hdec (show Nat.beq np (pc + 3) = true from by rw [hn]; exact Nat.beq_refl _)
    subst e1
    simp only [xm_step, xm_popk_eq] at h
    split at h
    · -- Object's
      rename_i h903
      have h903 := Nat.eq_of_beq_eq_true h903
      split at h
      · rename_i r S2
        split at h
        · rename_i hcnd
          simp only [Bool.and_eq_true, Nat.ble_eq] at hcnd
          obtain ⟨hr1, hr2, hcat⟩ := hcnd
          intro H locs ls h1 h2 h3 h4
          have hlink := xs_mlk hlk2
          rw [h903, xs_nm903] at hlink
          have k := hY _ _ _ _ h H locs ls h1 h2 h3 h4
          have er : xs_cvr b ak r = .ref (b + r) := by unfold xs_cvr; rw [if_neg (by omega), if_pos (by omega)]
          show W _ _ _ _ _ _ _ _ _ _ _ _ _ _ _ (F0 m pc ls (xs_cvr b ak r :: S2.map (xs_cv b ak)))
          rw [er]
          exact W.objInit hx hb hown (hts _ hlink) (hts _ xm_obj_ok.1) (hts _ xm_obj_ok.2) rfl (h3.1.trans hml.symm) rfl hd (by show 1 ≤ d + 1; omega) (by show 2 * 0 + _ + 12 ≤ 37 * (d + 1); rw [xs_cats]; omega) k
        · exact h.elim
      · exact h.elim
    · -- a constructor
      rename_i h903
      split at h
      · exact h.elim
      · rename_i lm
        split at h
        · rename_i hcnd
          simp only [Bool.and_eq_true, Nat.ble_eq] at hcnd
          obtain ⟨hlen, hcat, hrecv⟩ := hcnd
          obtain ⟨hroom, h⟩ := h
          have n1 : (xm_rev S y []).length = y := by simpa using (xs_rev S y [] hlen).1
          have n2 : S = (xm_rev S y []).reverse ++ xm_drop S y := by simpa using (xs_rev S y [] hlen).2
          generalize hAs : xm_rev S y [] = As at h n1 n2 hrecv
          generalize hRs : xm_drop S y = Rs at h n2 hcat
          subst n2
          have hv : x < 280 ∧ (xm_m x).2.2.2.2.2.1 = false ∧ (xm_m x).2.2.2.2.2.2.1 = y ∧ (xm_m x).1.name = "<init>" := by
            rcases ho with q | ⟨q1, q2, q3, q4⟩
            · rw [q] at h903; cases h903
            · exact ⟨by omega, q2, q3, q4⟩
          obtain ⟨v1, v2, v3, v4⟩ := hv
          have hpf : ph = false := by cases hp : ph with
            | false => rfl
            | true => have := hl.mpr hp; cases this
          have hmcx : xs_mc ph x = (xm_m x).2.2.2.2.2.2.2 := by unfold xs_mc; rw [hpf]; rfl
          have hlm := hlim lm rfl
          intro H locs ls h1 h2 h3 h4
          have hmet := hcall x As M _ (Or.inl v1) h
          obtain ⟨w1, w2, w3, w4⟩ := xs_mw v1
          obtain ⟨b1, b2, b3, b4⟩ := xs_mbk v1
          have hg := xs_ngood (a := x) (by rw [xs_mm_lt v1]; exact w1)
          have hmh := xs_cn_mh (xm_m x).2.2.2.2.1
          rw [← b1] at hmh
          obtain ⟨w4, w5⟩ := w4 v2
          have hc12 : (xm_m x).2.2.2.2.1 < 12 := by
            have := List.all_eq_true.mp xs_cn12 x (List.mem_range.mpr v1)
            rw [v2] at this
            simp only [Bool.false_or, Nat.ble_eq] at this
            omega
          have hfit : (M 0 0).toNat - n0 + xs_mc ph x ≤ mc ∧ xm_sl (M 0 0).toNat - xm_sl n0 + (xm_sl ((M 0 0).toNat + xs_mc ph x) - xm_sl (M 0 0).toNat) ≤ ms := by
            have g0 := h1.2.2.1
            rw [← hmcx, hlm] at hroom
            have m1 := xs_sl_mono (n := n0) (k := (M 0 0).toNat) h4.1 (by omega)
            have m2 := xs_sl_mono (n := (M 0 0).toNat) (k := (M 0 0).toNat + xs_mc ph x) (by omega) (by omega)
            have m3 := xs_sl_mono (n := (M 0 0).toNat + xs_mc ph x) (k := n0 + mc) (by omega) hnm
            omega
          obtain ⟨r, as', rfl, hr1, hr2, hcell⟩ := xs_recv hl h1 hK v1 hrecv hc12
          have hpn : (parseMethodDescriptor (xm_m x).1.desc).map (fun d => d.parameters.length) = some (as'.map (xs_cv b ak)).length := by
            rw [v2] at b4
            cases hp : parseMethodDescriptor (xm_m x).1.desc with
            | none => rw [hp] at b4; cases b4
            | some sg =>
              rw [hp] at b4
              have b4 : sg.parameters.length + 1 = (xm_m x).2.2.2.2.2.2.1 := by simpa using b4
              show some sg.parameters.length = _
              rw [List.length_map]
              congr 1
              rw [v3] at b4
              simp only [List.length_cons] at n1
              omega
          have hret : (xm_m x).2.2.2.1 = none := (xs_alc v1).1 v4
          have hcb := callB_of (R := xs_rm (d + 1) mc ms) (own := xm_cn (xm_m a).2.2.2.2.1) (index := kk) (y := (xs_mm x).1) (ret := none) (bytes := (xs_mm x).2.1) (maxL := (xs_mm x).2.2.1) (ws := xs_ws x) (ws' := xm_T) (rm := xs_rm d (xs_mc ph x) (xm_sl ((M 0 0).toNat + xs_mc ph x) - xm_sl (M 0 0).toNat)) (as'.map (xs_cv b ak)).length hts hg (by unfold xs_ws; rw [xs_mm_lt v1, hret]) rfl rfl (by rw [xs_mm_lt v1]; exact hts _ w2) (by have := xs_mlk hlk2; rw [xs_nm_lt v1] at this; rw [xs_mm_lt v1]; exact hts _ this) (by rw [xs_mm_lt v1]; exact ⟨hmh.1, hmh.2, hpn⟩) ⟨Nat.le_refl _, by rw [xs_mm_lt v1]; show 8 + ((xm_m x).2.2.1 + 11) + 37 * d ≤ 37 * (d + 1); omega⟩
          have hAq : (Sum.inr (Sum.inr r) :: as' : List xm_V).map (xs_cv b ak) = .ref (b + r) :: as'.map (xs_cv b ak) := by rw [List.map_cons]; show xs_cvr b ak r :: _ = _; rw [xs_cvr_ref hr1 hr2]
          have hrun := va_runI (g := F0 m pc ls ((((Sum.inr (Sum.inr r) :: as' : List xm_V).reverse ++ Rs)).map (xs_cv b ak))) (b := b + r) (As := as'.map (xs_cv b ak)) (rest := Rs.map (xs_cv b ak)) (p := p) (l := l) (e := e) (below := below) (meth := meth) (H := H) (locs := locs) (cells := (M 0 0).toNat - n0) (slots := xm_sl (M 0 0).toNat - xm_sl n0) ⟨hx, hb, hml, hown, hts⟩ hmet ⟨hcb, by rw [xs_mm_lt v1]; exact v4, by rw [xs_mm_lt v1]; exact hts _ w4⟩ ⟨xs_blind, fun U hU hW => ⟨by rw [hAq], xs_pre hK hEU hEH h2 h1 hU hW⟩⟩ rfl rfl h3.1 (by show List.map _ _ = _; rw [List.map_append, List.map_reverse, hAq]; simp) (lv_room (by rw [xs_cats]; exact hcat)) hd hfit
          refine xs_after hrun h2 (fun v M' H1 locs1 k1 k2 k3 => ?_)
          obtain ⟨k1, kq⟩ := k1
          have kq := xm_kr_to kq
          have g0 := h1.2.2.1
          have en : (M' 0 0).toNat = (M 0 0).toNat + xs_mc ph x := by rw [k1]; omega
          have hn83 : (M' 0 0).toNat ≤ 83 := by have := k2.2.2.2.1; omega
          have m1 := xs_sl_mono (n := n0) (k := (M 0 0).toNat) h4.1 (by omega)
          have m2 := xs_sl_mono (n := (M 0 0).toNat) (k := (M' 0 0).toNat) (by omega) hn83
          have k := hY _ _ _ _ kq H1 locs1 ls k2 k3 h3 (by rw [en]; exact ⟨by omega, by omega⟩)
          rw [List.map_append, en] at k
          rw [en] at m2
          rw [show (M 0 0).toNat + xs_mc ph x - n0 = (M 0 0).toNat - n0 + xs_mc ph x by omega, show xm_sl ((M 0 0).toNat + xs_mc ph x) - xm_sl n0 = xm_sl (M 0 0).toNat - xm_sl n0 + (xm_sl ((M 0 0).toNat + xs_mc ph x) - xm_sl (M 0 0).toNat) by omega] at k
          exact k
        · exact h.elim
  case new kk =>
    simp only [xm_opB, Bool.and_eq_true, Nat.ble_eq] at hop
    obtain ⟨hk, hx12, hn⟩ := hop
    obtain ⟨e1, hd⟩ := xs_dec hdec hn
    subst e1
    simp only [xm_step] at h
    split at h
    · exact h.elim
    · rename_i lm
      obtain ⟨⟨hroom, hsh⟩, h⟩ := h
      have hpf : ph = false := by cases hp : ph with
        | false => rfl
        | true => have := hl.mpr hp; cases this
      have hlm := hlim lm rfl
      have f1 : x < 12 := by omega
      have hi := List.all_eq_true.mp xm_in_ok x (List.mem_range.mpr f1)
      simp only [Bool.and_eq_true, decide_eq_true_eq] at hi
      intro H locs ls h1 h2 h3 h4
      have g0 := h1.2.2.1
      have hKn := hK.1 x _ (xs_clsk f1)
      have hsl := xs_sl_succ (n := (M 0 0).toNat) (by omega)
      rw [hsh] at hsl
      have hsl : xm_sl ((M 0 0).toNat + 1) = xm_sl (M 0 0).toNat + xm_N x := hsl
      have m1 := xs_sl_mono (n := n0) (k := (M 0 0).toNat) h4.1 (by omega)
      have m3 := xs_sl_mono (n := (M 0 0).toNat + 1) (k := n0 + mc) (by omega) hnm
      have hsz := h1.2.1 hpf
      refine W.newcK hx hb hown (hts _ (xs_nwk hk)) (hts _ hi.1) (hts _ hi.2) rfl hd (by show _ ≤ mc; omega) (by show _ ≤ ms; omega) hKn.2.1 (h := b + ((M 0 0).toNat + 1)) (by omega) (fun H1 kC hkC k1 k2 k3 => ?_)
      have e0 : xm_up (xm_z M ((M 0 0).toNat + 1)) 0 0 (M 0 0 + 1) 0 0 = M 0 0 + 1 := by rw [xs_up_eq]; simp
      have et : (M 0 0 + 1).toNat = (M 0 0).toNat + 1 := by omega
      have hH1 := xs_H_new h1 hpf (by omega) (H1 := H1) (by
        rw [hsh, xs_e_obj f1]
        exact ⟨_, xs_clsk f1, (u_born (xm_ty x) hts (xs_ws1 f1) hKn hkC k1 (fun j hj => xs_typ f1 hj)).to (fun j hj => by
          rw [xs_def (b := b) (ak := ak) f1 hj]
          unfold vp_V
          rw [List.getD_eq_getElem?_getD, List.getElem?_map, List.getElem?_range hj]
          rfl)⟩) (by omega) (fun q hq => k3 q (by omega))
      have k := hY _ _ _ _ h H1 locs ls hH1 ⟨by have := h2.1; omega, fun q q1 q2 => by
          rw [k3 q (by have := h2.1; omega)]; exact h2.2.1 q q1 q2, h2.2.2⟩ h3 (by rw [e0, et]; omega)
      rw [e0, et] at k
      have er : xs_cvr b ak ((M 0 0).toNat + 1) = .ref (b + ((M 0 0).toNat + 1)) := xs_cvr_ref (by omega) (by omega)
      have k : W p l e (xs_rm (d + 1) mc ms) s m args below meth c H1 locs ((M 0 0).toNat + 1 - n0) (xm_sl ((M 0 0).toNat + 1) - xm_sl n0) (MQ below (xs_Q b ak cA D ph Q1) args s mc ms (fun q => b < q)) (F0 m (pc + 3) ls (xs_cvr b ak ((M 0 0).toNat + 1) :: S.map (xs_cv b ak))) := k
      rw [er, show (M 0 0).toNat + 1 - n0 = (M 0 0).toNat - n0 + 1 by omega, show xm_sl ((M 0 0).toNat + 1) - xm_sl n0 = xm_sl (M 0 0).toNat - xm_sl n0 + xm_N x by omega] at k
      exact k
  case newarray kk =>
    simp only [xm_opB, Bool.and_eq_true] at hop
    obtain ⟨hk, hn⟩ := hop
    obtain ⟨e1, hd⟩ := xs_dec hdec hn
    subst e1
    simp only [xm_step] at h
    split at h
    · exact h.elim
    · rename_i lm
      split at h
      · rename_i w S2
        obtain ⟨⟨hroom, hw0, hw1, hsh⟩, h⟩ := h
        have hpf : ph = false := by cases hp : ph with
          | false => rfl
          | true => have := hl.mpr hp; cases this
        have hlm := hlim lm rfl
        intro H locs ls h1 h2 h3 h4
        have g0 := h1.2.2.1
        have hsl := xs_sl_succ (n := (M 0 0).toNat) (by omega)
        rw [hsh] at hsl
        have hsl : xm_sl ((M 0 0).toNat + 1) = xm_sl (M 0 0).toNat + w.toNat := hsl
        have m1 := xs_sl_mono (n := n0) (k := (M 0 0).toNat) h4.1 (by omega)
        have m3 := xs_sl_mono (n := (M 0 0).toNat + 1) (k := n0 + mc) (by omega) hnm
        have hsz := h1.2.1 hpf
        have t1 : (Int32.ofInt w).toNatClampNeg = w.toNat := Int32.toNatClampNeg_ofInt_of_le (by omega) (by omega)
        have nn : ¬ Int32.ofInt w < 0 := by
          intro q
          rw [← xn_0] at q
          have := (xn_lt ⟨by omega, by omega⟩ xn_i0).mp q
          omega
        have e0 : xm_up (xm_z M ((M 0 0).toNat + 1)) 0 0 (M 0 0 + 1) 0 0 = M 0 0 + 1 := by rw [xs_up_eq]; simp
        have et : (M 0 0 + 1).toNat = (M 0 0).toNat + 1 := by omega
        have er : xs_cvr b ak ((M 0 0).toNat + 1) = .ref (b + ((M 0 0).toNat + 1)) := xs_cvr_ref (by omega) (by omega)
        have fin : ∀ (H1 : Heap), va_at D xm_cls (b + ((M 0 0).toNat + 1), xs_e b ak cA (xm_sh ((M 0 0).toNat + 1)) (fun _ => 0)) H1 → H1.size = b + ((M 0 0).toNat + 1) + 1 → (∀ q : Nat, q < b + ((M 0 0).toNat + 1) → H1[q]? = H[q]?) → W p l e (xs_rm (d + 1) mc ms) s m args below meth c H1 locs ((M 0 0).toNat - n0 + 1) (xm_sl (M 0 0).toNat - xm_sl n0 + w.toNat) (MQ below (xs_Q b ak cA D ph Q1) args s mc ms (fun q => b < q)) (F0 m (pc + 2) ls (.ref (b + ((M 0 0).toNat + 1)) :: S2.map (xs_cv b ak))) := by
          intro H1 k1 k2 k3
          have hH1 := xs_H_new h1 hpf (by omega) (H1 := H1) k1 (by omega) (fun q hq => k3 q (by omega))
          have k := hY _ _ _ _ h H1 locs ls hH1 ⟨by have := h2.1; omega, fun q q1 q2 => by
              rw [k3 q (by have := h2.1; omega)]; exact h2.2.1 q q1 q2, h2.2.2⟩ h3 (by rw [e0, et]; omega)
          rw [e0, et] at k
          have k : W p l e (xs_rm (d + 1) mc ms) s m args below meth c H1 locs ((M 0 0).toNat + 1 - n0) (xm_sl ((M 0 0).toNat + 1) - xm_sl n0) (MQ below (xs_Q b ak cA D ph Q1) args s mc ms (fun q => b < q)) (F0 m (pc + 2) ls (xs_cvr b ak ((M 0 0).toNat + 1) :: S2.map (xs_cv b ak))) := k
          rw [er, show (M 0 0).toNat + 1 - n0 = (M 0 0).toNat - n0 + 1 by omega, show xm_sl ((M 0 0).toNat + 1) - xm_sl n0 = xm_sl (M 0 0).toNat - xm_sl n0 + w.toNat by omega] at k
          exact k
        cases kk <;> simp only [Nat.beq_eq, Bool.false_eq_true] at hk
        · subst hk
          refine va_newaK (atype := .boolean) hx hb (hts _ xm_arr_ok.2.2.2) rfl hd rfl nn t1 (by show w.toNat * 1 ≤ _; omega) (by show _ ≤ mc; omega) (by show _ ≤ ms; omega) (h := b + ((M 0 0).toNat + 1)) (by omega) (fun H1 cA' k1 k2 k3 k4 k5 => fin H1 ?_ k2 k3)
          have ec : cA' = cA 3 := Option.some.inj (k5.symm.trans (hK.2 3 _ rfl).2)
          rw [hsh, xs_e_103]
          show H1[_]? = some (vp_cell _ _)
          rw [k1, ec, vp_cell_i]
          rw [xn_0]; rfl
        · subst hk
          refine va_newaK (atype := .char) hx hb (hts _ xm_arr_ok.2.2.1) rfl hd rfl nn t1 (by show w.toNat * 2 ≤ _; omega) (by show _ ≤ mc; omega) (by show _ ≤ ms; omega) (h := b + ((M 0 0).toNat + 1)) (by omega) (fun H1 cA' k1 k2 k3 k4 k5 => fin H1 ?_ k2 k3)
          have ec : cA' = cA 2 := Option.some.inj (k5.symm.trans (hK.2 2 _ rfl).2)
          rw [hsh, xs_e_102]
          show H1[_]? = some (vp_cell _ _)
          rw [k1, ec, vp_cell_i]
          rw [xn_0]; rfl
        · subst hk
          refine va_newaK (atype := .int) hx hb (hts _ xm_arr_ok.1) rfl hd rfl nn t1 (by show w.toNat * 4 ≤ _; omega) (by show _ ≤ mc; omega) (by show _ ≤ ms; omega) (h := b + ((M 0 0).toNat + 1)) (by omega) (fun H1 cA' k1 k2 k3 k4 k5 => fin H1 ?_ k2 k3)
          have ec : cA' = cA 0 := Option.some.inj (k5.symm.trans (hK.2 0 _ rfl).2)
          rw [hsh, xs_e_100]
          show H1[_]? = some (vp_cell _ _)
          rw [k1, ec, vp_cell_i]
          rw [xn_0]; rfl
        · subst hk
          refine va_newaK (atype := .long) hx hb (hts _ xm_arr_ok.2.1) rfl hd rfl nn t1 (by show w.toNat * 8 ≤ _; omega) (by show _ ≤ mc; omega) (by show _ ≤ ms; omega) (h := b + ((M 0 0).toNat + 1)) (by omega) (fun H1 cA' k1 k2 k3 k4 k5 => fin H1 ?_ k2 k3)
          have ec : cA' = cA 1 := Option.some.inj (k5.symm.trans (hK.2 1 _ rfl).2)
          rw [hsh, xs_e_101]
          show H1[_]? = some (vp_cell _ _)
          rw [k1, ec, vp_cell_l]
          rw [xn_0L]; rfl
      · exact h.elim
end XST
