/-! what the tables and the premises say of the start -/
theorem st_arr {args : Array Value} {s : State} {ty : FieldType} (h : (Jvm.Cond.arrayClass ty).before args s = true) : ∃ cA : ClassId, ArrOfT s cA ty ∧ s.vm.findClass ("[" ++ ty.toString) = some cA := by
  obtain ⟨cA, kA, comp, h1, h2, h3⟩ := Cond.arrayClass_spec h
  exact ⟨cA, fun n z => ⟨fun k h => (by cases h), kA, h2, comp, h3⟩, h1⟩
theorem st_ws : ∀ w ∈ [Jvm.Cond.arrayClass .int, .arrayClass .long, .arrayClass .char, .arrayClass .boolean, .laysStatic "java/lang/String" "COMPACT_STRINGS" "Z", .laysStatic "jdk/internal/util/Preconditions" "SIOOBE_FORMATTER" "Ljava/util/function/BiFunction;", .initialized "java/lang/String", .initialized "jdk/internal/util/Preconditions"], w ∈ lw_tbl := by decide +kernel
theorem st_mn : ∀ q ∈ xm_mn, Jvm.Cond.methodLinkNest (xm_cn q.1) q.2.1 (xm_nm q.2.2.1) (xm_cn 0) ∈ lw_tbl := by decide +kernel
def st_tx (i : Nat) : String := ["room", "rate", "mark", "budget", "plan", "cross"].getD i ""
def st_ix (i : Nat) : Nat := [54, 60, 62, 64, 66, 68].getD i 0
theorem st_st : ∀ i : Nat, i < 6 → Jvm.Cond.stringRef "EpisodeProbes$Tokens" (st_ix i) (st_tx i) ∈ lw_tbl := by decide +kernel
theorem st_sq : ∀ q ∈ xm_st, xm_cn q.1 = "EpisodeProbes$Tokens" ∧ q.2.2 < 6 ∧ st_ix q.2.2 = q.2.1 := by decide +kernel
def st_tm (i : Nat) : Term := .string "EpisodeProbes$Tokens" (st_ix i)
def st_pr : List Jvm.Cond := flatC (Jvm.Cond.and given_1 narrow_1)
theorem st_f1 : ∀ i : Nat, i < 6 → Jvm.Cond.exactly (st_tm i) "java/lang/String" ∈ st_pr ∧ Jvm.Cond.eq (.field (st_tm i) "java/lang/String" "coder" "B") (.int 0) ∈ st_pr ∧ Jvm.Cond.arrayOf (.field (st_tm i) "java/lang/String" "value" "[B") .byte ∈ st_pr ∧ Jvm.Cond.eq (.length (.field (st_tm i) "java/lang/String" "value" "[B")) (.int (Int32.ofNat (xm_sln.getD i 0))) ∈ st_pr ∧ xm_sln.getD i 0 < 2 ^ 31 := by decide +kernel
theorem st_f2 : ∀ i : Nat, i < 6 → ∀ j : Nat, j < xm_sln.getD i 0 → Jvm.Cond.eq (.elem (.field (st_tm i) "java/lang/String" "value" "[B") (.int (Int32.ofNat j))) (.int ((xs_by.getD i []).getD j 0)) ∈ st_pr := by decide +kernel
theorem st_f3 : ∀ i : Nat, i < 6 → ∀ j : Nat, j < 6 → i ≠ j → Jvm.Cond.not (.eq (st_tm i) (st_tm j)) ∈ st_pr ∨ Jvm.Cond.not (.eq (st_tm j) (st_tm i)) ∈ st_pr := by decide +kernel
theorem st_f4 : Jvm.Cond.eq (.static "java/lang/String" "COMPACT_STRINGS" "Z") (.int 1) ∈ st_pr ∧ Jvm.Cond.isRef (.static "jdk/internal/util/Preconditions" "SIOOBE_FORMATTER" "Ljava/util/function/BiFunction;") ∈ st_pr := by decide +kernel
theorem st_K {args : Array Value} {s : State} (hts : ∀ w ∈ lw_tbl, w.before args s = true) : ∃ (D : va_G) (cA : Nat → ClassId), va_K D xm_cls (xs_ar cA) s := by
  have htsT : ∀ w ∈ xm_T, w.before args s = true := fun w hw => hts w (lw_Tin w hw)
  have h : ∀ x : Nat, ∃ q : ClassId × (Nat → Nat), x < 12 → u_Kn s (xm_cn x) (xm_F x) (xm_N x) q.1 q.2 := by
    intro x
    by_cases hx : x < 12
    · have hi := List.all_eq_true.mp xm_in_ok x (List.mem_range.mpr hx)
      simp only [Bool.and_eq_true, decide_eq_true_eq] at hi
      obtain ⟨cC, iS, hk⟩ := u_known htsT (xs_ws1 hx) (htsT _ hi.1)
      exact ⟨(cC, iS), fun _ => hk⟩
    · have hi := List.all_eq_true.mp xm_in_ok 0 (List.mem_range.mpr (by omega))
      simp only [Bool.and_eq_true, decide_eq_true_eq] at hi
      obtain ⟨cC, iS, hk⟩ := u_known htsT (xs_ws1 (x := 0) (by omega)) (htsT _ hi.1)
      exact ⟨(cC, iS), fun q => absurd q hx⟩
  obtain ⟨f, hf⟩ := Classical.axiomOfChoice h
  obtain ⟨a0, g0, k0⟩ := st_arr (hts _ (st_ws (.arrayClass .int) (by simp)))
  obtain ⟨a1, g1, k1⟩ := st_arr (hts _ (st_ws (.arrayClass .long) (by simp)))
  obtain ⟨a2, g2, k2⟩ := st_arr (hts _ (st_ws (.arrayClass .char) (by simp)))
  obtain ⟨a3, g3, k3⟩ := st_arr (hts _ (st_ws (.arrayClass .boolean) (by simp)))
  refine ⟨(fun x => (f x).1, fun x => (f x).2), fun k => match k with
    | 0 => a0
    | 1 => a1
    | 2 => a2
    | _ => a3, fun c q hq => ?_, fun k q hq => ?_⟩
  · by_cases hc : c < 12
    · rw [xs_clsk hc] at hq
      cases hq
      exact hf c hc
    · have hl : xm_cls.length = 12 := by decide
      rw [List.getElem?_eq_none (by omega)] at hq
      cases hq
  · unfold xs_ar at hq
    match k, hq with
    | 0, hq => cases hq; exact ⟨g0, k0⟩
    | 1, hq => cases hq; exact ⟨g1, k1⟩
    | 2, hq => cases hq; exact ⟨g2, k2⟩
    | 3, hq => cases hq; exact ⟨g3, k3⟩
    | k + 4, hq => simp at hq
theorem st_E {args : Array Value} {s : State} {b : Nat} (hts : ∀ w ∈ lw_tbl, w.before args s = true) (hgv : (Jvm.Cond.and given_1 narrow_1).before args s = true) (hsz : s.heap.size = b + 1) : ∃ ak av : Nat → Nat, xs_EU ak s ∧ xs_EH b ak av s s.heap := by
  have hs : ∀ w ∈ st_pr, w.before args s = true := flat_of_before _ hgv
  have hA : ∀ a : Nat, a < s.heap.size → ¬ (fun q : Nat => b < q) a := fun a h q => by
    have q : b < a := q
    omega
  obtain ⟨ak, av, hS, hev⟩ := vk_Sof (args := args) (s := s) (N := 6) (tm := st_tm) (len := xm_sln) (byt := xs_by) (A := fun q => b < q) (fun i hi => (st_f1 i hi).2.2.2.2) (fun i hi => hs _ (st_f1 i hi).1) (fun i hi => hs _ (st_f1 i hi).2.1) (fun i hi => hs _ (st_f1 i hi).2.2.1) (fun i hi => hs _ (st_f1 i hi).2.2.2.1) (fun i hi j hj => hs _ (st_f2 i hi j hj)) (fun i j hi hj hij => by
    rcases st_f3 i hi j hj hij with h | h
    · exact Or.inl (hs _ h)
    · exact Or.inr (hs _ h)) hA
  refine ⟨ak, av, ⟨fun q hq => va_Nw.of rfl (hts _ (st_mn q hq)), fun q hq => ?_⟩, hS, ?_, ?_⟩
  · obtain ⟨e1, e2, e3⟩ := st_sq q hq
    refine ⟨st_tx q.2.2, ?_⟩
    rw [e1, ← e3]
    have h2 := hev q.2.2 e2
    have h1 := hts _ (st_st q.2.2 e2)
    exact vk_R.of h1 h2
  · exact va_Zof (hts _ (st_ws (.laysStatic "java/lang/String" "COMPACT_STRINGS" "Z") (by simp))) (hts _ (st_ws (.initialized "java/lang/String") (by simp))) (va_eqi (hs _ st_f4.1)) hA
  · exact va_Zqof (hts _ (st_ws (.laysStatic "jdk/internal/util/Preconditions" "SIOOBE_FORMATTER" "Ljava/util/function/BiFunction;") (by simp))) (hts _ (st_ws (.initialized "jdk/internal/util/Preconditions") (by simp))) (hs _ st_f4.2) hA
