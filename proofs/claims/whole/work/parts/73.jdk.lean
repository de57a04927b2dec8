/-! the JDK's methods on text constants -/
def jk_Q (b : Nat) (v : Option Value) : Array Value → State → Outcome → State → Prop := fun _ st o t => o = .returned v ∧ t.heap = st.heap ∧ va_F (fun q => b < q) st t
def jk_B (b : Nat) (ak av : Nat → Nat) (U : State) : Prop := xs_EH b ak av U U.heap
theorem jk_blind {b : Nat} {ak av : Nat → Nat} {vs : List Value} : FrameBlind (va_Pc vs (jk_B b ak av)) := by
  intro x U g mk ⟨q1, q6, q7, q8⟩
  refine ⟨q1, vk_S.moved (u := U) (U := U.calling g mk x) (Vm.Alike.refl U.vm) q6, va_Z.moved (u := U) (U := U.calling g mk x) (Vm.Alike.refl U.vm) q7, ?_⟩
  rcases q8 with h | ⟨t, h⟩
  · exact Or.inl (va_Z.moved (u := U) (U := U.calling g mk x) (Vm.Alike.refl U.vm) h)
  · exact Or.inr ⟨t, va_Z.moved (u := U) (U := U.calling g mk x) (Vm.Alike.refl U.vm) h⟩
theorem jk_pre {b : Nat} {ak av : Nat → Nat} {s U : State} {H : Heap} {locs : List Loc} (hEH : xs_EH b ak av s s.heap) (hV : va_S (fun q => b < q) s.heap H locs) (hU : U.heap = H) (hW : s.WarmedH U.vm) : jk_B b ak av U := by
  have hm := hW.alike
  obtain ⟨q6, q7, q8⟩ := hEH
  unfold jk_B
  refine ⟨?_, ?_, ?_⟩
  · rw [hU]; exact (vk_S.moved hm q6).kept hV.2.1
  · rw [hU]; exact (va_Z.moved hm q7).kept hV.2.1
  · rw [hU]
    rcases q8 with h | ⟨t, h⟩
    · exact Or.inl ((va_Z.moved hm h).kept hV.2.1)
    · exact Or.inr ⟨t, (va_Z.moved hm h).kept hV.2.1⟩
theorem jk_good {w : Jvm.Cond} (h : w ∈ xm_T) : GoodIn xm_T (w :: xm_T) := by
  intro v hv
  rcases List.mem_cons.mp hv with rfl | hv
  · exact xm_T_good _ h
  · exact xm_T_good _ hv
/-- what holds at a method's entry -/
def jk_C (b : Nat) (ak av : Nat → Nat) (y : MethodName) (cc : ByteArray) (n : Nat) (ret : Option FieldType) (p : Program) (s : State) (m : MethodId) (args : Array Value) (meth : Method) (c : Code) : Prop :=
  p.tables.exec = Jvm.exec ∧ c.code = cc ∧ c.maxLocals = n ∧ meth.sig.returnType = ret ∧ (∀ w ∈ xm_T, w.before args s = true) ∧ s.vm.findClass y.cls = some m.cls ∧ meth.locks = false ∧ xs_EH b ak av s s.heap
theorem jk_met {l : Launch} {b : Nat} {ak av : Nat → Nat} {y : MethodName} {cc : ByteArray} {n : Nat} {ret : Option FieldType} {rm : Room} {vs : List Value} {v : Option Value} (hy : plainName y.cls = true) (hlen : (lg_sl vs).length ≤ n)
    (body : ∀ (p : Program) (e : Env) (R : Room) (s : State) (m : MethodId) (below : List Frame) (meth : Method) (c : Code) (ls : Array Slot), R = (headSpec (Jvm.Cond.code y cc n ret :: xm_T) rm).room → jk_C b ak av y cc n ret p s m vs.toArray meth c → lv_has ls n (lv_args 0 vs) → W p l e R s m vs.toArray below meth c s.heap [] 0 0 (MQ below (jk_Q b v) vs.toArray s 0 0 (fun q => b < q)) (F0 m 0 ls [])) :
    Met l y (Jvm.Cond.code y cc n ret :: xm_T) rm (va_Pc vs (jk_B b ak av)) (jk_Q b v) 0 0 (fun q => b < q) := by
  refine Met.ofW (cc := cc) (maxL := n) (ret := ret) hy (ws' := xm_T) rfl ?_
  intro p e s m args below meth c s₁ B hml hv
  obtain ⟨rfl, hEH⟩ := hv
  have hts : ∀ w ∈ (Jvm.Cond.code y cc n ret :: xm_T), w.before _ s = true := atoms_spec (ws := Jvm.Cond.code y cc n ret :: xm_T) B.pre
  have hown := findClass_of_methodNamed B.named
  rw [lg_entry_eq]
  exact body p e _ s m below meth c _ rfl ⟨B.exec, B.bytes, hml, B.returns, fun w hw => hts w (List.mem_cons_of_mem _ hw), hown, B.notSynchronized, hEH⟩ (lv_entry vs hlen)
section JK
variable {p : Program} {l : Launch} {e : Env} {R : Room} {s : State} {m : MethodId} {args : Array Value} {below : List Frame} {meth : Method} {c : Code} {H : Heap} {locs : List Loc} {cells slots : Nat} {Qf : State → Prop} {b : Nat} {ak av : Nat → Nat}
theorem jk_after {pc : Nat} {ls : Array Slot} {st0 rest : List Value} {x : Array Value} {v : Option Value} (hr : va_Run p l e R s m args below meth c H locs cells slots 0 0 (F0 m pc ls st0) rest (jk_Q b v x) (fun q => b < q)) (hS : va_S (fun q => b < q) s.heap H locs)
    (kk : ∀ locs1 : List Loc, va_S (fun q => b < q) s.heap H locs1 → W p l e R s m args below meth c H locs1 cells slots Qf (F0 m (pc + 3) ls (v.toList ++ rest))) : W p l e R s m args below meth c H locs cells slots Qf (F0 m pc ls st0) := by
  intro T hT X
  obtain ⟨w, st₀, t, T', L, h0, X', hL, e1, e2, ⟨hv, hh, hz, hk⟩, st⟩ := hr T hT X
  cases hv
  rw [h0] at hh
  have k1 := kk (locs ++ L) ⟨hS.1, hS.2.1, fun q hq => by
      rcases List.mem_append.mp hq with h | h
      · exact hS.2.2 q h
      · exact hL q h⟩
  obtain ⟨t2, a1, b1⟩ := k1 T' (e1.trans hh) X'
  exact ⟨t2, st t2 a1, b1⟩
end JK
