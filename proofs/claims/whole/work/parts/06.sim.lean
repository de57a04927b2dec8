/-! the heap that holds the pure machine's memory -/
def xs_cvr (b : Nat) (ak : Nat → Nat) (r : Nat) : Value := if r = 0 then .null else if r < 1000 then .ref (b + r) else .ref (ak (r - 1000))
def xs_cv (b : Nat) (ak : Nat → Nat) : xm_V → Value
  | .inl x => .int (Int32.ofInt x)
  | .inr (.inl x) => .long (Int64.ofInt x)
  | .inr (.inr r) => xs_cvr b ak r
def xs_fv (b : Nat) (ak : Nat → Nat) (t : Nat) (x : Int) : Value := match t with
  | 0 => .int (Int32.ofInt x)
  | 1 => .long (Int64.ofInt x)
  | 4 => .int (Int32.ofInt x)
  | _ => xs_cvr b ak x.toNat
def xs_e (b : Nat) (ak : Nat → Nat) (cA : Nat → ClassId) (q : Nat × Nat) (m : Int → Int) : va_E :=
  if q.1 < 12 then .inr (q.1, (List.range q.2).map fun j => xs_fv b ak (xm_fc q.1 j) (m (j : Int)))
  else if q.1 = 101 then .inl (cA 1, q.2, .inr (.inl fun j => Int64.ofInt (m (j : Int))))
  else .inl (cA (q.1 - 100), q.2, .inl fun j => Int32.ofInt (m (j : Int)))
def xs_wl (b : Nat) (ak : Nat → Nat) (cA : Nat → ClassId) (n : Nat) (M : xm_Mem) : va_W := (List.range n).map fun k => (b + (k + 1), xs_e b ak cA (xm_sh (k + 1)) (M (k + 1)))
def xs_ar (cA : Nat → ClassId) : List (ClassId × FieldType) := [(cA 0, .int), (cA 1, .long), (cA 2, .char), (cA 3, .boolean)]
/-- the final fields of references are what the constructors left -/
def xs_F (M : xm_Mem) : Prop := ∀ c k : Nat, (xm_sh c).1 < 12 → k < xm_N (xm_sh c).1 → xm_fc (xm_sh c).1 k = 2 → M c k = (xm_fin c k : Nat)
def xs_H (b : Nat) (ak : Nat → Nat) (cA : Nat → ClassId) (D : va_G) (ph : Bool) (M : xm_Mem) (H : Heap) : Prop :=
  va_P D xm_cls (xs_wl b ak cA (M 0 0).toNat M) H ∧ (ph = false → H.size = b + 1 + (M 0 0).toNat) ∧ 0 ≤ M 0 0 ∧ M 0 0 ≤ 83 ∧ (ph = true → M 0 0 = 83 ∧ xs_F M)
/-- what the tables say beside: nest mates' methods, the text constants -/
def xs_EU (ak : Nat → Nat) (U : State) : Prop := (∀ q ∈ xm_mn, va_Nw (.methodLinkNest (xm_cn q.1) q.2.1 (xm_nm q.2.2.1) (xm_cn 0)) U) ∧ ∀ q ∈ xm_st, ∃ tx, vk_R (xm_cn q.1) q.2.1 tx (ak q.2.2) U
def xs_by : List (List Int32) := xm_sby.map fun l => l.map Int32.ofInt
def xs_EH (b : Nat) (ak av : Nat → Nat) (U : State) (H : Heap) : Prop := vk_S 6 xm_sln xs_by ak av (fun q => b < q) U H ∧ va_Z "java/lang/String" "COMPACT_STRINGS" "Z" (.int 1) (fun q => b < q) U H ∧ va_Zq "jdk/internal/util/Preconditions" "SIOOBE_FORMATTER" "Ljava/util/function/BiFunction;" (fun q => b < q) U H
def xs_S (b : Nat) (ak av : Nat → Nat) (cA : Nat → ClassId) (D : va_G) (ph : Bool) (M : xm_Mem) (U : State) : Prop := xs_H b ak cA D ph M U.heap ∧ va_K D xm_cls (xs_ar cA) U ∧ xs_EU ak U ∧ xs_EH b ak av U U.heap
theorem xs_shr (r : Nat) : xm_sh r = (999, 0) ∨ (1 ≤ r ∧ r < 84) := by
  by_cases h : r < 84
  · by_cases h0 : r = 0
    · subst h0; exact Or.inl (by decide)
    · exact Or.inr ⟨by omega, h⟩
  · refine Or.inl ?_
    unfold xm_sh
    rw [List.getD_eq_getElem?_getD, List.getElem?_eq_none (by have : xm_shl.length = 84 := by decide +kernel
                                                              omega)]
    rfl
theorem xs_shk (r : Nat) : ((xm_sh r).1 < 12 ∧ (xm_sh r).2 = xm_N (xm_sh r).1) ∨ (xm_sh r).1 = 999 ∨ (((xm_sh r).1 = 100 ∨ (xm_sh r).1 = 101 ∨ (xm_sh r).1 = 102 ∨ (xm_sh r).1 = 103) ∧ (xm_sh r).2 ≤ 2500) := by
  rcases xs_shr r with h | ⟨h0, h⟩
  · rw [h]; exact Or.inr (Or.inl rfl)
  · have hm : xm_sh r ∈ xm_shl := by
      unfold xm_sh
      rw [List.getD_eq_getElem?_getD, List.getElem?_eq_getElem (by have : xm_shl.length = 84 := by decide +kernel
                                                                   omega)]
      exact List.getElem_mem _
    have := List.all_eq_true.mp xm_sh_ok _ hm
    simp only [Bool.or_eq_true, Bool.and_eq_true, Nat.ble_eq, Nat.beq_eq] at this
    rcases this with ⟨q1, q2⟩ | q | ⟨q1, q2⟩
    · exact Or.inl ⟨by omega, q2⟩
    · exact Or.inr (Or.inl q)
    · exact Or.inr (Or.inr ⟨by omega, q2⟩)
theorem xs_szi (r : Nat) (h : (xm_sh r).1 ≠ 999) : xm_szi r = ((xm_sh r).2 : Nat) := by
  rcases xs_shr r with q | ⟨h0, q⟩
  · rw [q] at h; exact absurd rfl h
  · exact of_decide_eq_true (List.all_eq_true.mp xm_szi_ok r (List.mem_range.mpr q))
/-- a cell of a kind is made -/
theorem xs_kd {lim : Option Int} {ph : Bool} {M : xm_Mem} {r t : Nat} (hl : lim = none ↔ ph = true) (hph : ph = true → M 0 0 = 83) (h : xm_kd lim M r = t) (ht : t ≠ 999) : (xm_sh r).1 = t ∧ 1 ≤ r ∧ r ≤ (M 0 0).toNat := by
  unfold xm_kd at h
  cases lim with
  | none =>
    dsimp only at h
    have h83 := hph (hl.mp rfl)
    rcases xs_shr r with q | ⟨h0, q⟩
    · rw [q] at h; exact absurd h.symm ht
    · exact ⟨h, h0, by omega⟩
  | some z =>
    dsimp only at h
    by_cases hr : (r : Int) ≤ M 0 0
    · rw [if_pos hr] at h
      rcases xs_shr r with q | ⟨h0, q⟩
      · rw [q] at h; exact absurd h.symm ht
      · exact ⟨h, h0, by omega⟩
    · rw [if_neg hr] at h
      exact absurd h.symm ht
section XS
variable {b : Nat} {ak av : Nat → Nat} {cA : Nat → ClassId} {D : va_G} {n r : Nat} {M M' : xm_Mem}
theorem xs_wl_get (h1 : 1 ≤ r) (h : r ≤ n) : (xs_wl b ak cA n M)[r - 1]? = some (b + r, xs_e b ak cA (xm_sh r) (M r)) := by
  unfold xs_wl
  rw [List.getElem?_map, List.getElem?_range (by omega)]
  rw [Option.map_some, show r - 1 + 1 = r by omega]
theorem xs_wl_len : (xs_wl b ak cA n M).length = n := by unfold xs_wl; simp
theorem xs_wl_lt {k : Nat} {q : Nat × va_E} (h : (xs_wl b ak cA n M)[k]? = some q) : k < n ∧ q.1 = b + (k + 1) := by
  have hk : k < n := by have := (List.getElem?_eq_some_iff.mp h).1; rwa [xs_wl_len] at this
  have e := xs_wl_get (b := b) (ak := ak) (cA := cA) (n := n) (M := M) (r := k + 1) (by omega) (by omega)
  rw [show k + 1 - 1 = k by omega, h] at e
  exact ⟨hk, by rw [Option.some.inj e]⟩
theorem xs_wl_D : va_D (fun q => b < q) (xs_wl b ak cA n M) := by
  refine ⟨fun i j p q hi hj e => ?_, fun k q hk => ?_⟩
  · have h1 := (xs_wl_lt hi).2
    have h2 := (xs_wl_lt hj).2
    omega
  · have := (xs_wl_lt hk).2
    show b < q.1
    omega
theorem xs_wl_set (h1 : 1 ≤ r) (h : r ≤ n) (hM : ∀ c, c ≠ r → 1 ≤ c → M' c = M c) : (xs_wl b ak cA n M).set (r - 1) (b + r, xs_e b ak cA (xm_sh r) (M' r)) = xs_wl b ak cA n M' := by
  refine List.ext_getElem? fun k => ?_
  by_cases hk : k = r - 1
  · subst hk
    rw [List.getElem?_set_self (by rw [xs_wl_len]; omega), xs_wl_get h1 h]
  · rw [List.getElem?_set_ne (Ne.symm hk)]
    by_cases hn : k < n
    · have e1 := xs_wl_get (b := b) (ak := ak) (cA := cA) (n := n) (M := M) (r := k + 1) (by omega) (by omega)
      have e2 := xs_wl_get (b := b) (ak := ak) (cA := cA) (n := n) (M := M') (r := k + 1) (by omega) (by omega)
      rw [show k + 1 - 1 = k by omega] at e1 e2
      rw [e1, e2, hM (k + 1) (by omega) (by omega)]
    · rw [List.getElem?_eq_none (by rw [xs_wl_len]; omega), List.getElem?_eq_none (by rw [xs_wl_len]; omega)]
theorem xs_wl_push (hM : ∀ c, c ≠ n + 1 → 1 ≤ c → M' c = M c) : xs_wl b ak cA n M ++ [(b + (n + 1), xs_e b ak cA (xm_sh (n + 1)) (M' (n + 1)))] = xs_wl b ak cA (n + 1) M' := by
  refine List.ext_getElem? fun k => ?_
  by_cases hk : k < n
  · rw [List.getElem?_append_left (by rw [xs_wl_len]; exact hk)]
    have e1 := xs_wl_get (b := b) (ak := ak) (cA := cA) (n := n) (M := M) (r := k + 1) (by omega) (by omega)
    have e2 := xs_wl_get (b := b) (ak := ak) (cA := cA) (n := n + 1) (M := M') (r := k + 1) (by omega) (by omega)
    rw [show k + 1 - 1 = k by omega] at e1 e2
    rw [e1, e2, hM (k + 1) (by omega) (by omega)]
  · rw [List.getElem?_append_right (by rw [xs_wl_len]; omega), xs_wl_len]
    by_cases hk2 : k = n
    · subst hk2
      have e2 := xs_wl_get (b := b) (ak := ak) (cA := cA) (n := k + 1) (M := M') (r := k + 1) (by omega) (by omega)
      rw [show k + 1 - 1 = k by omega] at e2
      rw [e2]; simp
    · rw [List.getElem?_eq_none (by simp; omega), List.getElem?_eq_none (by rw [xs_wl_len]; omega)]
theorem xs_up_ne {c : Nat} {k v : Int} {c' : Nat} (h : c' ≠ c) : xm_up M c k v c' = M c' := by
  funext j
  unfold xm_up
  rw [if_neg h]
theorem xs_up_eq {c : Nat} {k v : Int} : xm_up M c k v c = fun j => if j = k then v else M c j := by
  funext j
  unfold xm_up
  rw [if_pos rfl]
theorem xs_e_obj {ci N : Nat} {m : Int → Int} (h : ci < 12) : xs_e b ak cA (ci, N) m = .inr (ci, (List.range N).map fun j => xs_fv b ak (xm_fc ci j) (m (j : Int))) := by
  unfold xs_e
  rw [if_pos h]
theorem xs_fld {ci N k : Nat} {m : Int → Int} (hk : k < N) : ((List.range N).map fun j => xs_fv b ak (xm_fc ci j) (m (j : Int)))[k]? = some (xs_fv b ak (xm_fc ci k) (m (k : Int))) := by
  rw [List.getElem?_map, List.getElem?_range hk]
  rfl
theorem xs_fld_set {ci N k : Nat} {m : Int → Int} {v : Int} (hk : k < N) : ((List.range N).map fun j => xs_fv b ak (xm_fc ci j) (m (j : Int))).set k (xs_fv b ak (xm_fc ci k) v) = (List.range N).map fun j => xs_fv b ak (xm_fc ci j) (if (j : Int) = (k : Int) then v else m (j : Int)) := by
  refine List.ext_getElem? fun i => ?_
  by_cases hi : i = k
  · subst hi
    rw [List.getElem?_set_self (by simpa using hk), List.getElem?_map, List.getElem?_range hk]
    simp
  · rw [List.getElem?_set_ne (Ne.symm hi), List.getElem?_map, List.getElem?_map]
    by_cases hn : i < N
    · rw [List.getElem?_range hn]
      have : ¬ ((i : Int) = (k : Int)) := by omega
      simp [this]
    · rw [List.getElem?_eq_none (by simpa using hn)]
      rfl
theorem xs_e_100 {N : Nat} {m : Int → Int} : xs_e b ak cA (100, N) m = .inl (cA 0, N, .inl fun j => Int32.ofInt (m (j : Int))) := by
  rfl
theorem xs_e_101 {N : Nat} {m : Int → Int} : xs_e b ak cA (101, N) m = .inl (cA 1, N, .inr (.inl fun j => Int64.ofInt (m (j : Int)))) := by
  rfl
theorem xs_e_102 {N : Nat} {m : Int → Int} : xs_e b ak cA (102, N) m = .inl (cA 2, N, .inl fun j => Int32.ofInt (m (j : Int))) := by
  rfl
theorem xs_e_103 {N : Nat} {m : Int → Int} : xs_e b ak cA (103, N) m = .inl (cA 3, N, .inl fun j => Int32.ofInt (m (j : Int))) := by
  rfl
theorem xs_upd {m : Int → Int} {i : Nat} {x : Int} : upd (fun j : Nat => Int32.ofInt (m (j : Int))) i (Int32.ofInt x) = fun j : Nat => Int32.ofInt (if (j : Int) = (i : Int) then x else m (j : Int)) := by
  funext j
  unfold upd
  by_cases h : j = i
  · subst h; simp
  · rw [if_neg h, if_neg (by omega)]
theorem xs_updL {m : Int → Int} {i : Nat} {x : Int} : vp_updL (fun j : Nat => Int64.ofInt (m (j : Int))) i (Int64.ofInt x) = fun j : Nat => Int64.ofInt (if (j : Int) = (i : Int) then x else m (j : Int)) := by
  funext j
  unfold vp_updL
  by_cases h : j = i
  · subst h; simp
  · rw [if_neg h, if_neg (by omega)]
theorem xs_sh_eq {r t : Nat} (h : (xm_sh r).1 = t) : xm_sh r = (t, (xm_sh r).2) := by rw [← h]
end XS
/-- the locals -/
def xs_as (b : Nat) (ak : Nat → Nat) : Nat → xm_L → List (Nat × Value)
  | _, [] => []
  | i, none :: L => xs_as b ak (i + 1) L
  | i, some v :: L => (i, xs_cv b ak v) :: xs_as b ak (i + 1) L
theorem xs_as_mem {b : Nat} {ak : Nat → Nat} : ∀ (L : xm_L) (i : Nat) (q : Nat × Value), q ∈ xs_as b ak i L ↔ ∃ (k : Nat) (v : xm_V), xm_lget L k = some v ∧ q = (i + k, xs_cv b ak v)
  | [], i, q => by simp [xs_as, xm_lget]
  | none :: L, i, q => by
    rw [xs_as, xs_as_mem L (i + 1) q]
    constructor
    · rintro ⟨k, v, h1, h2⟩
      exact ⟨k + 1, v, h1, by rw [h2]; congr 1; omega⟩
    · rintro ⟨k, v, h1, h2⟩
      cases k with
      | zero => simp [xm_lget] at h1
      | succ k => exact ⟨k, v, h1, by rw [h2]; congr 1; omega⟩
  | some w :: L, i, q => by
    rw [xs_as, List.mem_cons, xs_as_mem L (i + 1) q]
    constructor
    · rintro (h | ⟨k, v, h1, h2⟩)
      · exact ⟨0, w, rfl, by rw [h]; rfl⟩
      · exact ⟨k + 1, v, h1, by rw [h2]; congr 1; omega⟩
    · rintro ⟨k, v, h1, h2⟩
      cases k with
      | zero =>
        have : w = v := by simpa [xm_lget] using h1
        exact Or.inl (by rw [h2, this]; rfl)
      | succ k => exact Or.inr ⟨k, v, h1, by rw [h2]; congr 1; omega⟩
theorem xs_at {b : Nat} {ak : Nat → Nat} {ls : Array Slot} {nL i : Nat} {L : xm_L} {v : xm_V} (h : lv_has ls nL (xs_as b ak 0 L)) (hv : xm_lget L i = some v) : ls[i]? = some (.val (xs_cv b ak v)) :=
  h.2.2 (i, xs_cv b ak v) ((xs_as_mem L 0 _).mpr ⟨i, v, hv, by rw [Nat.zero_add]⟩)
theorem xs_lget_set : ∀ (L : xm_L) (i j : Nat) (v : Option xm_V) (w : xm_V), xm_lget (xm_lset L i v) j = some w → (j = i ∧ v = some w) ∨ (j ≠ i ∧ xm_lget L j = some w)
  | [], _, _, _, _, h => by simp [xm_lset, xm_lget] at h
  | x :: L, 0, 0, v, w, h => by simp [xm_lset, xm_lget] at h; exact Or.inl ⟨rfl, h⟩
  | x :: L, 0, j + 1, v, w, h => Or.inr ⟨by omega, h⟩
  | x :: L, i + 1, 0, v, w, h => Or.inr ⟨by omega, h⟩
  | x :: L, i + 1, j + 1, v, w, h => by
    rcases xs_lget_set L i j v w h with ⟨q1, q2⟩ | ⟨q1, q2⟩
    · exact Or.inl ⟨by omega, q2⟩
    · exact Or.inr ⟨by omega, q2⟩
theorem xs_lget_clr {b : Nat} {ak : Nat → Nat} {L : xm_L} {i j : Nat} {w : xm_V} (h : xm_lget (xm_lclr L i) j = some w) : xm_lget L j = some w ∧ ¬ (j + 1 = i ∧ (xs_cv b ak w).category = 2) := by
  cases i with
  | zero => exact ⟨h, by omega⟩
  | succ k =>
    unfold xm_lclr at h
    dsimp only at h
    split at h
    · rename_i x hx
      rcases xs_lget_set L k j none w h with ⟨q1, q2⟩ | ⟨q1, q2⟩
      · cases q2
      · exact ⟨q2, by omega⟩
    · rename_i hx
      refine ⟨h, fun ⟨q1, q2⟩ => ?_⟩
      have : j = k := by omega
      subst this
      rcases w with x | x | x
      · cases q2
      · exact hx x h
      · simp only [xs_cv, xs_cvr] at q2
        split at q2
        · cases q2
        · split at q2 <;> cases q2
theorem xs_st1 {b : Nat} {ak : Nat → Nat} {ls : Array Slot} {nL i : Nat} {L : xm_L} {v : xm_V} (h : lv_has ls nL ((i, xs_cv b ak v) :: (xs_as b ak 0 L).filter (fun q => !(q.1 == i) && !(q.1 + 1 == i && q.2.category == 2)))) : lv_has ls nL (xs_as b ak 0 (xm_st1 L i v)) := by
  refine ⟨h.1, h.2.1, fun q hq => h.2.2 q ?_⟩
  obtain ⟨k, w, h1, h2⟩ := (xs_as_mem _ 0 q).mp hq
  rw [Nat.zero_add] at h2
  subst h2
  rcases xs_lget_set _ _ _ _ _ h1 with ⟨q1, q2⟩ | ⟨q1, q2⟩
  · cases q2
    subst q1
    exact List.mem_cons_self
  · obtain ⟨q3, q4⟩ := xs_lget_clr (b := b) (ak := ak) q2
    refine List.mem_cons_of_mem _ (List.mem_filter.mpr ⟨(xs_as_mem _ 0 _).mpr ⟨k, w, q3, by rw [Nat.zero_add]⟩, ?_⟩)
    simp only [Bool.and_eq_true, Bool.not_eq_true', beq_eq_false_iff_ne, ne_eq, Bool.and_eq_false_iff]
    refine ⟨q1, ?_⟩
    by_cases z : k + 1 = i
    · exact Or.inr (fun z2 => q4 ⟨z, z2⟩)
    · exact Or.inl z
theorem xs_st2 {b : Nat} {ak : Nat → Nat} {ls : Array Slot} {nL i : Nat} {L : xm_L} {v : xm_V} (h : lv_has ls nL ((i, xs_cv b ak v) :: (xs_as b ak 0 L).filter (fun q => !(q.1 == i) && (!(q.1 == i + 1) && !(q.1 + 1 == i && q.2.category == 2))))) : lv_has ls nL (xs_as b ak 0 (xm_st2 L i v)) := by
  refine ⟨h.1, h.2.1, fun q hq => h.2.2 q ?_⟩
  obtain ⟨k, w, h1, h2⟩ := (xs_as_mem _ 0 q).mp hq
  rw [Nat.zero_add] at h2
  subst h2
  rcases xs_lget_set _ _ _ _ _ h1 with ⟨q1, q2⟩ | ⟨q1, q2⟩
  · cases q2
  · rcases xs_lget_set _ _ _ _ _ q2 with ⟨r1, r2⟩ | ⟨r1, r2⟩
    · cases r2
      subst r1
      exact List.mem_cons_self
    · obtain ⟨q3, q4⟩ := xs_lget_clr (b := b) (ak := ak) r2
      refine List.mem_cons_of_mem _ (List.mem_filter.mpr ⟨(xs_as_mem _ 0 _).mpr ⟨k, w, q3, by rw [Nat.zero_add]⟩, ?_⟩)
      simp only [Bool.and_eq_true, Bool.not_eq_true', beq_eq_false_iff_ne, ne_eq, Bool.and_eq_false_iff]
      refine ⟨r1, q1, ?_⟩
      by_cases z : k + 1 = i
      · exact Or.inr (fun z2 => q4 ⟨z, z2⟩)
      · exact Or.inl z
