/-! THE PURE MACHINE: bytecode over integers. A value is an int, a long (both by any integer that they are the wrap of) or a cell's number (0: null, 1000 + i: the text constant i); memory: cell, place. What the machine may do only within bounds stands as a condition in the formula. -/
abbrev xm_V : Type := Int ⊕ (Int ⊕ Nat)
abbrev xm_Mem : Type := Nat → Int → Int
abbrev xm_L : Type := List (Option xm_V)
def xm_up (M : xm_Mem) (c : Nat) (k v : Int) : xm_Mem := fun c' k' => if c' = c then (if k' = k then v else M c' k') else M c' k'
/-- a cell made new -/
def xm_z (M : xm_Mem) (c : Nat) : xm_Mem := fun c' k' => if c' = c then 0 else M c' k'
/-- n places of the cell c, from dp on, out of the cell c0 from sp on -/
def xm_cp (M : xm_Mem) (c0 : Nat) (sp : Int) (c : Nat) (dp n : Int) : xm_Mem := fun c' k' => if c' = c then (if dp ≤ k' ∧ k' < dp + n then M c0 (sp + (k' - dp)) else M c' k') else M c' k'
abbrev xm_in (x : Int) : Prop := -2147483648 ≤ x ∧ x < 2147483648
abbrev xm_inL (x : Int) : Prop := -9223372036854775808 ≤ x ∧ x < 9223372036854775808
def xm_lget : xm_L → Nat → Option xm_V
  | [], _ => none
  | x :: _, 0 => x
  | _ :: L, n + 1 => xm_lget L n
def xm_lset : xm_L → Nat → Option xm_V → xm_L
  | [], _, _ => []
  | _ :: L, 0, v => v :: L
  | x :: L, n + 1, v => x :: xm_lset L n v
/-- a long whose second half is at i is gone -/
def xm_lclr (L : xm_L) : Nat → xm_L
  | 0 => L
  | j + 1 => match xm_lget L j with
    | some (.inr (.inl _)) => xm_lset L j none
    | _ => L
def xm_st1 (L : xm_L) (i : Nat) (v : xm_V) : xm_L := xm_lset (xm_lclr L i) i (some v)
def xm_st2 (L : xm_L) (i : Nat) (v : xm_V) : xm_L := xm_lset (xm_lset (xm_lclr L i) i (some v)) (i + 1) none
/-- the same, handed on: what comes next is given a list that is written out -/
def xm_lsetk : xm_L → Nat → Option xm_V → (xm_L → Prop) → Prop
  | [], _, _, k => k []
  | _ :: L, 0, v, k => k (v :: L)
  | x :: L, n + 1, v, k => xm_lsetk L n v (fun L' => k (x :: L'))
def xm_lclrk (L : xm_L) (i : Nat) (k : xm_L → Prop) : Prop := match i with
  | 0 => k L
  | j + 1 => match xm_lget L j with
    | some (.inr (.inl _)) => xm_lsetk L j none k
    | _ => k L
def xm_st1k (L : xm_L) (i : Nat) (v : xm_V) (k : xm_L → Prop) : Prop := xm_lclrk L i (fun L' => xm_lsetk L' i (some v) k)
def xm_st2k (L : xm_L) (i : Nat) (v : xm_V) (k : xm_L → Prop) : Prop := xm_lclrk L i (fun L' => xm_lsetk L' i (some v) (fun L2 => xm_lsetk L2 (i + 1) none k))
theorem xm_lsetk_eq : ∀ (L : xm_L) (n : Nat) (v : Option xm_V) (k : xm_L → Prop), xm_lsetk L n v k = k (xm_lset L n v)
  | [], _, _, _ => rfl
  | _ :: _, 0, _, _ => rfl
  | x :: L, n + 1, v, k => xm_lsetk_eq L n v (fun L' => k (x :: L'))
theorem xm_lclrk_eq (L : xm_L) (i : Nat) (k : xm_L → Prop) : xm_lclrk L i k = k (xm_lclr L i) := by
  cases i with
  | zero => rfl
  | succ j =>
    unfold xm_lclrk xm_lclr
    dsimp only
    split
    · rw [xm_lsetk_eq]
    · rfl
theorem xm_st1k_eq (L : xm_L) (i : Nat) (v : xm_V) (k : xm_L → Prop) : xm_st1k L i v k = k (xm_st1 L i v) := by
  unfold xm_st1k xm_st1
  rw [xm_lclrk_eq, xm_lsetk_eq]
theorem xm_st2k_eq (L : xm_L) (i : Nat) (v : xm_V) (k : xm_L → Prop) : xm_st2k L i v k = k (xm_st2 L i v) := by
  unfold xm_st2k xm_st2
  rw [xm_lclrk_eq, xm_lsetk_eq, xm_lsetk_eq]
def xm_cat : xm_V → Nat
  | .inr (.inl _) => 2
  | _ => 1
def xm_cats : List xm_V → Nat
  | [] => 0
  | v :: S => xm_cat v + xm_cats S
def xm_br (c : ClassFile.Cond) (x y : Int) (A B : Prop) : Prop := match c with
  | .eq => (x = y → A) ∧ (x ≠ y → B)
  | .ne => (x ≠ y → A) ∧ (x = y → B)
  | .lt => (x < y → A) ∧ (y ≤ x → B)
  | .ge => (y ≤ x → A) ∧ (x < y → B)
  | .gt => (y < x → A) ∧ (x ≤ y → B)
  | .le => (x ≤ y → A) ∧ (y < x → B)
def xm_sw (x : Int) (X : Nat → Prop) : List (Int × Nat) → Prop
  | [] => True
  | (v, t) :: T => (x = v → X t) ∧ xm_sw x X T
def xm_sn (x : Int) : List (Int × Nat) → Prop
  | [] => True
  | (v, _) :: T => x ≠ v ∧ xm_sn x T
/-- what lcmp answers -/
def xm_lc (a b : Int) : Int := if a < b then -1 else if a = b then 0 else 1
def xm_and (a b : Int) : Int := (Int32.ofInt a &&& Int32.ofInt b).toInt
def xm_or (a b : Int) : Int := (Int32.ofInt a ||| Int32.ofInt b).toInt
def xm_rev : List xm_V → Nat → List xm_V → List xm_V
  | _, 0, as => as
  | v :: S, n + 1, as => xm_rev S n (v :: as)
  | [], _ + 1, as => as
def xm_drop : List xm_V → Nat → List xm_V
  | S, 0 => S
  | _ :: S, n + 1 => xm_drop S n
  | [], _ + 1 => []
def xm_popk : List xm_V → Nat → List xm_V → (List xm_V → List xm_V → Prop) → Prop
  | S, 0, as, k => k as S
  | v :: S, n + 1, as, k => xm_popk S n (v :: as) k
  | [], _ + 1, as, k => k as []
theorem xm_popk_eq : ∀ (S : List xm_V) (n : Nat) (as : List xm_V) (k : List xm_V → List xm_V → Prop), xm_popk S n as k = k (xm_rev S n as) (xm_drop S n)
  | [], 0, _, _ => rfl
  | _ :: _, 0, _, _ => rfl
  | v :: S, n + 1, as, k => xm_popk_eq S n (v :: as) k
  | [], _ + 1, _, _ => rfl
def xm_len : List xm_V → Nat
  | [] => 0
  | _ :: S => xm_len S + 1
def xm_szl : List Int := [0, 12, 2, 200, 5, 201, 201, 201, 3, 6, 5, 8, 2000, 5, 8, 2000, 5, 9, 40, 40, 5, 5, 5, 12, 20, 20, 20, 4, 2003, 7, 2000, 2000, 1000, 1000, 2, 4, 8, 4, 8, 5, 25, 5, 5, 5, 16, 2, 4, 8, 2, 64, 59, 2000, 5, 200, 5, 2000, 5, 2400, 6, 2000, 2000, 2000, 40, 40, 5, 5, 5, 24, 24, 24, 4, 12, 4, 1001, 1001, 5, 25, 5, 5, 5, 5, 1001, 1001, 1001]
/-- an array's length -/
def xm_szi (r : Nat) : Int := xm_szl.getD r 0
/-- what kind a cell is; none while it isn't made -/
def xm_kd (lim : Option Int) (M : xm_Mem) (r : Nat) : Nat := match lim with
  | none => (xm_sh r).1
  | some _ => if (r : Int) ≤ M 0 0 then (xm_sh r).1 else 999
/-- the object that a method is called on is of its class -/
def xm_recv (lim : Option Int) (M : xm_Mem) (a : Nat) (as : List xm_V) : Bool := match as with
  | .inr (.inr r) :: _ => Nat.beq (xm_kd lim M r) (xm_m a).2.2.2.2.1
  | _ => false
abbrev xm_K : Type := List xm_V → xm_Mem → Prop
abbrev xm_C : Type := Nat → List xm_V → xm_Mem → xm_K → Prop
abbrev xm_X : Type := Nat → xm_L → List xm_V → xm_Mem → Prop
/-- what a call answers, by its kind -/
def xm_kv (F : Prop) : List xm_V → Prop
  | [] => F
  | _ => False
def xm_ki (F : Int → Prop) : List xm_V → Prop
  | [.inl x] => F x
  | _ => False
def xm_kl (F : Int → Prop) : List xm_V → Prop
  | [.inr (.inl x)] => F x
  | _ => False
def xm_kq (F : Prop) : List xm_V → Prop
  | [.inr (.inr x)] => x = 45 ∧ F
  | _ => False
def xm_kr (z : Int) (rest : List xm_V) (X : List xm_V → Prop) (v : List xm_V) : Prop := match z with
  | 0 => xm_kv (X rest) v
  | 1 => xm_ki (fun x => X (.inl x :: rest)) v
  | 2 => xm_kl (fun x => X (.inr (.inl x) :: rest)) v
  | _ => xm_kq (X (.inr (.inr 45) :: rest)) v
theorem xm_kr_to {z : Int} {rest : List xm_V} {X : List xm_V → Prop} {v : List xm_V} (h : xm_kr z rest X v) : X (v ++ rest) := by
  unfold xm_kr at h
  split at h
  · unfold xm_kv at h
    split at h
    · exact h
    · exact h.elim
  · unfold xm_ki at h
    split at h
    · exact h
    · exact h.elim
  · unfold xm_kl at h
    split at h
    · exact h
    · exact h.elim
  · unfold xm_kq at h
    split at h
    · rw [h.1]; exact h.2
    · exact h.elim
/-- one instruction; lim: in the constructors the cells that may be made in all; none: all cells are made -/
def xm_step (cs : xm_C) (lim : Option Int) (Q : xm_K) (X : xm_X) (e : xm_Ent) (L : xm_L) (S : List xm_V) (M : xm_Mem) : Prop :=
  match e with
  | (_, i, np, a, b, z, T) =>
  match i with
  | .iload_n _ | .iload _ => match xm_lget L a with
    | some (.inl x) => X np L (.inl x :: S) M
    | _ => False
  | .lload_n _ | .lload _ => match xm_lget L a with
    | some (.inr (.inl x)) => X np L (.inr (.inl x) :: S) M
    | _ => False
  | .aload_n _ | .aload _ => match xm_lget L a with
    | some (.inr (.inr x)) => X np L (.inr (.inr x) :: S) M
    | _ => False
  | .istore_n _ | .istore _ => match S with
    | .inl x :: S => xm_st1k L a (.inl x) (fun L => X np L S M)
    | _ => False
  | .lstore_n _ | .lstore _ => match S with
    | .inr (.inl x) :: S => xm_st2k L a (.inr (.inl x)) (fun L => X np L S M)
    | _ => False
  | .astore_n _ | .astore _ => match S with
    | .inr (.inr x) :: S => xm_st1k L a (.inr (.inr x)) (fun L => X np L S M)
    | _ => False
  | .iinc _ _ => match xm_lget L a with
    | some (.inl x) => xm_st1k L a (.inl (x + z)) (fun L => X np L S M)
    | _ => False
  | .iconst _ | .bipush _ | .sipush _ => X np L (.inl z :: S) M
  | .lconst _ | .ldc2_w _ => X np L (.inr (.inl z) :: S) M
  | .ldc _ => match b with
    | 0 => X np L (.inl z :: S) M
    | _ => X np L (.inr (.inr (1000 + a)) :: S) M
  | .dup => match S with
    | .inl x :: S => X np L (.inl x :: .inl x :: S) M
    | .inr (.inr x) :: S => X np L (.inr (.inr x) :: .inr (.inr x) :: S) M
    | _ => False
  | .dup2 => match S with
    | .inl y :: .inl x :: S => X np L (.inl y :: .inl x :: .inl y :: .inl x :: S) M
    | .inl y :: .inr (.inr x) :: S => X np L (.inl y :: .inr (.inr x) :: .inl y :: .inr (.inr x) :: S) M
    | _ => False
  | .pop => match S with
    | .inl _ :: S => X np L S M
    | _ => False
  | .iadd => match S with
    | .inl y :: .inl x :: S => X np L (.inl (x + y) :: S) M
    | _ => False
  | .isub => match S with
    | .inl y :: .inl x :: S => X np L (.inl (x - y) :: S) M
    | _ => False
  | .imul => match S with
    | .inl y :: .inl x :: S => X np L (.inl (x * y) :: S) M
    | _ => False
  | .idiv => match S with
    | .inl y :: .inl x :: S => (xm_in x ∧ xm_in y ∧ y ≠ 0) ∧ X np L (.inl (Int.tdiv x y) :: S) M
    | _ => False
  | .irem => match S with
    | .inl y :: .inl x :: S => (xm_in x ∧ xm_in y ∧ y ≠ 0) ∧ X np L (.inl (Int.tmod x y) :: S) M
    | _ => False
  | .iand => match S with
    | .inl y :: .inl x :: S => X np L (.inl (xm_and x y) :: S) M
    | _ => False
  | .ior => match S with
    | .inl y :: .inl x :: S => X np L (.inl (xm_or x y) :: S) M
    | _ => False
  | .ishl => match S with
    | .inl y :: .inl x :: S => (0 ≤ y ∧ y < 32) ∧ X np L (.inl (x * 2 ^ y.toNat) :: S) M
    | _ => False
  | .ishr => match S with
    | .inl y :: .inl x :: S => (0 ≤ y ∧ y < 32) ∧ X np L (.inl (((x + 2147483648) % 4294967296 - 2147483648) / 2 ^ y.toNat) :: S) M
    | _ => False
  | .iushr => match S with
    | .inl y :: .inl x :: S => (0 ≤ y ∧ y < 32) ∧ X np L (.inl (x % 4294967296 / 2 ^ y.toNat) :: S) M
    | _ => False
  | .i2l => match S with
    | .inl x :: S => xm_in x ∧ X np L (.inr (.inl x) :: S) M
    | _ => False
  | .i2c => match S with
    | .inl x :: S => X np L (.inl (x % 65536) :: S) M
    | _ => False
  | .ladd => match S with
    | .inr (.inl y) :: .inr (.inl x) :: S => X np L (.inr (.inl (x + y)) :: S) M
    | _ => False
  | .lsub => match S with
    | .inr (.inl y) :: .inr (.inl x) :: S => X np L (.inr (.inl (x - y)) :: S) M
    | _ => False
  | .lmul => match S with
    | .inr (.inl y) :: .inr (.inl x) :: S => X np L (.inr (.inl (x * y)) :: S) M
    | _ => False
  | .lneg => match S with
    | .inr (.inl x) :: S => X np L (.inr (.inl (-x)) :: S) M
    | _ => False
  | .ldiv => match S with
    | .inr (.inl y) :: .inr (.inl x) :: S => (xm_inL x ∧ xm_inL y ∧ y ≠ 0) ∧ X np L (.inr (.inl (Int.tdiv x y)) :: S) M
    | _ => False
  | .lrem => match S with
    | .inr (.inl y) :: .inr (.inl x) :: S => (xm_inL x ∧ xm_inL y ∧ y ≠ 0) ∧ X np L (.inr (.inl (Int.tmod x y)) :: S) M
    | _ => False
  | .lcmp => match S with
    | .inr (.inl y) :: .inr (.inl x) :: S => (xm_inL x ∧ xm_inL y) ∧ X np L (.inl (xm_lc x y) :: S) M
    | _ => False
  | .ifCond c _ => match S with
    | .inl x :: S => xm_in x ∧ xm_br c x 0 (X a L S M) (X np L S M)
    | _ => False
  | .if_icmp c _ => match S with
    | .inl y :: .inl x :: S => (xm_in x ∧ xm_in y) ∧ xm_br c x y (X a L S M) (X np L S M)
    | _ => False
  | .goto _ => X a L S M
  | .tableswitch _ _ _ _ | .lookupswitch _ _ => match S with
    | .inl x :: S => xm_in x ∧ xm_sw x (fun t => X t L S M) T ∧ (xm_sn x T → X a L S M)
    | _ => False
  | .getfield _ => match S with
    | .inr (.inr r) :: S => match Nat.beq (xm_kd lim M r) a with
      | true => match xm_fc a b with
        | 0 => X np L (.inl (M r b) :: S) M
        | 1 => X np L (.inr (.inl (M r b)) :: S) M
        | 2 => match lim with
          | none => X np L (.inr (.inr (xm_fin r b)) :: S) M
          | some _ => X np L (.inr (.inr (M r b).toNat) :: S) M
        | 3 => match lim with
          | none => (M r b = 11 ∨ M r b = 14) ∧ (M r b = 11 → X np L (.inr (.inr 11) :: S) M) ∧ (M r b = 14 → X np L (.inr (.inr 14) :: S) M)
          | some _ => X np L (.inr (.inr (M r b).toNat) :: S) M
        | 4 => X np L (.inl (M r b) :: S) M
        | _ => False
      | false => False
    | _ => False
  | .putfield _ => match S with
    | .inl x :: .inr (.inr r) :: S => match Nat.beq (xm_kd lim M r) a with
      | true => match xm_fc a b with
        | 0 => X np L S (xm_up M r b x)
        | 4 => (x = 0 ∨ x = 1) ∧ X np L S (xm_up M r b x)
        | _ => False
      | false => False
    | .inr (.inl x) :: .inr (.inr r) :: S => match Nat.beq (xm_kd lim M r) a with
      | true => match xm_fc a b with
        | 1 => X np L S (xm_up M r b x)
        | _ => False
      | false => False
    | .inr (.inr x) :: .inr (.inr r) :: S => match Nat.beq (xm_kd lim M r) a with
      | true => match xm_fc a b with
        | 2 => match lim with
          | none => False
          | some _ => X np L S (xm_up M r b x)
        | 3 => X np L S (xm_up M r b x)
        | _ => False
      | false => False
    | _ => False
  | .arraylength => match S with
    | .inr (.inr r) :: S => match Nat.ble 100 (xm_kd lim M r) && Nat.ble (xm_kd lim M r) 103 with
      | true => X np L (.inl (xm_szi r) :: S) M
      | false => False
    | _ => False
  | .iaload => match S with
    | .inl j :: .inr (.inr r) :: S => match Nat.beq (xm_kd lim M r) 100 with
      | true => (0 ≤ j ∧ j < xm_szi r) ∧ X np L (.inl (M r j) :: S) M
      | false => False
    | _ => False
  | .laload => match S with
    | .inl j :: .inr (.inr r) :: S => match Nat.beq (xm_kd lim M r) 101 with
      | true => (0 ≤ j ∧ j < xm_szi r) ∧ X np L (.inr (.inl (M r j)) :: S) M
      | false => False
    | _ => False
  | .caload => match S with
    | .inl j :: .inr (.inr r) :: S => match Nat.beq (xm_kd lim M r) 102 with
      | true => (0 ≤ j ∧ j < xm_szi r) ∧ X np L (.inl (M r j) :: S) M
      | false => False
    | _ => False
  | .baload => match S with
    | .inl j :: .inr (.inr r) :: S => match Nat.beq (xm_kd lim M r) 103 with
      | true => (0 ≤ j ∧ j < xm_szi r) ∧ X np L (.inl (M r j) :: S) M
      | false => False
    | _ => False
  | .iastore => match S with
    | .inl x :: .inl j :: .inr (.inr r) :: S => match Nat.beq (xm_kd lim M r) 100 with
      | true => (0 ≤ j ∧ j < xm_szi r) ∧ X np L S (xm_up M r j x)
      | false => False
    | _ => False
  | .lastore => match S with
    | .inr (.inl x) :: .inl j :: .inr (.inr r) :: S => match Nat.beq (xm_kd lim M r) 101 with
      | true => (0 ≤ j ∧ j < xm_szi r) ∧ X np L S (xm_up M r j x)
      | false => False
    | _ => False
  | .castore => match S with
    | .inl x :: .inl j :: .inr (.inr r) :: S => match Nat.beq (xm_kd lim M r) 102 with
      | true => ((0 ≤ j ∧ j < xm_szi r) ∧ 0 ≤ x ∧ x < 65536) ∧ X np L S (xm_up M r j x)
      | false => False
    | _ => False
  | .bastore => match S with
    | .inl x :: .inl j :: .inr (.inr r) :: S => match Nat.beq (xm_kd lim M r) 103 with
      | true => ((0 ≤ j ∧ j < xm_szi r) ∧ (x = 0 ∨ x = 1)) ∧ X np L S (xm_up M r j x)
      | false => False
    | _ => False
  | .new _ => match lim with
    | none => False
    | some lm => (M 0 0 + 1 ≤ lm ∧ xm_sh ((M 0 0).toNat + 1) = (a, xm_N a)) ∧ X np L (.inr (.inr ((M 0 0).toNat + 1)) :: S) (xm_up (xm_z M ((M 0 0).toNat + 1)) 0 0 (M 0 0 + 1))
  | .newarray _ => match lim with
    | none => False
    | some lm => match S with
      | .inl n :: S => (M 0 0 + 1 ≤ lm ∧ 0 ≤ n ∧ n < 3000 ∧ xm_sh ((M 0 0).toNat + 1) = (a, n.toNat)) ∧ X np L (.inr (.inr ((M 0 0).toNat + 1)) :: S) (xm_up (xm_z M ((M 0 0).toNat + 1)) 0 0 (M 0 0 + 1))
      | _ => False
  | .invokevirtual _ => match Nat.ble b (xm_len S) && ((Nat.ble (xm_cats (xm_drop S b)) 8 || (Nat.ble (xm_cats (xm_drop S b)) 16 && (Nat.ble (a + 1) 280 && Nat.ble (xm_m a).2.2.1 10))) && (Nat.ble 901 a || xm_recv lim M a (xm_rev S b []))) with
    | true => xm_popk S b [] (fun as rest => cs a as M (fun v M' => xm_kr z rest (fun S => X np L S M') v))
    | false => False
  | .invokestatic _ => match a with
    | 900 => match lim with
      | some _ => False
      | none => match S with
        | .inl n :: .inl dp :: .inr (.inr r) :: .inl sp :: .inr (.inr r0) :: S => match Nat.beq (xm_kd lim M r) 101 && (Nat.beq (xm_kd lim M r0) 101 && Nat.ble (xm_cats S) 8) with
          | true => ((0 ≤ n ∧ n < 3000) ∧ (0 ≤ sp ∧ sp + n ≤ xm_szi r0) ∧ (0 ≤ dp ∧ dp + n ≤ xm_szi r)) ∧ X np L S (xm_cp M r0 sp r dp n)
          | false => False
        | _ => False
    | 904 => match S with
      | .inr (.inl x) :: S => match Nat.ble (xm_cats S) 8 with
        | true => xm_inL x ∧ X np L (.inr (.inl (if 0 < x then x else -x)) :: S) M
        | false => False
      | _ => False
    | 905 => match S with
      | .inl y :: .inl x :: S => match Nat.ble (xm_cats S) 8 with
        | true => (xm_in x ∧ xm_in y) ∧ X np L (.inl (if x < y then y else x) :: S) M
        | false => False
      | _ => False
    | 906 => match S with
      | .inl y :: .inl x :: S => match Nat.ble (xm_cats S) 8 with
        | true => (xm_in x ∧ xm_in y) ∧ X np L (.inl (if y < x then y else x) :: S) M
        | false => False
      | _ => False
    | _ => match Nat.ble b (xm_len S) && Nat.ble (xm_cats (xm_drop S b)) 8 with
      | true => xm_popk S b [] (fun as rest => cs a as M (fun v M' => xm_kr z rest (fun S => X np L S M') v))
      | false => False
  | .invokespecial _ => match Nat.beq a 903 with
    | true => match S with
      | .inr (.inr r) :: S => match Nat.ble 1 r && (Nat.ble r 999 && Nat.ble (xm_cats S) 8) with
        | true => X np L S M
        | false => False
      | _ => False
    | false => match lim with
      | none => False
      | some lm => match Nat.ble b (xm_len S) && (Nat.ble (xm_cats (xm_drop S b)) 8 && xm_recv lim M a (xm_rev S b [])) with
        | true => M 0 0 + ((xm_m a).2.2.2.2.2.2.2 : Nat) ≤ lm ∧ xm_popk S b [] (fun as rest => cs a as M (fun v M' => xm_kr z rest (fun S => X np L S M') v))
        | false => False
  | .ireturn => match S with
    | [.inl x] => match b with
      | 0 => Q [.inl x] M
      | _ => (x = 0 ∨ x = 1) ∧ Q [.inl x] M
    | _ => False
  | .lreturn => match S with
    | [.inr (.inl x)] => Q [.inr (.inl x)] M
    | _ => False
  | .areturn => match S with
    | [.inr (.inr x)] => Q [.inr (.inr x)] M
    | _ => False
  | .return_ => match S with
    | [] => Q [] M
    | _ => False
  | _ => False
def xm_find (pc : Nat) : List xm_Ent → Option xm_Ent
  | [] => none
  | e :: l => match Nat.beq e.1 pc with
    | true => some e
    | false => xm_find pc l
def xm_one (cs : xm_C) (lim : Option Int) (C : List xm_Ent) (Q : xm_K) (X : xm_X) (pc : Nat) (L : xm_L) (S : List xm_V) (M : xm_Mem) : Prop :=
  match xm_find pc C with
  | some e => xm_step cs lim Q X e L S M
  | none => False
/-- from this point the method comes to its end, and Q holds there: the least such -/
def xm_W (cs : xm_C) (lim : Option Int) (C : List xm_Ent) (Q : xm_K) : xm_X := fun pc L S M =>
  ∀ X : xm_X, (∀ (Y : xm_X) (pc : Nat) (L : xm_L) (S : List xm_V) (M : xm_Mem), (∀ pc L S M, Y pc L S M → X pc L S M) → xm_one cs lim C Q Y pc L S M → X pc L S M) → X pc L S M
theorem xm_W.in {cs : xm_C} {lim : Option Int} {C : List xm_Ent} {Q : xm_K} {Y : xm_X} {pc : Nat} {L : xm_L} {S : List xm_V} {M : xm_Mem} (hY : ∀ pc L S M, Y pc L S M → xm_W cs lim C Q pc L S M) (h : xm_one cs lim C Q Y pc L S M) : xm_W cs lim C Q pc L S M :=
  fun X hX => hX Y pc L S M (fun pc L S M q => hY pc L S M q X hX) h
/-- unrolled up to n instructions; it stops at the points cut -/
def xm_un (cs : xm_C) (lim : Option Int) (C : List xm_Ent) (Q : xm_K) (cut : Nat → Bool) : Nat → xm_X
  | 0 => xm_W cs lim C Q
  | n + 1 => xm_one cs lim C Q (fun pc L S M => match cut pc with
    | true => xm_W cs lim C Q pc L S M
    | false => xm_un cs lim C Q cut n pc L S M)
theorem xm_un.to {cs : xm_C} {lim : Option Int} {C : List xm_Ent} {Q : xm_K} {cut : Nat → Bool} : ∀ (n : Nat) {pc : Nat} {L : xm_L} {S : List xm_V} {M : xm_Mem}, xm_un cs lim C Q cut n pc L S M → xm_W cs lim C Q pc L S M
  | 0, _, _, _, _, h => h
  | n + 1, _, _, _, _, h => xm_W.in (fun pc L S M q => by
      cases hc : cut pc with
      | true => rw [hc] at q; exact q
      | false => rw [hc] at q; exact xm_un.to n q) h
def xm_ent : List xm_V → xm_L
  | [] => []
  | .inr (.inl x) :: S => some (.inr (.inl x)) :: none :: xm_ent S
  | v :: S => some v :: xm_ent S
def xm_pad : xm_L → Nat → xm_L
  | L, 0 => L
  | [], n + 1 => none :: xm_pad [] n
  | v :: L, n + 1 => v :: xm_pad L n
/-- the JDK's methods on text constants: length, charAt -/
def xm_ext (d : Nat) (a : Nat) (as : List xm_V) (M : xm_Mem) (Q : xm_K) : Prop := match a with
  | 901 => match as with
    | [.inr (.inr r)] => (3 ≤ d ∧ 1000 ≤ r ∧ r < 1006) ∧ Q [.inl ((xm_sln.getD (r - 1000) 0 : Nat) : Int)] M
    | _ => False
  | 902 => match as with
    | [.inr (.inr r), .inl j] => (5 ≤ d ∧ 1000 ≤ r ∧ r < 1006 ∧ 0 ≤ j ∧ j < ((xm_sln.getD (r - 1000) 0 : Nat) : Int)) ∧ Q [.inl ((xm_sby.getD (r - 1000) []).getD j.toNat 0)] M
    | _ => False
  | _ => False
def xm_llen : xm_L → Nat
  | [] => 0
  | _ :: L => xm_llen L + 1
/-- a call, at most d calls deep; ph: all cells are made -/
def xm_call (ph : Bool) : Nat → xm_C
  | 0 => fun _ _ _ _ => False
  | d + 1 => fun a as M Q => match Nat.ble 900 a with
    | true => xm_ext (d + 1) a as M Q
    | false => match Nat.ble (xm_llen (xm_ent as)) (xm_m a).2.2.1 with
      | true => match ph with
        | true => xm_W (xm_call ph d) none (xm_c a) Q 0 (xm_pad (xm_ent as) (xm_m a).2.2.1) [] M
        | false => M 0 0 + ((xm_m a).2.2.2.2.2.2.2 : Nat) ≤ 83 ∧ xm_W (xm_call ph d) (some (M 0 0 + ((xm_m a).2.2.2.2.2.2.2 : Nat))) (xm_c a) (fun v M' => M' 0 0 = M 0 0 + ((xm_m a).2.2.2.2.2.2.2 : Nat) ∧ Q v M') 0 (xm_pad (xm_ent as) (xm_m a).2.2.1) [] M
      | false => False
theorem xm_szi_ok : ((List.range 84).all fun r => decide (xm_szi r = ((xm_sh r).2 : Nat))) = true := by decide +kernel
