/-! the tables hold of the program: each entry is what decode says, each link is a word of the tables -/
def xm_mlk (cn x a : Nat) : Bool := xm_ml.any (fun q => Nat.beq q.1 cn && (Nat.beq q.2.1 x && Nat.beq q.2.2.1 a)) 
def xm_mnk (cn x a : Nat) : Bool := xm_mn.any (fun q => Nat.beq q.1 cn && (Nat.beq q.2.1 x && Nat.beq q.2.2.1 a)) 
def xm_flk (cn x a b : Nat) : Bool := xm_fl.any (fun q => Nat.beq q.1 cn && (Nat.beq q.2.1 x && (Nat.beq q.2.2.1 a && Nat.beq q.2.2.2.1 b)))
/-- what an entry's numbers are beside its instruction -/
def xm_opB (cn mL : Nat) (ini : Bool) (rt : Option FieldType) (e : xm_Ent) : Bool := match e with
  | (pc, i, np, a, b, z, T) => match i with
    | .iload_n k | .lload_n k | .aload_n k => Nat.beq k.val a && Nat.beq np (pc + 1)
    | .istore_n k | .astore_n k => Nat.beq k.val a && (Nat.ble (a + 1) mL && Nat.beq np (pc + 1))
    | .lstore_n k => Nat.beq k.val a && (Nat.ble (a + 2) mL && Nat.beq np (pc + 1))
    | .iload k | .lload k | .aload k => Nat.beq k a && Nat.beq np (pc + 2)
    | .istore k | .astore k => Nat.beq k a && (Nat.ble (a + 1) mL && Nat.beq np (pc + 2))
    | .lstore k => Nat.beq k a && (Nat.ble (a + 2) mL && Nat.beq np (pc + 2))
    | .iinc k w => Nat.beq k a && (decide (w = z) && (Nat.ble (a + 1) mL && Nat.beq np (pc + 3)))
    | .iconst k => decide (k = z) && Nat.beq np (pc + 1)
    | .bipush k => decide ((Int8.ofInt k).toInt32 = Int32.ofInt z) && Nat.beq np (pc + 2)
    | .sipush k => decide ((Int16.ofInt k).toInt32 = Int32.ofInt z) && Nat.beq np (pc + 3)
    | .lconst k => decide (z = ((k : Nat) : Int)) && Nat.beq np (pc + 1)
    | .ldc2_w k => xm_cl.any (fun q => Nat.beq q.1 cn && (Nat.beq q.2.1 k && decide (q.2.2.1 = z))) && Nat.beq np (pc + 3)
    | .ldc k => (match b with
      | 0 => xm_ci.any (fun q => Nat.beq q.1 cn && (Nat.beq q.2.1 k && decide (q.2.2.1 = z)))
      | _ => xm_st.any (fun q => Nat.beq q.1 cn && (Nat.beq q.2.1 k && Nat.beq q.2.2 a)) && Nat.ble (a + 1) 6) && Nat.beq np (pc + 2)
    | .ifCond _ o | .if_icmp _ o => decide ((pc : Int) + o = (a : Int)) && Nat.beq np (pc + 3)
    | .goto o => decide ((pc : Int) + o = (a : Int))
    | .getfield k => xm_flk cn k a b && Nat.beq np (pc + 3)
    | .putfield k => xm_flk cn k a b && (Nat.beq np (pc + 3) && (!((xm_F a b).2.2.2) || (ini && Nat.beq a cn)))
    | .invokevirtual k => (Nat.beq a 901 || Nat.beq a 902 || Nat.ble (a + 1) 280 && (!(xm_m a).2.2.2.2.2.1 && (Nat.beq (xm_m a).2.2.2.2.2.2.1 b && decide ((xm_m a).1.name ≠ "<init>")))) && (xm_mlk cn k a && (Nat.ble 1 b && Nat.beq np (pc + 3)))
    | .invokespecial k => (Nat.beq a 903 || Nat.ble (a + 1) 280 && (!(xm_m a).2.2.2.2.2.1 && (Nat.beq (xm_m a).2.2.2.2.2.2.1 b && decide ((xm_m a).1.name = "<init>")))) && (xm_mlk cn k a && (Nat.ble 1 b && Nat.beq np (pc + 3)))
    | .invokestatic k => (Nat.beq a 900 || Nat.beq a 904 || Nat.beq a 905 || Nat.beq a 906 || Nat.ble (a + 1) 280 && ((xm_m a).2.2.2.2.2.1 && Nat.beq (xm_m a).2.2.2.2.2.2.1 b)) && ((xm_mlk cn k a || (xm_mnk cn k a && Nat.ble (a + 1) 280)) && Nat.beq np (pc + 3))
    | .new k => xm_nw.any (fun q => Nat.beq q.1 cn && (Nat.beq q.2.1 k && Nat.beq q.2.2.1 a)) && (Nat.ble (a + 1) 12 && Nat.beq np (pc + 3))
    | .newarray t => (match t with
      | .int => Nat.beq a 100
      | .long => Nat.beq a 101
      | .char => Nat.beq a 102
      | .boolean => Nat.beq a 103
      | _ => false) && Nat.beq np (pc + 2)
    | .tableswitch d lo hi os => decide ((pc : Int) + d = (a : Int)) && (decide (T.map (fun q => q.1) = (List.range os.size).map (fun (j : Nat) => lo + (j : Int))) && (decide (T.map (fun q => (q.2 : Int)) = os.toList.map (fun o => (pc : Int) + o)) && (decide (lo + (os.size : Int) = hi + 1))))
    | .lookupswitch d ps => decide ((pc : Int) + d = (a : Int)) && (decide (T.map (fun q => (q.1, (q.2 : Int))) = ps.toList.map (fun q => (q.1, (pc : Int) + q.2))) && ((ps.toList.zip (ps.toList.drop 1)).all (fun (a, next) => a.1 < next.1)))
    | .ireturn => match b with
      | 0 => decide (rt = some .int)
      | _ => decide (rt = some .boolean)
    | .lreturn => decide (rt = some .long)
    | .areturn => decide (rt = some (.object (xm_cn 5)))
    | .return_ => decide (rt = none)
    | _ => Nat.beq np (pc + 1)
def xm_entB (q : xm_MT) (e : xm_Ent) : Bool := decide (decode q.2.1 e.1 = .ok (e.2.1, e.2.2.1 - e.1)) && (Nat.ble e.1 e.2.2.1 && xm_opB q.2.2.2.2.1 q.2.2.1 (decide (q.1.name = "<init>")) q.2.2.2.1 e)
/-- what is said of a method beside its code -/
def xm_mB (q : xm_MT) : Bool := decide (q.1.cls = xm_cn q.2.2.2.2.1) && (plainName q.1.cls && (Nat.ble q.2.2.1 18 && (decide ((parseMethodDescriptor q.1.desc).map (fun d => d.parameters.length + (if q.2.2.2.2.2.1 then 0 else 1)) = some q.2.2.2.2.2.2.1) && (Nat.ble 1 q.2.2.2.2.2.2.1 || q.2.2.2.2.2.1) && (!(q.2.2.2.2.2.1 && decide (q.1.name = "<init>"))))))
def xm_ok (i : Nat) : Bool := xm_mB (xm_m i) && (xm_c i).all (xm_entB (xm_m i))
theorem xm_ok_0 : ((List.range 10).all fun j => xm_ok (0 + j)) = true := by decide +kernel
theorem xm_ok_1 : ((List.range 10).all fun j => xm_ok (10 + j)) = true := by decide +kernel
theorem xm_ok_2 : ((List.range 10).all fun j => xm_ok (20 + j)) = true := by decide +kernel
theorem xm_ok_3 : ((List.range 10).all fun j => xm_ok (30 + j)) = true := by decide +kernel
theorem xm_ok_4 : ((List.range 10).all fun j => xm_ok (40 + j)) = true := by decide +kernel
theorem xm_ok_5 : ((List.range 10).all fun j => xm_ok (50 + j)) = true := by decide +kernel
theorem xm_ok_6 : ((List.range 10).all fun j => xm_ok (60 + j)) = true := by decide +kernel
theorem xm_ok_7 : ((List.range 10).all fun j => xm_ok (70 + j)) = true := by decide +kernel
theorem xm_ok_8 : ((List.range 10).all fun j => xm_ok (80 + j)) = true := by decide +kernel
theorem xm_ok_9 : ((List.range 10).all fun j => xm_ok (90 + j)) = true := by decide +kernel
theorem xm_ok_10 : ((List.range 10).all fun j => xm_ok (100 + j)) = true := by decide +kernel
theorem xm_ok_11 : ((List.range 10).all fun j => xm_ok (110 + j)) = true := by decide +kernel
theorem xm_ok_12 : ((List.range 10).all fun j => xm_ok (120 + j)) = true := by decide +kernel
theorem xm_ok_13 : ((List.range 10).all fun j => xm_ok (130 + j)) = true := by decide +kernel
theorem xm_ok_14 : ((List.range 10).all fun j => xm_ok (140 + j)) = true := by decide +kernel
theorem xm_ok_15 : ((List.range 10).all fun j => xm_ok (150 + j)) = true := by decide +kernel
theorem xm_ok_16 : ((List.range 10).all fun j => xm_ok (160 + j)) = true := by decide +kernel
theorem xm_ok_17 : ((List.range 10).all fun j => xm_ok (170 + j)) = true := by decide +kernel
theorem xm_ok_18 : ((List.range 10).all fun j => xm_ok (180 + j)) = true := by decide +kernel
theorem xm_ok_19 : ((List.range 10).all fun j => xm_ok (190 + j)) = true := by decide +kernel
theorem xm_ok_20 : ((List.range 10).all fun j => xm_ok (200 + j)) = true := by decide +kernel
theorem xm_ok_21 : ((List.range 10).all fun j => xm_ok (210 + j)) = true := by decide +kernel
theorem xm_ok_22 : ((List.range 10).all fun j => xm_ok (220 + j)) = true := by decide +kernel
theorem xm_ok_23 : ((List.range 10).all fun j => xm_ok (230 + j)) = true := by decide +kernel
theorem xm_ok_24 : ((List.range 10).all fun j => xm_ok (240 + j)) = true := by decide +kernel
theorem xm_ok_25 : ((List.range 10).all fun j => xm_ok (250 + j)) = true := by decide +kernel
theorem xm_ok_26 : ((List.range 10).all fun j => xm_ok (260 + j)) = true := by decide +kernel
theorem xm_ok_27 : ((List.range 10).all fun j => xm_ok (270 + j)) = true := by decide +kernel
