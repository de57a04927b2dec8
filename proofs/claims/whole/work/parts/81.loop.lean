/-! the law's loop, printed by wip/whole/gen81.py -/
theorem lw_and (y : Int32) : ∃ k : Nat, k < 32 ∧ y &&& 31 = Int32.ofNat k := by
  refine ⟨(y &&& 31).toBitVec.toNat, ?_, ?_⟩
  · have h : (y &&& 31).toBitVec = y.toBitVec &&& 31#32 := rfl
    rw [h, BitVec.toNat_and]
    have := @Nat.and_le_right y.toBitVec.toNat (31#32).toNat
    have e : (31#32).toNat = 31 := rfl
    omega
  · apply Int32.toBitVec_inj.mp
    show _ = BitVec.ofNat 32 _
    rw [BitVec.ofNat_toNat, BitVec.setWidth_eq]
theorem lw_sub4 {L : Nat} (h : L ≤ 2048) : (nI L - 4).toInt = (L : Int) - 4 := by
  rw [Int32.toInt_sub, nI_toInt (by omega)]
  have e : (4 : Int32).toInt = 4 := rfl
  rw [e, Int.bmod_def]
  split <;> omega
theorem lw_tsw : decode code 32 = .ok (.tableswitch 1011 0 30 #[140, 163, 176, 189, 222, 245, 268, 301, 324, 347, 380, 413, 446, 469, 502, 536, 550, 583, 606, 640, 674, 697, 740, 753, 787, 831, 865, 899, 932, 965, 988], 140) := by decide +kernel
section LP2
variable {p : Program} {l : Launch} {e : Env} {s : State} {m : MethodId} {below : List Frame} {meth : Method} {c : Code} {b0 L : Nat} {xs : Nat → Int32} {b : Nat} {ak av : Nat → Nat} {cA : Nat → ClassId} {D : va_G}
set_option maxHeartbeats 2000000 in
theorem lw_loop (K : lw_K p s m meth c b0 L xs b ak av cA D) (hL : L ≤ 2048) : ∀ (n i : Nat) (M : xm_Mem) (H : Heap) (locs : List Loc) (ls : Array Slot), L + 4 < 4 * i + n → 4 * i ≤ L + 3 → xs_H b ak cA D true M H → R_all M → va_S (fun q => b < q) s.heap H locs → lv_has ls 4 [(3, .int (nI (4 * i))), (0, .ref b0), (1, .ref (b + 1)), (2, .ref (b + 50))] → W p l e room_1 s m #[Value.ref b0] below meth c H locs 83 31141 (lw_Z below #[Value.ref b0] s) (F0 m 18 ls []) := by
  obtain ⟨hx, hb, hr, hml, hown, hts, hX, hbl, hlocks, hK, hEU, hEH, hsz⟩ := id K
  intro n
  induction n with
  | zero =>
    intro i M H locs ls h1 h2
    omega
  | succ n ih =>
    intro i M H locs ls h1 h2 hH hR hS hl
    refine lv_iload_n (i := 3) (x := nI (4 * i)) hx hb (show decode code 18 = .ok (.iload_n 3, 1) by decide +kernel) rfl (lv_at hl 0 rfl) ?_
    refine lv_aload_n (i := 0) (x := b0) hx hb (show decode code 19 = .ok (.aload_n 0, 1) by decide +kernel) rfl (lv_at hl 1 rfl) ?_
    refine va_slen hx hb hX hbl (fun q => by have : b < b0 := q; omega) hS (show decode code 20 = .ok (.arraylength, 1) by decide +kernel) ?_
    refine lv_iconst (v := 4) hx hb (show decode code 21 = .ok (.iconst 4, 1) by decide +kernel) (by decide) ?_
    refine lv_isub hx hb (show decode code 22 = .ok (.isub, 1) by decide +kernel) ?_
    have e4 := lw_sub4 hL
    have ei := nI_toInt (n := 4 * i) (by omega)
    have eL : Int32.ofNat L = nI L := rfl
    rw [eL]
    refine lv_icmp_gt (tgt := 1049) hx hb (show decode code 23 = .ok (.if_icmp .gt 1026, 3) by decide +kernel) (by decide) (fun _ => ?_) (fun g => ?_)
    · refine lv_iconst (v := 1) hx hb (show decode code 1049 = .ok (.iconst 1, 1) by decide +kernel) (by decide) ?_
      refine va_forget (fun q hq => by have := hS.2.2 q hq; omega) ?_
      exact lw_ret hx hb hr hlocks (show decode code 1050 = .ok (.ireturn, 1) by decide +kernel)
    · have hi : 4 * i + 4 ≤ L := by
        rw [Int32.lt_iff_toInt_lt, e4, ei] at g
        omega
      have go : ∀ (M' : xm_Mem) (H1 : Heap) (locs1 : List Loc), xs_H b ak cA D true M' H1 → R_all M' → va_S (fun q => b < q) s.heap H1 locs1 → W p l e room_1 s m #[Value.ref b0] below meth c H1 locs1 83 31141 (lw_Z below #[Value.ref b0] s) (F0 m 1043 ls []) := fun M' H1 locs1 hH1 hR1 hS1 => by
        refine lv_iinc (v := nI (4 * (i + 1))) (lv' := [(3, .int (nI (4 * (i + 1)))), (0, .ref b0), (1, .ref (b + 1)), (2, .ref (b + 50))]) hx hb (show decode code 1043 = .ok (.iinc 3 4, 3) by decide +kernel) hl (k := 0) rfl (by rw [show Int32.ofInt 4 = nI 4 from rfl, nI_add]; rfl) (by decide) rfl (fun ls hl => ?_)
        refine lv_goto (tgt := 18) hx hb (show decode code 1046 = .ok (.goto (-1028), 3) by decide +kernel) (by decide) ?_
        exact ih (i + 1) M' H1 locs1 ls (by omega) (by omega) hH1 hR1 hS1 hl
      refine lv_aload_n (i := 0) (x := b0) hx hb (show decode code 26 = .ok (.aload_n 0, 1) by decide +kernel) rfl (lv_at hl 1 rfl) ?_
      refine lv_iload_n (i := 3) (x := nI (4 * i)) hx hb (show decode code 27 = .ok (.iload_n 3, 1) by decide +kernel) rfl (lv_at hl 0 rfl) ?_
      refine va_sld hx hb hX hbl (fun q => by have : b < b0 := q; omega) hS (vp_in_nI (by omega) (by omega)) (show decode code 28 = .ok (.iaload, 1) by decide +kernel) ?_
      refine lv_bipush (v := 31) hx hb (show decode code 29 = .ok (.bipush 31, 2) by decide +kernel) (by decide) ?_
      refine lv_iand hx hb (show decode code 31 = .ok (.iand, 1) by decide +kernel) ?_
      obtain ⟨k, hk, ek⟩ := lw_and (xs (nI (4 * i)).toNatClampNeg)
      rw [ek]
      have hk : k = 0 ∨ k = 1 ∨ k = 2 ∨ k = 3 ∨ k = 4 ∨ k = 5 ∨ k = 6 ∨ k = 7 ∨ k = 8 ∨ k = 9 ∨ k = 10 ∨ k = 11 ∨ k = 12 ∨ k = 13 ∨ k = 14 ∨ k = 15 ∨ k = 16 ∨ k = 17 ∨ k = 18 ∨ k = 19 ∨ k = 20 ∨ k = 21 ∨ k = 22 ∨ k = 23 ∨ k = 24 ∨ k = 25 ∨ k = 26 ∨ k = 27 ∨ k = 28 ∨ k = 29 ∨ k = 30 ∨ k = 31 := by omega
      rcases hk with rfl | rfl | rfl | rfl | rfl | rfl | rfl | rfl | rfl | rfl | rfl | rfl | rfl | rfl | rfl | rfl | rfl | rfl | rfl | rfl | rfl | rfl | rfl | rfl | rfl | rfl | rfl | rfl | rfl | rfl | rfl | rfl
      · exact lv_tableIn (off := 140) (tgt := 172) hx hb lw_tsw (by decide) (by decide) (by decide) (by decide) (lw_case_0 K hL hi hH hR hS hl go)
      · exact lv_tableIn (off := 163) (tgt := 195) hx hb lw_tsw (by decide) (by decide) (by decide) (by decide) (lw_case_1 K hL hi hH hR hS hl go)
      · exact lv_tableIn (off := 176) (tgt := 208) hx hb lw_tsw (by decide) (by decide) (by decide) (by decide) (lw_case_2 K hL hi hH hR hS hl go)
      · exact lv_tableIn (off := 189) (tgt := 221) hx hb lw_tsw (by decide) (by decide) (by decide) (by decide) (lw_case_3 K hL hi hH hR hS hl go)
      · exact lv_tableIn (off := 222) (tgt := 254) hx hb lw_tsw (by decide) (by decide) (by decide) (by decide) (lw_case_4 K hL hi hH hR hS hl go)
      · exact lv_tableIn (off := 245) (tgt := 277) hx hb lw_tsw (by decide) (by decide) (by decide) (by decide) (lw_case_5 K hL hi hH hR hS hl go)
      · exact lv_tableIn (off := 268) (tgt := 300) hx hb lw_tsw (by decide) (by decide) (by decide) (by decide) (lw_case_6 K hL hi hH hR hS hl go)
      · exact lv_tableIn (off := 301) (tgt := 333) hx hb lw_tsw (by decide) (by decide) (by decide) (by decide) (lw_case_7 K hL hi hH hR hS hl go)
      · exact lv_tableIn (off := 324) (tgt := 356) hx hb lw_tsw (by decide) (by decide) (by decide) (by decide) (lw_case_8 K hL hi hH hR hS hl go)
      · exact lv_tableIn (off := 347) (tgt := 379) hx hb lw_tsw (by decide) (by decide) (by decide) (by decide) (lw_case_9 K hL hi hH hR hS hl go)
      · exact lv_tableIn (off := 380) (tgt := 412) hx hb lw_tsw (by decide) (by decide) (by decide) (by decide) (lw_case_10 K hL hi hH hR hS hl go)
      · exact lv_tableIn (off := 413) (tgt := 445) hx hb lw_tsw (by decide) (by decide) (by decide) (by decide) (lw_case_11 K hL hi hH hR hS hl go)
      · exact lv_tableIn (off := 446) (tgt := 478) hx hb lw_tsw (by decide) (by decide) (by decide) (by decide) (lw_case_12 K hL hi hH hR hS hl go)
      · exact lv_tableIn (off := 469) (tgt := 501) hx hb lw_tsw (by decide) (by decide) (by decide) (by decide) (lw_case_13 K hL hi hH hR hS hl go)
      · exact lv_tableIn (off := 502) (tgt := 534) hx hb lw_tsw (by decide) (by decide) (by decide) (by decide) (lw_case_14 K hL hi hH hR hS hl go)
      · exact lv_tableIn (off := 536) (tgt := 568) hx hb lw_tsw (by decide) (by decide) (by decide) (by decide) (lw_case_15 K hL hi hH hR hS hl go)
      · exact lv_tableIn (off := 550) (tgt := 582) hx hb lw_tsw (by decide) (by decide) (by decide) (by decide) (lw_case_16 K hL hi hH hR hS hl go)
      · exact lv_tableIn (off := 583) (tgt := 615) hx hb lw_tsw (by decide) (by decide) (by decide) (by decide) (lw_case_17 K hL hi hH hR hS hl go)
      · exact lv_tableIn (off := 606) (tgt := 638) hx hb lw_tsw (by decide) (by decide) (by decide) (by decide) (lw_case_18 K hL hi hH hR hS hl go)
      · exact lv_tableIn (off := 640) (tgt := 672) hx hb lw_tsw (by decide) (by decide) (by decide) (by decide) (lw_case_19 K hL hi hH hR hS hl go)
      · exact lv_tableIn (off := 674) (tgt := 706) hx hb lw_tsw (by decide) (by decide) (by decide) (by decide) (lw_case_20 K hL hi hH hR hS hl go)
      · exact lv_tableIn (off := 697) (tgt := 729) hx hb lw_tsw (by decide) (by decide) (by decide) (by decide) (lw_case_21 K hL hi hH hR hS hl go)
      · exact lv_tableIn (off := 740) (tgt := 772) hx hb lw_tsw (by decide) (by decide) (by decide) (by decide) (lw_case_22 K hL hi hH hR hS hl go)
      · exact lv_tableIn (off := 753) (tgt := 785) hx hb lw_tsw (by decide) (by decide) (by decide) (by decide) (lw_case_23 K hL hi hH hR hS hl go)
      · exact lv_tableIn (off := 787) (tgt := 819) hx hb lw_tsw (by decide) (by decide) (by decide) (by decide) (lw_case_24 K hL hi hH hR hS hl go)
      · exact lv_tableIn (off := 831) (tgt := 863) hx hb lw_tsw (by decide) (by decide) (by decide) (by decide) (lw_case_25 K hL hi hH hR hS hl go)
      · exact lv_tableIn (off := 865) (tgt := 897) hx hb lw_tsw (by decide) (by decide) (by decide) (by decide) (lw_case_26 K hL hi hH hR hS hl go)
      · exact lv_tableIn (off := 899) (tgt := 931) hx hb lw_tsw (by decide) (by decide) (by decide) (by decide) (lw_case_27 K hL hi hH hR hS hl go)
      · exact lv_tableIn (off := 932) (tgt := 964) hx hb lw_tsw (by decide) (by decide) (by decide) (by decide) (lw_case_28 K hL hi hH hR hS hl go)
      · exact lv_tableIn (off := 965) (tgt := 997) hx hb lw_tsw (by decide) (by decide) (by decide) (by decide) (lw_case_29 K hL hi hH hR hS hl go)
      · exact lv_tableIn (off := 988) (tgt := 1020) hx hb lw_tsw (by decide) (by decide) (by decide) (by decide) (lw_case_30 K hL hi hH hR hS hl go)
      · exact lv_tableOut (tgt := 1043) hx hb lw_tsw (Or.inr (by decide)) (by decide) (go M H locs hH hR hS)
end LP2
