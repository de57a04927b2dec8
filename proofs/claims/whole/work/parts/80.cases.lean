/-! the law's cases, printed by wip/whole/gen80.py -/
theorem xm_in_toInt (x : Int32) : xm_in x.toInt := ⟨Int32.le_toInt x, Int32.toInt_lt x⟩
theorem lw_cmp_eq (z : Int64) : lg_cmp z z = 0 := by
  unfold lg_cmp
  simp
section LC
variable {p : Program} {l : Launch} {e : Env} {s : State} {m : MethodId} {below : List Frame} {meth : Method} {c : Code} {H : Heap} {locs : List Loc} {Qf : State → Prop} {b0 L : Nat} {xs : Nat → Int32} {b : Nat} {ak av : Nat → Nat} {cA : Nat → ClassId} {D : va_G} {ls : Array Slot} {M : xm_Mem}
theorem lw_case_0 {i : Nat} (K : lw_K p s m meth c b0 L xs b ak av cA D) (hL : L ≤ 2048) (hi : 4 * i + 4 ≤ L) (hH : xs_H b ak cA D true M H) (hR : R_all M) (hS : va_S (fun q => b < q) s.heap H locs) (hl : lv_has ls 4 [(3, .int (nI (4 * i))), (0, .ref b0), (1, .ref (b + 1)), (2, .ref (b + 50))])
    (go : ∀ (M' : xm_Mem) (H1 : Heap) (locs1 : List Loc), xs_H b ak cA D true M' H1 → R_all M' → va_S (fun q => b < q) s.heap H1 locs1 → W p l e room_1 s m #[Value.ref b0] below meth c H1 locs1 83 31141 Qf (F0 m 1043 ls [])) : W p l e room_1 s m #[Value.ref b0] below meth c H locs 83 31141 Qf (F0 m 172 ls []) := by
  obtain ⟨hx, hb, -⟩ := id K
  refine lv_aload_n (i := 1) (x := b + 1) hx hb (show decode code 172 = .ok (.aload_n 1, 1) by decide +kernel) rfl (lv_at hl 2 rfl) ?_
  refine lw_arg (j := 1) K hL (by omega) hS hl (show decode code 173 = .ok (.aload_n 0, 1) by decide +kernel) (show decode code 174 = .ok (.iload_n 3, 1) by decide +kernel) (show decode code 175 = .ok (.iconst 1, 1) by decide +kernel) (show decode code 176 = .ok (.iadd, 1) by decide +kernel) (show decode code 177 = .ok (.iaload, 1) by decide +kernel) ?_
  refine lw_run (as' := [.inl (xs (4 * i + 1)).toInt]) (rest := []) K (List.mem_of_getElem? (i := 0) (show lw_tab[0]? = some (13, 1, 1, 1, 0) from rfl)) rfl (show decode code 178 = .ok (.invokevirtual 13, 3) by decide +kernel) hH hS hl (Nat.zero_le _) ⟨Nat.le_refl _, Nat.le_refl _⟩ (pr_type (xm_in_toInt _) M hR) (fun v M1 H1 locs1 q hv hH1 hS1 => ?_)
  obtain ⟨z, rfl⟩ : ∃ z : Int, v = [.inl z] := by
    rcases hv with ⟨hk, z, hz⟩ | ⟨hk, z, hz⟩
    · first | exact ⟨z, hz⟩ | exact absurd hk (by decide)
    · first | exact ⟨z, hz⟩ | exact absurd hk (by decide)
  refine lv_aload_n (i := 2) (x := b + 50) hx hb (show decode code 181 = .ok (.aload_n 2, 1) by decide +kernel) rfl (lv_at hl 3 rfl) ?_
  refine lw_arg (j := 1) K hL (by omega) hS1 hl (show decode code 182 = .ok (.aload_n 0, 1) by decide +kernel) (show decode code 183 = .ok (.iload_n 3, 1) by decide +kernel) (show decode code 184 = .ok (.iconst 1, 1) by decide +kernel) (show decode code 185 = .ok (.iadd, 1) by decide +kernel) (show decode code 186 = .ok (.iaload, 1) by decide +kernel) ?_
  refine lw_run (as' := [.inl (xs (4 * i + 1)).toInt]) (rest := [.int (Int32.ofInt z)]) K (List.mem_of_getElem? (i := 1) (show lw_tab[1]? = some (17, 194, 50, 1, 0) from rfl)) rfl (show decode code 187 = .ok (.invokevirtual 17, 3) by decide +kernel) hH1 hS1 hl (by show 1 ≤ 8; omega) ⟨Nat.le_refl _, Nat.le_refl _⟩ q (fun w M2 H2 locs2 q2 hw hH2 hS2 => ?_)
  obtain ⟨rfl, hR2⟩ := q2
  exact lv_icmp_eq (tgt := 1043) hx hb (show decode code 190 = .ok (.if_icmp .eq 853, 3) by decide +kernel) (by decide) (fun _ => go M2 H2 locs2 hH2 hR2 hS2) (fun g => absurd rfl g)
theorem lw_case_1 {i : Nat} (K : lw_K p s m meth c b0 L xs b ak av cA D) (hL : L ≤ 2048) (hi : 4 * i + 4 ≤ L) (hH : xs_H b ak cA D true M H) (hR : R_all M) (hS : va_S (fun q => b < q) s.heap H locs) (hl : lv_has ls 4 [(3, .int (nI (4 * i))), (0, .ref b0), (1, .ref (b + 1)), (2, .ref (b + 50))])
    (go : ∀ (M' : xm_Mem) (H1 : Heap) (locs1 : List Loc), xs_H b ak cA D true M' H1 → R_all M' → va_S (fun q => b < q) s.heap H1 locs1 → W p l e room_1 s m #[Value.ref b0] below meth c H1 locs1 83 31141 Qf (F0 m 1043 ls [])) : W p l e room_1 s m #[Value.ref b0] below meth c H locs 83 31141 Qf (F0 m 195 ls []) := by
  obtain ⟨hx, hb, -⟩ := id K
  refine lv_aload_n (i := 1) (x := b + 1) hx hb (show decode code 195 = .ok (.aload_n 1, 1) by decide +kernel) rfl (lv_at hl 2 rfl) ?_
  refine lw_run (as' := []) (rest := []) K (List.mem_of_getElem? (i := 2) (show lw_tab[2]? = some (18, 2, 1, 0, 0) from rfl)) rfl (show decode code 196 = .ok (.invokevirtual 18, 3) by decide +kernel) hH hS hl (Nat.zero_le _) ⟨Nat.le_refl _, Nat.le_refl _⟩ (pr_clear M hR) (fun v M1 H1 locs1 q hv hH1 hS1 => ?_)
  obtain ⟨z, rfl⟩ : ∃ z : Int, v = [.inl z] := by
    rcases hv with ⟨hk, z, hz⟩ | ⟨hk, z, hz⟩
    · first | exact ⟨z, hz⟩ | exact absurd hk (by decide)
    · first | exact ⟨z, hz⟩ | exact absurd hk (by decide)
  refine lv_aload_n (i := 2) (x := b + 50) hx hb (show decode code 199 = .ok (.aload_n 2, 1) by decide +kernel) rfl (lv_at hl 3 rfl) ?_
  refine lw_run (as' := []) (rest := [.int (Int32.ofInt z)]) K (List.mem_of_getElem? (i := 3) (show lw_tab[3]? = some (22, 195, 50, 0, 0) from rfl)) rfl (show decode code 200 = .ok (.invokevirtual 22, 3) by decide +kernel) hH1 hS1 hl (by show 1 ≤ 8; omega) ⟨Nat.le_refl _, Nat.le_refl _⟩ q (fun w M2 H2 locs2 q2 hw hH2 hS2 => ?_)
  obtain ⟨rfl, hR2⟩ := q2
  exact lv_icmp_eq (tgt := 1043) hx hb (show decode code 203 = .ok (.if_icmp .eq 840, 3) by decide +kernel) (by decide) (fun _ => go M2 H2 locs2 hH2 hR2 hS2) (fun g => absurd rfl g)
theorem lw_case_2 {i : Nat} (K : lw_K p s m meth c b0 L xs b ak av cA D) (hL : L ≤ 2048) (hi : 4 * i + 4 ≤ L) (hH : xs_H b ak cA D true M H) (hR : R_all M) (hS : va_S (fun q => b < q) s.heap H locs) (hl : lv_has ls 4 [(3, .int (nI (4 * i))), (0, .ref b0), (1, .ref (b + 1)), (2, .ref (b + 50))])
    (go : ∀ (M' : xm_Mem) (H1 : Heap) (locs1 : List Loc), xs_H b ak cA D true M' H1 → R_all M' → va_S (fun q => b < q) s.heap H1 locs1 → W p l e room_1 s m #[Value.ref b0] below meth c H1 locs1 83 31141 Qf (F0 m 1043 ls [])) : W p l e room_1 s m #[Value.ref b0] below meth c H locs 83 31141 Qf (F0 m 208 ls []) := by
  obtain ⟨hx, hb, -⟩ := id K
  refine lv_aload_n (i := 1) (x := b + 1) hx hb (show decode code 208 = .ok (.aload_n 1, 1) by decide +kernel) rfl (lv_at hl 2 rfl) ?_
  refine lw_run (as' := []) (rest := []) K (List.mem_of_getElem? (i := 4) (show lw_tab[4]? = some (23, 3, 1, 0, 0) from rfl)) rfl (show decode code 209 = .ok (.invokevirtual 23, 3) by decide +kernel) hH hS hl (Nat.zero_le _) ⟨Nat.le_refl _, Nat.le_refl _⟩ (pr_path M hR) (fun v M1 H1 locs1 q hv hH1 hS1 => ?_)
  obtain ⟨z, rfl⟩ : ∃ z : Int, v = [.inl z] := by
    rcases hv with ⟨hk, z, hz⟩ | ⟨hk, z, hz⟩
    · first | exact ⟨z, hz⟩ | exact absurd hk (by decide)
    · first | exact ⟨z, hz⟩ | exact absurd hk (by decide)
  refine lv_aload_n (i := 2) (x := b + 50) hx hb (show decode code 212 = .ok (.aload_n 2, 1) by decide +kernel) rfl (lv_at hl 3 rfl) ?_
  refine lw_run (as' := []) (rest := [.int (Int32.ofInt z)]) K (List.mem_of_getElem? (i := 5) (show lw_tab[5]? = some (26, 210, 50, 0, 0) from rfl)) rfl (show decode code 213 = .ok (.invokevirtual 26, 3) by decide +kernel) hH1 hS1 hl (by show 1 ≤ 8; omega) ⟨Nat.le_refl _, Nat.le_refl _⟩ q (fun w M2 H2 locs2 q2 hw hH2 hS2 => ?_)
  obtain ⟨rfl, hR2⟩ := q2
  exact lv_icmp_eq (tgt := 1043) hx hb (show decode code 216 = .ok (.if_icmp .eq 827, 3) by decide +kernel) (by decide) (fun _ => go M2 H2 locs2 hH2 hR2 hS2) (fun g => absurd rfl g)
theorem lw_case_3 {i : Nat} (K : lw_K p s m meth c b0 L xs b ak av cA D) (hL : L ≤ 2048) (hi : 4 * i + 4 ≤ L) (hH : xs_H b ak cA D true M H) (hR : R_all M) (hS : va_S (fun q => b < q) s.heap H locs) (hl : lv_has ls 4 [(3, .int (nI (4 * i))), (0, .ref b0), (1, .ref (b + 1)), (2, .ref (b + 50))])
    (go : ∀ (M' : xm_Mem) (H1 : Heap) (locs1 : List Loc), xs_H b ak cA D true M' H1 → R_all M' → va_S (fun q => b < q) s.heap H1 locs1 → W p l e room_1 s m #[Value.ref b0] below meth c H1 locs1 83 31141 Qf (F0 m 1043 ls [])) : W p l e room_1 s m #[Value.ref b0] below meth c H locs 83 31141 Qf (F0 m 221 ls []) := by
  obtain ⟨hx, hb, -⟩ := id K
  refine lv_aload_n (i := 1) (x := b + 1) hx hb (show decode code 221 = .ok (.aload_n 1, 1) by decide +kernel) rfl (lv_at hl 2 rfl) ?_
  refine lw_arg (j := 1) K hL (by omega) hS hl (show decode code 222 = .ok (.aload_n 0, 1) by decide +kernel) (show decode code 223 = .ok (.iload_n 3, 1) by decide +kernel) (show decode code 224 = .ok (.iconst 1, 1) by decide +kernel) (show decode code 225 = .ok (.iadd, 1) by decide +kernel) (show decode code 226 = .ok (.iaload, 1) by decide +kernel) ?_
  refine lw_arg (j := 2) K hL (by omega) hS hl (show decode code 227 = .ok (.aload_n 0, 1) by decide +kernel) (show decode code 228 = .ok (.iload_n 3, 1) by decide +kernel) (show decode code 229 = .ok (.iconst 2, 1) by decide +kernel) (show decode code 230 = .ok (.iadd, 1) by decide +kernel) (show decode code 231 = .ok (.iaload, 1) by decide +kernel) ?_
  refine lw_run (as' := [.inl (xs (4 * i + 1)).toInt, .inl (xs (4 * i + 2)).toInt]) (rest := []) K (List.mem_of_getElem? (i := 6) (show lw_tab[6]? = some (27, 5, 1, 2, 0) from rfl)) rfl (show decode code 232 = .ok (.invokevirtual 27, 3) by decide +kernel) hH hS hl (Nat.zero_le _) ⟨Nat.le_refl _, Nat.le_refl _⟩ (pr_row (xm_in_toInt _) (xm_in_toInt _) M hR) (fun v M1 H1 locs1 q hv hH1 hS1 => ?_)
  obtain ⟨z, rfl⟩ : ∃ z : Int, v = [.inl z] := by
    rcases hv with ⟨hk, z, hz⟩ | ⟨hk, z, hz⟩
    · first | exact ⟨z, hz⟩ | exact absurd hk (by decide)
    · first | exact ⟨z, hz⟩ | exact absurd hk (by decide)
  refine lv_aload_n (i := 2) (x := b + 50) hx hb (show decode code 235 = .ok (.aload_n 2, 1) by decide +kernel) rfl (lv_at hl 3 rfl) ?_
  refine lw_arg (j := 1) K hL (by omega) hS1 hl (show decode code 236 = .ok (.aload_n 0, 1) by decide +kernel) (show decode code 237 = .ok (.iload_n 3, 1) by decide +kernel) (show decode code 238 = .ok (.iconst 1, 1) by decide +kernel) (show decode code 239 = .ok (.iadd, 1) by decide +kernel) (show decode code 240 = .ok (.iaload, 1) by decide +kernel) ?_
  refine lw_arg (j := 2) K hL (by omega) hS1 hl (show decode code 241 = .ok (.aload_n 0, 1) by decide +kernel) (show decode code 242 = .ok (.iload_n 3, 1) by decide +kernel) (show decode code 243 = .ok (.iconst 2, 1) by decide +kernel) (show decode code 244 = .ok (.iadd, 1) by decide +kernel) (show decode code 245 = .ok (.iaload, 1) by decide +kernel) ?_
  refine lw_run (as' := [.inl (xs (4 * i + 1)).toInt, .inl (xs (4 * i + 2)).toInt]) (rest := [.int (Int32.ofInt z)]) K (List.mem_of_getElem? (i := 7) (show lw_tab[7]? = some (31, 212, 50, 2, 0) from rfl)) rfl (show decode code 246 = .ok (.invokevirtual 31, 3) by decide +kernel) hH1 hS1 hl (by show 1 ≤ 8; omega) ⟨Nat.le_refl _, Nat.le_refl _⟩ q (fun w M2 H2 locs2 q2 hw hH2 hS2 => ?_)
  obtain ⟨rfl, hR2⟩ := q2
  exact lv_icmp_eq (tgt := 1043) hx hb (show decode code 249 = .ok (.if_icmp .eq 794, 3) by decide +kernel) (by decide) (fun _ => go M2 H2 locs2 hH2 hR2 hS2) (fun g => absurd rfl g)
theorem lw_case_4 {i : Nat} (K : lw_K p s m meth c b0 L xs b ak av cA D) (hL : L ≤ 2048) (hi : 4 * i + 4 ≤ L) (hH : xs_H b ak cA D true M H) (hR : R_all M) (hS : va_S (fun q => b < q) s.heap H locs) (hl : lv_has ls 4 [(3, .int (nI (4 * i))), (0, .ref b0), (1, .ref (b + 1)), (2, .ref (b + 50))])
    (go : ∀ (M' : xm_Mem) (H1 : Heap) (locs1 : List Loc), xs_H b ak cA D true M' H1 → R_all M' → va_S (fun q => b < q) s.heap H1 locs1 → W p l e room_1 s m #[Value.ref b0] below meth c H1 locs1 83 31141 Qf (F0 m 1043 ls [])) : W p l e room_1 s m #[Value.ref b0] below meth c H locs 83 31141 Qf (F0 m 254 ls []) := by
  obtain ⟨hx, hb, -⟩ := id K
  refine lv_aload_n (i := 1) (x := b + 1) hx hb (show decode code 254 = .ok (.aload_n 1, 1) by decide +kernel) rfl (lv_at hl 2 rfl) ?_
  refine lw_arg (j := 1) K hL (by omega) hS hl (show decode code 255 = .ok (.aload_n 0, 1) by decide +kernel) (show decode code 256 = .ok (.iload_n 3, 1) by decide +kernel) (show decode code 257 = .ok (.iconst 1, 1) by decide +kernel) (show decode code 258 = .ok (.iadd, 1) by decide +kernel) (show decode code 259 = .ok (.iaload, 1) by decide +kernel) ?_
  refine lw_run (as' := [.inl (xs (4 * i + 1)).toInt]) (rest := []) K (List.mem_of_getElem? (i := 8) (show lw_tab[8]? = some (32, 6, 1, 1, 0) from rfl)) rfl (show decode code 260 = .ok (.invokevirtual 32, 3) by decide +kernel) hH hS hl (Nat.zero_le _) ⟨Nat.le_refl _, Nat.le_refl _⟩ (pr_steps (xm_in_toInt _) M hR) (fun v M1 H1 locs1 q hv hH1 hS1 => ?_)
  obtain ⟨z, rfl⟩ : ∃ z : Int, v = [.inl z] := by
    rcases hv with ⟨hk, z, hz⟩ | ⟨hk, z, hz⟩
    · first | exact ⟨z, hz⟩ | exact absurd hk (by decide)
    · first | exact ⟨z, hz⟩ | exact absurd hk (by decide)
  refine lv_aload_n (i := 2) (x := b + 50) hx hb (show decode code 263 = .ok (.aload_n 2, 1) by decide +kernel) rfl (lv_at hl 3 rfl) ?_
  refine lw_arg (j := 1) K hL (by omega) hS1 hl (show decode code 264 = .ok (.aload_n 0, 1) by decide +kernel) (show decode code 265 = .ok (.iload_n 3, 1) by decide +kernel) (show decode code 266 = .ok (.iconst 1, 1) by decide +kernel) (show decode code 267 = .ok (.iadd, 1) by decide +kernel) (show decode code 268 = .ok (.iaload, 1) by decide +kernel) ?_
  refine lw_run (as' := [.inl (xs (4 * i + 1)).toInt]) (rest := [.int (Int32.ofInt z)]) K (List.mem_of_getElem? (i := 9) (show lw_tab[9]? = some (35, 224, 50, 1, 0) from rfl)) rfl (show decode code 269 = .ok (.invokevirtual 35, 3) by decide +kernel) hH1 hS1 hl (by show 1 ≤ 8; omega) ⟨Nat.le_refl _, Nat.le_refl _⟩ q (fun w M2 H2 locs2 q2 hw hH2 hS2 => ?_)
  obtain ⟨rfl, hR2⟩ := q2
  exact lv_icmp_eq (tgt := 1043) hx hb (show decode code 272 = .ok (.if_icmp .eq 771, 3) by decide +kernel) (by decide) (fun _ => go M2 H2 locs2 hH2 hR2 hS2) (fun g => absurd rfl g)
theorem lw_case_5 {i : Nat} (K : lw_K p s m meth c b0 L xs b ak av cA D) (hL : L ≤ 2048) (hi : 4 * i + 4 ≤ L) (hH : xs_H b ak cA D true M H) (hR : R_all M) (hS : va_S (fun q => b < q) s.heap H locs) (hl : lv_has ls 4 [(3, .int (nI (4 * i))), (0, .ref b0), (1, .ref (b + 1)), (2, .ref (b + 50))])
    (go : ∀ (M' : xm_Mem) (H1 : Heap) (locs1 : List Loc), xs_H b ak cA D true M' H1 → R_all M' → va_S (fun q => b < q) s.heap H1 locs1 → W p l e room_1 s m #[Value.ref b0] below meth c H1 locs1 83 31141 Qf (F0 m 1043 ls [])) : W p l e room_1 s m #[Value.ref b0] below meth c H locs 83 31141 Qf (F0 m 277 ls []) := by
  obtain ⟨hx, hb, -⟩ := id K
  refine lv_aload_n (i := 1) (x := b + 1) hx hb (show decode code 277 = .ok (.aload_n 1, 1) by decide +kernel) rfl (lv_at hl 2 rfl) ?_
  refine lw_arg (j := 1) K hL (by omega) hS hl (show decode code 278 = .ok (.aload_n 0, 1) by decide +kernel) (show decode code 279 = .ok (.iload_n 3, 1) by decide +kernel) (show decode code 280 = .ok (.iconst 1, 1) by decide +kernel) (show decode code 281 = .ok (.iadd, 1) by decide +kernel) (show decode code 282 = .ok (.iaload, 1) by decide +kernel) ?_
  refine lw_run (as' := [.inl (xs (4 * i + 1)).toInt]) (rest := []) K (List.mem_of_getElem? (i := 10) (show lw_tab[10]? = some (36, 10, 1, 1, 0) from rfl)) rfl (show decode code 283 = .ok (.invokevirtual 36, 3) by decide +kernel) hH hS hl (Nat.zero_le _) ⟨Nat.le_refl _, Nat.le_refl _⟩ (pr_asks (xm_in_toInt _) M hR) (fun v M1 H1 locs1 q hv hH1 hS1 => ?_)
  obtain ⟨z, rfl⟩ : ∃ z : Int, v = [.inl z] := by
    rcases hv with ⟨hk, z, hz⟩ | ⟨hk, z, hz⟩
    · first | exact ⟨z, hz⟩ | exact absurd hk (by decide)
    · first | exact ⟨z, hz⟩ | exact absurd hk (by decide)
  refine lv_aload_n (i := 2) (x := b + 50) hx hb (show decode code 286 = .ok (.aload_n 2, 1) by decide +kernel) rfl (lv_at hl 3 rfl) ?_
  refine lw_arg (j := 1) K hL (by omega) hS1 hl (show decode code 287 = .ok (.aload_n 0, 1) by decide +kernel) (show decode code 288 = .ok (.iload_n 3, 1) by decide +kernel) (show decode code 289 = .ok (.iconst 1, 1) by decide +kernel) (show decode code 290 = .ok (.iadd, 1) by decide +kernel) (show decode code 291 = .ok (.iaload, 1) by decide +kernel) ?_
  refine lw_run (as' := [.inl (xs (4 * i + 1)).toInt]) (rest := [.int (Int32.ofInt z)]) K (List.mem_of_getElem? (i := 11) (show lw_tab[11]? = some (39, 225, 50, 1, 0) from rfl)) rfl (show decode code 292 = .ok (.invokevirtual 39, 3) by decide +kernel) hH1 hS1 hl (by show 1 ≤ 8; omega) ⟨Nat.le_refl _, Nat.le_refl _⟩ q (fun w M2 H2 locs2 q2 hw hH2 hS2 => ?_)
  obtain ⟨rfl, hR2⟩ := q2
  exact lv_icmp_eq (tgt := 1043) hx hb (show decode code 295 = .ok (.if_icmp .eq 748, 3) by decide +kernel) (by decide) (fun _ => go M2 H2 locs2 hH2 hR2 hS2) (fun g => absurd rfl g)
theorem lw_case_6 {i : Nat} (K : lw_K p s m meth c b0 L xs b ak av cA D) (hL : L ≤ 2048) (hi : 4 * i + 4 ≤ L) (hH : xs_H b ak cA D true M H) (hR : R_all M) (hS : va_S (fun q => b < q) s.heap H locs) (hl : lv_has ls 4 [(3, .int (nI (4 * i))), (0, .ref b0), (1, .ref (b + 1)), (2, .ref (b + 50))])
    (go : ∀ (M' : xm_Mem) (H1 : Heap) (locs1 : List Loc), xs_H b ak cA D true M' H1 → R_all M' → va_S (fun q => b < q) s.heap H1 locs1 → W p l e room_1 s m #[Value.ref b0] below meth c H1 locs1 83 31141 Qf (F0 m 1043 ls [])) : W p l e room_1 s m #[Value.ref b0] below meth c H locs 83 31141 Qf (F0 m 300 ls []) := by
  obtain ⟨hx, hb, -⟩ := id K
  refine lv_aload_n (i := 1) (x := b + 1) hx hb (show decode code 300 = .ok (.aload_n 1, 1) by decide +kernel) rfl (lv_at hl 2 rfl) ?_
  refine lw_arg (j := 1) K hL (by omega) hS hl (show decode code 301 = .ok (.aload_n 0, 1) by decide +kernel) (show decode code 302 = .ok (.iload_n 3, 1) by decide +kernel) (show decode code 303 = .ok (.iconst 1, 1) by decide +kernel) (show decode code 304 = .ok (.iadd, 1) by decide +kernel) (show decode code 305 = .ok (.iaload, 1) by decide +kernel) ?_
  refine lw_arg (j := 2) K hL (by omega) hS hl (show decode code 306 = .ok (.aload_n 0, 1) by decide +kernel) (show decode code 307 = .ok (.iload_n 3, 1) by decide +kernel) (show decode code 308 = .ok (.iconst 2, 1) by decide +kernel) (show decode code 309 = .ok (.iadd, 1) by decide +kernel) (show decode code 310 = .ok (.iaload, 1) by decide +kernel) ?_
  refine lw_run (as' := [.inl (xs (4 * i + 1)).toInt, .inl (xs (4 * i + 2)).toInt]) (rest := []) K (List.mem_of_getElem? (i := 12) (show lw_tab[12]? = some (40, 11, 1, 2, 0) from rfl)) rfl (show decode code 311 = .ok (.invokevirtual 40, 3) by decide +kernel) hH hS hl (Nat.zero_le _) ⟨Nat.le_refl _, Nat.le_refl _⟩ (pr_draws (xm_in_toInt _) M hR) (fun v M1 H1 locs1 q hv hH1 hS1 => ?_)
  obtain ⟨z, rfl⟩ : ∃ z : Int, v = [.inl z] := by
    rcases hv with ⟨hk, z, hz⟩ | ⟨hk, z, hz⟩
    · first | exact ⟨z, hz⟩ | exact absurd hk (by decide)
    · first | exact ⟨z, hz⟩ | exact absurd hk (by decide)
  refine lv_aload_n (i := 2) (x := b + 50) hx hb (show decode code 314 = .ok (.aload_n 2, 1) by decide +kernel) rfl (lv_at hl 3 rfl) ?_
  refine lw_arg (j := 1) K hL (by omega) hS1 hl (show decode code 315 = .ok (.aload_n 0, 1) by decide +kernel) (show decode code 316 = .ok (.iload_n 3, 1) by decide +kernel) (show decode code 317 = .ok (.iconst 1, 1) by decide +kernel) (show decode code 318 = .ok (.iadd, 1) by decide +kernel) (show decode code 319 = .ok (.iaload, 1) by decide +kernel) ?_
  refine lw_arg (j := 2) K hL (by omega) hS1 hl (show decode code 320 = .ok (.aload_n 0, 1) by decide +kernel) (show decode code 321 = .ok (.iload_n 3, 1) by decide +kernel) (show decode code 322 = .ok (.iconst 2, 1) by decide +kernel) (show decode code 323 = .ok (.iadd, 1) by decide +kernel) (show decode code 324 = .ok (.iaload, 1) by decide +kernel) ?_
  refine lw_run (as' := [.inl (xs (4 * i + 1)).toInt, .inl (xs (4 * i + 2)).toInt]) (rest := [.int (Int32.ofInt z)]) K (List.mem_of_getElem? (i := 13) (show lw_tab[13]? = some (43, 226, 50, 2, 0) from rfl)) rfl (show decode code 325 = .ok (.invokevirtual 43, 3) by decide +kernel) hH1 hS1 hl (by show 1 ≤ 8; omega) ⟨Nat.le_refl _, Nat.le_refl _⟩ q (fun w M2 H2 locs2 q2 hw hH2 hS2 => ?_)
  obtain ⟨rfl, hR2⟩ := q2
  exact lv_icmp_eq (tgt := 1043) hx hb (show decode code 328 = .ok (.if_icmp .eq 715, 3) by decide +kernel) (by decide) (fun _ => go M2 H2 locs2 hH2 hR2 hS2) (fun g => absurd rfl g)
theorem lw_case_7 {i : Nat} (K : lw_K p s m meth c b0 L xs b ak av cA D) (hL : L ≤ 2048) (hi : 4 * i + 4 ≤ L) (hH : xs_H b ak cA D true M H) (hR : R_all M) (hS : va_S (fun q => b < q) s.heap H locs) (hl : lv_has ls 4 [(3, .int (nI (4 * i))), (0, .ref b0), (1, .ref (b + 1)), (2, .ref (b + 50))])
    (go : ∀ (M' : xm_Mem) (H1 : Heap) (locs1 : List Loc), xs_H b ak cA D true M' H1 → R_all M' → va_S (fun q => b < q) s.heap H1 locs1 → W p l e room_1 s m #[Value.ref b0] below meth c H1 locs1 83 31141 Qf (F0 m 1043 ls [])) : W p l e room_1 s m #[Value.ref b0] below meth c H locs 83 31141 Qf (F0 m 333 ls []) := by
  obtain ⟨hx, hb, -⟩ := id K
  refine lv_aload_n (i := 1) (x := b + 1) hx hb (show decode code 333 = .ok (.aload_n 1, 1) by decide +kernel) rfl (lv_at hl 2 rfl) ?_
  refine lw_arg (j := 1) K hL (by omega) hS hl (show decode code 334 = .ok (.aload_n 0, 1) by decide +kernel) (show decode code 335 = .ok (.iload_n 3, 1) by decide +kernel) (show decode code 336 = .ok (.iconst 1, 1) by decide +kernel) (show decode code 337 = .ok (.iadd, 1) by decide +kernel) (show decode code 338 = .ok (.iaload, 1) by decide +kernel) ?_
  refine lw_run (as' := [.inl (xs (4 * i + 1)).toInt]) (rest := []) K (List.mem_of_getElem? (i := 14) (show lw_tab[14]? = some (44, 12, 1, 1, 0) from rfl)) rfl (show decode code 339 = .ok (.invokevirtual 44, 3) by decide +kernel) hH hS hl (Nat.zero_le _) ⟨Nat.le_refl _, Nat.le_refl _⟩ (pr_breaks (xm_in_toInt _) M hR) (fun v M1 H1 locs1 q hv hH1 hS1 => ?_)
  obtain ⟨z, rfl⟩ : ∃ z : Int, v = [.inl z] := by
    rcases hv with ⟨hk, z, hz⟩ | ⟨hk, z, hz⟩
    · first | exact ⟨z, hz⟩ | exact absurd hk (by decide)
    · first | exact ⟨z, hz⟩ | exact absurd hk (by decide)
  refine lv_aload_n (i := 2) (x := b + 50) hx hb (show decode code 342 = .ok (.aload_n 2, 1) by decide +kernel) rfl (lv_at hl 3 rfl) ?_
  refine lw_arg (j := 1) K hL (by omega) hS1 hl (show decode code 343 = .ok (.aload_n 0, 1) by decide +kernel) (show decode code 344 = .ok (.iload_n 3, 1) by decide +kernel) (show decode code 345 = .ok (.iconst 1, 1) by decide +kernel) (show decode code 346 = .ok (.iadd, 1) by decide +kernel) (show decode code 347 = .ok (.iaload, 1) by decide +kernel) ?_
  refine lw_run (as' := [.inl (xs (4 * i + 1)).toInt]) (rest := [.int (Int32.ofInt z)]) K (List.mem_of_getElem? (i := 15) (show lw_tab[15]? = some (47, 227, 50, 1, 0) from rfl)) rfl (show decode code 348 = .ok (.invokevirtual 47, 3) by decide +kernel) hH1 hS1 hl (by show 1 ≤ 8; omega) ⟨Nat.le_refl _, Nat.le_refl _⟩ q (fun w M2 H2 locs2 q2 hw hH2 hS2 => ?_)
  obtain ⟨rfl, hR2⟩ := q2
  exact lv_icmp_eq (tgt := 1043) hx hb (show decode code 351 = .ok (.if_icmp .eq 692, 3) by decide +kernel) (by decide) (fun _ => go M2 H2 locs2 hH2 hR2 hS2) (fun g => absurd rfl g)
theorem lw_case_8 {i : Nat} (K : lw_K p s m meth c b0 L xs b ak av cA D) (hL : L ≤ 2048) (hi : 4 * i + 4 ≤ L) (hH : xs_H b ak cA D true M H) (hR : R_all M) (hS : va_S (fun q => b < q) s.heap H locs) (hl : lv_has ls 4 [(3, .int (nI (4 * i))), (0, .ref b0), (1, .ref (b + 1)), (2, .ref (b + 50))])
    (go : ∀ (M' : xm_Mem) (H1 : Heap) (locs1 : List Loc), xs_H b ak cA D true M' H1 → R_all M' → va_S (fun q => b < q) s.heap H1 locs1 → W p l e room_1 s m #[Value.ref b0] below meth c H1 locs1 83 31141 Qf (F0 m 1043 ls [])) : W p l e room_1 s m #[Value.ref b0] below meth c H locs 83 31141 Qf (F0 m 356 ls []) := by
  obtain ⟨hx, hb, -⟩ := id K
  refine lv_aload_n (i := 1) (x := b + 1) hx hb (show decode code 356 = .ok (.aload_n 1, 1) by decide +kernel) rfl (lv_at hl 2 rfl) ?_
  refine lw_arg (j := 1) K hL (by omega) hS hl (show decode code 357 = .ok (.aload_n 0, 1) by decide +kernel) (show decode code 358 = .ok (.iload_n 3, 1) by decide +kernel) (show decode code 359 = .ok (.iconst 1, 1) by decide +kernel) (show decode code 360 = .ok (.iadd, 1) by decide +kernel) (show decode code 361 = .ok (.iaload, 1) by decide +kernel) ?_
  refine lw_run (as' := [.inl (xs (4 * i + 1)).toInt]) (rest := []) K (List.mem_of_getElem? (i := 16) (show lw_tab[16]? = some (48, 13, 1, 1, 0) from rfl)) rfl (show decode code 362 = .ok (.invokevirtual 48, 3) by decide +kernel) hH hS hl (Nat.zero_le _) ⟨Nat.le_refl _, Nat.le_refl _⟩ (pr_lossy (xm_in_toInt _) M hR) (fun v M1 H1 locs1 q hv hH1 hS1 => ?_)
  obtain ⟨z, rfl⟩ : ∃ z : Int, v = [.inl z] := by
    rcases hv with ⟨hk, z, hz⟩ | ⟨hk, z, hz⟩
    · first | exact ⟨z, hz⟩ | exact absurd hk (by decide)
    · first | exact ⟨z, hz⟩ | exact absurd hk (by decide)
  refine lv_aload_n (i := 2) (x := b + 50) hx hb (show decode code 365 = .ok (.aload_n 2, 1) by decide +kernel) rfl (lv_at hl 3 rfl) ?_
  refine lw_arg (j := 1) K hL (by omega) hS1 hl (show decode code 366 = .ok (.aload_n 0, 1) by decide +kernel) (show decode code 367 = .ok (.iload_n 3, 1) by decide +kernel) (show decode code 368 = .ok (.iconst 1, 1) by decide +kernel) (show decode code 369 = .ok (.iadd, 1) by decide +kernel) (show decode code 370 = .ok (.iaload, 1) by decide +kernel) ?_
  refine lw_run (as' := [.inl (xs (4 * i + 1)).toInt]) (rest := [.int (Int32.ofInt z)]) K (List.mem_of_getElem? (i := 17) (show lw_tab[17]? = some (51, 228, 50, 1, 0) from rfl)) rfl (show decode code 371 = .ok (.invokevirtual 51, 3) by decide +kernel) hH1 hS1 hl (by show 1 ≤ 8; omega) ⟨Nat.le_refl _, Nat.le_refl _⟩ q (fun w M2 H2 locs2 q2 hw hH2 hS2 => ?_)
  obtain ⟨rfl, hR2⟩ := q2
  exact lv_icmp_eq (tgt := 1043) hx hb (show decode code 374 = .ok (.if_icmp .eq 669, 3) by decide +kernel) (by decide) (fun _ => go M2 H2 locs2 hH2 hR2 hS2) (fun g => absurd rfl g)
theorem lw_case_9 {i : Nat} (K : lw_K p s m meth c b0 L xs b ak av cA D) (hL : L ≤ 2048) (hi : 4 * i + 4 ≤ L) (hH : xs_H b ak cA D true M H) (hR : R_all M) (hS : va_S (fun q => b < q) s.heap H locs) (hl : lv_has ls 4 [(3, .int (nI (4 * i))), (0, .ref b0), (1, .ref (b + 1)), (2, .ref (b + 50))])
    (go : ∀ (M' : xm_Mem) (H1 : Heap) (locs1 : List Loc), xs_H b ak cA D true M' H1 → R_all M' → va_S (fun q => b < q) s.heap H1 locs1 → W p l e room_1 s m #[Value.ref b0] below meth c H1 locs1 83 31141 Qf (F0 m 1043 ls [])) : W p l e room_1 s m #[Value.ref b0] below meth c H locs 83 31141 Qf (F0 m 379 ls []) := by
  obtain ⟨hx, hb, -⟩ := id K
  refine lv_aload_n (i := 1) (x := b + 1) hx hb (show decode code 379 = .ok (.aload_n 1, 1) by decide +kernel) rfl (lv_at hl 2 rfl) ?_
  refine lw_arg (j := 1) K hL (by omega) hS hl (show decode code 380 = .ok (.aload_n 0, 1) by decide +kernel) (show decode code 381 = .ok (.iload_n 3, 1) by decide +kernel) (show decode code 382 = .ok (.iconst 1, 1) by decide +kernel) (show decode code 383 = .ok (.iadd, 1) by decide +kernel) (show decode code 384 = .ok (.iaload, 1) by decide +kernel) ?_
  refine lw_arg (j := 2) K hL (by omega) hS hl (show decode code 385 = .ok (.aload_n 0, 1) by decide +kernel) (show decode code 386 = .ok (.iload_n 3, 1) by decide +kernel) (show decode code 387 = .ok (.iconst 2, 1) by decide +kernel) (show decode code 388 = .ok (.iadd, 1) by decide +kernel) (show decode code 389 = .ok (.iaload, 1) by decide +kernel) ?_
  refine lw_run (as' := [.inl (xs (4 * i + 1)).toInt, .inl (xs (4 * i + 2)).toInt]) (rest := []) K (List.mem_of_getElem? (i := 18) (show lw_tab[18]? = some (52, 14, 1, 2, 0) from rfl)) rfl (show decode code 390 = .ok (.invokevirtual 52, 3) by decide +kernel) hH hS hl (Nat.zero_le _) ⟨Nat.le_refl _, Nat.le_refl _⟩ (pr_slot (xm_in_toInt _) (xm_in_toInt _) M hR) (fun v M1 H1 locs1 q hv hH1 hS1 => ?_)
  obtain ⟨z, rfl⟩ : ∃ z : Int, v = [.inl z] := by
    rcases hv with ⟨hk, z, hz⟩ | ⟨hk, z, hz⟩
    · first | exact ⟨z, hz⟩ | exact absurd hk (by decide)
    · first | exact ⟨z, hz⟩ | exact absurd hk (by decide)
  refine lv_aload_n (i := 2) (x := b + 50) hx hb (show decode code 393 = .ok (.aload_n 2, 1) by decide +kernel) rfl (lv_at hl 3 rfl) ?_
  refine lw_arg (j := 1) K hL (by omega) hS1 hl (show decode code 394 = .ok (.aload_n 0, 1) by decide +kernel) (show decode code 395 = .ok (.iload_n 3, 1) by decide +kernel) (show decode code 396 = .ok (.iconst 1, 1) by decide +kernel) (show decode code 397 = .ok (.iadd, 1) by decide +kernel) (show decode code 398 = .ok (.iaload, 1) by decide +kernel) ?_
  refine lw_arg (j := 2) K hL (by omega) hS1 hl (show decode code 399 = .ok (.aload_n 0, 1) by decide +kernel) (show decode code 400 = .ok (.iload_n 3, 1) by decide +kernel) (show decode code 401 = .ok (.iconst 2, 1) by decide +kernel) (show decode code 402 = .ok (.iadd, 1) by decide +kernel) (show decode code 403 = .ok (.iaload, 1) by decide +kernel) ?_
  refine lw_run (as' := [.inl (xs (4 * i + 1)).toInt, .inl (xs (4 * i + 2)).toInt]) (rest := [.int (Int32.ofInt z)]) K (List.mem_of_getElem? (i := 19) (show lw_tab[19]? = some (55, 229, 50, 2, 0) from rfl)) rfl (show decode code 404 = .ok (.invokevirtual 55, 3) by decide +kernel) hH1 hS1 hl (by show 1 ≤ 8; omega) ⟨Nat.le_refl _, Nat.le_refl _⟩ q (fun w M2 H2 locs2 q2 hw hH2 hS2 => ?_)
  obtain ⟨rfl, hR2⟩ := q2
  exact lv_icmp_eq (tgt := 1043) hx hb (show decode code 407 = .ok (.if_icmp .eq 636, 3) by decide +kernel) (by decide) (fun _ => go M2 H2 locs2 hH2 hR2 hS2) (fun g => absurd rfl g)
theorem lw_case_10 {i : Nat} (K : lw_K p s m meth c b0 L xs b ak av cA D) (hL : L ≤ 2048) (hi : 4 * i + 4 ≤ L) (hH : xs_H b ak cA D true M H) (hR : R_all M) (hS : va_S (fun q => b < q) s.heap H locs) (hl : lv_has ls 4 [(3, .int (nI (4 * i))), (0, .ref b0), (1, .ref (b + 1)), (2, .ref (b + 50))])
    (go : ∀ (M' : xm_Mem) (H1 : Heap) (locs1 : List Loc), xs_H b ak cA D true M' H1 → R_all M' → va_S (fun q => b < q) s.heap H1 locs1 → W p l e room_1 s m #[Value.ref b0] below meth c H1 locs1 83 31141 Qf (F0 m 1043 ls [])) : W p l e room_1 s m #[Value.ref b0] below meth c H locs 83 31141 Qf (F0 m 412 ls []) := by
  obtain ⟨hx, hb, -⟩ := id K
  refine lv_aload_n (i := 1) (x := b + 1) hx hb (show decode code 412 = .ok (.aload_n 1, 1) by decide +kernel) rfl (lv_at hl 2 rfl) ?_
  refine lw_arg (j := 1) K hL (by omega) hS hl (show decode code 413 = .ok (.aload_n 0, 1) by decide +kernel) (show decode code 414 = .ok (.iload_n 3, 1) by decide +kernel) (show decode code 415 = .ok (.iconst 1, 1) by decide +kernel) (show decode code 416 = .ok (.iadd, 1) by decide +kernel) (show decode code 417 = .ok (.iaload, 1) by decide +kernel) ?_
  refine lw_arg (j := 2) K hL (by omega) hS hl (show decode code 418 = .ok (.aload_n 0, 1) by decide +kernel) (show decode code 419 = .ok (.iload_n 3, 1) by decide +kernel) (show decode code 420 = .ok (.iconst 2, 1) by decide +kernel) (show decode code 421 = .ok (.iadd, 1) by decide +kernel) (show decode code 422 = .ok (.iaload, 1) by decide +kernel) ?_
  refine lw_run (as' := [.inl (xs (4 * i + 1)).toInt, .inl (xs (4 * i + 2)).toInt]) (rest := []) K (List.mem_of_getElem? (i := 20) (show lw_tab[20]? = some (56, 15, 1, 2, 0) from rfl)) rfl (show decode code 423 = .ok (.invokevirtual 56, 3) by decide +kernel) hH hS hl (Nat.zero_le _) ⟨Nat.le_refl _, Nat.le_refl _⟩ (pr_episode (xm_in_toInt _) (xm_in_toInt _) M hR) (fun v M1 H1 locs1 q hv hH1 hS1 => ?_)
  obtain ⟨z, rfl⟩ : ∃ z : Int, v = [.inl z] := by
    rcases hv with ⟨hk, z, hz⟩ | ⟨hk, z, hz⟩
    · first | exact ⟨z, hz⟩ | exact absurd hk (by decide)
    · first | exact ⟨z, hz⟩ | exact absurd hk (by decide)
  refine lv_aload_n (i := 2) (x := b + 50) hx hb (show decode code 426 = .ok (.aload_n 2, 1) by decide +kernel) rfl (lv_at hl 3 rfl) ?_
  refine lw_arg (j := 1) K hL (by omega) hS1 hl (show decode code 427 = .ok (.aload_n 0, 1) by decide +kernel) (show decode code 428 = .ok (.iload_n 3, 1) by decide +kernel) (show decode code 429 = .ok (.iconst 1, 1) by decide +kernel) (show decode code 430 = .ok (.iadd, 1) by decide +kernel) (show decode code 431 = .ok (.iaload, 1) by decide +kernel) ?_
  refine lw_arg (j := 2) K hL (by omega) hS1 hl (show decode code 432 = .ok (.aload_n 0, 1) by decide +kernel) (show decode code 433 = .ok (.iload_n 3, 1) by decide +kernel) (show decode code 434 = .ok (.iconst 2, 1) by decide +kernel) (show decode code 435 = .ok (.iadd, 1) by decide +kernel) (show decode code 436 = .ok (.iaload, 1) by decide +kernel) ?_
  refine lw_run (as' := [.inl (xs (4 * i + 1)).toInt, .inl (xs (4 * i + 2)).toInt]) (rest := [.int (Int32.ofInt z)]) K (List.mem_of_getElem? (i := 21) (show lw_tab[21]? = some (59, 232, 50, 2, 0) from rfl)) rfl (show decode code 437 = .ok (.invokevirtual 59, 3) by decide +kernel) hH1 hS1 hl (by show 1 ≤ 8; omega) ⟨Nat.le_refl _, Nat.le_refl _⟩ q (fun w M2 H2 locs2 q2 hw hH2 hS2 => ?_)
  obtain ⟨rfl, hR2⟩ := q2
  exact lv_icmp_eq (tgt := 1043) hx hb (show decode code 440 = .ok (.if_icmp .eq 603, 3) by decide +kernel) (by decide) (fun _ => go M2 H2 locs2 hH2 hR2 hS2) (fun g => absurd rfl g)
theorem lw_case_11 {i : Nat} (K : lw_K p s m meth c b0 L xs b ak av cA D) (hL : L ≤ 2048) (hi : 4 * i + 4 ≤ L) (hH : xs_H b ak cA D true M H) (hR : R_all M) (hS : va_S (fun q => b < q) s.heap H locs) (hl : lv_has ls 4 [(3, .int (nI (4 * i))), (0, .ref b0), (1, .ref (b + 1)), (2, .ref (b + 50))])
    (go : ∀ (M' : xm_Mem) (H1 : Heap) (locs1 : List Loc), xs_H b ak cA D true M' H1 → R_all M' → va_S (fun q => b < q) s.heap H1 locs1 → W p l e room_1 s m #[Value.ref b0] below meth c H1 locs1 83 31141 Qf (F0 m 1043 ls [])) : W p l e room_1 s m #[Value.ref b0] below meth c H locs 83 31141 Qf (F0 m 445 ls []) := by
  obtain ⟨hx, hb, -⟩ := id K
  refine lv_aload_n (i := 1) (x := b + 1) hx hb (show decode code 445 = .ok (.aload_n 1, 1) by decide +kernel) rfl (lv_at hl 2 rfl) ?_
  refine lw_arg (j := 1) K hL (by omega) hS hl (show decode code 446 = .ok (.aload_n 0, 1) by decide +kernel) (show decode code 447 = .ok (.iload_n 3, 1) by decide +kernel) (show decode code 448 = .ok (.iconst 1, 1) by decide +kernel) (show decode code 449 = .ok (.iadd, 1) by decide +kernel) (show decode code 450 = .ok (.iaload, 1) by decide +kernel) ?_
  refine lw_arg (j := 2) K hL (by omega) hS hl (show decode code 451 = .ok (.aload_n 0, 1) by decide +kernel) (show decode code 452 = .ok (.iload_n 3, 1) by decide +kernel) (show decode code 453 = .ok (.iconst 2, 1) by decide +kernel) (show decode code 454 = .ok (.iadd, 1) by decide +kernel) (show decode code 455 = .ok (.iaload, 1) by decide +kernel) ?_
  refine lw_run (as' := [.inl (xs (4 * i + 1)).toInt, .inl (xs (4 * i + 2)).toInt]) (rest := []) K (List.mem_of_getElem? (i := 22) (show lw_tab[22]? = some (60, 16, 1, 2, 0) from rfl)) rfl (show decode code 456 = .ok (.invokevirtual 60, 3) by decide +kernel) hH hS hl (Nat.zero_le _) ⟨Nat.le_refl _, Nat.le_refl _⟩ (pr_packets (xm_in_toInt _) (xm_in_toInt _) M hR) (fun v M1 H1 locs1 q hv hH1 hS1 => ?_)
  obtain ⟨z, rfl⟩ : ∃ z : Int, v = [.inl z] := by
    rcases hv with ⟨hk, z, hz⟩ | ⟨hk, z, hz⟩
    · first | exact ⟨z, hz⟩ | exact absurd hk (by decide)
    · first | exact ⟨z, hz⟩ | exact absurd hk (by decide)
  refine lv_aload_n (i := 2) (x := b + 50) hx hb (show decode code 459 = .ok (.aload_n 2, 1) by decide +kernel) rfl (lv_at hl 3 rfl) ?_
  refine lw_arg (j := 1) K hL (by omega) hS1 hl (show decode code 460 = .ok (.aload_n 0, 1) by decide +kernel) (show decode code 461 = .ok (.iload_n 3, 1) by decide +kernel) (show decode code 462 = .ok (.iconst 1, 1) by decide +kernel) (show decode code 463 = .ok (.iadd, 1) by decide +kernel) (show decode code 464 = .ok (.iaload, 1) by decide +kernel) ?_
  refine lw_arg (j := 2) K hL (by omega) hS1 hl (show decode code 465 = .ok (.aload_n 0, 1) by decide +kernel) (show decode code 466 = .ok (.iload_n 3, 1) by decide +kernel) (show decode code 467 = .ok (.iconst 2, 1) by decide +kernel) (show decode code 468 = .ok (.iadd, 1) by decide +kernel) (show decode code 469 = .ok (.iaload, 1) by decide +kernel) ?_
  refine lw_run (as' := [.inl (xs (4 * i + 1)).toInt, .inl (xs (4 * i + 2)).toInt]) (rest := [.int (Int32.ofInt z)]) K (List.mem_of_getElem? (i := 23) (show lw_tab[23]? = some (63, 234, 50, 2, 0) from rfl)) rfl (show decode code 470 = .ok (.invokevirtual 63, 3) by decide +kernel) hH1 hS1 hl (by show 1 ≤ 8; omega) ⟨Nat.le_refl _, Nat.le_refl _⟩ q (fun w M2 H2 locs2 q2 hw hH2 hS2 => ?_)
  obtain ⟨rfl, hR2⟩ := q2
  exact lv_icmp_eq (tgt := 1043) hx hb (show decode code 473 = .ok (.if_icmp .eq 570, 3) by decide +kernel) (by decide) (fun _ => go M2 H2 locs2 hH2 hR2 hS2) (fun g => absurd rfl g)
theorem lw_case_12 {i : Nat} (K : lw_K p s m meth c b0 L xs b ak av cA D) (hL : L ≤ 2048) (hi : 4 * i + 4 ≤ L) (hH : xs_H b ak cA D true M H) (hR : R_all M) (hS : va_S (fun q => b < q) s.heap H locs) (hl : lv_has ls 4 [(3, .int (nI (4 * i))), (0, .ref b0), (1, .ref (b + 1)), (2, .ref (b + 50))])
    (go : ∀ (M' : xm_Mem) (H1 : Heap) (locs1 : List Loc), xs_H b ak cA D true M' H1 → R_all M' → va_S (fun q => b < q) s.heap H1 locs1 → W p l e room_1 s m #[Value.ref b0] below meth c H1 locs1 83 31141 Qf (F0 m 1043 ls [])) : W p l e room_1 s m #[Value.ref b0] below meth c H locs 83 31141 Qf (F0 m 478 ls []) := by
  obtain ⟨hx, hb, -⟩ := id K
  refine lv_aload_n (i := 1) (x := b + 1) hx hb (show decode code 478 = .ok (.aload_n 1, 1) by decide +kernel) rfl (lv_at hl 2 rfl) ?_
  refine lw_arg (j := 1) K hL (by omega) hS hl (show decode code 479 = .ok (.aload_n 0, 1) by decide +kernel) (show decode code 480 = .ok (.iload_n 3, 1) by decide +kernel) (show decode code 481 = .ok (.iconst 1, 1) by decide +kernel) (show decode code 482 = .ok (.iadd, 1) by decide +kernel) (show decode code 483 = .ok (.iaload, 1) by decide +kernel) ?_
  refine lw_run (as' := [.inl (xs (4 * i + 1)).toInt]) (rest := []) K (List.mem_of_getElem? (i := 24) (show lw_tab[24]? = some (64, 17, 1, 1, 0) from rfl)) rfl (show decode code 484 = .ok (.invokevirtual 64, 3) by decide +kernel) hH hS hl (Nat.zero_le _) ⟨Nat.le_refl _, Nat.le_refl _⟩ (pr_delay (xm_in_toInt _) M hR) (fun v M1 H1 locs1 q hv hH1 hS1 => ?_)
  obtain ⟨z, rfl⟩ : ∃ z : Int, v = [.inl z] := by
    rcases hv with ⟨hk, z, hz⟩ | ⟨hk, z, hz⟩
    · first | exact ⟨z, hz⟩ | exact absurd hk (by decide)
    · first | exact ⟨z, hz⟩ | exact absurd hk (by decide)
  refine lv_aload_n (i := 2) (x := b + 50) hx hb (show decode code 487 = .ok (.aload_n 2, 1) by decide +kernel) rfl (lv_at hl 3 rfl) ?_
  refine lw_arg (j := 1) K hL (by omega) hS1 hl (show decode code 488 = .ok (.aload_n 0, 1) by decide +kernel) (show decode code 489 = .ok (.iload_n 3, 1) by decide +kernel) (show decode code 490 = .ok (.iconst 1, 1) by decide +kernel) (show decode code 491 = .ok (.iadd, 1) by decide +kernel) (show decode code 492 = .ok (.iaload, 1) by decide +kernel) ?_
  refine lw_run (as' := [.inl (xs (4 * i + 1)).toInt]) (rest := [.int (Int32.ofInt z)]) K (List.mem_of_getElem? (i := 25) (show lw_tab[25]? = some (67, 235, 50, 1, 0) from rfl)) rfl (show decode code 493 = .ok (.invokevirtual 67, 3) by decide +kernel) hH1 hS1 hl (by show 1 ≤ 8; omega) ⟨Nat.le_refl _, Nat.le_refl _⟩ q (fun w M2 H2 locs2 q2 hw hH2 hS2 => ?_)
  obtain ⟨rfl, hR2⟩ := q2
  exact lv_icmp_eq (tgt := 1043) hx hb (show decode code 496 = .ok (.if_icmp .eq 547, 3) by decide +kernel) (by decide) (fun _ => go M2 H2 locs2 hH2 hR2 hS2) (fun g => absurd rfl g)
theorem lw_case_13 {i : Nat} (K : lw_K p s m meth c b0 L xs b ak av cA D) (hL : L ≤ 2048) (hi : 4 * i + 4 ≤ L) (hH : xs_H b ak cA D true M H) (hR : R_all M) (hS : va_S (fun q => b < q) s.heap H locs) (hl : lv_has ls 4 [(3, .int (nI (4 * i))), (0, .ref b0), (1, .ref (b + 1)), (2, .ref (b + 50))])
    (go : ∀ (M' : xm_Mem) (H1 : Heap) (locs1 : List Loc), xs_H b ak cA D true M' H1 → R_all M' → va_S (fun q => b < q) s.heap H1 locs1 → W p l e room_1 s m #[Value.ref b0] below meth c H1 locs1 83 31141 Qf (F0 m 1043 ls [])) : W p l e room_1 s m #[Value.ref b0] below meth c H locs 83 31141 Qf (F0 m 501 ls []) := by
  obtain ⟨hx, hb, -⟩ := id K
  refine lv_aload_n (i := 1) (x := b + 1) hx hb (show decode code 501 = .ok (.aload_n 1, 1) by decide +kernel) rfl (lv_at hl 2 rfl) ?_
  refine lw_arg (j := 1) K hL (by omega) hS hl (show decode code 502 = .ok (.aload_n 0, 1) by decide +kernel) (show decode code 503 = .ok (.iload_n 3, 1) by decide +kernel) (show decode code 504 = .ok (.iconst 1, 1) by decide +kernel) (show decode code 505 = .ok (.iadd, 1) by decide +kernel) (show decode code 506 = .ok (.iaload, 1) by decide +kernel) ?_
  refine lw_arg (j := 2) K hL (by omega) hS hl (show decode code 507 = .ok (.aload_n 0, 1) by decide +kernel) (show decode code 508 = .ok (.iload_n 3, 1) by decide +kernel) (show decode code 509 = .ok (.iconst 2, 1) by decide +kernel) (show decode code 510 = .ok (.iadd, 1) by decide +kernel) (show decode code 511 = .ok (.iaload, 1) by decide +kernel) ?_
  refine lw_run (as' := [.inl (xs (4 * i + 1)).toInt, .inl (xs (4 * i + 2)).toInt]) (rest := []) K (List.mem_of_getElem? (i := 26) (show lw_tab[26]? = some (68, 18, 1, 2, 0) from rfl)) rfl (show decode code 512 = .ok (.invokevirtual 68, 3) by decide +kernel) hH hS hl (Nat.zero_le _) ⟨Nat.le_refl _, Nat.le_refl _⟩ (pr_under (xm_in_toInt _) (xm_in_toInt _) M hR) (fun v M1 H1 locs1 q hv hH1 hS1 => ?_)
  obtain ⟨z, rfl⟩ : ∃ z : Int, v = [.inl z] := by
    rcases hv with ⟨hk, z, hz⟩ | ⟨hk, z, hz⟩
    · first | exact ⟨z, hz⟩ | exact absurd hk (by decide)
    · first | exact ⟨z, hz⟩ | exact absurd hk (by decide)
  refine lv_aload_n (i := 2) (x := b + 50) hx hb (show decode code 515 = .ok (.aload_n 2, 1) by decide +kernel) rfl (lv_at hl 3 rfl) ?_
  refine lw_arg (j := 1) K hL (by omega) hS1 hl (show decode code 516 = .ok (.aload_n 0, 1) by decide +kernel) (show decode code 517 = .ok (.iload_n 3, 1) by decide +kernel) (show decode code 518 = .ok (.iconst 1, 1) by decide +kernel) (show decode code 519 = .ok (.iadd, 1) by decide +kernel) (show decode code 520 = .ok (.iaload, 1) by decide +kernel) ?_
  refine lw_arg (j := 2) K hL (by omega) hS1 hl (show decode code 521 = .ok (.aload_n 0, 1) by decide +kernel) (show decode code 522 = .ok (.iload_n 3, 1) by decide +kernel) (show decode code 523 = .ok (.iconst 2, 1) by decide +kernel) (show decode code 524 = .ok (.iadd, 1) by decide +kernel) (show decode code 525 = .ok (.iaload, 1) by decide +kernel) ?_
  refine lw_run (as' := [.inl (xs (4 * i + 1)).toInt, .inl (xs (4 * i + 2)).toInt]) (rest := [.int (Int32.ofInt z)]) K (List.mem_of_getElem? (i := 27) (show lw_tab[27]? = some (71, 236, 50, 2, 0) from rfl)) rfl (show decode code 526 = .ok (.invokevirtual 71, 3) by decide +kernel) hH1 hS1 hl (by show 1 ≤ 8; omega) ⟨Nat.le_refl _, Nat.le_refl _⟩ q (fun w M2 H2 locs2 q2 hw hH2 hS2 => ?_)
  obtain ⟨rfl, hR2⟩ := q2
  exact lv_icmp_eq (tgt := 1043) hx hb (show decode code 529 = .ok (.if_icmp .eq 514, 3) by decide +kernel) (by decide) (fun _ => go M2 H2 locs2 hH2 hR2 hS2) (fun g => absurd rfl g)
theorem lw_case_14 {i : Nat} (K : lw_K p s m meth c b0 L xs b ak av cA D) (hL : L ≤ 2048) (hi : 4 * i + 4 ≤ L) (hH : xs_H b ak cA D true M H) (hR : R_all M) (hS : va_S (fun q => b < q) s.heap H locs) (hl : lv_has ls 4 [(3, .int (nI (4 * i))), (0, .ref b0), (1, .ref (b + 1)), (2, .ref (b + 50))])
    (go : ∀ (M' : xm_Mem) (H1 : Heap) (locs1 : List Loc), xs_H b ak cA D true M' H1 → R_all M' → va_S (fun q => b < q) s.heap H1 locs1 → W p l e room_1 s m #[Value.ref b0] below meth c H1 locs1 83 31141 Qf (F0 m 1043 ls [])) : W p l e room_1 s m #[Value.ref b0] below meth c H locs 83 31141 Qf (F0 m 534 ls []) := by
  obtain ⟨hx, hb, -⟩ := id K
  refine lv_aload_n (i := 1) (x := b + 1) hx hb (show decode code 534 = .ok (.aload_n 1, 1) by decide +kernel) rfl (lv_at hl 2 rfl) ?_
  refine lw_arg (j := 1) K hL (by omega) hS hl (show decode code 535 = .ok (.aload_n 0, 1) by decide +kernel) (show decode code 536 = .ok (.iload_n 3, 1) by decide +kernel) (show decode code 537 = .ok (.iconst 1, 1) by decide +kernel) (show decode code 538 = .ok (.iadd, 1) by decide +kernel) (show decode code 539 = .ok (.iaload, 1) by decide +kernel) ?_
  refine lw_arg (j := 2) K hL (by omega) hS hl (show decode code 540 = .ok (.aload_n 0, 1) by decide +kernel) (show decode code 541 = .ok (.iload_n 3, 1) by decide +kernel) (show decode code 542 = .ok (.iconst 2, 1) by decide +kernel) (show decode code 543 = .ok (.iadd, 1) by decide +kernel) (show decode code 544 = .ok (.iaload, 1) by decide +kernel) ?_
  refine lw_run (as' := [.inl (xs (4 * i + 1)).toInt, .inl (xs (4 * i + 2)).toInt]) (rest := []) K (List.mem_of_getElem? (i := 28) (show lw_tab[28]? = some (72, 19, 1, 2, 1) from rfl)) rfl (show decode code 545 = .ok (.invokevirtual 72, 3) by decide +kernel) hH hS hl (Nat.zero_le _) ⟨Nat.le_refl _, Nat.le_refl _⟩ (pr_pattern (xm_in_toInt _) (xm_in_toInt _) M hR) (fun v M1 H1 locs1 q hv hH1 hS1 => ?_)
  obtain ⟨z, rfl⟩ : ∃ z : Int, v = [.inr (.inl z)] := by
    rcases hv with ⟨hk, z, hz⟩ | ⟨hk, z, hz⟩
    · first | exact ⟨z, hz⟩ | exact absurd hk (by decide)
    · first | exact ⟨z, hz⟩ | exact absurd hk (by decide)
  refine lv_aload_n (i := 2) (x := b + 50) hx hb (show decode code 548 = .ok (.aload_n 2, 1) by decide +kernel) rfl (lv_at hl 3 rfl) ?_
  refine lw_arg (j := 1) K hL (by omega) hS1 hl (show decode code 549 = .ok (.aload_n 0, 1) by decide +kernel) (show decode code 550 = .ok (.iload_n 3, 1) by decide +kernel) (show decode code 551 = .ok (.iconst 1, 1) by decide +kernel) (show decode code 552 = .ok (.iadd, 1) by decide +kernel) (show decode code 553 = .ok (.iaload, 1) by decide +kernel) ?_
  refine lw_arg (j := 2) K hL (by omega) hS1 hl (show decode code 554 = .ok (.aload_n 0, 1) by decide +kernel) (show decode code 555 = .ok (.iload_n 3, 1) by decide +kernel) (show decode code 556 = .ok (.iconst 2, 1) by decide +kernel) (show decode code 557 = .ok (.iadd, 1) by decide +kernel) (show decode code 558 = .ok (.iaload, 1) by decide +kernel) ?_
  refine lw_run (as' := [.inl (xs (4 * i + 1)).toInt, .inl (xs (4 * i + 2)).toInt]) (rest := [.long (Int64.ofInt z)]) K (List.mem_of_getElem? (i := 29) (show lw_tab[29]? = some (76, 238, 50, 2, 1) from rfl)) rfl (show decode code 559 = .ok (.invokevirtual 76, 3) by decide +kernel) hH1 hS1 hl (by show 2 ≤ 8; omega) ⟨Nat.le_refl _, Nat.le_refl _⟩ q (fun w M2 H2 locs2 q2 hw hH2 hS2 => ?_)
  obtain ⟨rfl, hR2⟩ := q2
  refine W.lcmp hx hb (show decode code 562 = .ok (.lcmp, 1) by decide +kernel) ?_
  refine lv_if_eq (tgt := 1043) hx hb (show decode code 563 = .ok (.ifCond .eq 480, 3) by decide +kernel) (by decide) (fun _ => go M2 H2 locs2 hH2 hR2 hS2) (fun g => absurd (lw_cmp_eq _) g)
theorem lw_case_15 {i : Nat} (K : lw_K p s m meth c b0 L xs b ak av cA D) (hL : L ≤ 2048) (hi : 4 * i + 4 ≤ L) (hH : xs_H b ak cA D true M H) (hR : R_all M) (hS : va_S (fun q => b < q) s.heap H locs) (hl : lv_has ls 4 [(3, .int (nI (4 * i))), (0, .ref b0), (1, .ref (b + 1)), (2, .ref (b + 50))])
    (go : ∀ (M' : xm_Mem) (H1 : Heap) (locs1 : List Loc), xs_H b ak cA D true M' H1 → R_all M' → va_S (fun q => b < q) s.heap H1 locs1 → W p l e room_1 s m #[Value.ref b0] below meth c H1 locs1 83 31141 Qf (F0 m 1043 ls [])) : W p l e room_1 s m #[Value.ref b0] below meth c H locs 83 31141 Qf (F0 m 568 ls []) := by
  obtain ⟨hx, hb, -⟩ := id K
  refine lv_aload_n (i := 1) (x := b + 1) hx hb (show decode code 568 = .ok (.aload_n 1, 1) by decide +kernel) rfl (lv_at hl 2 rfl) ?_
  refine lw_run (as' := []) (rest := []) K (List.mem_of_getElem? (i := 30) (show lw_tab[30]? = some (77, 21, 1, 0, 1) from rfl)) rfl (show decode code 569 = .ok (.invokevirtual 77, 3) by decide +kernel) hH hS hl (Nat.zero_le _) ⟨Nat.le_refl _, Nat.le_refl _⟩ (pr_forget M hR) (fun v M1 H1 locs1 q hv hH1 hS1 => ?_)
  obtain ⟨z, rfl⟩ : ∃ z : Int, v = [.inr (.inl z)] := by
    rcases hv with ⟨hk, z, hz⟩ | ⟨hk, z, hz⟩
    · first | exact ⟨z, hz⟩ | exact absurd hk (by decide)
    · first | exact ⟨z, hz⟩ | exact absurd hk (by decide)
  refine lv_aload_n (i := 2) (x := b + 50) hx hb (show decode code 572 = .ok (.aload_n 2, 1) by decide +kernel) rfl (lv_at hl 3 rfl) ?_
  refine lw_run (as' := []) (rest := [.long (Int64.ofInt z)]) K (List.mem_of_getElem? (i := 31) (show lw_tab[31]? = some (81, 239, 50, 0, 1) from rfl)) rfl (show decode code 573 = .ok (.invokevirtual 81, 3) by decide +kernel) hH1 hS1 hl (by show 2 ≤ 8; omega) ⟨Nat.le_refl _, Nat.le_refl _⟩ q (fun w M2 H2 locs2 q2 hw hH2 hS2 => ?_)
  obtain ⟨rfl, hR2⟩ := q2
  refine W.lcmp hx hb (show decode code 576 = .ok (.lcmp, 1) by decide +kernel) ?_
  refine lv_if_eq (tgt := 1043) hx hb (show decode code 577 = .ok (.ifCond .eq 466, 3) by decide +kernel) (by decide) (fun _ => go M2 H2 locs2 hH2 hR2 hS2) (fun g => absurd (lw_cmp_eq _) g)
theorem lw_case_16 {i : Nat} (K : lw_K p s m meth c b0 L xs b ak av cA D) (hL : L ≤ 2048) (hi : 4 * i + 4 ≤ L) (hH : xs_H b ak cA D true M H) (hR : R_all M) (hS : va_S (fun q => b < q) s.heap H locs) (hl : lv_has ls 4 [(3, .int (nI (4 * i))), (0, .ref b0), (1, .ref (b + 1)), (2, .ref (b + 50))])
    (go : ∀ (M' : xm_Mem) (H1 : Heap) (locs1 : List Loc), xs_H b ak cA D true M' H1 → R_all M' → va_S (fun q => b < q) s.heap H1 locs1 → W p l e room_1 s m #[Value.ref b0] below meth c H1 locs1 83 31141 Qf (F0 m 1043 ls [])) : W p l e room_1 s m #[Value.ref b0] below meth c H locs 83 31141 Qf (F0 m 582 ls []) := by
  obtain ⟨hx, hb, -⟩ := id K
  refine lv_aload_n (i := 1) (x := b + 1) hx hb (show decode code 582 = .ok (.aload_n 1, 1) by decide +kernel) rfl (lv_at hl 2 rfl) ?_
  refine lw_arg (j := 1) K hL (by omega) hS hl (show decode code 583 = .ok (.aload_n 0, 1) by decide +kernel) (show decode code 584 = .ok (.iload_n 3, 1) by decide +kernel) (show decode code 585 = .ok (.iconst 1, 1) by decide +kernel) (show decode code 586 = .ok (.iadd, 1) by decide +kernel) (show decode code 587 = .ok (.iaload, 1) by decide +kernel) ?_
  refine lw_arg (j := 2) K hL (by omega) hS hl (show decode code 588 = .ok (.aload_n 0, 1) by decide +kernel) (show decode code 589 = .ok (.iload_n 3, 1) by decide +kernel) (show decode code 590 = .ok (.iconst 2, 1) by decide +kernel) (show decode code 591 = .ok (.iadd, 1) by decide +kernel) (show decode code 592 = .ok (.iaload, 1) by decide +kernel) ?_
  refine lw_run (as' := [.inl (xs (4 * i + 1)).toInt, .inl (xs (4 * i + 2)).toInt]) (rest := []) K (List.mem_of_getElem? (i := 32) (show lw_tab[32]? = some (82, 22, 1, 2, 0) from rfl)) rfl (show decode code 593 = .ok (.invokevirtual 82, 3) by decide +kernel) hH hS hl (Nat.zero_le _) ⟨Nat.le_refl _, Nat.le_refl _⟩ (pr_trust (xm_in_toInt _) (xm_in_toInt _) M hR) (fun v M1 H1 locs1 q hv hH1 hS1 => ?_)
  obtain ⟨z, rfl⟩ : ∃ z : Int, v = [.inl z] := by
    rcases hv with ⟨hk, z, hz⟩ | ⟨hk, z, hz⟩
    · first | exact ⟨z, hz⟩ | exact absurd hk (by decide)
    · first | exact ⟨z, hz⟩ | exact absurd hk (by decide)
  refine lv_aload_n (i := 2) (x := b + 50) hx hb (show decode code 596 = .ok (.aload_n 2, 1) by decide +kernel) rfl (lv_at hl 3 rfl) ?_
  refine lw_arg (j := 1) K hL (by omega) hS1 hl (show decode code 597 = .ok (.aload_n 0, 1) by decide +kernel) (show decode code 598 = .ok (.iload_n 3, 1) by decide +kernel) (show decode code 599 = .ok (.iconst 1, 1) by decide +kernel) (show decode code 600 = .ok (.iadd, 1) by decide +kernel) (show decode code 601 = .ok (.iaload, 1) by decide +kernel) ?_
  refine lw_arg (j := 2) K hL (by omega) hS1 hl (show decode code 602 = .ok (.aload_n 0, 1) by decide +kernel) (show decode code 603 = .ok (.iload_n 3, 1) by decide +kernel) (show decode code 604 = .ok (.iconst 2, 1) by decide +kernel) (show decode code 605 = .ok (.iadd, 1) by decide +kernel) (show decode code 606 = .ok (.iaload, 1) by decide +kernel) ?_
  refine lw_run (as' := [.inl (xs (4 * i + 1)).toInt, .inl (xs (4 * i + 2)).toInt]) (rest := [.int (Int32.ofInt z)]) K (List.mem_of_getElem? (i := 33) (show lw_tab[33]? = some (85, 240, 50, 2, 0) from rfl)) rfl (show decode code 607 = .ok (.invokevirtual 85, 3) by decide +kernel) hH1 hS1 hl (by show 1 ≤ 8; omega) ⟨Nat.le_refl _, Nat.le_refl _⟩ q (fun w M2 H2 locs2 q2 hw hH2 hS2 => ?_)
  obtain ⟨rfl, hR2⟩ := q2
  exact lv_icmp_eq (tgt := 1043) hx hb (show decode code 610 = .ok (.if_icmp .eq 433, 3) by decide +kernel) (by decide) (fun _ => go M2 H2 locs2 hH2 hR2 hS2) (fun g => absurd rfl g)
theorem lw_case_17 {i : Nat} (K : lw_K p s m meth c b0 L xs b ak av cA D) (hL : L ≤ 2048) (hi : 4 * i + 4 ≤ L) (hH : xs_H b ak cA D true M H) (hR : R_all M) (hS : va_S (fun q => b < q) s.heap H locs) (hl : lv_has ls 4 [(3, .int (nI (4 * i))), (0, .ref b0), (1, .ref (b + 1)), (2, .ref (b + 50))])
    (go : ∀ (M' : xm_Mem) (H1 : Heap) (locs1 : List Loc), xs_H b ak cA D true M' H1 → R_all M' → va_S (fun q => b < q) s.heap H1 locs1 → W p l e room_1 s m #[Value.ref b0] below meth c H1 locs1 83 31141 Qf (F0 m 1043 ls [])) : W p l e room_1 s m #[Value.ref b0] below meth c H locs 83 31141 Qf (F0 m 615 ls []) := by
  obtain ⟨hx, hb, -⟩ := id K
  refine lv_aload_n (i := 1) (x := b + 1) hx hb (show decode code 615 = .ok (.aload_n 1, 1) by decide +kernel) rfl (lv_at hl 2 rfl) ?_
  refine lw_arg (j := 1) K hL (by omega) hS hl (show decode code 616 = .ok (.aload_n 0, 1) by decide +kernel) (show decode code 617 = .ok (.iload_n 3, 1) by decide +kernel) (show decode code 618 = .ok (.iconst 1, 1) by decide +kernel) (show decode code 619 = .ok (.iadd, 1) by decide +kernel) (show decode code 620 = .ok (.iaload, 1) by decide +kernel) ?_
  refine lw_run (as' := [.inl (xs (4 * i + 1)).toInt]) (rest := []) K (List.mem_of_getElem? (i := 34) (show lw_tab[34]? = some (86, 24, 1, 1, 0) from rfl)) rfl (show decode code 621 = .ok (.invokevirtual 86, 3) by decide +kernel) hH hS hl (Nat.zero_le _) ⟨Nat.le_refl _, Nat.le_refl _⟩ (pr_agrees (xm_in_toInt _) M hR) (fun v M1 H1 locs1 q hv hH1 hS1 => ?_)
  obtain ⟨z, rfl⟩ : ∃ z : Int, v = [.inl z] := by
    rcases hv with ⟨hk, z, hz⟩ | ⟨hk, z, hz⟩
    · first | exact ⟨z, hz⟩ | exact absurd hk (by decide)
    · first | exact ⟨z, hz⟩ | exact absurd hk (by decide)
  refine lv_aload_n (i := 2) (x := b + 50) hx hb (show decode code 624 = .ok (.aload_n 2, 1) by decide +kernel) rfl (lv_at hl 3 rfl) ?_
  refine lw_arg (j := 1) K hL (by omega) hS1 hl (show decode code 625 = .ok (.aload_n 0, 1) by decide +kernel) (show decode code 626 = .ok (.iload_n 3, 1) by decide +kernel) (show decode code 627 = .ok (.iconst 1, 1) by decide +kernel) (show decode code 628 = .ok (.iadd, 1) by decide +kernel) (show decode code 629 = .ok (.iaload, 1) by decide +kernel) ?_
  refine lw_run (as' := [.inl (xs (4 * i + 1)).toInt]) (rest := [.int (Int32.ofInt z)]) K (List.mem_of_getElem? (i := 35) (show lw_tab[35]? = some (89, 243, 50, 1, 0) from rfl)) rfl (show decode code 630 = .ok (.invokevirtual 89, 3) by decide +kernel) hH1 hS1 hl (by show 1 ≤ 8; omega) ⟨Nat.le_refl _, Nat.le_refl _⟩ q (fun w M2 H2 locs2 q2 hw hH2 hS2 => ?_)
  obtain ⟨rfl, hR2⟩ := q2
  exact lv_icmp_eq (tgt := 1043) hx hb (show decode code 633 = .ok (.if_icmp .eq 410, 3) by decide +kernel) (by decide) (fun _ => go M2 H2 locs2 hH2 hR2 hS2) (fun g => absurd rfl g)
theorem lw_case_18 {i : Nat} (K : lw_K p s m meth c b0 L xs b ak av cA D) (hL : L ≤ 2048) (hi : 4 * i + 4 ≤ L) (hH : xs_H b ak cA D true M H) (hR : R_all M) (hS : va_S (fun q => b < q) s.heap H locs) (hl : lv_has ls 4 [(3, .int (nI (4 * i))), (0, .ref b0), (1, .ref (b + 1)), (2, .ref (b + 50))])
    (go : ∀ (M' : xm_Mem) (H1 : Heap) (locs1 : List Loc), xs_H b ak cA D true M' H1 → R_all M' → va_S (fun q => b < q) s.heap H1 locs1 → W p l e room_1 s m #[Value.ref b0] below meth c H1 locs1 83 31141 Qf (F0 m 1043 ls [])) : W p l e room_1 s m #[Value.ref b0] below meth c H locs 83 31141 Qf (F0 m 638 ls []) := by
  obtain ⟨hx, hb, -⟩ := id K
  refine lv_aload_n (i := 1) (x := b + 1) hx hb (show decode code 638 = .ok (.aload_n 1, 1) by decide +kernel) rfl (lv_at hl 2 rfl) ?_
  refine lw_arg (j := 1) K hL (by omega) hS hl (show decode code 639 = .ok (.aload_n 0, 1) by decide +kernel) (show decode code 640 = .ok (.iload_n 3, 1) by decide +kernel) (show decode code 641 = .ok (.iconst 1, 1) by decide +kernel) (show decode code 642 = .ok (.iadd, 1) by decide +kernel) (show decode code 643 = .ok (.iaload, 1) by decide +kernel) ?_
  refine lw_arg (j := 2) K hL (by omega) hS hl (show decode code 644 = .ok (.aload_n 0, 1) by decide +kernel) (show decode code 645 = .ok (.iload_n 3, 1) by decide +kernel) (show decode code 646 = .ok (.iconst 2, 1) by decide +kernel) (show decode code 647 = .ok (.iadd, 1) by decide +kernel) (show decode code 648 = .ok (.iaload, 1) by decide +kernel) ?_
  refine lw_run (as' := [.inl (xs (4 * i + 1)).toInt, .inl (xs (4 * i + 2)).toInt]) (rest := []) K (List.mem_of_getElem? (i := 36) (show lw_tab[36]? = some (90, 25, 1, 2, 1) from rfl)) rfl (show decode code 649 = .ok (.invokevirtual 90, 3) by decide +kernel) hH hS hl (Nat.zero_le _) ⟨Nat.le_refl _, Nat.le_refl _⟩ (pr_estimate (xm_in_toInt _) (xm_in_toInt _) M hR) (fun v M1 H1 locs1 q hv hH1 hS1 => ?_)
  obtain ⟨z, rfl⟩ : ∃ z : Int, v = [.inr (.inl z)] := by
    rcases hv with ⟨hk, z, hz⟩ | ⟨hk, z, hz⟩
    · first | exact ⟨z, hz⟩ | exact absurd hk (by decide)
    · first | exact ⟨z, hz⟩ | exact absurd hk (by decide)
  refine lv_aload_n (i := 2) (x := b + 50) hx hb (show decode code 652 = .ok (.aload_n 2, 1) by decide +kernel) rfl (lv_at hl 3 rfl) ?_
  refine lw_arg (j := 1) K hL (by omega) hS1 hl (show decode code 653 = .ok (.aload_n 0, 1) by decide +kernel) (show decode code 654 = .ok (.iload_n 3, 1) by decide +kernel) (show decode code 655 = .ok (.iconst 1, 1) by decide +kernel) (show decode code 656 = .ok (.iadd, 1) by decide +kernel) (show decode code 657 = .ok (.iaload, 1) by decide +kernel) ?_
  refine lw_arg (j := 2) K hL (by omega) hS1 hl (show decode code 658 = .ok (.aload_n 0, 1) by decide +kernel) (show decode code 659 = .ok (.iload_n 3, 1) by decide +kernel) (show decode code 660 = .ok (.iconst 2, 1) by decide +kernel) (show decode code 661 = .ok (.iadd, 1) by decide +kernel) (show decode code 662 = .ok (.iaload, 1) by decide +kernel) ?_
  refine lw_run (as' := [.inl (xs (4 * i + 1)).toInt, .inl (xs (4 * i + 2)).toInt]) (rest := [.long (Int64.ofInt z)]) K (List.mem_of_getElem? (i := 37) (show lw_tab[37]? = some (93, 249, 50, 2, 1) from rfl)) rfl (show decode code 663 = .ok (.invokevirtual 93, 3) by decide +kernel) hH1 hS1 hl (by show 2 ≤ 8; omega) ⟨Nat.le_refl _, Nat.le_refl _⟩ q (fun w M2 H2 locs2 q2 hw hH2 hS2 => ?_)
  obtain ⟨rfl, hR2⟩ := q2
  refine W.lcmp hx hb (show decode code 666 = .ok (.lcmp, 1) by decide +kernel) ?_
  refine lv_if_eq (tgt := 1043) hx hb (show decode code 667 = .ok (.ifCond .eq 376, 3) by decide +kernel) (by decide) (fun _ => go M2 H2 locs2 hH2 hR2 hS2) (fun g => absurd (lw_cmp_eq _) g)
theorem lw_case_19 {i : Nat} (K : lw_K p s m meth c b0 L xs b ak av cA D) (hL : L ≤ 2048) (hi : 4 * i + 4 ≤ L) (hH : xs_H b ak cA D true M H) (hR : R_all M) (hS : va_S (fun q => b < q) s.heap H locs) (hl : lv_has ls 4 [(3, .int (nI (4 * i))), (0, .ref b0), (1, .ref (b + 1)), (2, .ref (b + 50))])
    (go : ∀ (M' : xm_Mem) (H1 : Heap) (locs1 : List Loc), xs_H b ak cA D true M' H1 → R_all M' → va_S (fun q => b < q) s.heap H1 locs1 → W p l e room_1 s m #[Value.ref b0] below meth c H1 locs1 83 31141 Qf (F0 m 1043 ls [])) : W p l e room_1 s m #[Value.ref b0] below meth c H locs 83 31141 Qf (F0 m 672 ls []) := by
  obtain ⟨hx, hb, -⟩ := id K
  refine lv_aload_n (i := 1) (x := b + 1) hx hb (show decode code 672 = .ok (.aload_n 1, 1) by decide +kernel) rfl (lv_at hl 2 rfl) ?_
  refine lw_arg (j := 1) K hL (by omega) hS hl (show decode code 673 = .ok (.aload_n 0, 1) by decide +kernel) (show decode code 674 = .ok (.iload_n 3, 1) by decide +kernel) (show decode code 675 = .ok (.iconst 1, 1) by decide +kernel) (show decode code 676 = .ok (.iadd, 1) by decide +kernel) (show decode code 677 = .ok (.iaload, 1) by decide +kernel) ?_
  refine lw_arg (j := 2) K hL (by omega) hS hl (show decode code 678 = .ok (.aload_n 0, 1) by decide +kernel) (show decode code 679 = .ok (.iload_n 3, 1) by decide +kernel) (show decode code 680 = .ok (.iconst 2, 1) by decide +kernel) (show decode code 681 = .ok (.iadd, 1) by decide +kernel) (show decode code 682 = .ok (.iaload, 1) by decide +kernel) ?_
  refine lw_run (as' := [.inl (xs (4 * i + 1)).toInt, .inl (xs (4 * i + 2)).toInt]) (rest := []) K (List.mem_of_getElem? (i := 38) (show lw_tab[38]? = some (94, 26, 1, 2, 1) from rfl)) rfl (show decode code 683 = .ok (.invokevirtual 94, 3) by decide +kernel) hH hS hl (Nat.zero_le _) ⟨Nat.le_refl _, Nat.le_refl _⟩ (pr_truth (xm_in_toInt _) (xm_in_toInt _) M hR) (fun v M1 H1 locs1 q hv hH1 hS1 => ?_)
  obtain ⟨z, rfl⟩ : ∃ z : Int, v = [.inr (.inl z)] := by
    rcases hv with ⟨hk, z, hz⟩ | ⟨hk, z, hz⟩
    · first | exact ⟨z, hz⟩ | exact absurd hk (by decide)
    · first | exact ⟨z, hz⟩ | exact absurd hk (by decide)
  refine lv_aload_n (i := 2) (x := b + 50) hx hb (show decode code 686 = .ok (.aload_n 2, 1) by decide +kernel) rfl (lv_at hl 3 rfl) ?_
  refine lw_arg (j := 1) K hL (by omega) hS1 hl (show decode code 687 = .ok (.aload_n 0, 1) by decide +kernel) (show decode code 688 = .ok (.iload_n 3, 1) by decide +kernel) (show decode code 689 = .ok (.iconst 1, 1) by decide +kernel) (show decode code 690 = .ok (.iadd, 1) by decide +kernel) (show decode code 691 = .ok (.iaload, 1) by decide +kernel) ?_
  refine lw_arg (j := 2) K hL (by omega) hS1 hl (show decode code 692 = .ok (.aload_n 0, 1) by decide +kernel) (show decode code 693 = .ok (.iload_n 3, 1) by decide +kernel) (show decode code 694 = .ok (.iconst 2, 1) by decide +kernel) (show decode code 695 = .ok (.iadd, 1) by decide +kernel) (show decode code 696 = .ok (.iaload, 1) by decide +kernel) ?_
  refine lw_run (as' := [.inl (xs (4 * i + 1)).toInt, .inl (xs (4 * i + 2)).toInt]) (rest := [.long (Int64.ofInt z)]) K (List.mem_of_getElem? (i := 39) (show lw_tab[39]? = some (97, 251, 50, 2, 1) from rfl)) rfl (show decode code 697 = .ok (.invokevirtual 97, 3) by decide +kernel) hH1 hS1 hl (by show 2 ≤ 8; omega) ⟨Nat.le_refl _, Nat.le_refl _⟩ q (fun w M2 H2 locs2 q2 hw hH2 hS2 => ?_)
  obtain ⟨rfl, hR2⟩ := q2
  refine W.lcmp hx hb (show decode code 700 = .ok (.lcmp, 1) by decide +kernel) ?_
  refine lv_if_eq (tgt := 1043) hx hb (show decode code 701 = .ok (.ifCond .eq 342, 3) by decide +kernel) (by decide) (fun _ => go M2 H2 locs2 hH2 hR2 hS2) (fun g => absurd (lw_cmp_eq _) g)
theorem lw_case_20 {i : Nat} (K : lw_K p s m meth c b0 L xs b ak av cA D) (hL : L ≤ 2048) (hi : 4 * i + 4 ≤ L) (hH : xs_H b ak cA D true M H) (hR : R_all M) (hS : va_S (fun q => b < q) s.heap H locs) (hl : lv_has ls 4 [(3, .int (nI (4 * i))), (0, .ref b0), (1, .ref (b + 1)), (2, .ref (b + 50))])
    (go : ∀ (M' : xm_Mem) (H1 : Heap) (locs1 : List Loc), xs_H b ak cA D true M' H1 → R_all M' → va_S (fun q => b < q) s.heap H1 locs1 → W p l e room_1 s m #[Value.ref b0] below meth c H1 locs1 83 31141 Qf (F0 m 1043 ls [])) : W p l e room_1 s m #[Value.ref b0] below meth c H locs 83 31141 Qf (F0 m 706 ls []) := by
  obtain ⟨hx, hb, -⟩ := id K
  refine lv_aload_n (i := 1) (x := b + 1) hx hb (show decode code 706 = .ok (.aload_n 1, 1) by decide +kernel) rfl (lv_at hl 2 rfl) ?_
  refine lw_arg (j := 1) K hL (by omega) hS hl (show decode code 707 = .ok (.aload_n 0, 1) by decide +kernel) (show decode code 708 = .ok (.iload_n 3, 1) by decide +kernel) (show decode code 709 = .ok (.iconst 1, 1) by decide +kernel) (show decode code 710 = .ok (.iadd, 1) by decide +kernel) (show decode code 711 = .ok (.iaload, 1) by decide +kernel) ?_
  refine lw_run (as' := [.inl (xs (4 * i + 1)).toInt]) (rest := []) K (List.mem_of_getElem? (i := 40) (show lw_tab[40]? = some (98, 31, 1, 1, 0) from rfl)) rfl (show decode code 712 = .ok (.invokevirtual 98, 3) by decide +kernel) hH hS hl (Nat.zero_le _) ⟨Nat.le_refl _, Nat.le_refl _⟩ (pr_state (xm_in_toInt _) M hR) (fun v M1 H1 locs1 q hv hH1 hS1 => ?_)
  obtain ⟨z, rfl⟩ : ∃ z : Int, v = [.inl z] := by
    rcases hv with ⟨hk, z, hz⟩ | ⟨hk, z, hz⟩
    · first | exact ⟨z, hz⟩ | exact absurd hk (by decide)
    · first | exact ⟨z, hz⟩ | exact absurd hk (by decide)
  refine lv_aload_n (i := 2) (x := b + 50) hx hb (show decode code 715 = .ok (.aload_n 2, 1) by decide +kernel) rfl (lv_at hl 3 rfl) ?_
  refine lw_arg (j := 1) K hL (by omega) hS1 hl (show decode code 716 = .ok (.aload_n 0, 1) by decide +kernel) (show decode code 717 = .ok (.iload_n 3, 1) by decide +kernel) (show decode code 718 = .ok (.iconst 1, 1) by decide +kernel) (show decode code 719 = .ok (.iadd, 1) by decide +kernel) (show decode code 720 = .ok (.iaload, 1) by decide +kernel) ?_
  refine lw_run (as' := [.inl (xs (4 * i + 1)).toInt]) (rest := [.int (Int32.ofInt z)]) K (List.mem_of_getElem? (i := 41) (show lw_tab[41]? = some (101, 252, 50, 1, 0) from rfl)) rfl (show decode code 721 = .ok (.invokevirtual 101, 3) by decide +kernel) hH1 hS1 hl (by show 1 ≤ 8; omega) ⟨Nat.le_refl _, Nat.le_refl _⟩ q (fun w M2 H2 locs2 q2 hw hH2 hS2 => ?_)
  obtain ⟨rfl, hR2⟩ := q2
  exact lv_icmp_eq (tgt := 1043) hx hb (show decode code 724 = .ok (.if_icmp .eq 319, 3) by decide +kernel) (by decide) (fun _ => go M2 H2 locs2 hH2 hR2 hS2) (fun g => absurd rfl g)
theorem lw_case_21 {i : Nat} (K : lw_K p s m meth c b0 L xs b ak av cA D) (hL : L ≤ 2048) (hi : 4 * i + 4 ≤ L) (hH : xs_H b ak cA D true M H) (hR : R_all M) (hS : va_S (fun q => b < q) s.heap H locs) (hl : lv_has ls 4 [(3, .int (nI (4 * i))), (0, .ref b0), (1, .ref (b + 1)), (2, .ref (b + 50))])
    (go : ∀ (M' : xm_Mem) (H1 : Heap) (locs1 : List Loc), xs_H b ak cA D true M' H1 → R_all M' → va_S (fun q => b < q) s.heap H1 locs1 → W p l e room_1 s m #[Value.ref b0] below meth c H1 locs1 83 31141 Qf (F0 m 1043 ls [])) : W p l e room_1 s m #[Value.ref b0] below meth c H locs 83 31141 Qf (F0 m 729 ls []) := by
  obtain ⟨hx, hb, -⟩ := id K
  refine lv_aload_n (i := 1) (x := b + 1) hx hb (show decode code 729 = .ok (.aload_n 1, 1) by decide +kernel) rfl (lv_at hl 2 rfl) ?_
  refine lw_arg (j := 1) K hL (by omega) hS hl (show decode code 730 = .ok (.aload_n 0, 1) by decide +kernel) (show decode code 731 = .ok (.iload_n 3, 1) by decide +kernel) (show decode code 732 = .ok (.iconst 1, 1) by decide +kernel) (show decode code 733 = .ok (.iadd, 1) by decide +kernel) (show decode code 734 = .ok (.iaload, 1) by decide +kernel) ?_
  refine lw_arg (j := 2) K hL (by omega) hS hl (show decode code 735 = .ok (.aload_n 0, 1) by decide +kernel) (show decode code 736 = .ok (.iload_n 3, 1) by decide +kernel) (show decode code 737 = .ok (.iconst 2, 1) by decide +kernel) (show decode code 738 = .ok (.iadd, 1) by decide +kernel) (show decode code 739 = .ok (.iaload, 1) by decide +kernel) ?_
  refine lw_arg (j := 3) K hL (by omega) hS hl (show decode code 740 = .ok (.aload_n 0, 1) by decide +kernel) (show decode code 741 = .ok (.iload_n 3, 1) by decide +kernel) (show decode code 742 = .ok (.iconst 3, 1) by decide +kernel) (show decode code 743 = .ok (.iadd, 1) by decide +kernel) (show decode code 744 = .ok (.iaload, 1) by decide +kernel) ?_
  refine lw_run (as' := [.inl (xs (4 * i + 1)).toInt, .inl (xs (4 * i + 2)).toInt, .inl (xs (4 * i + 3)).toInt]) (rest := []) K (List.mem_of_getElem? (i := 42) (show lw_tab[42]? = some (102, 32, 1, 3, 0) from rfl)) rfl (show decode code 745 = .ok (.invokevirtual 102, 3) by decide +kernel) hH hS hl (Nat.zero_le _) ⟨Nat.le_refl _, Nat.le_refl _⟩ (pr_weight (xm_in_toInt _) (xm_in_toInt _) (xm_in_toInt _) M hR) (fun v M1 H1 locs1 q hv hH1 hS1 => ?_)
  obtain ⟨z, rfl⟩ : ∃ z : Int, v = [.inl z] := by
    rcases hv with ⟨hk, z, hz⟩ | ⟨hk, z, hz⟩
    · first | exact ⟨z, hz⟩ | exact absurd hk (by decide)
    · first | exact ⟨z, hz⟩ | exact absurd hk (by decide)
  refine lv_aload_n (i := 2) (x := b + 50) hx hb (show decode code 748 = .ok (.aload_n 2, 1) by decide +kernel) rfl (lv_at hl 3 rfl) ?_
  refine lw_arg (j := 1) K hL (by omega) hS1 hl (show decode code 749 = .ok (.aload_n 0, 1) by decide +kernel) (show decode code 750 = .ok (.iload_n 3, 1) by decide +kernel) (show decode code 751 = .ok (.iconst 1, 1) by decide +kernel) (show decode code 752 = .ok (.iadd, 1) by decide +kernel) (show decode code 753 = .ok (.iaload, 1) by decide +kernel) ?_
  refine lw_arg (j := 2) K hL (by omega) hS1 hl (show decode code 754 = .ok (.aload_n 0, 1) by decide +kernel) (show decode code 755 = .ok (.iload_n 3, 1) by decide +kernel) (show decode code 756 = .ok (.iconst 2, 1) by decide +kernel) (show decode code 757 = .ok (.iadd, 1) by decide +kernel) (show decode code 758 = .ok (.iaload, 1) by decide +kernel) ?_
  refine lw_arg (j := 3) K hL (by omega) hS1 hl (show decode code 759 = .ok (.aload_n 0, 1) by decide +kernel) (show decode code 760 = .ok (.iload_n 3, 1) by decide +kernel) (show decode code 761 = .ok (.iconst 3, 1) by decide +kernel) (show decode code 762 = .ok (.iadd, 1) by decide +kernel) (show decode code 763 = .ok (.iaload, 1) by decide +kernel) ?_
  refine lw_run (as' := [.inl (xs (4 * i + 1)).toInt, .inl (xs (4 * i + 2)).toInt, .inl (xs (4 * i + 3)).toInt]) (rest := [.int (Int32.ofInt z)]) K (List.mem_of_getElem? (i := 43) (show lw_tab[43]? = some (106, 254, 50, 3, 0) from rfl)) rfl (show decode code 764 = .ok (.invokevirtual 106, 3) by decide +kernel) hH1 hS1 hl (by show 1 ≤ 8; omega) ⟨Nat.le_refl _, Nat.le_refl _⟩ q (fun w M2 H2 locs2 q2 hw hH2 hS2 => ?_)
  obtain ⟨rfl, hR2⟩ := q2
  exact lv_icmp_eq (tgt := 1043) hx hb (show decode code 767 = .ok (.if_icmp .eq 276, 3) by decide +kernel) (by decide) (fun _ => go M2 H2 locs2 hH2 hR2 hS2) (fun g => absurd rfl g)
theorem lw_case_22 {i : Nat} (K : lw_K p s m meth c b0 L xs b ak av cA D) (hL : L ≤ 2048) (hi : 4 * i + 4 ≤ L) (hH : xs_H b ak cA D true M H) (hR : R_all M) (hS : va_S (fun q => b < q) s.heap H locs) (hl : lv_has ls 4 [(3, .int (nI (4 * i))), (0, .ref b0), (1, .ref (b + 1)), (2, .ref (b + 50))])
    (go : ∀ (M' : xm_Mem) (H1 : Heap) (locs1 : List Loc), xs_H b ak cA D true M' H1 → R_all M' → va_S (fun q => b < q) s.heap H1 locs1 → W p l e room_1 s m #[Value.ref b0] below meth c H1 locs1 83 31141 Qf (F0 m 1043 ls [])) : W p l e room_1 s m #[Value.ref b0] below meth c H locs 83 31141 Qf (F0 m 772 ls []) := by
  obtain ⟨hx, hb, -⟩ := id K
  refine lv_aload_n (i := 1) (x := b + 1) hx hb (show decode code 772 = .ok (.aload_n 1, 1) by decide +kernel) rfl (lv_at hl 2 rfl) ?_
  refine lw_run (as' := []) (rest := []) K (List.mem_of_getElem? (i := 44) (show lw_tab[44]? = some (107, 33, 1, 0, 0) from rfl)) rfl (show decode code 773 = .ok (.invokevirtual 107, 3) by decide +kernel) hH hS hl (Nat.zero_le _) ⟨Nat.le_refl _, Nat.le_refl _⟩ (pr_empty M hR) (fun v M1 H1 locs1 q hv hH1 hS1 => ?_)
  obtain ⟨z, rfl⟩ : ∃ z : Int, v = [.inl z] := by
    rcases hv with ⟨hk, z, hz⟩ | ⟨hk, z, hz⟩
    · first | exact ⟨z, hz⟩ | exact absurd hk (by decide)
    · first | exact ⟨z, hz⟩ | exact absurd hk (by decide)
  refine lv_aload_n (i := 2) (x := b + 50) hx hb (show decode code 776 = .ok (.aload_n 2, 1) by decide +kernel) rfl (lv_at hl 3 rfl) ?_
  refine lw_run (as' := []) (rest := [.int (Int32.ofInt z)]) K (List.mem_of_getElem? (i := 45) (show lw_tab[45]? = some (110, 255, 50, 0, 0) from rfl)) rfl (show decode code 777 = .ok (.invokevirtual 110, 3) by decide +kernel) hH1 hS1 hl (by show 1 ≤ 8; omega) ⟨Nat.le_refl _, Nat.le_refl _⟩ q (fun w M2 H2 locs2 q2 hw hH2 hS2 => ?_)
  obtain ⟨rfl, hR2⟩ := q2
  exact lv_icmp_eq (tgt := 1043) hx hb (show decode code 780 = .ok (.if_icmp .eq 263, 3) by decide +kernel) (by decide) (fun _ => go M2 H2 locs2 hH2 hR2 hS2) (fun g => absurd rfl g)
theorem lw_case_23 {i : Nat} (K : lw_K p s m meth c b0 L xs b ak av cA D) (hL : L ≤ 2048) (hi : 4 * i + 4 ≤ L) (hH : xs_H b ak cA D true M H) (hR : R_all M) (hS : va_S (fun q => b < q) s.heap H locs) (hl : lv_has ls 4 [(3, .int (nI (4 * i))), (0, .ref b0), (1, .ref (b + 1)), (2, .ref (b + 50))])
    (go : ∀ (M' : xm_Mem) (H1 : Heap) (locs1 : List Loc), xs_H b ak cA D true M' H1 → R_all M' → va_S (fun q => b < q) s.heap H1 locs1 → W p l e room_1 s m #[Value.ref b0] below meth c H1 locs1 83 31141 Qf (F0 m 1043 ls [])) : W p l e room_1 s m #[Value.ref b0] below meth c H locs 83 31141 Qf (F0 m 785 ls []) := by
  obtain ⟨hx, hb, -⟩ := id K
  refine lv_aload_n (i := 1) (x := b + 1) hx hb (show decode code 785 = .ok (.aload_n 1, 1) by decide +kernel) rfl (lv_at hl 2 rfl) ?_
  refine lw_arg (j := 1) K hL (by omega) hS hl (show decode code 786 = .ok (.aload_n 0, 1) by decide +kernel) (show decode code 787 = .ok (.iload_n 3, 1) by decide +kernel) (show decode code 788 = .ok (.iconst 1, 1) by decide +kernel) (show decode code 789 = .ok (.iadd, 1) by decide +kernel) (show decode code 790 = .ok (.iaload, 1) by decide +kernel) ?_
  refine lw_arg (j := 2) K hL (by omega) hS hl (show decode code 791 = .ok (.aload_n 0, 1) by decide +kernel) (show decode code 792 = .ok (.iload_n 3, 1) by decide +kernel) (show decode code 793 = .ok (.iconst 2, 1) by decide +kernel) (show decode code 794 = .ok (.iadd, 1) by decide +kernel) (show decode code 795 = .ok (.iaload, 1) by decide +kernel) ?_
  refine lw_run (as' := [.inl (xs (4 * i + 1)).toInt, .inl (xs (4 * i + 2)).toInt]) (rest := []) K (List.mem_of_getElem? (i := 46) (show lw_tab[46]? = some (111, 34, 1, 2, 1) from rfl)) rfl (show decode code 796 = .ok (.invokevirtual 111, 3) by decide +kernel) hH hS hl (Nat.zero_le _) ⟨Nat.le_refl _, Nat.le_refl _⟩ (pr_share (xm_in_toInt _) (xm_in_toInt _) M hR) (fun v M1 H1 locs1 q hv hH1 hS1 => ?_)
  obtain ⟨z, rfl⟩ : ∃ z : Int, v = [.inr (.inl z)] := by
    rcases hv with ⟨hk, z, hz⟩ | ⟨hk, z, hz⟩
    · first | exact ⟨z, hz⟩ | exact absurd hk (by decide)
    · first | exact ⟨z, hz⟩ | exact absurd hk (by decide)
  refine lv_aload_n (i := 2) (x := b + 50) hx hb (show decode code 799 = .ok (.aload_n 2, 1) by decide +kernel) rfl (lv_at hl 3 rfl) ?_
  refine lw_arg (j := 1) K hL (by omega) hS1 hl (show decode code 800 = .ok (.aload_n 0, 1) by decide +kernel) (show decode code 801 = .ok (.iload_n 3, 1) by decide +kernel) (show decode code 802 = .ok (.iconst 1, 1) by decide +kernel) (show decode code 803 = .ok (.iadd, 1) by decide +kernel) (show decode code 804 = .ok (.iaload, 1) by decide +kernel) ?_
  refine lw_arg (j := 2) K hL (by omega) hS1 hl (show decode code 805 = .ok (.aload_n 0, 1) by decide +kernel) (show decode code 806 = .ok (.iload_n 3, 1) by decide +kernel) (show decode code 807 = .ok (.iconst 2, 1) by decide +kernel) (show decode code 808 = .ok (.iadd, 1) by decide +kernel) (show decode code 809 = .ok (.iaload, 1) by decide +kernel) ?_
  refine lw_run (as' := [.inl (xs (4 * i + 1)).toInt, .inl (xs (4 * i + 2)).toInt]) (rest := [.long (Int64.ofInt z)]) K (List.mem_of_getElem? (i := 47) (show lw_tab[47]? = some (114, 261, 50, 2, 1) from rfl)) rfl (show decode code 810 = .ok (.invokevirtual 114, 3) by decide +kernel) hH1 hS1 hl (by show 2 ≤ 8; omega) ⟨Nat.le_refl _, Nat.le_refl _⟩ q (fun w M2 H2 locs2 q2 hw hH2 hS2 => ?_)
  obtain ⟨rfl, hR2⟩ := q2
  refine W.lcmp hx hb (show decode code 813 = .ok (.lcmp, 1) by decide +kernel) ?_
  refine lv_if_eq (tgt := 1043) hx hb (show decode code 814 = .ok (.ifCond .eq 229, 3) by decide +kernel) (by decide) (fun _ => go M2 H2 locs2 hH2 hR2 hS2) (fun g => absurd (lw_cmp_eq _) g)
theorem lw_case_24 {i : Nat} (K : lw_K p s m meth c b0 L xs b ak av cA D) (hL : L ≤ 2048) (hi : 4 * i + 4 ≤ L) (hH : xs_H b ak cA D true M H) (hR : R_all M) (hS : va_S (fun q => b < q) s.heap H locs) (hl : lv_has ls 4 [(3, .int (nI (4 * i))), (0, .ref b0), (1, .ref (b + 1)), (2, .ref (b + 50))])
    (go : ∀ (M' : xm_Mem) (H1 : Heap) (locs1 : List Loc), xs_H b ak cA D true M' H1 → R_all M' → va_S (fun q => b < q) s.heap H1 locs1 → W p l e room_1 s m #[Value.ref b0] below meth c H1 locs1 83 31141 Qf (F0 m 1043 ls [])) : W p l e room_1 s m #[Value.ref b0] below meth c H locs 83 31141 Qf (F0 m 819 ls []) := by
  obtain ⟨hx, hb, -⟩ := id K
  refine lv_aload_n (i := 1) (x := b + 1) hx hb (show decode code 819 = .ok (.aload_n 1, 1) by decide +kernel) rfl (lv_at hl 2 rfl) ?_
  refine lw_arg (j := 1) K hL (by omega) hS hl (show decode code 820 = .ok (.aload_n 0, 1) by decide +kernel) (show decode code 821 = .ok (.iload_n 3, 1) by decide +kernel) (show decode code 822 = .ok (.iconst 1, 1) by decide +kernel) (show decode code 823 = .ok (.iadd, 1) by decide +kernel) (show decode code 824 = .ok (.iaload, 1) by decide +kernel) ?_
  refine lw_arg (j := 2) K hL (by omega) hS hl (show decode code 825 = .ok (.aload_n 0, 1) by decide +kernel) (show decode code 826 = .ok (.iload_n 3, 1) by decide +kernel) (show decode code 827 = .ok (.iconst 2, 1) by decide +kernel) (show decode code 828 = .ok (.iadd, 1) by decide +kernel) (show decode code 829 = .ok (.iaload, 1) by decide +kernel) ?_
  refine lw_arg (j := 3) K hL (by omega) hS hl (show decode code 830 = .ok (.aload_n 0, 1) by decide +kernel) (show decode code 831 = .ok (.iload_n 3, 1) by decide +kernel) (show decode code 832 = .ok (.iconst 3, 1) by decide +kernel) (show decode code 833 = .ok (.iadd, 1) by decide +kernel) (show decode code 834 = .ok (.iaload, 1) by decide +kernel) ?_
  refine lw_run (as' := [.inl (xs (4 * i + 1)).toInt, .inl (xs (4 * i + 2)).toInt, .inl (xs (4 * i + 3)).toInt]) (rest := []) K (List.mem_of_getElem? (i := 48) (show lw_tab[48]? = some (115, 35, 1, 3, 1) from rfl)) rfl (show decode code 835 = .ok (.invokevirtual 115, 3) by decide +kernel) hH hS hl (Nat.zero_le _) ⟨Nat.le_refl _, Nat.le_refl _⟩ (pr_chance (xm_in_toInt _) (xm_in_toInt _) (xm_in_toInt _) M hR) (fun v M1 H1 locs1 q hv hH1 hS1 => ?_)
  obtain ⟨z, rfl⟩ : ∃ z : Int, v = [.inr (.inl z)] := by
    rcases hv with ⟨hk, z, hz⟩ | ⟨hk, z, hz⟩
    · first | exact ⟨z, hz⟩ | exact absurd hk (by decide)
    · first | exact ⟨z, hz⟩ | exact absurd hk (by decide)
  refine lv_aload_n (i := 2) (x := b + 50) hx hb (show decode code 838 = .ok (.aload_n 2, 1) by decide +kernel) rfl (lv_at hl 3 rfl) ?_
  refine lw_arg (j := 1) K hL (by omega) hS1 hl (show decode code 839 = .ok (.aload_n 0, 1) by decide +kernel) (show decode code 840 = .ok (.iload_n 3, 1) by decide +kernel) (show decode code 841 = .ok (.iconst 1, 1) by decide +kernel) (show decode code 842 = .ok (.iadd, 1) by decide +kernel) (show decode code 843 = .ok (.iaload, 1) by decide +kernel) ?_
  refine lw_arg (j := 2) K hL (by omega) hS1 hl (show decode code 844 = .ok (.aload_n 0, 1) by decide +kernel) (show decode code 845 = .ok (.iload_n 3, 1) by decide +kernel) (show decode code 846 = .ok (.iconst 2, 1) by decide +kernel) (show decode code 847 = .ok (.iadd, 1) by decide +kernel) (show decode code 848 = .ok (.iaload, 1) by decide +kernel) ?_
  refine lw_arg (j := 3) K hL (by omega) hS1 hl (show decode code 849 = .ok (.aload_n 0, 1) by decide +kernel) (show decode code 850 = .ok (.iload_n 3, 1) by decide +kernel) (show decode code 851 = .ok (.iconst 3, 1) by decide +kernel) (show decode code 852 = .ok (.iadd, 1) by decide +kernel) (show decode code 853 = .ok (.iaload, 1) by decide +kernel) ?_
  refine lw_run (as' := [.inl (xs (4 * i + 1)).toInt, .inl (xs (4 * i + 2)).toInt, .inl (xs (4 * i + 3)).toInt]) (rest := [.long (Int64.ofInt z)]) K (List.mem_of_getElem? (i := 49) (show lw_tab[49]? = some (119, 264, 50, 3, 1) from rfl)) rfl (show decode code 854 = .ok (.invokevirtual 119, 3) by decide +kernel) hH1 hS1 hl (by show 2 ≤ 8; omega) ⟨Nat.le_refl _, Nat.le_refl _⟩ q (fun w M2 H2 locs2 q2 hw hH2 hS2 => ?_)
  obtain ⟨rfl, hR2⟩ := q2
  refine W.lcmp hx hb (show decode code 857 = .ok (.lcmp, 1) by decide +kernel) ?_
  refine lv_if_eq (tgt := 1043) hx hb (show decode code 858 = .ok (.ifCond .eq 185, 3) by decide +kernel) (by decide) (fun _ => go M2 H2 locs2 hH2 hR2 hS2) (fun g => absurd (lw_cmp_eq _) g)
theorem lw_case_25 {i : Nat} (K : lw_K p s m meth c b0 L xs b ak av cA D) (hL : L ≤ 2048) (hi : 4 * i + 4 ≤ L) (hH : xs_H b ak cA D true M H) (hR : R_all M) (hS : va_S (fun q => b < q) s.heap H locs) (hl : lv_has ls 4 [(3, .int (nI (4 * i))), (0, .ref b0), (1, .ref (b + 1)), (2, .ref (b + 50))])
    (go : ∀ (M' : xm_Mem) (H1 : Heap) (locs1 : List Loc), xs_H b ak cA D true M' H1 → R_all M' → va_S (fun q => b < q) s.heap H1 locs1 → W p l e room_1 s m #[Value.ref b0] below meth c H1 locs1 83 31141 Qf (F0 m 1043 ls [])) : W p l e room_1 s m #[Value.ref b0] below meth c H locs 83 31141 Qf (F0 m 863 ls []) := by
  obtain ⟨hx, hb, -⟩ := id K
  refine lv_aload_n (i := 1) (x := b + 1) hx hb (show decode code 863 = .ok (.aload_n 1, 1) by decide +kernel) rfl (lv_at hl 2 rfl) ?_
  refine lw_arg (j := 1) K hL (by omega) hS hl (show decode code 864 = .ok (.aload_n 0, 1) by decide +kernel) (show decode code 865 = .ok (.iload_n 3, 1) by decide +kernel) (show decode code 866 = .ok (.iconst 1, 1) by decide +kernel) (show decode code 867 = .ok (.iadd, 1) by decide +kernel) (show decode code 868 = .ok (.iaload, 1) by decide +kernel) ?_
  refine lw_arg (j := 2) K hL (by omega) hS hl (show decode code 869 = .ok (.aload_n 0, 1) by decide +kernel) (show decode code 870 = .ok (.iload_n 3, 1) by decide +kernel) (show decode code 871 = .ok (.iconst 2, 1) by decide +kernel) (show decode code 872 = .ok (.iadd, 1) by decide +kernel) (show decode code 873 = .ok (.iaload, 1) by decide +kernel) ?_
  refine lw_run (as' := [.inl (xs (4 * i + 1)).toInt, .inl (xs (4 * i + 2)).toInt]) (rest := []) K (List.mem_of_getElem? (i := 50) (show lw_tab[50]? = some (120, 36, 1, 2, 1) from rfl)) rfl (show decode code 874 = .ok (.invokevirtual 120, 3) by decide +kernel) hH hS hl (Nat.zero_le _) ⟨Nat.le_refl _, Nat.le_refl _⟩ (pr_expected (xm_in_toInt _) (xm_in_toInt _) M hR) (fun v M1 H1 locs1 q hv hH1 hS1 => ?_)
  obtain ⟨z, rfl⟩ : ∃ z : Int, v = [.inr (.inl z)] := by
    rcases hv with ⟨hk, z, hz⟩ | ⟨hk, z, hz⟩
    · first | exact ⟨z, hz⟩ | exact absurd hk (by decide)
    · first | exact ⟨z, hz⟩ | exact absurd hk (by decide)
  refine lv_aload_n (i := 2) (x := b + 50) hx hb (show decode code 877 = .ok (.aload_n 2, 1) by decide +kernel) rfl (lv_at hl 3 rfl) ?_
  refine lw_arg (j := 1) K hL (by omega) hS1 hl (show decode code 878 = .ok (.aload_n 0, 1) by decide +kernel) (show decode code 879 = .ok (.iload_n 3, 1) by decide +kernel) (show decode code 880 = .ok (.iconst 1, 1) by decide +kernel) (show decode code 881 = .ok (.iadd, 1) by decide +kernel) (show decode code 882 = .ok (.iaload, 1) by decide +kernel) ?_
  refine lw_arg (j := 2) K hL (by omega) hS1 hl (show decode code 883 = .ok (.aload_n 0, 1) by decide +kernel) (show decode code 884 = .ok (.iload_n 3, 1) by decide +kernel) (show decode code 885 = .ok (.iconst 2, 1) by decide +kernel) (show decode code 886 = .ok (.iadd, 1) by decide +kernel) (show decode code 887 = .ok (.iaload, 1) by decide +kernel) ?_
  refine lw_run (as' := [.inl (xs (4 * i + 1)).toInt, .inl (xs (4 * i + 2)).toInt]) (rest := [.long (Int64.ofInt z)]) K (List.mem_of_getElem? (i := 51) (show lw_tab[51]? = some (123, 266, 50, 2, 1) from rfl)) rfl (show decode code 888 = .ok (.invokevirtual 123, 3) by decide +kernel) hH1 hS1 hl (by show 2 ≤ 8; omega) ⟨Nat.le_refl _, Nat.le_refl _⟩ q (fun w M2 H2 locs2 q2 hw hH2 hS2 => ?_)
  obtain ⟨rfl, hR2⟩ := q2
  refine W.lcmp hx hb (show decode code 891 = .ok (.lcmp, 1) by decide +kernel) ?_
  refine lv_if_eq (tgt := 1043) hx hb (show decode code 892 = .ok (.ifCond .eq 151, 3) by decide +kernel) (by decide) (fun _ => go M2 H2 locs2 hH2 hR2 hS2) (fun g => absurd (lw_cmp_eq _) g)
theorem lw_case_26 {i : Nat} (K : lw_K p s m meth c b0 L xs b ak av cA D) (hL : L ≤ 2048) (hi : 4 * i + 4 ≤ L) (hH : xs_H b ak cA D true M H) (hR : R_all M) (hS : va_S (fun q => b < q) s.heap H locs) (hl : lv_has ls 4 [(3, .int (nI (4 * i))), (0, .ref b0), (1, .ref (b + 1)), (2, .ref (b + 50))])
    (go : ∀ (M' : xm_Mem) (H1 : Heap) (locs1 : List Loc), xs_H b ak cA D true M' H1 → R_all M' → va_S (fun q => b < q) s.heap H1 locs1 → W p l e room_1 s m #[Value.ref b0] below meth c H1 locs1 83 31141 Qf (F0 m 1043 ls [])) : W p l e room_1 s m #[Value.ref b0] below meth c H locs 83 31141 Qf (F0 m 897 ls []) := by
  obtain ⟨hx, hb, -⟩ := id K
  refine lv_aload_n (i := 1) (x := b + 1) hx hb (show decode code 897 = .ok (.aload_n 1, 1) by decide +kernel) rfl (lv_at hl 2 rfl) ?_
  refine lw_arg (j := 1) K hL (by omega) hS hl (show decode code 898 = .ok (.aload_n 0, 1) by decide +kernel) (show decode code 899 = .ok (.iload_n 3, 1) by decide +kernel) (show decode code 900 = .ok (.iconst 1, 1) by decide +kernel) (show decode code 901 = .ok (.iadd, 1) by decide +kernel) (show decode code 902 = .ok (.iaload, 1) by decide +kernel) ?_
  refine lw_arg (j := 2) K hL (by omega) hS hl (show decode code 903 = .ok (.aload_n 0, 1) by decide +kernel) (show decode code 904 = .ok (.iload_n 3, 1) by decide +kernel) (show decode code 905 = .ok (.iconst 2, 1) by decide +kernel) (show decode code 906 = .ok (.iadd, 1) by decide +kernel) (show decode code 907 = .ok (.iaload, 1) by decide +kernel) ?_
  refine lw_run (as' := [.inl (xs (4 * i + 1)).toInt, .inl (xs (4 * i + 2)).toInt]) (rest := []) K (List.mem_of_getElem? (i := 52) (show lw_tab[52]? = some (124, 37, 1, 2, 1) from rfl)) rfl (show decode code 908 = .ok (.invokevirtual 124, 3) by decide +kernel) hH hS hl (Nat.zero_le _) ⟨Nat.le_refl _, Nat.le_refl _⟩ (pr_lasts (xm_in_toInt _) (xm_in_toInt _) M hR) (fun v M1 H1 locs1 q hv hH1 hS1 => ?_)
  obtain ⟨z, rfl⟩ : ∃ z : Int, v = [.inr (.inl z)] := by
    rcases hv with ⟨hk, z, hz⟩ | ⟨hk, z, hz⟩
    · first | exact ⟨z, hz⟩ | exact absurd hk (by decide)
    · first | exact ⟨z, hz⟩ | exact absurd hk (by decide)
  refine lv_aload_n (i := 2) (x := b + 50) hx hb (show decode code 911 = .ok (.aload_n 2, 1) by decide +kernel) rfl (lv_at hl 3 rfl) ?_
  refine lw_arg (j := 1) K hL (by omega) hS1 hl (show decode code 912 = .ok (.aload_n 0, 1) by decide +kernel) (show decode code 913 = .ok (.iload_n 3, 1) by decide +kernel) (show decode code 914 = .ok (.iconst 1, 1) by decide +kernel) (show decode code 915 = .ok (.iadd, 1) by decide +kernel) (show decode code 916 = .ok (.iaload, 1) by decide +kernel) ?_
  refine lw_arg (j := 2) K hL (by omega) hS1 hl (show decode code 917 = .ok (.aload_n 0, 1) by decide +kernel) (show decode code 918 = .ok (.iload_n 3, 1) by decide +kernel) (show decode code 919 = .ok (.iconst 2, 1) by decide +kernel) (show decode code 920 = .ok (.iadd, 1) by decide +kernel) (show decode code 921 = .ok (.iaload, 1) by decide +kernel) ?_
  refine lw_run (as' := [.inl (xs (4 * i + 1)).toInt, .inl (xs (4 * i + 2)).toInt]) (rest := [.long (Int64.ofInt z)]) K (List.mem_of_getElem? (i := 53) (show lw_tab[53]? = some (127, 269, 50, 2, 1) from rfl)) rfl (show decode code 922 = .ok (.invokevirtual 127, 3) by decide +kernel) hH1 hS1 hl (by show 2 ≤ 8; omega) ⟨Nat.le_refl _, Nat.le_refl _⟩ q (fun w M2 H2 locs2 q2 hw hH2 hS2 => ?_)
  obtain ⟨rfl, hR2⟩ := q2
  refine W.lcmp hx hb (show decode code 925 = .ok (.lcmp, 1) by decide +kernel) ?_
  refine lv_if_eq (tgt := 1043) hx hb (show decode code 926 = .ok (.ifCond .eq 117, 3) by decide +kernel) (by decide) (fun _ => go M2 H2 locs2 hH2 hR2 hS2) (fun g => absurd (lw_cmp_eq _) g)
theorem lw_case_27 {i : Nat} (K : lw_K p s m meth c b0 L xs b ak av cA D) (hL : L ≤ 2048) (hi : 4 * i + 4 ≤ L) (hH : xs_H b ak cA D true M H) (hR : R_all M) (hS : va_S (fun q => b < q) s.heap H locs) (hl : lv_has ls 4 [(3, .int (nI (4 * i))), (0, .ref b0), (1, .ref (b + 1)), (2, .ref (b + 50))])
    (go : ∀ (M' : xm_Mem) (H1 : Heap) (locs1 : List Loc), xs_H b ak cA D true M' H1 → R_all M' → va_S (fun q => b < q) s.heap H1 locs1 → W p l e room_1 s m #[Value.ref b0] below meth c H1 locs1 83 31141 Qf (F0 m 1043 ls [])) : W p l e room_1 s m #[Value.ref b0] below meth c H locs 83 31141 Qf (F0 m 931 ls []) := by
  obtain ⟨hx, hb, -⟩ := id K
  refine lv_aload_n (i := 1) (x := b + 1) hx hb (show decode code 931 = .ok (.aload_n 1, 1) by decide +kernel) rfl (lv_at hl 2 rfl) ?_
  refine lw_arg (j := 1) K hL (by omega) hS hl (show decode code 932 = .ok (.aload_n 0, 1) by decide +kernel) (show decode code 933 = .ok (.iload_n 3, 1) by decide +kernel) (show decode code 934 = .ok (.iconst 1, 1) by decide +kernel) (show decode code 935 = .ok (.iadd, 1) by decide +kernel) (show decode code 936 = .ok (.iaload, 1) by decide +kernel) ?_
  refine lw_arg (j := 2) K hL (by omega) hS hl (show decode code 937 = .ok (.aload_n 0, 1) by decide +kernel) (show decode code 938 = .ok (.iload_n 3, 1) by decide +kernel) (show decode code 939 = .ok (.iconst 2, 1) by decide +kernel) (show decode code 940 = .ok (.iadd, 1) by decide +kernel) (show decode code 941 = .ok (.iaload, 1) by decide +kernel) ?_
  refine lw_run (as' := [.inl (xs (4 * i + 1)).toInt, .inl (xs (4 * i + 2)).toInt]) (rest := []) K (List.mem_of_getElem? (i := 54) (show lw_tab[54]? = some (128, 38, 1, 2, 0) from rfl)) rfl (show decode code 942 = .ok (.invokevirtual 128, 3) by decide +kernel) hH hS hl (Nat.zero_le _) ⟨Nat.le_refl _, Nat.le_refl _⟩ (pr_stab (xm_in_toInt _) (xm_in_toInt _) M hR) (fun v M1 H1 locs1 q hv hH1 hS1 => ?_)
  obtain ⟨z, rfl⟩ : ∃ z : Int, v = [.inl z] := by
    rcases hv with ⟨hk, z, hz⟩ | ⟨hk, z, hz⟩
    · first | exact ⟨z, hz⟩ | exact absurd hk (by decide)
    · first | exact ⟨z, hz⟩ | exact absurd hk (by decide)
  refine lv_aload_n (i := 2) (x := b + 50) hx hb (show decode code 945 = .ok (.aload_n 2, 1) by decide +kernel) rfl (lv_at hl 3 rfl) ?_
  refine lw_arg (j := 1) K hL (by omega) hS1 hl (show decode code 946 = .ok (.aload_n 0, 1) by decide +kernel) (show decode code 947 = .ok (.iload_n 3, 1) by decide +kernel) (show decode code 948 = .ok (.iconst 1, 1) by decide +kernel) (show decode code 949 = .ok (.iadd, 1) by decide +kernel) (show decode code 950 = .ok (.iaload, 1) by decide +kernel) ?_
  refine lw_arg (j := 2) K hL (by omega) hS1 hl (show decode code 951 = .ok (.aload_n 0, 1) by decide +kernel) (show decode code 952 = .ok (.iload_n 3, 1) by decide +kernel) (show decode code 953 = .ok (.iconst 2, 1) by decide +kernel) (show decode code 954 = .ok (.iadd, 1) by decide +kernel) (show decode code 955 = .ok (.iaload, 1) by decide +kernel) ?_
  refine lw_run (as' := [.inl (xs (4 * i + 1)).toInt, .inl (xs (4 * i + 2)).toInt]) (rest := [.int (Int32.ofInt z)]) K (List.mem_of_getElem? (i := 55) (show lw_tab[55]? = some (131, 271, 50, 2, 0) from rfl)) rfl (show decode code 956 = .ok (.invokevirtual 131, 3) by decide +kernel) hH1 hS1 hl (by show 1 ≤ 8; omega) ⟨Nat.le_refl _, Nat.le_refl _⟩ q (fun w M2 H2 locs2 q2 hw hH2 hS2 => ?_)
  obtain ⟨rfl, hR2⟩ := q2
  exact lv_icmp_eq (tgt := 1043) hx hb (show decode code 959 = .ok (.if_icmp .eq 84, 3) by decide +kernel) (by decide) (fun _ => go M2 H2 locs2 hH2 hR2 hS2) (fun g => absurd rfl g)
theorem lw_case_28 {i : Nat} (K : lw_K p s m meth c b0 L xs b ak av cA D) (hL : L ≤ 2048) (hi : 4 * i + 4 ≤ L) (hH : xs_H b ak cA D true M H) (hR : R_all M) (hS : va_S (fun q => b < q) s.heap H locs) (hl : lv_has ls 4 [(3, .int (nI (4 * i))), (0, .ref b0), (1, .ref (b + 1)), (2, .ref (b + 50))])
    (go : ∀ (M' : xm_Mem) (H1 : Heap) (locs1 : List Loc), xs_H b ak cA D true M' H1 → R_all M' → va_S (fun q => b < q) s.heap H1 locs1 → W p l e room_1 s m #[Value.ref b0] below meth c H1 locs1 83 31141 Qf (F0 m 1043 ls [])) : W p l e room_1 s m #[Value.ref b0] below meth c H locs 83 31141 Qf (F0 m 964 ls []) := by
  obtain ⟨hx, hb, -⟩ := id K
  refine lv_aload_n (i := 1) (x := b + 1) hx hb (show decode code 964 = .ok (.aload_n 1, 1) by decide +kernel) rfl (lv_at hl 2 rfl) ?_
  refine lw_arg (j := 1) K hL (by omega) hS hl (show decode code 965 = .ok (.aload_n 0, 1) by decide +kernel) (show decode code 966 = .ok (.iload_n 3, 1) by decide +kernel) (show decode code 967 = .ok (.iconst 1, 1) by decide +kernel) (show decode code 968 = .ok (.iadd, 1) by decide +kernel) (show decode code 969 = .ok (.iaload, 1) by decide +kernel) ?_
  refine lw_arg (j := 2) K hL (by omega) hS hl (show decode code 970 = .ok (.aload_n 0, 1) by decide +kernel) (show decode code 971 = .ok (.iload_n 3, 1) by decide +kernel) (show decode code 972 = .ok (.iconst 2, 1) by decide +kernel) (show decode code 973 = .ok (.iadd, 1) by decide +kernel) (show decode code 974 = .ok (.iaload, 1) by decide +kernel) ?_
  refine lw_run (as' := [.inl (xs (4 * i + 1)).toInt, .inl (xs (4 * i + 2)).toInt]) (rest := []) K (List.mem_of_getElem? (i := 56) (show lw_tab[56]? = some (132, 39, 1, 2, 0) from rfl)) rfl (show decode code 975 = .ok (.invokevirtual 132, 3) by decide +kernel) hH hS hl (Nat.zero_le _) ⟨Nat.le_refl _, Nat.le_refl _⟩ (pr_ahead (xm_in_toInt _) (xm_in_toInt _) M hR) (fun v M1 H1 locs1 q hv hH1 hS1 => ?_)
  obtain ⟨z, rfl⟩ : ∃ z : Int, v = [.inl z] := by
    rcases hv with ⟨hk, z, hz⟩ | ⟨hk, z, hz⟩
    · first | exact ⟨z, hz⟩ | exact absurd hk (by decide)
    · first | exact ⟨z, hz⟩ | exact absurd hk (by decide)
  refine lv_aload_n (i := 2) (x := b + 50) hx hb (show decode code 978 = .ok (.aload_n 2, 1) by decide +kernel) rfl (lv_at hl 3 rfl) ?_
  refine lw_arg (j := 1) K hL (by omega) hS1 hl (show decode code 979 = .ok (.aload_n 0, 1) by decide +kernel) (show decode code 980 = .ok (.iload_n 3, 1) by decide +kernel) (show decode code 981 = .ok (.iconst 1, 1) by decide +kernel) (show decode code 982 = .ok (.iadd, 1) by decide +kernel) (show decode code 983 = .ok (.iaload, 1) by decide +kernel) ?_
  refine lw_arg (j := 2) K hL (by omega) hS1 hl (show decode code 984 = .ok (.aload_n 0, 1) by decide +kernel) (show decode code 985 = .ok (.iload_n 3, 1) by decide +kernel) (show decode code 986 = .ok (.iconst 2, 1) by decide +kernel) (show decode code 987 = .ok (.iadd, 1) by decide +kernel) (show decode code 988 = .ok (.iaload, 1) by decide +kernel) ?_
  refine lw_run (as' := [.inl (xs (4 * i + 1)).toInt, .inl (xs (4 * i + 2)).toInt]) (rest := [.int (Int32.ofInt z)]) K (List.mem_of_getElem? (i := 57) (show lw_tab[57]? = some (135, 273, 50, 2, 0) from rfl)) rfl (show decode code 989 = .ok (.invokevirtual 135, 3) by decide +kernel) hH1 hS1 hl (by show 1 ≤ 8; omega) ⟨Nat.le_refl _, Nat.le_refl _⟩ q (fun w M2 H2 locs2 q2 hw hH2 hS2 => ?_)
  obtain ⟨rfl, hR2⟩ := q2
  exact lv_icmp_eq (tgt := 1043) hx hb (show decode code 992 = .ok (.if_icmp .eq 51, 3) by decide +kernel) (by decide) (fun _ => go M2 H2 locs2 hH2 hR2 hS2) (fun g => absurd rfl g)
theorem lw_case_29 {i : Nat} (K : lw_K p s m meth c b0 L xs b ak av cA D) (hL : L ≤ 2048) (hi : 4 * i + 4 ≤ L) (hH : xs_H b ak cA D true M H) (hR : R_all M) (hS : va_S (fun q => b < q) s.heap H locs) (hl : lv_has ls 4 [(3, .int (nI (4 * i))), (0, .ref b0), (1, .ref (b + 1)), (2, .ref (b + 50))])
    (go : ∀ (M' : xm_Mem) (H1 : Heap) (locs1 : List Loc), xs_H b ak cA D true M' H1 → R_all M' → va_S (fun q => b < q) s.heap H1 locs1 → W p l e room_1 s m #[Value.ref b0] below meth c H1 locs1 83 31141 Qf (F0 m 1043 ls [])) : W p l e room_1 s m #[Value.ref b0] below meth c H locs 83 31141 Qf (F0 m 997 ls []) := by
  obtain ⟨hx, hb, -⟩ := id K
  refine lv_aload_n (i := 1) (x := b + 1) hx hb (show decode code 997 = .ok (.aload_n 1, 1) by decide +kernel) rfl (lv_at hl 2 rfl) ?_
  refine lw_arg (j := 1) K hL (by omega) hS hl (show decode code 998 = .ok (.aload_n 0, 1) by decide +kernel) (show decode code 999 = .ok (.iload_n 3, 1) by decide +kernel) (show decode code 1000 = .ok (.iconst 1, 1) by decide +kernel) (show decode code 1001 = .ok (.iadd, 1) by decide +kernel) (show decode code 1002 = .ok (.iaload, 1) by decide +kernel) ?_
  refine lw_run (as' := [.inl (xs (4 * i + 1)).toInt]) (rest := []) K (List.mem_of_getElem? (i := 58) (show lw_tab[58]? = some (136, 40, 1, 1, 0) from rfl)) rfl (show decode code 1003 = .ok (.invokevirtual 136, 3) by decide +kernel) hH hS hl (Nat.zero_le _) ⟨Nat.le_refl _, Nat.le_refl _⟩ (pr_enough (xm_in_toInt _) M hR) (fun v M1 H1 locs1 q hv hH1 hS1 => ?_)
  obtain ⟨z, rfl⟩ : ∃ z : Int, v = [.inl z] := by
    rcases hv with ⟨hk, z, hz⟩ | ⟨hk, z, hz⟩
    · first | exact ⟨z, hz⟩ | exact absurd hk (by decide)
    · first | exact ⟨z, hz⟩ | exact absurd hk (by decide)
  refine lv_aload_n (i := 2) (x := b + 50) hx hb (show decode code 1006 = .ok (.aload_n 2, 1) by decide +kernel) rfl (lv_at hl 3 rfl) ?_
  refine lw_arg (j := 1) K hL (by omega) hS1 hl (show decode code 1007 = .ok (.aload_n 0, 1) by decide +kernel) (show decode code 1008 = .ok (.iload_n 3, 1) by decide +kernel) (show decode code 1009 = .ok (.iconst 1, 1) by decide +kernel) (show decode code 1010 = .ok (.iadd, 1) by decide +kernel) (show decode code 1011 = .ok (.iaload, 1) by decide +kernel) ?_
  refine lw_run (as' := [.inl (xs (4 * i + 1)).toInt]) (rest := [.int (Int32.ofInt z)]) K (List.mem_of_getElem? (i := 59) (show lw_tab[59]? = some (139, 274, 50, 1, 0) from rfl)) rfl (show decode code 1012 = .ok (.invokevirtual 139, 3) by decide +kernel) hH1 hS1 hl (by show 1 ≤ 8; omega) ⟨Nat.le_refl _, Nat.le_refl _⟩ q (fun w M2 H2 locs2 q2 hw hH2 hS2 => ?_)
  obtain ⟨rfl, hR2⟩ := q2
  exact lv_icmp_eq (tgt := 1043) hx hb (show decode code 1015 = .ok (.if_icmp .eq 28, 3) by decide +kernel) (by decide) (fun _ => go M2 H2 locs2 hH2 hR2 hS2) (fun g => absurd rfl g)
theorem lw_case_30 {i : Nat} (K : lw_K p s m meth c b0 L xs b ak av cA D) (hL : L ≤ 2048) (hi : 4 * i + 4 ≤ L) (hH : xs_H b ak cA D true M H) (hR : R_all M) (hS : va_S (fun q => b < q) s.heap H locs) (hl : lv_has ls 4 [(3, .int (nI (4 * i))), (0, .ref b0), (1, .ref (b + 1)), (2, .ref (b + 50))])
    (go : ∀ (M' : xm_Mem) (H1 : Heap) (locs1 : List Loc), xs_H b ak cA D true M' H1 → R_all M' → va_S (fun q => b < q) s.heap H1 locs1 → W p l e room_1 s m #[Value.ref b0] below meth c H1 locs1 83 31141 Qf (F0 m 1043 ls [])) : W p l e room_1 s m #[Value.ref b0] below meth c H locs 83 31141 Qf (F0 m 1020 ls []) := by
  obtain ⟨hx, hb, -⟩ := id K
  refine lv_aload_n (i := 1) (x := b + 1) hx hb (show decode code 1020 = .ok (.aload_n 1, 1) by decide +kernel) rfl (lv_at hl 2 rfl) ?_
  refine lw_arg (j := 1) K hL (by omega) hS hl (show decode code 1021 = .ok (.aload_n 0, 1) by decide +kernel) (show decode code 1022 = .ok (.iload_n 3, 1) by decide +kernel) (show decode code 1023 = .ok (.iconst 1, 1) by decide +kernel) (show decode code 1024 = .ok (.iadd, 1) by decide +kernel) (show decode code 1025 = .ok (.iaload, 1) by decide +kernel) ?_
  refine lw_run (as' := [.inl (xs (4 * i + 1)).toInt]) (rest := []) K (List.mem_of_getElem? (i := 60) (show lw_tab[60]? = some (140, 42, 1, 1, 0) from rfl)) rfl (show decode code 1026 = .ok (.invokevirtual 140, 3) by decide +kernel) hH hS hl (Nat.zero_le _) ⟨Nat.le_refl _, Nat.le_refl _⟩ (pr_count (xm_in_toInt _) M hR) (fun v M1 H1 locs1 q hv hH1 hS1 => ?_)
  obtain ⟨z, rfl⟩ : ∃ z : Int, v = [.inl z] := by
    rcases hv with ⟨hk, z, hz⟩ | ⟨hk, z, hz⟩
    · first | exact ⟨z, hz⟩ | exact absurd hk (by decide)
    · first | exact ⟨z, hz⟩ | exact absurd hk (by decide)
  refine lv_aload_n (i := 2) (x := b + 50) hx hb (show decode code 1029 = .ok (.aload_n 2, 1) by decide +kernel) rfl (lv_at hl 3 rfl) ?_
  refine lw_arg (j := 1) K hL (by omega) hS1 hl (show decode code 1030 = .ok (.aload_n 0, 1) by decide +kernel) (show decode code 1031 = .ok (.iload_n 3, 1) by decide +kernel) (show decode code 1032 = .ok (.iconst 1, 1) by decide +kernel) (show decode code 1033 = .ok (.iadd, 1) by decide +kernel) (show decode code 1034 = .ok (.iaload, 1) by decide +kernel) ?_
  refine lw_run (as' := [.inl (xs (4 * i + 1)).toInt]) (rest := [.int (Int32.ofInt z)]) K (List.mem_of_getElem? (i := 61) (show lw_tab[61]? = some (143, 277, 50, 1, 0) from rfl)) rfl (show decode code 1035 = .ok (.invokevirtual 143, 3) by decide +kernel) hH1 hS1 hl (by show 1 ≤ 8; omega) ⟨Nat.le_refl _, Nat.le_refl _⟩ q (fun w M2 H2 locs2 q2 hw hH2 hS2 => ?_)
  obtain ⟨rfl, hR2⟩ := q2
  exact lv_icmp_eq (tgt := 1043) hx hb (show decode code 1038 = .ok (.if_icmp .eq 5, 3) by decide +kernel) (by decide) (fun _ => go M2 H2 locs2 hH2 hR2 hS2) (fun g => absurd rfl g)
end LC
