/-! the slot's calls, and steps -/
section ST
variable {d : Nat} {Q : xm_K}
theorem sp7 {p : Int} {M0 A B : xm_Mem} (hS : S_all p A B) (hM : y_par M0 B) (hp : p < 2000) (h : Q [] (x_slot M0 p A)) : xm_call true (d + 6) 7 [.inr (.inr 1)] A Q := by
  have T0 := T_of_S hS hp
  have T1 := TS_1 hS hM hp
  have T2 := TS_2 hS hM hp
  have T3 := TS_3 hS hM hp
  have T4 := TS_4 hS hM hp
  have T5 := TS_5 hS hM hp
  have pz := par_z (p := p) hM
  have p1 := par_1 (p := p) hM
  have p2 := par_2 (p := p) hM
  have p3 := par_3 (p := p) hM
  have hp0 := T0.2.2.2.2.1.1.2.2
  have e20 := T0.2.2.2.2.1.1.1
  have cp := T_cap T3.1
  rw [p3.2.2 1 (by omega) (by omega)] at cp
  have s5 : xm_call true (d + 5) 145 [.inr (.inr 29)] (x_t5 M0 p A) (fun v15 M18 => xm_kv (Q [] M18) v15) := sp145 T5.2.2.2.2.1 ⟨by omega, by omega⟩ (xq_kv h)
  have s4 : xm_call true (d + 5) 91 [.inr (.inr 23), .inl p, .inr (.inr 34)] (x_t4 M0 p A) (fun v15 M16 => xm_kv (xm_call true (d + 5) 145 [.inr (.inr 29)] M16 (fun v17 M18 => xm_kv (Q [] M18) v17)) v15) := sp91 T4 (xq_kv s5)
  have s3 : xm_call true (d + 5) 99 [.inr (.inr 17), .inl (M0 50 1), .inl p] (x_t3 M0 p A) (fun v13 M14 => xm_kv (xm_call true (d + 5) 91 [.inr (.inr 23), .inl p, .inr (.inr 34)] M14 (fun v15 M16 => xm_kv (xm_call true (d + 5) 145 [.inr (.inr 29)] M16 (fun v17 M18 => xm_kv (Q [] M18) v17)) v15)) v13) := sp99 T3.2.2.2.1 hp0 (by omega) (xq_kv s4)
  have b2 : xm_call true (d + 5) 8 [.inr (.inr 1), .inl p] (x_t1 M0 p A) (fun v6 M7 => xm_kv (xm_call true (d + 5) 9 [.inr (.inr 1), .inl p] M7 (fun v8 M9 => xm_kv (((M9 1 3) = 11 ∨ (M9 1 3) = 14) ∧ ((M9 1 3) = 11 → xm_call true (d + 5) 157 [.inr (.inr 11)] M9 (fun v10 M11 => xm_ki (fun r12 => xm_call true (d + 5) 99 [.inr (.inr 17), .inl r12, .inl p] M11 (fun v13 M14 => xm_kv (xm_call true (d + 5) 91 [.inr (.inr 23), .inl p, .inr (.inr 34)] M14 (fun v15 M16 => xm_kv (xm_call true (d + 5) 145 [.inr (.inr 29)] M16 (fun v17 M18 => xm_kv (Q [] M18) v17)) v15)) v13)) v10)) ∧ ((M9 1 3) = 14 → xm_call true (d + 5) 157 [.inr (.inr 14)] M9 (fun v10 M11 => xm_ki (fun r12 => xm_call true (d + 5) 99 [.inr (.inr 17), .inl r12, .inl p] M11 (fun v13 M14 => xm_kv (xm_call true (d + 5) 91 [.inr (.inr 23), .inl p, .inr (.inr 34)] M14 (fun v15 M16 => xm_kv (xm_call true (d + 5) 145 [.inr (.inr 29)] M16 (fun v17 M18 => xm_kv (Q [] M18) v17)) v15)) v13)) v10))) v8)) v6) := by
    refine sp8 T1 (p1.2.2 0 (by omega) (by omega)).symm (xq_kv ?_)
    rw [par_N p1]
    refine sp9 T2 (p2.2.2 0 (by omega) (by omega)).symm (p2.2.2 2 (by omega) (by omega)).symm (xq_kv ?_)
    have f3 := T3.1.2.1
    unfold T_rt at f3
    have e1 := p3.2.2 1 (by omega) (by omega)
    rcases f3 with ⟨m1, -, -, t1, -⟩ | ⟨m1, -, -, t1, -⟩
    · refine ⟨Or.inl m1, fun _ => sp157r11 (xq_ki ?_), fun e => ?_⟩
      · have : x_t3 M0 p A 11 1 = M0 50 1 := by rw [t1.1, e1]
        unfold x_t3 x_s3 x_t2 at this s3
        rw [this]
        exact s3
      · exact absurd (m1.symm.trans e) (by decide)
    · refine ⟨Or.inr m1, fun e => ?_, fun _ => sp157r14 (xq_ki ?_)⟩
      · exact absurd (m1.symm.trans e) (by decide)
      · have : x_t3 M0 p A 14 1 = M0 50 1 := by rw [t1.1, e1]
        unfold x_t3 x_s3 x_t2 at this s3
        rw [this]
        exact s3
  have g : T_rt A (y_z p B) := T0.1.2.1
  have g3 : M0 50 3 = y_z p B 50 3 := (pz.2.2 3 (by omega) (by omega)).symm
  have g4 : M0 50 4 = y_z p B 50 4 := (pz.2.2 4 (by omega) (by omega)).symm
  unfold x_t1 at b2
  rw [← par_pl pz] at b2
  refine en7r1 (rg7r1_0 (sp140r29 (xq_ki ?_)))
  rw [e20]
  rcases g with ⟨m1, -, t⟩ | ⟨m1, -, t⟩
  · exact ⟨Or.inl m1, fun _ => sp78_11 T0 t g3 g4 (xq_kv b2), fun e => absurd (m1.symm.trans e) (by decide)⟩
  · exact ⟨Or.inr m1, fun e => absurd (m1.symm.trans e) (by decide), fun _ => sp78_14 T0 t g3 g4 (xq_kv b2)⟩
theorem sp223 {p : Int} {M0 A B : xm_Mem} (hS : S_all p A B) (hM : y_par M0 B) (hp : p < 2000) (h : Q [] (y_slot M0 p B)) : xm_call true (d + 6) 223 [.inr (.inr 50)] B Q := by
  have T0 := T_of_S hS hp
  have T1 := TS_1 hS hM hp
  have T2 := TS_2 hS hM hp
  have T3 := TS_3 hS hM hp
  have T4 := TS_4 hS hM hp
  have T5 := TS_5 hS hM hp
  have pz := par_z (p := p) hM
  have p1 := par_1 (p := p) hM
  have p2 := par_2 (p := p) hM
  have p3 := par_3 (p := p) hM
  have p5 := par_5 (p := p) hM
  have hp0 := T0.2.2.2.2.1.1.2.2
  have e20 : B 50 20 = p := by rw [← hS.2.2.1.1, hS.1]
  have e3 := T3.2.2.2.2.1.1.2.1
  have e5 := T5.2.2.2.2.1.1.2.1
  have cp := T_cap T3.1
  rw [p3.2.2 1 (by omega) (by omega)] at cp
  have s4 : xm_call true (d + 5) 222 [.inr (.inr 50)] (y_t4 M0 p B) (fun v3 M4 => xm_kv (Q [] (xm_up M4 50 20 ((M4 50 20) + 1))) v3) := by
    refine sp222 T4 (xq_kv ?_)
    have e : y_cmn p (x_t4 M0 p A 23 3).toNat (y_t4 M0 p B) = y_t5 M0 p B := by
      unfold y_t5 y_s5
      rw [T4.2.2.1.1]
    rw [e, e5]
    exact h
  have s3 : xm_call true (d + 5) 220 [.inr (.inr 50)] (y_t3 M0 p B) (fun v1 M2 => xm_kv (xm_call true (d + 5) 222 [.inr (.inr 50)] M2 (fun v3 M4 => xm_kv (Q [] (xm_up M4 50 20 ((M4 50 20) + 1))) v3)) v1) := by
    refine sp220 T3.2.2.2.1 hp0 e3 (rate := M0 50 1) (by omega) (p3.2.2 1 (by omega) (by omega)) (xq_kv ?_)
    have e : y_lv p (y_t3 M0 p B) (if x_t3 M0 p A 17 6 < M0 50 1 then x_t3 M0 p A 17 6 else M0 50 1).toNat = y_t4 M0 p B := by
      unfold y_t4 y_s4
      rw [show y_t3 M0 p B 50 24 = x_t3 M0 p A 17 6 by have := T3.2.2.2.1.1; omega]
    rw [e]
    exact s4
  have q2 : ∀ o3 o4, wp223r50_81 (xm_call true (d + 5)) Q 0 o3 o4 (y_t2 M0 p B) := by
    intro o3 o4
    have a2 := T2.2.2.1.2.1
    refine lo223_81 (d := d + 3) T2 (act := (x_t2 M0 p A 23 3).toNat) (by omega) ?_ (x_t2 M0 p A 23 3).toNat 0 o3 o4 (by omega)
    have e : y_prn p (y_t2 M0 p B) (x_t2 M0 p A 23 3).toNat = y_t3 M0 p B := by
      unfold y_t3 y_s3
      rw [T2.2.2.1.1]
    rw [e]
    exact s3
  have q1 : wp223r50_36 (xm_call true (d + 5)) Q 0 none none (y_t1 M0 p B) := by
    have cp1 := T_cap T1.1
    refine lo223_36 (d := d + 4) T1 (fun o3 o4 => ?_) (y_t1 M0 p B 50 5).toNat 0 none none (by omega)
    have e : y_srs p (y_N (y_t1 M0 p B) p) (y_t1 M0 p B) (y_t1 M0 p B 50 5).toNat = y_t2 M0 p B := by
      unfold y_t2
      rw [par_N p1, ← par_N p1 p]
      refine (y_srs_end (fun k a b => ?_) 4 (by omega) (by omega)).symm
      unfold y_N
      rw [if_neg (by omega)]
    rw [e]
    exact q2 o3 o4
  refine en223r50 (rg223r50_0 ?_)
  rw [e20]
  refine ⟨by omega, by omega, by omega, ?_⟩
  have q0 : xm_call true (d + 5) 217 [.inr (.inr 50)] (y_z p B) (fun v1 M2 => xm_kv (wp223r50_36 (xm_call true (d + 5)) Q 0 none none M2) v1) := by
    refine sp217 T0 (xq_kv ?_)
    rw [par_pl pz]
    exact q1
  exact q0
end ST
def x_run (M0 : xm_Mem) (p : Int) (A : xm_Mem) : Nat → xm_Mem
  | 0 => A
  | n + 1 => x_slot M0 (p + n) (x_run M0 p A n)
def y_run (M0 : xm_Mem) (p : Int) (B : xm_Mem) : Nat → xm_Mem
  | 0 => B
  | n + 1 => y_slot M0 (p + n) (y_run M0 p B n)
theorem S_run {p : Int} {M0 A B : xm_Mem} (h : S_all p A B) (hM : y_par M0 B) : ∀ n : Nat, p + n ≤ 2000 → S_all (p + n) (x_run M0 p A n) (y_run M0 p B n) ∧ y_par M0 (y_run M0 p B n)
  | 0, _ => by
    rw [show p + ((0 : Nat) : Int) = p by omega]
    exact ⟨h, hM⟩
  | n + 1, hn => by
    have ih := S_run h hM n (by omega)
    rw [show p + ((n + 1 : Nat) : Int) = p + n + 1 by omega, x_run, y_run]
    exact ⟨S_next ih.1 ih.2 (by omega), par_6 ih.2⟩
theorem xrun_c {p : Int} {M0 A : xm_Mem} {c : Nat} (h : 50 ≤ c) : ∀ n : Nat, x_run M0 p A n c = A c
  | 0 => rfl
  | n + 1 => by rw [x_run, xs_lo h, xrun_c h n]
theorem yrun_c {p : Int} {M0 B : xm_Mem} {c : Nat} (h : c < 50) : ∀ n : Nat, y_run M0 p B n c = B c
  | 0 => rfl
  | n + 1 => by rw [y_run, ys_lo h, yrun_c h n]
section SS
variable {d : Nat} {Q : xm_K}
theorem lo6 {p x2 : Int} {M0 A B : xm_Mem} (hS : S_all p A B) (hM : y_par M0 B) {N : Nat} (hN : p + N ≤ 2000 ∧ N ≤ 32) (h : Q [.inl (x_run M0 p A N 29 3 - x2)] (x_run M0 p A N)) : ∀ (n k : Nat), k + n = N → wp6r1_41 (xm_call true (d + 6)) Q N x2 k (x_run M0 p A k)
  | 0, k, h0 => by
    have e : k = N := by omega
    subst e
    exact rg6r1_41 ⟨⟨by omega, by omega⟩, fun _ => sp141r29 (xq_ki h), fun _ => by omega⟩
  | n + 1, k, h0 => by
    have ih := lo6 hS hM hN h n (k + 1) (by omega)
    have z := S_run hS hM k (by omega)
    rw [x_run] at ih
    refine rg6r1_41 ⟨⟨by omega, by omega⟩, fun _ => by omega, fun _ => ?_⟩
    exact sp7 z.1 z.2 (by omega) (xq_kv ih)
theorem lo224 {p a0 : Int} {M0 A B : xm_Mem} (hS : S_all p A B) (hM : y_par M0 B) {N : Nat} (hN : p + N ≤ 2000 ∧ N ≤ 32) (h : Q [.inl (x_run M0 p A N 29 3 - a0)] (y_run M0 p B N)) : ∀ (n k : Nat), k + n = N → wp224r50_31 (xm_call true (d + 6)) Q N (x_run M0 p A k 29 3 - a0) k (y_run M0 p B k)
  | 0, k, h0 => by
    have e : k = N := by omega
    subst e
    exact rg224r50_31 ⟨⟨by omega, by omega⟩, fun _ => h, fun _ => by omega⟩
  | n + 1, k, h0 => by
    have ih := lo224 hS hM hN h n (k + 1) (by omega)
    have z := S_run hS hM k (by omega)
    have z2 := S_run hS hM (k + 1) (by omega)
    have cn := xs_cnt z.1 z.2 (by omega)
    have e20 : y_run M0 p B (k + 1) 50 20 = p + k + 1 := by
      rw [y_run]
      unfold y_slot
      rw [xu_s]
    have hp0 := z.1.2.2.1.2.1
    rw [z.1.1] at hp0
    rw [x_run, cn.1] at ih
    rw [y_run] at ih e20
    refine rg224r50_31 ⟨⟨by omega, by omega⟩, fun _ => by omega, fun _ => ?_⟩
    refine sp223 z.1 z.2 (by omega) (xq_kv ?_)
    rw [e20, show p + (k : Int) + 1 - 1 = p + k by omega]
    refine ⟨by omega, cn.2, fun g => ?_, fun g => ?_⟩
    · rw [if_neg (by omega)] at ih
      rw [show x_run M0 p A k 29 3 - a0 + 0 = x_run M0 p A k 29 3 + 0 - a0 by omega]
      exact ih
    · rw [if_pos g] at ih
      rw [show x_run M0 p A k 29 3 - a0 + 1 = x_run M0 p A k 29 3 + 1 - a0 by omega]
      exact ih
end SS
theorem pr_steps {x : Int} (hx : xm_in x) : R_pair 6 224 [.inl x] := by
  intro M hR
  have hS := S_of hR
  have e20 : M 29 2 = M 50 20 := hS.2.2.1.1
  have hp := hS.2.2.1.2
  have hM : y_par M M := ⟨rfl, rfl, fun _ _ _ => rfl⟩
  refine en6r1 (rg6r1_0 ⟨⟨by omega, by omega⟩, fun g => ?_, fun g => ⟨⟨by omega, by omega⟩, fun g2 => sp140r29 (xq_ki ⟨⟨by omega, by omega⟩, fun g3 => sp141r29 (xq_ki ?_), fun g3 => ?_⟩), fun g2 => ?_⟩⟩)
  · refine en224r50 (rg224r50_0 (sp193 (by omega) (by omega) (by omega) (fun _ => by omega) (fun _ => xq_ki ?_)))
    exact ⟨by omega, fun q => absurd rfl q, fun _ => xq_I rfl hR⟩
  · have a := lo6 (d := 4) (x2 := M 29 3) (Q := fun v M1 => xm_call true 11 224 (.inr (.inr 50) :: [.inl x]) M1 (fun w M2 => R_end v w M2)) hS hM (N := x.toNat) ⟨by omega, by omega⟩ ?_ x.toNat 0 (by omega)
    · rw [show ((x.toNat : Nat) : Int) = x by omega] at a
      exact a
    have hS2 : S_all (M 29 2) M (x_run M (M 29 2) M x.toNat) := S_keep hS (fun _ _ => rfl) (fun c hc => xrun_c hc _)
    have hM2 : y_par M (x_run M (M 29 2) M x.toNat) := ⟨xrun_c (by omega) _, xrun_c (by omega) _, fun k _ _ => by rw [xrun_c (by omega)]⟩
    have r20 : x_run M (M 29 2) M x.toNat 50 20 = M 29 2 := by rw [xrun_c (by omega)]; exact e20.symm
    refine en224r50 (rg224r50_0 (sp193 (by omega) (by omega) (by omega) (fun _ => xq_ki ⟨by omega, fun _ => ?_, fun q => by omega⟩) (fun _ => by omega)))
    rw [r20]
    refine ⟨⟨by omega, by omega⟩, fun _ => ?_, fun _ => by omega⟩
    have b := lo224 (d := 4) (a0 := M 29 3) (Q := fun w M2 => R_end [.inl (x_run M (M 29 2) M x.toNat 29 3 - M 29 3)] w M2) hS2 hM2 (N := x.toNat) ⟨by omega, by omega⟩ ?_ x.toNat 0 (by omega)
    · rw [show ((x.toNat : Nat) : Int) = x by omega, x_run, y_run, show M 29 3 - M 29 3 = 0 by omega] at b
      exact b
    · refine xq_I rfl ?_
      have z := (S_run hS2 hM2 x.toNat (by omega)).1
      exact S_to (S_keep z (fun c hc => yrun_c hc _) (fun _ _ => rfl))
  · refine en224r50 (rg224r50_0 (sp193 (by omega) (by omega) (by omega) (fun _ => xq_ki ⟨by omega, fun _ => ⟨⟨by omega, by omega⟩, fun _ => by omega, fun _ => xq_I rfl hR⟩, fun q => by omega⟩) (fun _ => by omega)))
  · refine en224r50 (rg224r50_0 (sp193 (by omega) (by omega) (by omega) (fun _ => by omega) (fun _ => xq_ki ?_)))
    exact ⟨by omega, fun q => absurd rfl q, fun _ => xq_I rfl hR⟩
