/-! integers and their wraps -/
theorem xn_in {x : Int} (h : xm_in x) : (Int32.ofInt x).toInt = x := Int32.toInt_ofInt_of_le (by have := h.1; omega) (by have := h.2; omega)
theorem xn_inL {x : Int} (h : xm_inL x) : (Int64.ofInt x).toInt = x := Int64.toInt_ofInt_of_le (by have := h.1; omega) (by have := h.2; omega)
theorem xn_lt {x y : Int} (hx : xm_in x) (hy : xm_in y) : Int32.ofInt x < Int32.ofInt y ↔ x < y := by rw [Int32.lt_iff_toInt_lt, xn_in hx, xn_in hy]
theorem xn_le {x y : Int} (hx : xm_in x) (hy : xm_in y) : Int32.ofInt x ≤ Int32.ofInt y ↔ x ≤ y := by rw [Int32.le_iff_toInt_le, xn_in hx, xn_in hy]
theorem xn_eq {x y : Int} (hx : xm_in x) (hy : xm_in y) : Int32.ofInt x = Int32.ofInt y ↔ x = y := by
  constructor
  · intro h
    have := congrArg Int32.toInt h
    rwa [xn_in hx, xn_in hy] at this
  · intro h; rw [h]
theorem xn_ltL {x y : Int} (hx : xm_inL x) (hy : xm_inL y) : Int64.ofInt x < Int64.ofInt y ↔ x < y := by rw [Int64.lt_iff_toInt_lt, xn_inL hx, xn_inL hy]
theorem xn_eqL {x y : Int} (hx : xm_inL x) (hy : xm_inL y) : Int64.ofInt x = Int64.ofInt y ↔ x = y := by
  constructor
  · intro h
    have := congrArg Int64.toInt h
    rwa [xn_inL hx, xn_inL hy] at this
  · intro h; rw [h]
theorem xn_0 : Int32.ofInt 0 = 0 := by decide
theorem xn_0L : Int64.ofInt 0 = 0 := by decide
theorem xn_i0 : xm_in 0 := ⟨by decide, by decide⟩
theorem xn_div {x y : Int} (hx : xm_in x) (hy : xm_in y) : Int32.ofInt (Int.tdiv x y) = Int32.ofInt x / Int32.ofInt y := Int32.toInt_inj.mp (by rw [Int32.toInt_div, xn_in hx, xn_in hy, Int32.toInt_ofInt])
theorem xn_rem {x y : Int} (hx : xm_in x) (hy : xm_in y) : Int32.ofInt (Int.tmod x y) = Int32.ofInt x - Int32.ofInt x / Int32.ofInt y * Int32.ofInt y := by
  rw [← xn_div hx hy, ← Int32.ofInt_mul, ← Int32.ofInt_sub, Int.tmod_def, Int.mul_comm]
theorem xn_divL {x y : Int} (hx : xm_inL x) (hy : xm_inL y) : Int64.ofInt (Int.tdiv x y) = Int64.ofInt x / Int64.ofInt y := Int64.toInt_inj.mp (by rw [Int64.toInt_div, xn_inL hx, xn_inL hy, Int64.toInt_ofInt])
theorem xn_remL {x y : Int} (hx : xm_inL x) (hy : xm_inL y) : Int64.ofInt (Int.tmod x y) = Int64.ofInt x - Int64.ofInt x / Int64.ofInt y * Int64.ofInt y := by
  rw [← xn_divL hx hy, ← Int64.ofInt_mul, ← Int64.ofInt_sub, Int.tmod_def, Int.mul_comm]
theorem xn_ne0 {y : Int} (hy : xm_in y) (h : y ≠ 0) : ¬ Int32.ofInt y = 0 := fun q => h ((xn_eq hy xn_i0).mp (by rw [xn_0]; exact q))
theorem xn_ne0L {y : Int} (hy : xm_inL y) (h : y ≠ 0) : ¬ Int64.ofInt y = 0 := fun q => h ((xn_eqL hy ⟨by decide, by decide⟩).mp (by rw [xn_0L]; exact q))
theorem xn_and (x y : Int) : Int32.ofInt (xm_and x y) = Int32.ofInt x &&& Int32.ofInt y := Int32.ofInt_toInt _
theorem xn_or (x y : Int) : Int32.ofInt (xm_or x y) = Int32.ofInt x ||| Int32.ofInt y := Int32.ofInt_toInt _
theorem xn_sm : ∀ n : Fin 32, Int32.ofInt (n.val : Int) &&& 31 = Int32.ofInt (n.val : Int) ∧ ((Int32.ofInt (n.val : Int)).toBitVec.smod 32).toNat = n.val := by decide +kernel
theorem xn_smu : ∀ n : Fin 32, (((Int32.ofInt (n.val : Int)).toUInt32 &&& Int32.toUInt32 31).toBitVec % 32).toNat = n.val := by decide +kernel
theorem xn_tn (x : Int) : (Int32.ofInt x).toBitVec.toNat = (x % 4294967296).toNat := by
  rw [Int32.toBitVec_ofInt, BitVec.toNat_ofInt]
  rfl
theorem xn_inj {a b : Int32} (h : a.toBitVec.toNat = b.toBitVec.toNat) : a = b := Int32.toBitVec.inj (BitVec.eq_of_toNat_eq h)
theorem xn_pow (n : Nat) : (2 : Int) ^ n = ((2 ^ n : Nat) : Int) := by rw [Int.natCast_pow]; rfl
theorem xn_shl {x y : Int} (h0 : 0 ≤ y) (h : y < 32) : Int32.ofInt (x * 2 ^ y.toNat) = Int32.ofInt x <<< (Int32.ofInt y &&& 31) := by
  obtain ⟨n, rfl⟩ := Int.eq_ofNat_of_zero_le h0
  have hn : n < 32 := by omega
  have hs := xn_sm ⟨n, hn⟩
  dsimp only at hs
  rw [hs.1]
  refine xn_inj ?_
  rw [pk_shl _ _ n hs.2, xn_tn, xn_tn]
  rw [Int.toNat_natCast]
  have e : (x * 2 ^ n) % 4294967296 = (x % 4294967296) * 2 ^ n % 4294967296 := by
    have h1 := Int.mul_emod x (2 ^ n) 4294967296
    have h2 := Int.mul_emod (x % 4294967296) (2 ^ n) 4294967296
    rw [Int.emod_emod_of_dvd x (Int.dvd_refl _)] at h2
    rw [h1, h2]
  rw [e]
  have hp : (0 : Int) ≤ x % 4294967296 := Int.emod_nonneg _ (by decide)
  obtain ⟨k, hk⟩ := Int.eq_ofNat_of_zero_le hp
  rw [hk, xn_pow, Int.toNat_natCast]
  generalize 2 ^ n = w
  rw [← Int.natCast_mul]
  generalize k * w = z
  omega
theorem xn_shr {x y : Int} (hx : xm_in x) (h0 : 0 ≤ y) (h : y < 32) : Int32.ofInt (x / 2 ^ y.toNat) = Int32.ofInt x >>> (Int32.ofInt y &&& 31) := by
  obtain ⟨n, rfl⟩ := Int.eq_ofNat_of_zero_le h0
  have hn : n < 32 := by omega
  have hs := xn_sm ⟨n, hn⟩
  dsimp only at hs
  rw [hs.1]
  refine Int32.toInt_inj.mp ?_
  rw [pk_shr _ _ n hs.2, xn_in hx, Int.shiftRight_eq_div_pow, Int.toNat_natCast]
  have hd : xm_in (x / 2 ^ n) := by
    have hp : (0 : Int) < 2 ^ n := Int.pow_pos (by decide)
    constructor
    · have : (-2147483648 : Int) ≤ x := hx.1
      have h2 : (-2147483648 : Int) / 2 ^ n ≤ x / 2 ^ n := Int.ediv_le_ediv hp this
      have h3 : (-2147483648 : Int) ≤ (-2147483648 : Int) / 2 ^ n := by
        have := Int.le_ediv_of_mul_le hp (a := -2147483648) (b := -2147483648) (by
          have : (1 : Int) ≤ 2 ^ n := hp
          omega)
        exact this
      omega
    · have h1 : x / 2 ^ n ≤ (2147483647 : Int) / 2 ^ n := Int.ediv_le_ediv hp (by have := hx.2; omega)
      have h3 : (2147483647 : Int) / 2 ^ n ≤ 2147483647 := Int.ediv_le_self _ (by decide)
      omega
  rw [xn_in hd, xn_pow]
theorem xn_wr (x : Int) : Int32.ofInt ((x + 2147483648) % 4294967296 - 2147483648) = Int32.ofInt x := xn_inj (by rw [xn_tn, xn_tn]; omega)
theorem xn_shw {x y : Int} (h0 : 0 ≤ y) (h : y < 32) : Int32.ofInt (((x + 2147483648) % 4294967296 - 2147483648) / 2 ^ y.toNat) = Int32.ofInt x >>> (Int32.ofInt y &&& 31) := by
  rw [xn_shr ⟨by omega, by omega⟩ h0 h, xn_wr]
theorem xn_ushr {x y : Int} (h0 : 0 ≤ y) (h : y < 32) : ((Int32.ofInt x).toUInt32 >>> ((Int32.ofInt y).toUInt32 &&& Int32.toUInt32 31)).toInt32 = Int32.ofInt (x % 4294967296 / 2 ^ y.toNat) := by
  obtain ⟨n, rfl⟩ := Int.eq_ofNat_of_zero_le h0
  have hn : n < 32 := by omega
  have hs := xn_smu ⟨n, hn⟩
  dsimp only at hs
  refine xn_inj ?_
  rw [pk_ushr _ _ n hs, xn_tn, xn_tn, Int.toNat_natCast]
  have hp : (0 : Int) ≤ x % 4294967296 := Int.emod_nonneg _ (by decide)
  have hl : x % 4294967296 < 4294967296 := Int.emod_lt_of_pos _ (by decide)
  obtain ⟨k, hk⟩ := Int.eq_ofNat_of_zero_le hp
  rw [hk] at hl ⊢
  have hd : (k : Int) / 2 ^ n = ((k / 2 ^ n : Nat) : Int) := by rw [xn_pow, Int.natCast_ediv]
  rw [hd, Int.toNat_natCast]
  have : k / 2 ^ n ≤ k := Nat.div_le_self _ _
  generalize k / 2 ^ n = w at this ⊢
  omega
theorem xn_i2c (x : Int) : ((Int32.ofInt x).toUInt32 % 65536).toInt32 = Int32.ofInt (x % 65536) := by
  rw [pk_char]
  refine xn_inj ?_
  rw [xn_tn, xn_tn]
  have e : (nI ((x % 4294967296).toNat % 65536)).toBitVec.toNat = (x % 4294967296).toNat % 65536 := pk_tn (by omega)
  rw [e]
  omega
theorem xn_i2l {x : Int} (h : xm_in x) : (Int32.ofInt x).toInt64 = Int64.ofInt x := Int32.toInt64_ofInt (by have := h.1; simpa using this) (by have := h.2; have e : Int32.maxValue.toInt = 2147483647 := rfl; omega)
theorem xn_vp {i : Int} {n : Nat} (h0 : 0 ≤ i) (h : i < (n : Int)) (hn : n < 2147483648) : vp_in (Int32.ofInt i) n ∧ (Int32.ofInt i).toNatClampNeg = i.toNat := by
  have e := xn_in (x := i) ⟨by omega, by omega⟩
  have e2 : (Int32.ofInt i).toNatClampNeg = i.toNat := Int32.toNatClampNeg_ofInt_of_le (by omega) (by omega)
  refine ⟨?_, e2⟩
  rw [vp_in_iff, e]
  exact ⟨h0, h⟩
theorem xn_lc {x y : Int} (hx : xm_inL x) (hy : xm_inL y) : Int32.ofInt (xm_lc x y) = lg_cmp (Int64.ofInt x) (Int64.ofInt y) := by
  unfold xm_lc lg_cmp
  have e1 := xn_ltL hy hx
  have e2 := xn_eqL hx hy
  by_cases h : x < y
  · rw [if_pos h, if_neg (fun q => by have := e1.mp q; omega), if_neg (fun q => by have := e2.mp q; omega)]; decide
  · rw [if_neg h]
    by_cases h2 : x = y
    · rw [if_pos h2, if_neg (fun q => by have := e1.mp q; omega), if_pos (e2.mpr h2)]; decide
    · rw [if_neg h2, if_pos (e1.mpr (by omega))]; decide
