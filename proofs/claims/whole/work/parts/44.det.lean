/-! printed by wip/whole/gen44.py: determinants of a chain without one state -/
def x_P1 (e0 : Int) : Int := (e0)
def x_P2 (e0 e1 x01 x10 : Int) : Int := (e0 + x01) * ((e1 + x10)) - (-x01) * ((-x10))
def x_P3 (e0 e1 e2 x01 x02 x10 x12 x20 x21 : Int) : Int := (e0 + x01 + x02) * ((e1 + x10 + x12) * ((e2 + x20 + x21)) - (-x12) * ((-x21))) - (-x01) * ((-x10) * ((e2 + x20 + x21)) - (-x12) * ((-x20))) + (-x02) * ((-x10) * ((-x21)) - (e1 + x10 + x12) * ((-x20)))
def x_P4 (e0 e1 e2 e3 x01 x02 x03 x10 x12 x13 x20 x21 x23 x30 x31 x32 : Int) : Int := (e0 + x01 + x02 + x03) * ((e1 + x10 + x12 + x13) * ((e2 + x20 + x21 + x23) * ((e3 + x30 + x31 + x32)) - (-x23) * ((-x32))) - (-x12) * ((-x21) * ((e3 + x30 + x31 + x32)) - (-x23) * ((-x31))) + (-x13) * ((-x21) * ((-x32)) - (e2 + x20 + x21 + x23) * ((-x31)))) - (-x01) * ((-x10) * ((e2 + x20 + x21 + x23) * ((e3 + x30 + x31 + x32)) - (-x23) * ((-x32))) - (-x12) * ((-x20) * ((e3 + x30 + x31 + x32)) - (-x23) * ((-x30))) + (-x13) * ((-x20) * ((-x32)) - (e2 + x20 + x21 + x23) * ((-x30)))) + (-x02) * ((-x10) * ((-x21) * ((e3 + x30 + x31 + x32)) - (-x23) * ((-x31))) - (e1 + x10 + x12 + x13) * ((-x20) * ((e3 + x30 + x31 + x32)) - (-x23) * ((-x30))) + (-x13) * ((-x20) * ((-x31)) - (-x21) * ((-x30)))) - (-x03) * ((-x10) * ((-x21) * ((-x32)) - (e2 + x20 + x21 + x23) * ((-x31))) - (e1 + x10 + x12 + x13) * ((-x20) * ((-x32)) - (e2 + x20 + x21 + x23) * ((-x30))) + (-x12) * ((-x20) * ((-x31)) - (-x21) * ((-x30))))
theorem mul_b {x y c : Int} (hx : 0 ≤ x) (hy : 0 ≤ y ∧ y ≤ c) : 0 ≤ x * y ∧ x * y ≤ x * c := ⟨Int.mul_nonneg hx hy.1, Int.mul_le_mul_of_nonneg_left hy.2 hx⟩
theorem pb1 {e0 : Int} (he0 : 0 ≤ e0) (r0 : e0 ≤ 12) : 0 ≤ x_P1 e0 ∧ x_P1 e0 ≤ 12 := by unfold x_P1; omega
theorem pe2 (e0 e1 x01 x10 : Int) : x_P2 e0 e1 x01 x10 = e0 * x_P1 (e1 + x10) + x01 * x_P1 (e1) := by unfold x_P2 x_P1; grind
theorem pb2 {e0 e1 x01 x10 : Int} (he0 : 0 ≤ e0) (he1 : 0 ≤ e1) (hx01 : 0 ≤ x01) (hx10 : 0 ≤ x10) (r0 : e0 + x01 ≤ 12) (r1 : e1 + x10 ≤ 12) : 0 ≤ x_P2 e0 e1 x01 x10 ∧ x_P2 e0 e1 x01 x10 ≤ 144 := by
  rw [pe2]
  have z0 : 0 ≤ e0 * x_P1 (e1 + x10) ∧ e0 * x_P1 (e1 + x10) ≤ e0 * 12 := mul_b (by omega) (by apply pb1 <;> omega)
  have z1 : 0 ≤ x01 * x_P1 (e1) ∧ x01 * x_P1 (e1) ≤ x01 * 12 := mul_b (by omega) (by apply pb1 <;> omega)
  omega
theorem pe3 (e0 e1 e2 x01 x02 x10 x12 x20 x21 : Int) : x_P3 e0 e1 e2 x01 x02 x10 x12 x20 x21 = e0 * x_P2 (e1 + x10) (e2 + x20) (x12) (x21) + x01 * x_P2 (e1) (e2) (x12) (x21 + x20) + x02 * x_P2 (e1) (e2) (x12 + x10) (x21) := by unfold x_P3 x_P2; grind
theorem pb3 {e0 e1 e2 x01 x02 x10 x12 x20 x21 : Int} (he0 : 0 ≤ e0) (he1 : 0 ≤ e1) (he2 : 0 ≤ e2) (hx01 : 0 ≤ x01) (hx02 : 0 ≤ x02) (hx10 : 0 ≤ x10) (hx12 : 0 ≤ x12) (hx20 : 0 ≤ x20) (hx21 : 0 ≤ x21) (r0 : e0 + x01 + x02 ≤ 12) (r1 : e1 + x10 + x12 ≤ 12) (r2 : e2 + x20 + x21 ≤ 12) : 0 ≤ x_P3 e0 e1 e2 x01 x02 x10 x12 x20 x21 ∧ x_P3 e0 e1 e2 x01 x02 x10 x12 x20 x21 ≤ 1728 := by
  rw [pe3]
  have z0 : 0 ≤ e0 * x_P2 (e1 + x10) (e2 + x20) (x12) (x21) ∧ e0 * x_P2 (e1 + x10) (e2 + x20) (x12) (x21) ≤ e0 * 144 := mul_b (by omega) (by apply pb2 <;> omega)
  have z1 : 0 ≤ x01 * x_P2 (e1) (e2) (x12) (x21 + x20) ∧ x01 * x_P2 (e1) (e2) (x12) (x21 + x20) ≤ x01 * 144 := mul_b (by omega) (by apply pb2 <;> omega)
  have z2 : 0 ≤ x02 * x_P2 (e1) (e2) (x12 + x10) (x21) ∧ x02 * x_P2 (e1) (e2) (x12 + x10) (x21) ≤ x02 * 144 := mul_b (by omega) (by apply pb2 <;> omega)
  omega
theorem pe4 (e0 e1 e2 e3 x01 x02 x03 x10 x12 x13 x20 x21 x23 x30 x31 x32 : Int) : x_P4 e0 e1 e2 e3 x01 x02 x03 x10 x12 x13 x20 x21 x23 x30 x31 x32 = e0 * x_P3 (e1 + x10) (e2 + x20) (e3 + x30) (x12) (x13) (x21) (x23) (x31) (x32) + x01 * x_P3 (e1) (e2) (e3) (x12) (x13) (x21 + x20) (x23) (x31 + x30) (x32) + x02 * x_P3 (e1) (e2) (e3) (x12 + x10) (x13) (x21) (x23) (x31) (x32 + x30) + x03 * x_P3 (e1) (e2) (e3) (x12) (x13 + x10) (x21) (x23 + x20) (x31) (x32) := by unfold x_P4 x_P3; grind
theorem pb4 {e0 e1 e2 e3 x01 x02 x03 x10 x12 x13 x20 x21 x23 x30 x31 x32 : Int} (he0 : 0 ≤ e0) (he1 : 0 ≤ e1) (he2 : 0 ≤ e2) (he3 : 0 ≤ e3) (hx01 : 0 ≤ x01) (hx02 : 0 ≤ x02) (hx03 : 0 ≤ x03) (hx10 : 0 ≤ x10) (hx12 : 0 ≤ x12) (hx13 : 0 ≤ x13) (hx20 : 0 ≤ x20) (hx21 : 0 ≤ x21) (hx23 : 0 ≤ x23) (hx30 : 0 ≤ x30) (hx31 : 0 ≤ x31) (hx32 : 0 ≤ x32) (r0 : e0 + x01 + x02 + x03 ≤ 12) (r1 : e1 + x10 + x12 + x13 ≤ 12) (r2 : e2 + x20 + x21 + x23 ≤ 12) (r3 : e3 + x30 + x31 + x32 ≤ 12) : 0 ≤ x_P4 e0 e1 e2 e3 x01 x02 x03 x10 x12 x13 x20 x21 x23 x30 x31 x32 ∧ x_P4 e0 e1 e2 e3 x01 x02 x03 x10 x12 x13 x20 x21 x23 x30 x31 x32 ≤ 20736 := by
  rw [pe4]
  have z0 : 0 ≤ e0 * x_P3 (e1 + x10) (e2 + x20) (e3 + x30) (x12) (x13) (x21) (x23) (x31) (x32) ∧ e0 * x_P3 (e1 + x10) (e2 + x20) (e3 + x30) (x12) (x13) (x21) (x23) (x31) (x32) ≤ e0 * 1728 := mul_b (by omega) (by apply pb3 <;> omega)
  have z1 : 0 ≤ x01 * x_P3 (e1) (e2) (e3) (x12) (x13) (x21 + x20) (x23) (x31 + x30) (x32) ∧ x01 * x_P3 (e1) (e2) (e3) (x12) (x13) (x21 + x20) (x23) (x31 + x30) (x32) ≤ x01 * 1728 := mul_b (by omega) (by apply pb3 <;> omega)
  have z2 : 0 ≤ x02 * x_P3 (e1) (e2) (e3) (x12 + x10) (x13) (x21) (x23) (x31) (x32 + x30) ∧ x02 * x_P3 (e1) (e2) (e3) (x12 + x10) (x13) (x21) (x23) (x31) (x32 + x30) ≤ x02 * 1728 := mul_b (by omega) (by apply pb3 <;> omega)
  have z3 : 0 ≤ x03 * x_P3 (e1) (e2) (e3) (x12) (x13 + x10) (x21) (x23 + x20) (x31) (x32) ∧ x03 * x_P3 (e1) (e2) (e3) (x12) (x13 + x10) (x21) (x23 + x20) (x31) (x32) ≤ x03 * 1728 := mul_b (by omega) (by apply pb3 <;> omega)
  omega
theorem pn1 {e0 : Int} (he0 : 0 ≤ e0) : 0 ≤ x_P1 e0 := by unfold x_P1; omega
theorem pn2 {e0 e1 x01 x10 : Int} (he0 : 0 ≤ e0) (he1 : 0 ≤ e1) (hx01 : 0 ≤ x01) (hx10 : 0 ≤ x10) : 0 ≤ x_P2 e0 e1 x01 x10 := by
  rw [pe2]
  have z0 : 0 ≤ e0 * x_P1 (e1 + x10) := Int.mul_nonneg (by omega) (by apply pn1 <;> omega)
  have z1 : 0 ≤ x01 * x_P1 (e1) := Int.mul_nonneg (by omega) (by apply pn1 <;> omega)
  omega
theorem pn3 {e0 e1 e2 x01 x02 x10 x12 x20 x21 : Int} (he0 : 0 ≤ e0) (he1 : 0 ≤ e1) (he2 : 0 ≤ e2) (hx01 : 0 ≤ x01) (hx02 : 0 ≤ x02) (hx10 : 0 ≤ x10) (hx12 : 0 ≤ x12) (hx20 : 0 ≤ x20) (hx21 : 0 ≤ x21) : 0 ≤ x_P3 e0 e1 e2 x01 x02 x10 x12 x20 x21 := by
  rw [pe3]
  have z0 : 0 ≤ e0 * x_P2 (e1 + x10) (e2 + x20) (x12) (x21) := Int.mul_nonneg (by omega) (by apply pn2 <;> omega)
  have z1 : 0 ≤ x01 * x_P2 (e1) (e2) (x12) (x21 + x20) := Int.mul_nonneg (by omega) (by apply pn2 <;> omega)
  have z2 : 0 ≤ x02 * x_P2 (e1) (e2) (x12 + x10) (x21) := Int.mul_nonneg (by omega) (by apply pn2 <;> omega)
  omega
theorem pp1 {e0 : Int} (t0 : 0 < e0) : 0 < x_P1 e0 := by unfold x_P1; omega
theorem pq2 {e0 e1 x01 x10 : Int} (he0 : 0 ≤ e0) (he1 : 0 ≤ e1) (hx01 : 0 ≤ x01) (hx10 : 0 ≤ x10) (t0 : 0 < e0 + x01) (t1 : 0 < e1 + x10) (t01 : 0 < e0 + e1) (g : 0 < e0) : 0 < x_P2 e0 e1 x01 x10 := by
  rw [pe2]
  have z0 : 0 < e0 * x_P1 (e1 + x10) := Int.mul_pos g (by apply pp1 <;> omega)
  have z1 : 0 ≤ x01 * x_P1 (e1) := Int.mul_nonneg (by omega) (by apply pn1 <;> omega)
  omega
theorem pp2 {e0 e1 x01 x10 : Int} (he0 : 0 ≤ e0) (he1 : 0 ≤ e1) (hx01 : 0 ≤ x01) (hx10 : 0 ≤ x10) (t0 : 0 < e0 + x01) (t1 : 0 < e1 + x10) (t01 : 0 < e0 + e1) : 0 < x_P2 e0 e1 x01 x10 := by
  have c : 0 < e0 ∨ 0 < e1 := by omega
  rcases c with c | c
  · apply pq2 <;> omega
  · have e : x_P2 e0 e1 x01 x10 = x_P2 e1 e0 x10 x01 := by unfold x_P2; grind
    rw [e]
    apply pq2 <;> omega
theorem pq3 {e0 e1 e2 x01 x02 x10 x12 x20 x21 : Int} (he0 : 0 ≤ e0) (he1 : 0 ≤ e1) (he2 : 0 ≤ e2) (hx01 : 0 ≤ x01) (hx02 : 0 ≤ x02) (hx10 : 0 ≤ x10) (hx12 : 0 ≤ x12) (hx20 : 0 ≤ x20) (hx21 : 0 ≤ x21) (t0 : 0 < e0 + x01 + x02) (t1 : 0 < e1 + x10 + x12) (t2 : 0 < e2 + x20 + x21) (t01 : 0 < e0 + e1 + x02 + x12) (t02 : 0 < e0 + e2 + x01 + x21) (t12 : 0 < e1 + e2 + x10 + x20) (t012 : 0 < e0 + e1 + e2) (g : 0 < e0) : 0 < x_P3 e0 e1 e2 x01 x02 x10 x12 x20 x21 := by
  rw [pe3]
  have z0 : 0 < e0 * x_P2 (e1 + x10) (e2 + x20) (x12) (x21) := Int.mul_pos g (by apply pp2 <;> omega)
  have z1 : 0 ≤ x01 * x_P2 (e1) (e2) (x12) (x21 + x20) := Int.mul_nonneg (by omega) (by apply pn2 <;> omega)
  have z2 : 0 ≤ x02 * x_P2 (e1) (e2) (x12 + x10) (x21) := Int.mul_nonneg (by omega) (by apply pn2 <;> omega)
  omega
theorem pp3 {e0 e1 e2 x01 x02 x10 x12 x20 x21 : Int} (he0 : 0 ≤ e0) (he1 : 0 ≤ e1) (he2 : 0 ≤ e2) (hx01 : 0 ≤ x01) (hx02 : 0 ≤ x02) (hx10 : 0 ≤ x10) (hx12 : 0 ≤ x12) (hx20 : 0 ≤ x20) (hx21 : 0 ≤ x21) (t0 : 0 < e0 + x01 + x02) (t1 : 0 < e1 + x10 + x12) (t2 : 0 < e2 + x20 + x21) (t01 : 0 < e0 + e1 + x02 + x12) (t02 : 0 < e0 + e2 + x01 + x21) (t12 : 0 < e1 + e2 + x10 + x20) (t012 : 0 < e0 + e1 + e2) : 0 < x_P3 e0 e1 e2 x01 x02 x10 x12 x20 x21 := by
  have c : 0 < e0 ∨ 0 < e1 ∨ 0 < e2 := by omega
  rcases c with c | c | c
  · apply pq3 <;> omega
  · have e : x_P3 e0 e1 e2 x01 x02 x10 x12 x20 x21 = x_P3 e1 e0 e2 x10 x12 x01 x02 x21 x20 := by unfold x_P3; grind
    rw [e]
    apply pq3 <;> omega
  · have e : x_P3 e0 e1 e2 x01 x02 x10 x12 x20 x21 = x_P3 e2 e1 e0 x21 x20 x12 x10 x02 x01 := by unfold x_P3; grind
    rw [e]
    apply pq3 <;> omega
theorem pq4 {e0 e1 e2 e3 x01 x02 x03 x10 x12 x13 x20 x21 x23 x30 x31 x32 : Int} (he0 : 0 ≤ e0) (he1 : 0 ≤ e1) (he2 : 0 ≤ e2) (he3 : 0 ≤ e3) (hx01 : 0 ≤ x01) (hx02 : 0 ≤ x02) (hx03 : 0 ≤ x03) (hx10 : 0 ≤ x10) (hx12 : 0 ≤ x12) (hx13 : 0 ≤ x13) (hx20 : 0 ≤ x20) (hx21 : 0 ≤ x21) (hx23 : 0 ≤ x23) (hx30 : 0 ≤ x30) (hx31 : 0 ≤ x31) (hx32 : 0 ≤ x32) (t0 : 0 < e0 + x01 + x02 + x03) (t1 : 0 < e1 + x10 + x12 + x13) (t2 : 0 < e2 + x20 + x21 + x23) (t3 : 0 < e3 + x30 + x31 + x32) (t01 : 0 < e0 + e1 + x02 + x03 + x12 + x13) (t02 : 0 < e0 + e2 + x01 + x03 + x21 + x23) (t03 : 0 < e0 + e3 + x01 + x02 + x31 + x32) (t12 : 0 < e1 + e2 + x10 + x13 + x20 + x23) (t13 : 0 < e1 + e3 + x10 + x12 + x30 + x32) (t23 : 0 < e2 + e3 + x20 + x21 + x30 + x31) (t012 : 0 < e0 + e1 + e2 + x03 + x13 + x23) (t013 : 0 < e0 + e1 + e3 + x02 + x12 + x32) (t023 : 0 < e0 + e2 + e3 + x01 + x21 + x31) (t123 : 0 < e1 + e2 + e3 + x10 + x20 + x30) (t0123 : 0 < e0 + e1 + e2 + e3) (g : 0 < e0) : 0 < x_P4 e0 e1 e2 e3 x01 x02 x03 x10 x12 x13 x20 x21 x23 x30 x31 x32 := by
  rw [pe4]
  have z0 : 0 < e0 * x_P3 (e1 + x10) (e2 + x20) (e3 + x30) (x12) (x13) (x21) (x23) (x31) (x32) := Int.mul_pos g (by apply pp3 <;> omega)
  have z1 : 0 ≤ x01 * x_P3 (e1) (e2) (e3) (x12) (x13) (x21 + x20) (x23) (x31 + x30) (x32) := Int.mul_nonneg (by omega) (by apply pn3 <;> omega)
  have z2 : 0 ≤ x02 * x_P3 (e1) (e2) (e3) (x12 + x10) (x13) (x21) (x23) (x31) (x32 + x30) := Int.mul_nonneg (by omega) (by apply pn3 <;> omega)
  have z3 : 0 ≤ x03 * x_P3 (e1) (e2) (e3) (x12) (x13 + x10) (x21) (x23 + x20) (x31) (x32) := Int.mul_nonneg (by omega) (by apply pn3 <;> omega)
  omega
theorem pp4 {e0 e1 e2 e3 x01 x02 x03 x10 x12 x13 x20 x21 x23 x30 x31 x32 : Int} (he0 : 0 ≤ e0) (he1 : 0 ≤ e1) (he2 : 0 ≤ e2) (he3 : 0 ≤ e3) (hx01 : 0 ≤ x01) (hx02 : 0 ≤ x02) (hx03 : 0 ≤ x03) (hx10 : 0 ≤ x10) (hx12 : 0 ≤ x12) (hx13 : 0 ≤ x13) (hx20 : 0 ≤ x20) (hx21 : 0 ≤ x21) (hx23 : 0 ≤ x23) (hx30 : 0 ≤ x30) (hx31 : 0 ≤ x31) (hx32 : 0 ≤ x32) (t0 : 0 < e0 + x01 + x02 + x03) (t1 : 0 < e1 + x10 + x12 + x13) (t2 : 0 < e2 + x20 + x21 + x23) (t3 : 0 < e3 + x30 + x31 + x32) (t01 : 0 < e0 + e1 + x02 + x03 + x12 + x13) (t02 : 0 < e0 + e2 + x01 + x03 + x21 + x23) (t03 : 0 < e0 + e3 + x01 + x02 + x31 + x32) (t12 : 0 < e1 + e2 + x10 + x13 + x20 + x23) (t13 : 0 < e1 + e3 + x10 + x12 + x30 + x32) (t23 : 0 < e2 + e3 + x20 + x21 + x30 + x31) (t012 : 0 < e0 + e1 + e2 + x03 + x13 + x23) (t013 : 0 < e0 + e1 + e3 + x02 + x12 + x32) (t023 : 0 < e0 + e2 + e3 + x01 + x21 + x31) (t123 : 0 < e1 + e2 + e3 + x10 + x20 + x30) (t0123 : 0 < e0 + e1 + e2 + e3) : 0 < x_P4 e0 e1 e2 e3 x01 x02 x03 x10 x12 x13 x20 x21 x23 x30 x31 x32 := by
  have c : 0 < e0 ∨ 0 < e1 ∨ 0 < e2 ∨ 0 < e3 := by omega
  rcases c with c | c | c | c
  · apply pq4 <;> omega
  · have e : x_P4 e0 e1 e2 e3 x01 x02 x03 x10 x12 x13 x20 x21 x23 x30 x31 x32 = x_P4 e1 e0 e2 e3 x10 x12 x13 x01 x02 x03 x21 x20 x23 x31 x30 x32 := by unfold x_P4; grind
    rw [e]
    apply pq4 <;> omega
  · have e : x_P4 e0 e1 e2 e3 x01 x02 x03 x10 x12 x13 x20 x21 x23 x30 x31 x32 = x_P4 e2 e1 e0 e3 x21 x20 x23 x12 x10 x13 x02 x01 x03 x32 x31 x30 := by unfold x_P4; grind
    rw [e]
    apply pq4 <;> omega
  · have e : x_P4 e0 e1 e2 e3 x01 x02 x03 x10 x12 x13 x20 x21 x23 x30 x31 x32 = x_P4 e3 e1 e2 e0 x31 x32 x30 x13 x12 x10 x23 x21 x20 x03 x01 x02 := by unfold x_P4; grind
    rw [e]
    apply pq4 <;> omega
/-- the matrix without the state t -/
def x_oi (t i : Nat) : Nat := if i < t then i else i + 1
def x_A (w : Nat → Nat → Int) (t r c : Nat) : Int := (if x_oi t r = x_oi t c then 12 else 0) - w (x_oi t r) (x_oi t c)
/-- leading minors -/
def x_dt (A : Nat → Nat → Int) : Nat → Int
  | 0 => 1
  | 1 => A 0 0
  | 2 => A 0 0 * (A 1 1) - A 0 1 * (A 1 0)
  | 3 => A 0 0 * (A 1 1 * (A 2 2) - A 1 2 * (A 2 1)) - A 0 1 * (A 1 0 * (A 2 2) - A 1 2 * (A 2 0)) + A 0 2 * (A 1 0 * (A 2 1) - A 1 1 * (A 2 0))
  | _ => A 0 0 * (A 1 1 * (A 2 2 * (A 3 3) - A 2 3 * (A 3 2)) - A 1 2 * (A 2 1 * (A 3 3) - A 2 3 * (A 3 1)) + A 1 3 * (A 2 1 * (A 3 2) - A 2 2 * (A 3 1))) - A 0 1 * (A 1 0 * (A 2 2 * (A 3 3) - A 2 3 * (A 3 2)) - A 1 2 * (A 2 0 * (A 3 3) - A 2 3 * (A 3 0)) + A 1 3 * (A 2 0 * (A 3 2) - A 2 2 * (A 3 0))) + A 0 2 * (A 1 0 * (A 2 1 * (A 3 3) - A 2 3 * (A 3 1)) - A 1 1 * (A 2 0 * (A 3 3) - A 2 3 * (A 3 0)) + A 1 3 * (A 2 0 * (A 3 1) - A 2 1 * (A 3 0))) - A 0 3 * (A 1 0 * (A 2 1 * (A 3 2) - A 2 2 * (A 3 1)) - A 1 1 * (A 2 0 * (A 3 2) - A 2 2 * (A 3 0)) + A 1 2 * (A 2 0 * (A 3 1) - A 2 1 * (A 3 0)))
/-- Bareiss' steps -/
def x_ba (A : Nat → Nat → Int) : Nat → Nat → Nat → Int
  | 0 => A
  | p + 1 => fun r c => if p < r ∧ p < c then Int.tdiv (x_ba A p r c * x_ba A p p p - x_ba A p r p * x_ba A p p c) (match p with
    | 0 => 1
    | q + 1 => x_ba A q q q) else x_ba A p r c
def x_pv (A : Nat → Nat → Int) : Nat → Int
  | 0 => 1
  | p + 1 => x_ba A p p p
theorem ba_step (A : Nat → Nat → Int) (p r c : Nat) : x_ba A (p + 1) r c = if p < r ∧ p < c then Int.tdiv (x_ba A p r c * x_ba A p p p - x_ba A p r p * x_ba A p p c) (x_pv A p) else x_ba A p r c := by
  cases p <;> rfl
def x_gd (s : Nat) (A : Nat → Nat → Int) (D : Int) : Prop := (∀ p : Nat, p < s → (0 < x_ba A p p p ∧ x_ba A p p p < 9223372036854775808) ∧ (0 < x_pv A p ∧ x_pv A p < 9223372036854775808) ∧ ∀ r c : Nat, p < r → r < s → p < c → c < s → xm_inL (x_ba A p r c * x_ba A p p p - x_ba A p r p * x_ba A p p c)) ∧ x_pv A s = D
theorem mul_ab {x y a b : Int} (ha : 0 ≤ a) (hx : -a ≤ x ∧ x ≤ a) (hy : -b ≤ y ∧ y ≤ b) : -(a * b) ≤ x * y ∧ x * y ≤ a * b := by
  have h1 : x * y ≤ a * b ∧ -(a * b) ≤ x * y := by
    have hb : 0 ≤ b := by omega
    rcases Int.le_total 0 x with gx | gx
    · rcases Int.le_total 0 y with gy | gy
      · have := Int.mul_le_mul hx.2 hy.2 gy ha
        have := Int.mul_nonneg gx gy
        have := Int.mul_nonneg ha hb
        omega
      · have z := Int.mul_le_mul hx.2 (show -y ≤ b by omega) (show 0 ≤ -y by omega) ha
        have z2 := Int.mul_nonneg gx (show 0 ≤ -y by omega)
        have z3 := Int.mul_nonneg ha hb
        rw [Int.mul_neg] at z z2
        omega
    · rcases Int.le_total 0 y with gy | gy
      · have z := Int.mul_le_mul (show -x ≤ a by omega) hy.2 gy ha
        have z2 := Int.mul_nonneg (show 0 ≤ -x by omega) gy
        have z3 := Int.mul_nonneg ha hb
        rw [Int.neg_mul] at z z2
        omega
      · have z := Int.mul_le_mul (show -x ≤ a by omega) (show -y ≤ b by omega) (show 0 ≤ -y by omega) ha
        have z2 := Int.mul_nonneg (show 0 ≤ -x by omega) (show 0 ≤ -y by omega)
        have z3 := Int.mul_nonneg ha hb
        rw [Int.neg_mul_neg] at z z2
        omega
  omega
theorem gd_of {s : Nat} {A : Nat → Nat → Int} (hs : s ≤ 4) (hb : ∀ r c : Nat, r < s → c < s → -12 ≤ A r c ∧ A r c ≤ 12) (hm : ∀ k : Nat, k ≤ s → 0 < x_dt A k) : x_gd s A (x_dt A s) := by
  have b1 : ∀ r c : Nat, 0 < r → 0 < c → x_ba A 1 r c = A r c * A 0 0 - A r 0 * A 0 c := fun r c hr hc => by
    rw [ba_step, if_pos ⟨hr, hc⟩]
    show Int.tdiv _ 1 = _
    rw [Int.tdiv_one]
    rfl
  have b2 : ∀ r c : Nat, 0 < A 0 0 → 1 < r → 1 < c → x_ba A 2 r c = A 0 0 * (A 1 1 * A r c - A 1 c * A r 1) - A 0 1 * (A 1 0 * A r c - A 1 c * A r 0) + A 0 c * (A 1 0 * A r 1 - A 1 1 * A r 0) := fun r c h0 hr hc => by
    rw [ba_step, if_pos ⟨hr, hc⟩, b1 r c (by omega) (by omega), b1 1 1 (by omega) (by omega), b1 r 1 (by omega) (by omega), b1 1 c (by omega) (by omega)]
    show Int.tdiv _ (A 0 0) = _
    rw [show (A r c * A 0 0 - A r 0 * A 0 c) * (A 1 1 * A 0 0 - A 1 0 * A 0 1) - (A r 1 * A 0 0 - A r 0 * A 0 1) * (A 1 c * A 0 0 - A 1 0 * A 0 c) = A 0 0 * (A 0 0 * (A 1 1 * A r c - A 1 c * A r 1) - A 0 1 * (A 1 0 * A r c - A 1 c * A r 0) + A 0 c * (A 1 0 * A r 1 - A 1 1 * A r 0)) by grind]
    exact Int.mul_tdiv_cancel_left _ (by omega)
  have l1 : ∀ r c : Nat, 0 < r → r < s → 0 < c → c < s → -288 ≤ A r c * A 0 0 - A r 0 * A 0 c ∧ A r c * A 0 0 - A r 0 * A 0 c ≤ 288 := fun r c hr hr2 hc hc2 => by
    have z1 := mul_ab (a := 12) (b := 12) (by omega) (hb r c hr2 hc2) (hb 0 0 (by omega) (by omega))
    have z2 := mul_ab (a := 12) (b := 12) (by omega) (hb r 0 hr2 (by omega)) (hb 0 c (by omega) hc2)
    omega
  have l2 : ∀ r c : Nat, 1 < r → r < s → 1 < c → c < s → -10368 ≤ A 0 0 * (A 1 1 * A r c - A 1 c * A r 1) - A 0 1 * (A 1 0 * A r c - A 1 c * A r 0) + A 0 c * (A 1 0 * A r 1 - A 1 1 * A r 0) ∧ A 0 0 * (A 1 1 * A r c - A 1 c * A r 1) - A 0 1 * (A 1 0 * A r c - A 1 c * A r 0) + A 0 c * (A 1 0 * A r 1 - A 1 1 * A r 0) ≤ 10368 := fun r c hr hr2 hc hc2 => by
    have q : ∀ i j k l : Nat, i < s → j < s → k < s → l < s → -144 ≤ A i j * A k l ∧ A i j * A k l ≤ 144 := fun i j k l a1 a2 a3 a4 => mul_ab (a := 12) (b := 12) (by omega) (hb i j a1 a2) (hb k l a3 a4)
    have y1 := q 1 1 r c (by omega) (by omega) hr2 hc2
    have y2 := q 1 c r 1 (by omega) hc2 hr2 (by omega)
    have y3 := q 1 0 r c (by omega) (by omega) hr2 hc2
    have y4 := q 1 c r 0 (by omega) hc2 hr2 (by omega)
    have y5 := q 1 0 r 1 (by omega) (by omega) hr2 (by omega)
    have y6 := q 1 1 r 0 (by omega) (by omega) hr2 (by omega)
    have z1 := mul_ab (a := 12) (b := 288) (y := A 1 1 * A r c - A 1 c * A r 1) (by omega) (hb 0 0 (by omega) (by omega)) (by omega)
    have z2 := mul_ab (a := 12) (b := 288) (y := A 1 0 * A r c - A 1 c * A r 0) (by omega) (hb 0 1 (by omega) (by omega)) (by omega)
    have z3 := mul_ab (a := 12) (b := 288) (y := A 1 0 * A r 1 - A 1 1 * A r 0) (by omega) (hb 0 c (by omega) hc2) (by omega)
    omega
  have d1 : 1 ≤ s → 0 < A 0 0 := fun h => hm 1 h
  have d2 : 2 ≤ s → 0 < A 1 1 * A 0 0 - A 1 0 * A 0 1 := fun h => by
    have := hm 2 h
    simp only [x_dt] at this
    grind
  have d3 : 3 ≤ s → 0 < x_ba A 2 2 2 := fun h => by
    have := hm 3 h
    simp only [x_dt] at this
    rw [b2 2 2 (d1 (by omega)) (by omega) (by omega)]
    grind
  have n3 : (A 0 0 * (A 1 1 * A 3 3 - A 1 3 * A 3 1) - A 0 1 * (A 1 0 * A 3 3 - A 1 3 * A 3 0) + A 0 3 * (A 1 0 * A 3 1 - A 1 1 * A 3 0)) * (A 0 0 * (A 1 1 * A 2 2 - A 1 2 * A 2 1) - A 0 1 * (A 1 0 * A 2 2 - A 1 2 * A 2 0) + A 0 2 * (A 1 0 * A 2 1 - A 1 1 * A 2 0)) - (A 0 0 * (A 1 1 * A 3 2 - A 1 2 * A 3 1) - A 0 1 * (A 1 0 * A 3 2 - A 1 2 * A 3 0) + A 0 2 * (A 1 0 * A 3 1 - A 1 1 * A 3 0)) * (A 0 0 * (A 1 1 * A 2 3 - A 1 3 * A 2 1) - A 0 1 * (A 1 0 * A 2 3 - A 1 3 * A 2 0) + A 0 3 * (A 1 0 * A 2 1 - A 1 1 * A 2 0)) = (A 1 1 * A 0 0 - A 1 0 * A 0 1) * x_dt A 4 := by
    simp only [x_dt]
    grind
  have e3 : 4 ≤ s → x_ba A 3 3 3 = x_dt A 4 := fun h => by
    have h2 := d2 (by omega)
    have h1 := d1 (by omega)
    rw [ba_step, if_pos ⟨by omega, by omega⟩, b2 3 3 h1 (by omega) (by omega), b2 2 2 h1 (by omega) (by omega), b2 3 2 h1 (by omega) (by omega), b2 2 3 h1 (by omega) (by omega)]
    show Int.tdiv _ (x_ba A 1 1 1) = _
    rw [b1 1 1 (by omega) (by omega)]
    rw [n3]
    exact Int.mul_tdiv_cancel_left _ (by omega)
  refine ⟨fun p hp => ?_, ?_⟩
  · have hp4 : p = 0 ∨ p = 1 ∨ p = 2 ∨ p = 3 := by omega
    rcases hp4 with e | e | e | e
    · subst e
      have h1 := d1 (by omega)
      have h2 := hb 0 0 (by omega) (by omega)
      refine ⟨⟨h1, ?_⟩, ⟨by show (0 : Int) < 1; omega, by show (1 : Int) < 9223372036854775808; omega⟩, fun r c q1 q2 q3 q4 => ?_⟩
      · show A 0 0 < _; omega
      · have := l1 r c q1 q2 q3 q4
        show xm_inL (A r c * A 0 0 - A r 0 * A 0 c)
        exact ⟨by omega, by omega⟩
    · subst e
      have h1 := d1 (by omega)
      have h2 := d2 (by omega)
      have h3 := hb 0 0 (by omega) (by omega)
      have h4 := l1 1 1 (by omega) (by omega) (by omega) (by omega)
      refine ⟨?_, ⟨h1, by show A 0 0 < _; omega⟩, fun r c q1 q2 q3 q4 => ?_⟩
      · rw [b1 1 1 (by omega) (by omega)]
        exact ⟨h2, by omega⟩
      · rw [b1 r c (by omega) (by omega), b1 1 1 (by omega) (by omega), b1 r 1 (by omega) (by omega), b1 1 c (by omega) (by omega)]
        have z1 := mul_ab (a := 288) (b := 288) (by omega) (l1 r c (by omega) q2 (by omega) q4) h4
        have z2 := mul_ab (a := 288) (b := 288) (by omega) (l1 r 1 (by omega) q2 (by omega) (by omega)) (l1 1 c (by omega) (by omega) (by omega) q4)
        exact ⟨by omega, by omega⟩
    · subst e
      have h1 := d1 (by omega)
      have h2 := d2 (by omega)
      have h3 := d3 (by omega)
      have h4 := l1 1 1 (by omega) (by omega) (by omega) (by omega)
      have h5 := l2 2 2 (by omega) (by omega) (by omega) (by omega)
      refine ⟨⟨h3, ?_⟩, ⟨?_, ?_⟩, fun r c q1 q2 q3 q4 => ?_⟩
      · rw [b2 2 2 h1 (by omega) (by omega)]; omega
      · show 0 < x_ba A 1 1 1
        rw [b1 1 1 (by omega) (by omega)]; exact h2
      · show x_ba A 1 1 1 < _
        rw [b1 1 1 (by omega) (by omega)]; omega
      · rw [b2 r c h1 (by omega) (by omega), b2 2 2 h1 (by omega) (by omega), b2 r 2 h1 (by omega) (by omega), b2 2 c h1 (by omega) (by omega)]
        have z1 := mul_ab (a := 10368) (b := 10368) (by omega) (l2 r c (by omega) q2 (by omega) q4) h5
        have z2 := mul_ab (a := 10368) (b := 10368) (by omega) (l2 r 2 (by omega) q2 (by omega) (by omega)) (l2 2 c (by omega) (by omega) (by omega) q4)
        exact ⟨by omega, by omega⟩
    · subst e
      have h1 := d1 (by omega)
      have h2 := d2 (by omega)
      have h3 := d3 (by omega)
      have h5 := l2 2 2 (by omega) (by omega) (by omega) (by omega)
      have h6 := hm 4 (by omega)
      have e3 := e3 (by omega)
      refine ⟨⟨by rw [e3]; exact h6, ?_⟩, ⟨h3, ?_⟩, fun r c q1 q2 q3 q4 => by omega⟩
      · rw [e3]
        have z1 := mul_ab (a := 10368) (b := 10368) (by omega) (l2 3 3 (by omega) (by omega) (by omega) (by omega)) h5
        have z2 := mul_ab (a := 10368) (b := 10368) (by omega) (l2 3 2 (by omega) (by omega) (by omega) (by omega)) (l2 2 3 (by omega) (by omega) (by omega) (by omega))
        have z3 := Int.mul_le_mul_of_nonneg_right (show 1 ≤ A 1 1 * A 0 0 - A 1 0 * A 0 1 by omega) (show 0 ≤ x_dt A 4 by omega)
        rw [← n3] at z3
        omega
      · show x_ba A 2 2 2 < _
        rw [b2 2 2 h1 (by omega) (by omega)]; omega
  · have hs4 : s = 0 ∨ s = 1 ∨ s = 2 ∨ s = 3 ∨ s = 4 := by omega
    rcases hs4 with e | e | e | e | e
    · subst e; rfl
    · subst e; rfl
    · subst e
      show x_ba A 1 1 1 = _
      rw [b1 1 1 (by omega) (by omega)]
      simp only [x_dt]
      grind
    · subst e
      show x_ba A 2 2 2 = _
      rw [b2 2 2 (d1 (by omega)) (by omega) (by omega)]
      simp only [x_dt]
    · subst e
      exact e3 (by omega)
