/-! printed by wip/whole/gen44.py: the reference's sums over trees -/
def y_lf (n t code : Nat) : Nat → Nat
  | 0 => code
  | s + 1 => y_lf n t code s / (if s = t then 1 else n)
def y_wy (n t code s : Nat) : Nat := y_lf n t code s % n
def y_wk (wy : Nat → Nat) (t : Nat) : Nat → Nat → Nat
  | 0, at' => at'
  | f + 1, at' => if at' = t then at' else y_wk wy t f (wy at')
def y_cm (n t code : Nat) : Nat → Bool
  | 0 => true
  | s + 1 => y_cm n t code s && Nat.beq (y_wk (y_wy n t code) t n s) t
def y_pr (w : Nat → Nat → Int) (n t code : Nat) : Nat → Int
  | 0 => 1
  | s + 1 => y_pr w n t code s * (if s = t then 1 else w s (y_wy n t code s))
def y_ws (w : Nat → Nat → Int) (n t : Nat) : Nat → Int
  | 0 => 0
  | code + 1 => if y_cm n t code n = true then y_ws w n t code + y_pr w n t code n else y_ws w n t code
def y_cl (n t : Nat) : Nat → List Nat
  | 0 => []
  | code + 1 => if y_cm n t code n = true then code :: y_cl n t code else y_cl n t code
def y_sl (w : Nat → Nat → Int) (n t : Nat) : List Nat → Int
  | [] => 0
  | c :: l => y_sl w n t l + y_pr w n t c n
theorem ws_sl (w : Nat → Nat → Int) (n t : Nat) : ∀ m : Nat, y_ws w n t m = y_sl w n t (y_cl n t m)
  | 0 => rfl
  | m + 1 => by
    rw [y_ws, y_cl]
    split
    · rw [y_sl, ws_sl w n t m]
    · exact ws_sl w n t m
/-- the weights between the states of T and the others -/
def x_cut (n : Nat) (w : Nat → Nat → Int) (T : Nat → Bool) : Int := x_s (fun a => x_s (fun b => if T a = true ∧ T b = false then w a b else 0) n) n
theorem x_s_nn {f : Nat → Int} : ∀ n : Nat, (∀ j : Nat, j < n → 0 ≤ f j) → 0 ≤ x_s f n
  | 0, _ => Int.le_refl 0
  | n + 1, h => by
    have ih := x_s_nn n (fun j hj => h j (by omega))
    have g := h n (by omega)
    rw [x_s]
    omega
theorem x_s_pos {f : Nat → Int} {k : Nat} : ∀ n : Nat, k < n → (∀ j : Nat, j < n → 0 ≤ f j) → 0 < f k → 0 < x_s f n
  | 0, hk, _, _ => by omega
  | n + 1, hk, h, h1 => by
    have g := h n (by omega)
    rw [x_s]
    by_cases e : k = n
    · subst e
      have := x_s_nn k (fun j hj => h j (by omega))
      omega
    · have := x_s_pos n (by omega) (fun j hj => h j (by omega)) h1
      omega
theorem cut_pos {n i t : Nat} {w : Nat → Nat → Int} {T : Nat → Bool} (hw : ∀ a b : Nat, a < n → b < n → 0 ≤ w a b) (h : x_Rch n w i t) (hi : T i = true) (ht : T t = false) : 0 < x_cut n w T := by
  by_cases g : ∃ a b : Nat, a < n ∧ b < n ∧ T a = true ∧ T b = false ∧ 0 < w a b
  · obtain ⟨a, b, ha, hb, h1, h2, h3⟩ := g
    have nn : ∀ a b : Nat, a < n → b < n → 0 ≤ (if T a = true ∧ T b = false then w a b else 0) := fun a b ha hb => by
      split
      · exact hw a b ha hb
      · exact Int.le_refl 0
    refine x_s_pos (k := a) n ha (fun j hj => x_s_nn n (fun b hb => nn j b hj hb)) ?_
    refine x_s_pos (k := b) n hb (fun b hb => nn a b ha hb) ?_
    rw [if_pos ⟨h1, h2⟩]
    exact h3
  · have := h (fun a => T a = true) (fun a b ha hb hca hf => by
      cases hb2 : T b with
      | true => rfl
      | false => exact absurd ⟨a, b, ha, hb, hca, hb2, hf⟩ g) hi
    rw [ht] at this
    exact absurd this Bool.false_ne_true
/-- what is wanted of the states without t -/
def x_fin (n t : Nat) (w : Nat → Nat → Int) : Prop := (∀ k : Nat, k ≤ n - 1 → 0 < x_dt (x_A w t) k) ∧ x_dt (x_A w t) (n - 1) = y_ws w n t (n ^ (n - 1)) ∧ x_dt (x_A w t) (n - 1) ≤ 20736
theorem cl_1_0 : y_cl 1 0 1 = [0] := by decide +kernel
theorem fin_1_0 {w : Nat → Nat → Int} (hs : x_Snd 1 w) (hw : ∀ a b : Nat, a < 1 → b < 1 → 0 ≤ w a b) : x_fin 1 0 w := by
  have r0 : 0 + w 0 0 = 12 := hs.2.1 0 (by omega)
  have n00 := hw 0 0 (by omega) (by omega)
  refine ⟨fun k hk => ?_, ?_, ?_⟩
  · have hk2 : k = 0 := by omega
    subst hk2
    show (0 : Int) < 1
    omega
  · show x_dt (x_A w 0) 0 = y_ws w 1 0 1
    rw [ws_sl, cl_1_0]
    show _ = 0 + 1 * 1
    show (1 : Int) = _
    omega
  · show x_dt (x_A w 0) 0 ≤ 20736
    show (1 : Int) ≤ 20736
    omega
theorem cl_2_0 : y_cl 2 0 2 = [0] := by decide +kernel
theorem fin_2_0 {w : Nat → Nat → Int} (hs : x_Snd 2 w) (hw : ∀ a b : Nat, a < 2 → b < 2 → 0 ≤ w a b) : x_fin 2 0 w := by
  have r0 : 0 + w 0 0 + w 0 1 = 12 := hs.2.1 0 (by omega)
  have n00 := hw 0 0 (by omega) (by omega)
  have n01 := hw 0 1 (by omega) (by omega)
  have r1 : 0 + w 1 0 + w 1 1 = 12 := hs.2.1 1 (by omega)
  have n10 := hw 1 0 (by omega) (by omega)
  have n11 := hw 1 1 (by omega) (by omega)
  have A00 : x_A w 0 0 0 = 12 - w 1 1 := rfl
  have c0 : 0 < 0 + (0 + 0 + 0) + (0 + w 1 0 + 0) := cut_pos (T := fun s => Nat.beq s 1) hw (hs.2.2 1 0 (by omega) (by omega)) rfl rfl
  have e1 : x_dt (x_A w 0) 1 = x_P1 (w 1 0) := by
    simp only [x_dt, A00]
    rw [show (12 : Int) - w 1 1 = w 1 0 by omega]
    unfold x_P1
    grind
  have m1 : 0 < x_dt (x_A w 0) 1 := by rw [e1]; apply pp1 <;> omega
  refine ⟨fun k hk => ?_, ?_, ?_⟩
  · have hk2 : k = 0 ∨ k = 1 := by omega
    rcases hk2 with e | e
    · subst e
      show (0 : Int) < 1
      omega
    · subst e; exact m1
  · show x_dt (x_A w 0) 1 = y_ws w 2 0 2
    rw [ws_sl, cl_2_0]
    show _ = 0 + 1 * 1 * w 1 0
    simp only [x_dt, A00]
    rw [show (12 : Int) - w 1 1 = w 1 0 by omega]
    clear c0 m1 e1 r0 r1 n00 n01 n10 n11 A00 hs hw
    grind
  · show x_dt (x_A w 0) 1 ≤ 20736
    rw [e1]
    have b : 0 ≤ x_P1 (w 1 0) ∧ x_P1 (w 1 0) ≤ 12 := by apply pb1 <;> omega
    omega
theorem cl_2_1 : y_cl 2 1 2 = [1] := by decide +kernel
theorem fin_2_1 {w : Nat → Nat → Int} (hs : x_Snd 2 w) (hw : ∀ a b : Nat, a < 2 → b < 2 → 0 ≤ w a b) : x_fin 2 1 w := by
  have r0 : 0 + w 0 0 + w 0 1 = 12 := hs.2.1 0 (by omega)
  have n00 := hw 0 0 (by omega) (by omega)
  have n01 := hw 0 1 (by omega) (by omega)
  have r1 : 0 + w 1 0 + w 1 1 = 12 := hs.2.1 1 (by omega)
  have n10 := hw 1 0 (by omega) (by omega)
  have n11 := hw 1 1 (by omega) (by omega)
  have A00 : x_A w 1 0 0 = 12 - w 0 0 := rfl
  have c0 : 0 < 0 + (0 + 0 + w 0 1) + (0 + 0 + 0) := cut_pos (T := fun s => Nat.beq s 0) hw (hs.2.2 0 1 (by omega) (by omega)) rfl rfl
  have e1 : x_dt (x_A w 1) 1 = x_P1 (w 0 1) := by
    simp only [x_dt, A00]
    rw [show (12 : Int) - w 0 0 = w 0 1 by omega]
    unfold x_P1
    grind
  have m1 : 0 < x_dt (x_A w 1) 1 := by rw [e1]; apply pp1 <;> omega
  refine ⟨fun k hk => ?_, ?_, ?_⟩
  · have hk2 : k = 0 ∨ k = 1 := by omega
    rcases hk2 with e | e
    · subst e
      show (0 : Int) < 1
      omega
    · subst e; exact m1
  · show x_dt (x_A w 1) 1 = y_ws w 2 1 2
    rw [ws_sl, cl_2_1]
    show _ = 0 + 1 * w 0 1 * 1
    simp only [x_dt, A00]
    rw [show (12 : Int) - w 0 0 = w 0 1 by omega]
    clear c0 m1 e1 r0 r1 n00 n01 n10 n11 A00 hs hw
    grind
  · show x_dt (x_A w 1) 1 ≤ 20736
    rw [e1]
    have b : 0 ≤ x_P1 (w 0 1) ∧ x_P1 (w 0 1) ≤ 12 := by apply pb1 <;> omega
    omega
theorem cl_3_0 : y_cl 3 0 9 = [3, 2, 0] := by decide +kernel
theorem fin_3_0 {w : Nat → Nat → Int} (hs : x_Snd 3 w) (hw : ∀ a b : Nat, a < 3 → b < 3 → 0 ≤ w a b) : x_fin 3 0 w := by
  have r0 : 0 + w 0 0 + w 0 1 + w 0 2 = 12 := hs.2.1 0 (by omega)
  have n00 := hw 0 0 (by omega) (by omega)
  have n01 := hw 0 1 (by omega) (by omega)
  have n02 := hw 0 2 (by omega) (by omega)
  have r1 : 0 + w 1 0 + w 1 1 + w 1 2 = 12 := hs.2.1 1 (by omega)
  have n10 := hw 1 0 (by omega) (by omega)
  have n11 := hw 1 1 (by omega) (by omega)
  have n12 := hw 1 2 (by omega) (by omega)
  have r2 : 0 + w 2 0 + w 2 1 + w 2 2 = 12 := hs.2.1 2 (by omega)
  have n20 := hw 2 0 (by omega) (by omega)
  have n21 := hw 2 1 (by omega) (by omega)
  have n22 := hw 2 2 (by omega) (by omega)
  have A00 : x_A w 0 0 0 = 12 - w 1 1 := rfl
  have A01 : x_A w 0 0 1 = 0 - w 1 2 := rfl
  have A10 : x_A w 0 1 0 = 0 - w 2 1 := rfl
  have A11 : x_A w 0 1 1 = 12 - w 2 2 := rfl
  have c0 : 0 < 0 + (0 + 0 + 0 + 0) + (0 + w 1 0 + 0 + w 1 2) + (0 + 0 + 0 + 0) := cut_pos (T := fun s => Nat.beq s 1) hw (hs.2.2 1 0 (by omega) (by omega)) rfl rfl
  have c1 : 0 < 0 + (0 + 0 + 0 + 0) + (0 + 0 + 0 + 0) + (0 + w 2 0 + w 2 1 + 0) := cut_pos (T := fun s => Nat.beq s 2) hw (hs.2.2 2 0 (by omega) (by omega)) rfl rfl
  have c01 : 0 < 0 + (0 + 0 + 0 + 0) + (0 + w 1 0 + 0 + 0) + (0 + w 2 0 + 0 + 0) := cut_pos (T := fun s => Nat.beq s 1 || Nat.beq s 2) hw (hs.2.2 1 0 (by omega) (by omega)) rfl rfl
  have e1 : x_dt (x_A w 0) 1 = x_P1 (w 1 0 + w 1 2) := by
    simp only [x_dt, A00]
    rw [show (12 : Int) - w 1 1 = w 1 0 + w 1 2 by omega]
    unfold x_P1
    grind
  have m1 : 0 < x_dt (x_A w 0) 1 := by rw [e1]; apply pp1 <;> omega
  have e2 : x_dt (x_A w 0) 2 = x_P2 (w 1 0) (w 2 0) (w 1 2) (w 2 1) := by
    simp only [x_dt, A00, A01, A10, A11]
    rw [show (12 : Int) - w 1 1 = w 1 0 + w 1 2 by omega]
    rw [show (12 : Int) - w 2 2 = w 2 0 + w 2 1 by omega]
    unfold x_P2
    grind
  have m2 : 0 < x_dt (x_A w 0) 2 := by rw [e2]; apply pp2 <;> omega
  refine ⟨fun k hk => ?_, ?_, ?_⟩
  · have hk2 : k = 0 ∨ k = 1 ∨ k = 2 := by omega
    rcases hk2 with e | e | e
    · subst e
      show (0 : Int) < 1
      omega
    · subst e; exact m1
    · subst e; exact m2
  · show x_dt (x_A w 0) 2 = y_ws w 3 0 9
    rw [ws_sl, cl_3_0]
    show _ = 0 + 1 * 1 * w 1 0 * w 2 0 + 1 * 1 * w 1 2 * w 2 0 + 1 * 1 * w 1 0 * w 2 1
    simp only [x_dt, A00, A01, A10, A11]
    rw [show (12 : Int) - w 1 1 = w 1 0 + w 1 2 by omega]
    rw [show (12 : Int) - w 2 2 = w 2 0 + w 2 1 by omega]
    clear c0 c1 c01 m1 m2 e1 e2 r0 r1 r2 n00 n01 n02 n10 n11 n12 n20 n21 n22 A00 A01 A10 A11 hs hw
    grind
  · show x_dt (x_A w 0) 2 ≤ 20736
    rw [e2]
    have b : 0 ≤ x_P2 (w 1 0) (w 2 0) (w 1 2) (w 2 1) ∧ x_P2 (w 1 0) (w 2 0) (w 1 2) (w 2 1) ≤ 144 := by apply pb2 <;> omega
    omega
theorem cl_3_1 : y_cl 3 1 9 = [5, 4, 1] := by decide +kernel
theorem fin_3_1 {w : Nat → Nat → Int} (hs : x_Snd 3 w) (hw : ∀ a b : Nat, a < 3 → b < 3 → 0 ≤ w a b) : x_fin 3 1 w := by
  have r0 : 0 + w 0 0 + w 0 1 + w 0 2 = 12 := hs.2.1 0 (by omega)
  have n00 := hw 0 0 (by omega) (by omega)
  have n01 := hw 0 1 (by omega) (by omega)
  have n02 := hw 0 2 (by omega) (by omega)
  have r1 : 0 + w 1 0 + w 1 1 + w 1 2 = 12 := hs.2.1 1 (by omega)
  have n10 := hw 1 0 (by omega) (by omega)
  have n11 := hw 1 1 (by omega) (by omega)
  have n12 := hw 1 2 (by omega) (by omega)
  have r2 : 0 + w 2 0 + w 2 1 + w 2 2 = 12 := hs.2.1 2 (by omega)
  have n20 := hw 2 0 (by omega) (by omega)
  have n21 := hw 2 1 (by omega) (by omega)
  have n22 := hw 2 2 (by omega) (by omega)
  have A00 : x_A w 1 0 0 = 12 - w 0 0 := rfl
  have A01 : x_A w 1 0 1 = 0 - w 0 2 := rfl
  have A10 : x_A w 1 1 0 = 0 - w 2 0 := rfl
  have A11 : x_A w 1 1 1 = 12 - w 2 2 := rfl
  have c0 : 0 < 0 + (0 + 0 + w 0 1 + w 0 2) + (0 + 0 + 0 + 0) + (0 + 0 + 0 + 0) := cut_pos (T := fun s => Nat.beq s 0) hw (hs.2.2 0 1 (by omega) (by omega)) rfl rfl
  have c1 : 0 < 0 + (0 + 0 + 0 + 0) + (0 + 0 + 0 + 0) + (0 + w 2 0 + w 2 1 + 0) := cut_pos (T := fun s => Nat.beq s 2) hw (hs.2.2 2 1 (by omega) (by omega)) rfl rfl
  have c01 : 0 < 0 + (0 + 0 + w 0 1 + 0) + (0 + 0 + 0 + 0) + (0 + 0 + w 2 1 + 0) := cut_pos (T := fun s => Nat.beq s 0 || Nat.beq s 2) hw (hs.2.2 0 1 (by omega) (by omega)) rfl rfl
  have e1 : x_dt (x_A w 1) 1 = x_P1 (w 0 1 + w 0 2) := by
    simp only [x_dt, A00]
    rw [show (12 : Int) - w 0 0 = w 0 1 + w 0 2 by omega]
    unfold x_P1
    grind
  have m1 : 0 < x_dt (x_A w 1) 1 := by rw [e1]; apply pp1 <;> omega
  have e2 : x_dt (x_A w 1) 2 = x_P2 (w 0 1) (w 2 1) (w 0 2) (w 2 0) := by
    simp only [x_dt, A00, A01, A10, A11]
    rw [show (12 : Int) - w 0 0 = w 0 1 + w 0 2 by omega]
    rw [show (12 : Int) - w 2 2 = w 2 0 + w 2 1 by omega]
    unfold x_P2
    grind
  have m2 : 0 < x_dt (x_A w 1) 2 := by rw [e2]; apply pp2 <;> omega
  refine ⟨fun k hk => ?_, ?_, ?_⟩
  · have hk2 : k = 0 ∨ k = 1 ∨ k = 2 := by omega
    rcases hk2 with e | e | e
    · subst e
      show (0 : Int) < 1
      omega
    · subst e; exact m1
    · subst e; exact m2
  · show x_dt (x_A w 1) 2 = y_ws w 3 1 9
    rw [ws_sl, cl_3_1]
    show _ = 0 + 1 * w 0 1 * 1 * w 2 0 + 1 * w 0 1 * 1 * w 2 1 + 1 * w 0 2 * 1 * w 2 1
    simp only [x_dt, A00, A01, A10, A11]
    rw [show (12 : Int) - w 0 0 = w 0 1 + w 0 2 by omega]
    rw [show (12 : Int) - w 2 2 = w 2 0 + w 2 1 by omega]
    clear c0 c1 c01 m1 m2 e1 e2 r0 r1 r2 n00 n01 n02 n10 n11 n12 n20 n21 n22 A00 A01 A10 A11 hs hw
    grind
  · show x_dt (x_A w 1) 2 ≤ 20736
    rw [e2]
    have b : 0 ≤ x_P2 (w 0 1) (w 2 1) (w 0 2) (w 2 0) ∧ x_P2 (w 0 1) (w 2 1) (w 0 2) (w 2 0) ≤ 144 := by apply pb2 <;> omega
    omega
theorem cl_3_2 : y_cl 3 2 9 = [8, 7, 2] := by decide +kernel
theorem fin_3_2 {w : Nat → Nat → Int} (hs : x_Snd 3 w) (hw : ∀ a b : Nat, a < 3 → b < 3 → 0 ≤ w a b) : x_fin 3 2 w := by
  have r0 : 0 + w 0 0 + w 0 1 + w 0 2 = 12 := hs.2.1 0 (by omega)
  have n00 := hw 0 0 (by omega) (by omega)
  have n01 := hw 0 1 (by omega) (by omega)
  have n02 := hw 0 2 (by omega) (by omega)
  have r1 : 0 + w 1 0 + w 1 1 + w 1 2 = 12 := hs.2.1 1 (by omega)
  have n10 := hw 1 0 (by omega) (by omega)
  have n11 := hw 1 1 (by omega) (by omega)
  have n12 := hw 1 2 (by omega) (by omega)
  have r2 : 0 + w 2 0 + w 2 1 + w 2 2 = 12 := hs.2.1 2 (by omega)
  have n20 := hw 2 0 (by omega) (by omega)
  have n21 := hw 2 1 (by omega) (by omega)
  have n22 := hw 2 2 (by omega) (by omega)
  have A00 : x_A w 2 0 0 = 12 - w 0 0 := rfl
  have A01 : x_A w 2 0 1 = 0 - w 0 1 := rfl
  have A10 : x_A w 2 1 0 = 0 - w 1 0 := rfl
  have A11 : x_A w 2 1 1 = 12 - w 1 1 := rfl
  have c0 : 0 < 0 + (0 + 0 + w 0 1 + w 0 2) + (0 + 0 + 0 + 0) + (0 + 0 + 0 + 0) := cut_pos (T := fun s => Nat.beq s 0) hw (hs.2.2 0 2 (by omega) (by omega)) rfl rfl
  have c1 : 0 < 0 + (0 + 0 + 0 + 0) + (0 + w 1 0 + 0 + w 1 2) + (0 + 0 + 0 + 0) := cut_pos (T := fun s => Nat.beq s 1) hw (hs.2.2 1 2 (by omega) (by omega)) rfl rfl
  have c01 : 0 < 0 + (0 + 0 + 0 + w 0 2) + (0 + 0 + 0 + w 1 2) + (0 + 0 + 0 + 0) := cut_pos (T := fun s => Nat.beq s 0 || Nat.beq s 1) hw (hs.2.2 0 2 (by omega) (by omega)) rfl rfl
  have e1 : x_dt (x_A w 2) 1 = x_P1 (w 0 1 + w 0 2) := by
    simp only [x_dt, A00]
    rw [show (12 : Int) - w 0 0 = w 0 1 + w 0 2 by omega]
    unfold x_P1
    grind
  have m1 : 0 < x_dt (x_A w 2) 1 := by rw [e1]; apply pp1 <;> omega
  have e2 : x_dt (x_A w 2) 2 = x_P2 (w 0 2) (w 1 2) (w 0 1) (w 1 0) := by
    simp only [x_dt, A00, A01, A10, A11]
    rw [show (12 : Int) - w 0 0 = w 0 1 + w 0 2 by omega]
    rw [show (12 : Int) - w 1 1 = w 1 0 + w 1 2 by omega]
    unfold x_P2
    grind
  have m2 : 0 < x_dt (x_A w 2) 2 := by rw [e2]; apply pp2 <;> omega
  refine ⟨fun k hk => ?_, ?_, ?_⟩
  · have hk2 : k = 0 ∨ k = 1 ∨ k = 2 := by omega
    rcases hk2 with e | e | e
    · subst e
      show (0 : Int) < 1
      omega
    · subst e; exact m1
    · subst e; exact m2
  · show x_dt (x_A w 2) 2 = y_ws w 3 2 9
    rw [ws_sl, cl_3_2]
    show _ = 0 + 1 * w 0 2 * w 1 0 * 1 + 1 * w 0 1 * w 1 2 * 1 + 1 * w 0 2 * w 1 2 * 1
    simp only [x_dt, A00, A01, A10, A11]
    rw [show (12 : Int) - w 0 0 = w 0 1 + w 0 2 by omega]
    rw [show (12 : Int) - w 1 1 = w 1 0 + w 1 2 by omega]
    clear c0 c1 c01 m1 m2 e1 e2 r0 r1 r2 n00 n01 n02 n10 n11 n12 n20 n21 n22 A00 A01 A10 A11 hs hw
    grind
  · show x_dt (x_A w 2) 2 ≤ 20736
    rw [e2]
    have b : 0 ≤ x_P2 (w 0 2) (w 1 2) (w 0 1) (w 1 0) ∧ x_P2 (w 0 2) (w 1 2) (w 0 1) (w 1 0) ≤ 144 := by apply pb2 <;> omega
    omega
theorem cl_4_0 : y_cl 4 0 64 = [36, 35, 34, 32, 28, 20, 18, 16, 15, 14, 12, 7, 4, 3, 2, 0] := by decide +kernel
theorem fin_4_0 {w : Nat → Nat → Int} (hs : x_Snd 4 w) (hw : ∀ a b : Nat, a < 4 → b < 4 → 0 ≤ w a b) : x_fin 4 0 w := by
  have r0 : 0 + w 0 0 + w 0 1 + w 0 2 + w 0 3 = 12 := hs.2.1 0 (by omega)
  have n00 := hw 0 0 (by omega) (by omega)
  have n01 := hw 0 1 (by omega) (by omega)
  have n02 := hw 0 2 (by omega) (by omega)
  have n03 := hw 0 3 (by omega) (by omega)
  have r1 : 0 + w 1 0 + w 1 1 + w 1 2 + w 1 3 = 12 := hs.2.1 1 (by omega)
  have n10 := hw 1 0 (by omega) (by omega)
  have n11 := hw 1 1 (by omega) (by omega)
  have n12 := hw 1 2 (by omega) (by omega)
  have n13 := hw 1 3 (by omega) (by omega)
  have r2 : 0 + w 2 0 + w 2 1 + w 2 2 + w 2 3 = 12 := hs.2.1 2 (by omega)
  have n20 := hw 2 0 (by omega) (by omega)
  have n21 := hw 2 1 (by omega) (by omega)
  have n22 := hw 2 2 (by omega) (by omega)
  have n23 := hw 2 3 (by omega) (by omega)
  have r3 : 0 + w 3 0 + w 3 1 + w 3 2 + w 3 3 = 12 := hs.2.1 3 (by omega)
  have n30 := hw 3 0 (by omega) (by omega)
  have n31 := hw 3 1 (by omega) (by omega)
  have n32 := hw 3 2 (by omega) (by omega)
  have n33 := hw 3 3 (by omega) (by omega)
  have A00 : x_A w 0 0 0 = 12 - w 1 1 := rfl
  have A01 : x_A w 0 0 1 = 0 - w 1 2 := rfl
  have A02 : x_A w 0 0 2 = 0 - w 1 3 := rfl
  have A10 : x_A w 0 1 0 = 0 - w 2 1 := rfl
  have A11 : x_A w 0 1 1 = 12 - w 2 2 := rfl
  have A12 : x_A w 0 1 2 = 0 - w 2 3 := rfl
  have A20 : x_A w 0 2 0 = 0 - w 3 1 := rfl
  have A21 : x_A w 0 2 1 = 0 - w 3 2 := rfl
  have A22 : x_A w 0 2 2 = 12 - w 3 3 := rfl
  have c0 : 0 < 0 + (0 + 0 + 0 + 0 + 0) + (0 + w 1 0 + 0 + w 1 2 + w 1 3) + (0 + 0 + 0 + 0 + 0) + (0 + 0 + 0 + 0 + 0) := cut_pos (T := fun s => Nat.beq s 1) hw (hs.2.2 1 0 (by omega) (by omega)) rfl rfl
  have c1 : 0 < 0 + (0 + 0 + 0 + 0 + 0) + (0 + 0 + 0 + 0 + 0) + (0 + w 2 0 + w 2 1 + 0 + w 2 3) + (0 + 0 + 0 + 0 + 0) := cut_pos (T := fun s => Nat.beq s 2) hw (hs.2.2 2 0 (by omega) (by omega)) rfl rfl
  have c2 : 0 < 0 + (0 + 0 + 0 + 0 + 0) + (0 + 0 + 0 + 0 + 0) + (0 + 0 + 0 + 0 + 0) + (0 + w 3 0 + w 3 1 + w 3 2 + 0) := cut_pos (T := fun s => Nat.beq s 3) hw (hs.2.2 3 0 (by omega) (by omega)) rfl rfl
  have c01 : 0 < 0 + (0 + 0 + 0 + 0 + 0) + (0 + w 1 0 + 0 + 0 + w 1 3) + (0 + w 2 0 + 0 + 0 + w 2 3) + (0 + 0 + 0 + 0 + 0) := cut_pos (T := fun s => Nat.beq s 1 || Nat.beq s 2) hw (hs.2.2 1 0 (by omega) (by omega)) rfl rfl
  have c02 : 0 < 0 + (0 + 0 + 0 + 0 + 0) + (0 + w 1 0 + 0 + w 1 2 + 0) + (0 + 0 + 0 + 0 + 0) + (0 + w 3 0 + 0 + w 3 2 + 0) := cut_pos (T := fun s => Nat.beq s 1 || Nat.beq s 3) hw (hs.2.2 1 0 (by omega) (by omega)) rfl rfl
  have c12 : 0 < 0 + (0 + 0 + 0 + 0 + 0) + (0 + 0 + 0 + 0 + 0) + (0 + w 2 0 + w 2 1 + 0 + 0) + (0 + w 3 0 + w 3 1 + 0 + 0) := cut_pos (T := fun s => Nat.beq s 2 || Nat.beq s 3) hw (hs.2.2 2 0 (by omega) (by omega)) rfl rfl
  have c012 : 0 < 0 + (0 + 0 + 0 + 0 + 0) + (0 + w 1 0 + 0 + 0 + 0) + (0 + w 2 0 + 0 + 0 + 0) + (0 + w 3 0 + 0 + 0 + 0) := cut_pos (T := fun s => Nat.beq s 1 || Nat.beq s 2 || Nat.beq s 3) hw (hs.2.2 1 0 (by omega) (by omega)) rfl rfl
  have e1 : x_dt (x_A w 0) 1 = x_P1 (w 1 0 + w 1 2 + w 1 3) := by
    simp only [x_dt, A00]
    rw [show (12 : Int) - w 1 1 = w 1 0 + w 1 2 + w 1 3 by omega]
    unfold x_P1
    grind
  have m1 : 0 < x_dt (x_A w 0) 1 := by rw [e1]; apply pp1 <;> omega
  have e2 : x_dt (x_A w 0) 2 = x_P2 (w 1 0 + w 1 3) (w 2 0 + w 2 3) (w 1 2) (w 2 1) := by
    simp only [x_dt, A00, A01, A10, A11]
    rw [show (12 : Int) - w 1 1 = w 1 0 + w 1 2 + w 1 3 by omega]
    rw [show (12 : Int) - w 2 2 = w 2 0 + w 2 1 + w 2 3 by omega]
    unfold x_P2
    grind
  have m2 : 0 < x_dt (x_A w 0) 2 := by rw [e2]; apply pp2 <;> omega
  have e3 : x_dt (x_A w 0) 3 = x_P3 (w 1 0) (w 2 0) (w 3 0) (w 1 2) (w 1 3) (w 2 1) (w 2 3) (w 3 1) (w 3 2) := by
    simp only [x_dt, A00, A01, A02, A10, A11, A12, A20, A21, A22]
    rw [show (12 : Int) - w 1 1 = w 1 0 + w 1 2 + w 1 3 by omega]
    rw [show (12 : Int) - w 2 2 = w 2 0 + w 2 1 + w 2 3 by omega]
    rw [show (12 : Int) - w 3 3 = w 3 0 + w 3 1 + w 3 2 by omega]
    unfold x_P3
    grind
  have m3 : 0 < x_dt (x_A w 0) 3 := by rw [e3]; apply pp3 <;> omega
  refine ⟨fun k hk => ?_, ?_, ?_⟩
  · have hk2 : k = 0 ∨ k = 1 ∨ k = 2 ∨ k = 3 := by omega
    rcases hk2 with e | e | e | e
    · subst e
      show (0 : Int) < 1
      omega
    · subst e; exact m1
    · subst e; exact m2
    · subst e; exact m3
  · show x_dt (x_A w 0) 3 = y_ws w 4 0 64
    rw [ws_sl, cl_4_0]
    show _ = 0 + 1 * 1 * w 1 0 * w 2 0 * w 3 0 + 1 * 1 * w 1 2 * w 2 0 * w 3 0 + 1 * 1 * w 1 3 * w 2 0 * w 3 0 + 1 * 1 * w 1 0 * w 2 1 * w 3 0 + 1 * 1 * w 1 3 * w 2 1 * w 3 0 + 1 * 1 * w 1 0 * w 2 3 * w 3 0 + 1 * 1 * w 1 2 * w 2 3 * w 3 0 + 1 * 1 * w 1 3 * w 2 3 * w 3 0 + 1 * 1 * w 1 0 * w 2 0 * w 3 1 + 1 * 1 * w 1 2 * w 2 0 * w 3 1 + 1 * 1 * w 1 0 * w 2 1 * w 3 1 + 1 * 1 * w 1 0 * w 2 3 * w 3 1 + 1 * 1 * w 1 0 * w 2 0 * w 3 2 + 1 * 1 * w 1 2 * w 2 0 * w 3 2 + 1 * 1 * w 1 3 * w 2 0 * w 3 2 + 1 * 1 * w 1 0 * w 2 1 * w 3 2
    simp only [x_dt, A00, A01, A02, A10, A11, A12, A20, A21, A22]
    rw [show (12 : Int) - w 1 1 = w 1 0 + w 1 2 + w 1 3 by omega]
    rw [show (12 : Int) - w 2 2 = w 2 0 + w 2 1 + w 2 3 by omega]
    rw [show (12 : Int) - w 3 3 = w 3 0 + w 3 1 + w 3 2 by omega]
    clear c0 c1 c2 c01 c02 c12 c012 m1 m2 m3 e1 e2 e3 r0 r1 r2 r3 n00 n01 n02 n03 n10 n11 n12 n13 n20 n21 n22 n23 n30 n31 n32 n33 A00 A01 A02 A10 A11 A12 A20 A21 A22 hs hw
    grind
  · show x_dt (x_A w 0) 3 ≤ 20736
    rw [e3]
    have b : 0 ≤ x_P3 (w 1 0) (w 2 0) (w 3 0) (w 1 2) (w 1 3) (w 2 1) (w 2 3) (w 3 1) (w 3 2) ∧ x_P3 (w 1 0) (w 2 0) (w 3 0) (w 1 2) (w 1 3) (w 2 1) (w 2 3) (w 3 1) (w 3 2) ≤ 1728 := by apply pb3 <;> omega
    omega
theorem cl_4_1 : y_cl 4 1 64 = [39, 38, 37, 33, 31, 30, 29, 23, 22, 21, 19, 17, 13, 6, 5, 1] := by decide +kernel
theorem fin_4_1 {w : Nat → Nat → Int} (hs : x_Snd 4 w) (hw : ∀ a b : Nat, a < 4 → b < 4 → 0 ≤ w a b) : x_fin 4 1 w := by
  have r0 : 0 + w 0 0 + w 0 1 + w 0 2 + w 0 3 = 12 := hs.2.1 0 (by omega)
  have n00 := hw 0 0 (by omega) (by omega)
  have n01 := hw 0 1 (by omega) (by omega)
  have n02 := hw 0 2 (by omega) (by omega)
  have n03 := hw 0 3 (by omega) (by omega)
  have r1 : 0 + w 1 0 + w 1 1 + w 1 2 + w 1 3 = 12 := hs.2.1 1 (by omega)
  have n10 := hw 1 0 (by omega) (by omega)
  have n11 := hw 1 1 (by omega) (by omega)
  have n12 := hw 1 2 (by omega) (by omega)
  have n13 := hw 1 3 (by omega) (by omega)
  have r2 : 0 + w 2 0 + w 2 1 + w 2 2 + w 2 3 = 12 := hs.2.1 2 (by omega)
  have n20 := hw 2 0 (by omega) (by omega)
  have n21 := hw 2 1 (by omega) (by omega)
  have n22 := hw 2 2 (by omega) (by omega)
  have n23 := hw 2 3 (by omega) (by omega)
  have r3 : 0 + w 3 0 + w 3 1 + w 3 2 + w 3 3 = 12 := hs.2.1 3 (by omega)
  have n30 := hw 3 0 (by omega) (by omega)
  have n31 := hw 3 1 (by omega) (by omega)
  have n32 := hw 3 2 (by omega) (by omega)
  have n33 := hw 3 3 (by omega) (by omega)
  have A00 : x_A w 1 0 0 = 12 - w 0 0 := rfl
  have A01 : x_A w 1 0 1 = 0 - w 0 2 := rfl
  have A02 : x_A w 1 0 2 = 0 - w 0 3 := rfl
  have A10 : x_A w 1 1 0 = 0 - w 2 0 := rfl
  have A11 : x_A w 1 1 1 = 12 - w 2 2 := rfl
  have A12 : x_A w 1 1 2 = 0 - w 2 3 := rfl
  have A20 : x_A w 1 2 0 = 0 - w 3 0 := rfl
  have A21 : x_A w 1 2 1 = 0 - w 3 2 := rfl
  have A22 : x_A w 1 2 2 = 12 - w 3 3 := rfl
  have c0 : 0 < 0 + (0 + 0 + w 0 1 + w 0 2 + w 0 3) + (0 + 0 + 0 + 0 + 0) + (0 + 0 + 0 + 0 + 0) + (0 + 0 + 0 + 0 + 0) := cut_pos (T := fun s => Nat.beq s 0) hw (hs.2.2 0 1 (by omega) (by omega)) rfl rfl
  have c1 : 0 < 0 + (0 + 0 + 0 + 0 + 0) + (0 + 0 + 0 + 0 + 0) + (0 + w 2 0 + w 2 1 + 0 + w 2 3) + (0 + 0 + 0 + 0 + 0) := cut_pos (T := fun s => Nat.beq s 2) hw (hs.2.2 2 1 (by omega) (by omega)) rfl rfl
  have c2 : 0 < 0 + (0 + 0 + 0 + 0 + 0) + (0 + 0 + 0 + 0 + 0) + (0 + 0 + 0 + 0 + 0) + (0 + w 3 0 + w 3 1 + w 3 2 + 0) := cut_pos (T := fun s => Nat.beq s 3) hw (hs.2.2 3 1 (by omega) (by omega)) rfl rfl
  have c01 : 0 < 0 + (0 + 0 + w 0 1 + 0 + w 0 3) + (0 + 0 + 0 + 0 + 0) + (0 + 0 + w 2 1 + 0 + w 2 3) + (0 + 0 + 0 + 0 + 0) := cut_pos (T := fun s => Nat.beq s 0 || Nat.beq s 2) hw (hs.2.2 0 1 (by omega) (by omega)) rfl rfl
  have c02 : 0 < 0 + (0 + 0 + w 0 1 + w 0 2 + 0) + (0 + 0 + 0 + 0 + 0) + (0 + 0 + 0 + 0 + 0) + (0 + 0 + w 3 1 + w 3 2 + 0) := cut_pos (T := fun s => Nat.beq s 0 || Nat.beq s 3) hw (hs.2.2 0 1 (by omega) (by omega)) rfl rfl
  have c12 : 0 < 0 + (0 + 0 + 0 + 0 + 0) + (0 + 0 + 0 + 0 + 0) + (0 + w 2 0 + w 2 1 + 0 + 0) + (0 + w 3 0 + w 3 1 + 0 + 0) := cut_pos (T := fun s => Nat.beq s 2 || Nat.beq s 3) hw (hs.2.2 2 1 (by omega) (by omega)) rfl rfl
  have c012 : 0 < 0 + (0 + 0 + w 0 1 + 0 + 0) + (0 + 0 + 0 + 0 + 0) + (0 + 0 + w 2 1 + 0 + 0) + (0 + 0 + w 3 1 + 0 + 0) := cut_pos (T := fun s => Nat.beq s 0 || Nat.beq s 2 || Nat.beq s 3) hw (hs.2.2 0 1 (by omega) (by omega)) rfl rfl
  have e1 : x_dt (x_A w 1) 1 = x_P1 (w 0 1 + w 0 2 + w 0 3) := by
    simp only [x_dt, A00]
    rw [show (12 : Int) - w 0 0 = w 0 1 + w 0 2 + w 0 3 by omega]
    unfold x_P1
    grind
  have m1 : 0 < x_dt (x_A w 1) 1 := by rw [e1]; apply pp1 <;> omega
  have e2 : x_dt (x_A w 1) 2 = x_P2 (w 0 1 + w 0 3) (w 2 1 + w 2 3) (w 0 2) (w 2 0) := by
    simp only [x_dt, A00, A01, A10, A11]
    rw [show (12 : Int) - w 0 0 = w 0 1 + w 0 2 + w 0 3 by omega]
    rw [show (12 : Int) - w 2 2 = w 2 0 + w 2 1 + w 2 3 by omega]
    unfold x_P2
    grind
  have m2 : 0 < x_dt (x_A w 1) 2 := by rw [e2]; apply pp2 <;> omega
  have e3 : x_dt (x_A w 1) 3 = x_P3 (w 0 1) (w 2 1) (w 3 1) (w 0 2) (w 0 3) (w 2 0) (w 2 3) (w 3 0) (w 3 2) := by
    simp only [x_dt, A00, A01, A02, A10, A11, A12, A20, A21, A22]
    rw [show (12 : Int) - w 0 0 = w 0 1 + w 0 2 + w 0 3 by omega]
    rw [show (12 : Int) - w 2 2 = w 2 0 + w 2 1 + w 2 3 by omega]
    rw [show (12 : Int) - w 3 3 = w 3 0 + w 3 1 + w 3 2 by omega]
    unfold x_P3
    grind
  have m3 : 0 < x_dt (x_A w 1) 3 := by rw [e3]; apply pp3 <;> omega
  refine ⟨fun k hk => ?_, ?_, ?_⟩
  · have hk2 : k = 0 ∨ k = 1 ∨ k = 2 ∨ k = 3 := by omega
    rcases hk2 with e | e | e | e
    · subst e
      show (0 : Int) < 1
      omega
    · subst e; exact m1
    · subst e; exact m2
    · subst e; exact m3
  · show x_dt (x_A w 1) 3 = y_ws w 4 1 64
    rw [ws_sl, cl_4_1]
    show _ = 0 + 1 * w 0 1 * 1 * w 2 0 * w 3 0 + 1 * w 0 1 * 1 * w 2 1 * w 3 0 + 1 * w 0 2 * 1 * w 2 1 * w 3 0 + 1 * w 0 1 * 1 * w 2 3 * w 3 0 + 1 * w 0 1 * 1 * w 2 0 * w 3 1 + 1 * w 0 3 * 1 * w 2 0 * w 3 1 + 1 * w 0 1 * 1 * w 2 1 * w 3 1 + 1 * w 0 2 * 1 * w 2 1 * w 3 1 + 1 * w 0 3 * 1 * w 2 1 * w 3 1 + 1 * w 0 1 * 1 * w 2 3 * w 3 1 + 1 * w 0 2 * 1 * w 2 3 * w 3 1 + 1 * w 0 3 * 1 * w 2 3 * w 3 1 + 1 * w 0 1 * 1 * w 2 0 * w 3 2 + 1 * w 0 1 * 1 * w 2 1 * w 3 2 + 1 * w 0 2 * 1 * w 2 1 * w 3 2 + 1 * w 0 3 * 1 * w 2 1 * w 3 2
    simp only [x_dt, A00, A01, A02, A10, A11, A12, A20, A21, A22]
    rw [show (12 : Int) - w 0 0 = w 0 1 + w 0 2 + w 0 3 by omega]
    rw [show (12 : Int) - w 2 2 = w 2 0 + w 2 1 + w 2 3 by omega]
    rw [show (12 : Int) - w 3 3 = w 3 0 + w 3 1 + w 3 2 by omega]
    clear c0 c1 c2 c01 c02 c12 c012 m1 m2 m3 e1 e2 e3 r0 r1 r2 r3 n00 n01 n02 n03 n10 n11 n12 n13 n20 n21 n22 n23 n30 n31 n32 n33 A00 A01 A02 A10 A11 A12 A20 A21 A22 hs hw
    grind
  · show x_dt (x_A w 1) 3 ≤ 20736
    rw [e3]
    have b : 0 ≤ x_P3 (w 0 1) (w 2 1) (w 3 1) (w 0 2) (w 0 3) (w 2 0) (w 2 3) (w 3 0) (w 3 2) ∧ x_P3 (w 0 1) (w 2 1) (w 3 1) (w 0 2) (w 0 3) (w 2 0) (w 2 3) (w 3 0) (w 3 2) ≤ 1728 := by apply pb3 <;> omega
    omega
theorem cl_4_2 : y_cl 4 2 64 = [47, 46, 45, 43, 42, 41, 35, 34, 27, 26, 25, 18, 14, 10, 9, 2] := by decide +kernel
theorem fin_4_2 {w : Nat → Nat → Int} (hs : x_Snd 4 w) (hw : ∀ a b : Nat, a < 4 → b < 4 → 0 ≤ w a b) : x_fin 4 2 w := by
  have r0 : 0 + w 0 0 + w 0 1 + w 0 2 + w 0 3 = 12 := hs.2.1 0 (by omega)
  have n00 := hw 0 0 (by omega) (by omega)
  have n01 := hw 0 1 (by omega) (by omega)
  have n02 := hw 0 2 (by omega) (by omega)
  have n03 := hw 0 3 (by omega) (by omega)
  have r1 : 0 + w 1 0 + w 1 1 + w 1 2 + w 1 3 = 12 := hs.2.1 1 (by omega)
  have n10 := hw 1 0 (by omega) (by omega)
  have n11 := hw 1 1 (by omega) (by omega)
  have n12 := hw 1 2 (by omega) (by omega)
  have n13 := hw 1 3 (by omega) (by omega)
  have r2 : 0 + w 2 0 + w 2 1 + w 2 2 + w 2 3 = 12 := hs.2.1 2 (by omega)
  have n20 := hw 2 0 (by omega) (by omega)
  have n21 := hw 2 1 (by omega) (by omega)
  have n22 := hw 2 2 (by omega) (by omega)
  have n23 := hw 2 3 (by omega) (by omega)
  have r3 : 0 + w 3 0 + w 3 1 + w 3 2 + w 3 3 = 12 := hs.2.1 3 (by omega)
  have n30 := hw 3 0 (by omega) (by omega)
  have n31 := hw 3 1 (by omega) (by omega)
  have n32 := hw 3 2 (by omega) (by omega)
  have n33 := hw 3 3 (by omega) (by omega)
  have A00 : x_A w 2 0 0 = 12 - w 0 0 := rfl
  have A01 : x_A w 2 0 1 = 0 - w 0 1 := rfl
  have A02 : x_A w 2 0 2 = 0 - w 0 3 := rfl
  have A10 : x_A w 2 1 0 = 0 - w 1 0 := rfl
  have A11 : x_A w 2 1 1 = 12 - w 1 1 := rfl
  have A12 : x_A w 2 1 2 = 0 - w 1 3 := rfl
  have A20 : x_A w 2 2 0 = 0 - w 3 0 := rfl
  have A21 : x_A w 2 2 1 = 0 - w 3 1 := rfl
  have A22 : x_A w 2 2 2 = 12 - w 3 3 := rfl
  have c0 : 0 < 0 + (0 + 0 + w 0 1 + w 0 2 + w 0 3) + (0 + 0 + 0 + 0 + 0) + (0 + 0 + 0 + 0 + 0) + (0 + 0 + 0 + 0 + 0) := cut_pos (T := fun s => Nat.beq s 0) hw (hs.2.2 0 2 (by omega) (by omega)) rfl rfl
  have c1 : 0 < 0 + (0 + 0 + 0 + 0 + 0) + (0 + w 1 0 + 0 + w 1 2 + w 1 3) + (0 + 0 + 0 + 0 + 0) + (0 + 0 + 0 + 0 + 0) := cut_pos (T := fun s => Nat.beq s 1) hw (hs.2.2 1 2 (by omega) (by omega)) rfl rfl
  have c2 : 0 < 0 + (0 + 0 + 0 + 0 + 0) + (0 + 0 + 0 + 0 + 0) + (0 + 0 + 0 + 0 + 0) + (0 + w 3 0 + w 3 1 + w 3 2 + 0) := cut_pos (T := fun s => Nat.beq s 3) hw (hs.2.2 3 2 (by omega) (by omega)) rfl rfl
  have c01 : 0 < 0 + (0 + 0 + 0 + w 0 2 + w 0 3) + (0 + 0 + 0 + w 1 2 + w 1 3) + (0 + 0 + 0 + 0 + 0) + (0 + 0 + 0 + 0 + 0) := cut_pos (T := fun s => Nat.beq s 0 || Nat.beq s 1) hw (hs.2.2 0 2 (by omega) (by omega)) rfl rfl
  have c02 : 0 < 0 + (0 + 0 + w 0 1 + w 0 2 + 0) + (0 + 0 + 0 + 0 + 0) + (0 + 0 + 0 + 0 + 0) + (0 + 0 + w 3 1 + w 3 2 + 0) := cut_pos (T := fun s => Nat.beq s 0 || Nat.beq s 3) hw (hs.2.2 0 2 (by omega) (by omega)) rfl rfl
  have c12 : 0 < 0 + (0 + 0 + 0 + 0 + 0) + (0 + w 1 0 + 0 + w 1 2 + 0) + (0 + 0 + 0 + 0 + 0) + (0 + w 3 0 + 0 + w 3 2 + 0) := cut_pos (T := fun s => Nat.beq s 1 || Nat.beq s 3) hw (hs.2.2 1 2 (by omega) (by omega)) rfl rfl
  have c012 : 0 < 0 + (0 + 0 + 0 + w 0 2 + 0) + (0 + 0 + 0 + w 1 2 + 0) + (0 + 0 + 0 + 0 + 0) + (0 + 0 + 0 + w 3 2 + 0) := cut_pos (T := fun s => Nat.beq s 0 || Nat.beq s 1 || Nat.beq s 3) hw (hs.2.2 0 2 (by omega) (by omega)) rfl rfl
  have e1 : x_dt (x_A w 2) 1 = x_P1 (w 0 1 + w 0 2 + w 0 3) := by
    simp only [x_dt, A00]
    rw [show (12 : Int) - w 0 0 = w 0 1 + w 0 2 + w 0 3 by omega]
    unfold x_P1
    grind
  have m1 : 0 < x_dt (x_A w 2) 1 := by rw [e1]; apply pp1 <;> omega
  have e2 : x_dt (x_A w 2) 2 = x_P2 (w 0 2 + w 0 3) (w 1 2 + w 1 3) (w 0 1) (w 1 0) := by
    simp only [x_dt, A00, A01, A10, A11]
    rw [show (12 : Int) - w 0 0 = w 0 1 + w 0 2 + w 0 3 by omega]
    rw [show (12 : Int) - w 1 1 = w 1 0 + w 1 2 + w 1 3 by omega]
    unfold x_P2
    grind
  have m2 : 0 < x_dt (x_A w 2) 2 := by rw [e2]; apply pp2 <;> omega
  have e3 : x_dt (x_A w 2) 3 = x_P3 (w 0 2) (w 1 2) (w 3 2) (w 0 1) (w 0 3) (w 1 0) (w 1 3) (w 3 0) (w 3 1) := by
    simp only [x_dt, A00, A01, A02, A10, A11, A12, A20, A21, A22]
    rw [show (12 : Int) - w 0 0 = w 0 1 + w 0 2 + w 0 3 by omega]
    rw [show (12 : Int) - w 1 1 = w 1 0 + w 1 2 + w 1 3 by omega]
    rw [show (12 : Int) - w 3 3 = w 3 0 + w 3 1 + w 3 2 by omega]
    unfold x_P3
    grind
  have m3 : 0 < x_dt (x_A w 2) 3 := by rw [e3]; apply pp3 <;> omega
  refine ⟨fun k hk => ?_, ?_, ?_⟩
  · have hk2 : k = 0 ∨ k = 1 ∨ k = 2 ∨ k = 3 := by omega
    rcases hk2 with e | e | e | e
    · subst e
      show (0 : Int) < 1
      omega
    · subst e; exact m1
    · subst e; exact m2
    · subst e; exact m3
  · show x_dt (x_A w 2) 3 = y_ws w 4 2 64
    rw [ws_sl, cl_4_2]
    show _ = 0 + 1 * w 0 2 * w 1 0 * 1 * w 3 0 + 1 * w 0 1 * w 1 2 * 1 * w 3 0 + 1 * w 0 2 * w 1 2 * 1 * w 3 0 + 1 * w 0 2 * w 1 3 * 1 * w 3 0 + 1 * w 0 2 * w 1 0 * 1 * w 3 1 + 1 * w 0 1 * w 1 2 * 1 * w 3 1 + 1 * w 0 2 * w 1 2 * 1 * w 3 1 + 1 * w 0 3 * w 1 2 * 1 * w 3 1 + 1 * w 0 2 * w 1 0 * 1 * w 3 2 + 1 * w 0 3 * w 1 0 * 1 * w 3 2 + 1 * w 0 1 * w 1 2 * 1 * w 3 2 + 1 * w 0 2 * w 1 2 * 1 * w 3 2 + 1 * w 0 3 * w 1 2 * 1 * w 3 2 + 1 * w 0 1 * w 1 3 * 1 * w 3 2 + 1 * w 0 2 * w 1 3 * 1 * w 3 2 + 1 * w 0 3 * w 1 3 * 1 * w 3 2
    simp only [x_dt, A00, A01, A02, A10, A11, A12, A20, A21, A22]
    rw [show (12 : Int) - w 0 0 = w 0 1 + w 0 2 + w 0 3 by omega]
    rw [show (12 : Int) - w 1 1 = w 1 0 + w 1 2 + w 1 3 by omega]
    rw [show (12 : Int) - w 3 3 = w 3 0 + w 3 1 + w 3 2 by omega]
    clear c0 c1 c2 c01 c02 c12 c012 m1 m2 m3 e1 e2 e3 r0 r1 r2 r3 n00 n01 n02 n03 n10 n11 n12 n13 n20 n21 n22 n23 n30 n31 n32 n33 A00 A01 A02 A10 A11 A12 A20 A21 A22 hs hw
    grind
  · show x_dt (x_A w 2) 3 ≤ 20736
    rw [e3]
    have b : 0 ≤ x_P3 (w 0 2) (w 1 2) (w 3 2) (w 0 1) (w 0 3) (w 1 0) (w 1 3) (w 3 0) (w 3 1) ∧ x_P3 (w 0 2) (w 1 2) (w 3 2) (w 0 1) (w 0 3) (w 1 0) (w 1 3) (w 3 0) (w 3 1) ≤ 1728 := by apply pb3 <;> omega
    omega
theorem cl_4_3 : y_cl 4 3 64 = [63, 62, 61, 59, 58, 57, 51, 50, 31, 30, 29, 19, 15, 13, 11, 3] := by decide +kernel
theorem fin_4_3 {w : Nat → Nat → Int} (hs : x_Snd 4 w) (hw : ∀ a b : Nat, a < 4 → b < 4 → 0 ≤ w a b) : x_fin 4 3 w := by
  have r0 : 0 + w 0 0 + w 0 1 + w 0 2 + w 0 3 = 12 := hs.2.1 0 (by omega)
  have n00 := hw 0 0 (by omega) (by omega)
  have n01 := hw 0 1 (by omega) (by omega)
  have n02 := hw 0 2 (by omega) (by omega)
  have n03 := hw 0 3 (by omega) (by omega)
  have r1 : 0 + w 1 0 + w 1 1 + w 1 2 + w 1 3 = 12 := hs.2.1 1 (by omega)
  have n10 := hw 1 0 (by omega) (by omega)
  have n11 := hw 1 1 (by omega) (by omega)
  have n12 := hw 1 2 (by omega) (by omega)
  have n13 := hw 1 3 (by omega) (by omega)
  have r2 : 0 + w 2 0 + w 2 1 + w 2 2 + w 2 3 = 12 := hs.2.1 2 (by omega)
  have n20 := hw 2 0 (by omega) (by omega)
  have n21 := hw 2 1 (by omega) (by omega)
  have n22 := hw 2 2 (by omega) (by omega)
  have n23 := hw 2 3 (by omega) (by omega)
  have r3 : 0 + w 3 0 + w 3 1 + w 3 2 + w 3 3 = 12 := hs.2.1 3 (by omega)
  have n30 := hw 3 0 (by omega) (by omega)
  have n31 := hw 3 1 (by omega) (by omega)
  have n32 := hw 3 2 (by omega) (by omega)
  have n33 := hw 3 3 (by omega) (by omega)
  have A00 : x_A w 3 0 0 = 12 - w 0 0 := rfl
  have A01 : x_A w 3 0 1 = 0 - w 0 1 := rfl
  have A02 : x_A w 3 0 2 = 0 - w 0 2 := rfl
  have A10 : x_A w 3 1 0 = 0 - w 1 0 := rfl
  have A11 : x_A w 3 1 1 = 12 - w 1 1 := rfl
  have A12 : x_A w 3 1 2 = 0 - w 1 2 := rfl
  have A20 : x_A w 3 2 0 = 0 - w 2 0 := rfl
  have A21 : x_A w 3 2 1 = 0 - w 2 1 := rfl
  have A22 : x_A w 3 2 2 = 12 - w 2 2 := rfl
  have c0 : 0 < 0 + (0 + 0 + w 0 1 + w 0 2 + w 0 3) + (0 + 0 + 0 + 0 + 0) + (0 + 0 + 0 + 0 + 0) + (0 + 0 + 0 + 0 + 0) := cut_pos (T := fun s => Nat.beq s 0) hw (hs.2.2 0 3 (by omega) (by omega)) rfl rfl
  have c1 : 0 < 0 + (0 + 0 + 0 + 0 + 0) + (0 + w 1 0 + 0 + w 1 2 + w 1 3) + (0 + 0 + 0 + 0 + 0) + (0 + 0 + 0 + 0 + 0) := cut_pos (T := fun s => Nat.beq s 1) hw (hs.2.2 1 3 (by omega) (by omega)) rfl rfl
  have c2 : 0 < 0 + (0 + 0 + 0 + 0 + 0) + (0 + 0 + 0 + 0 + 0) + (0 + w 2 0 + w 2 1 + 0 + w 2 3) + (0 + 0 + 0 + 0 + 0) := cut_pos (T := fun s => Nat.beq s 2) hw (hs.2.2 2 3 (by omega) (by omega)) rfl rfl
  have c01 : 0 < 0 + (0 + 0 + 0 + w 0 2 + w 0 3) + (0 + 0 + 0 + w 1 2 + w 1 3) + (0 + 0 + 0 + 0 + 0) + (0 + 0 + 0 + 0 + 0) := cut_pos (T := fun s => Nat.beq s 0 || Nat.beq s 1) hw (hs.2.2 0 3 (by omega) (by omega)) rfl rfl
  have c02 : 0 < 0 + (0 + 0 + w 0 1 + 0 + w 0 3) + (0 + 0 + 0 + 0 + 0) + (0 + 0 + w 2 1 + 0 + w 2 3) + (0 + 0 + 0 + 0 + 0) := cut_pos (T := fun s => Nat.beq s 0 || Nat.beq s 2) hw (hs.2.2 0 3 (by omega) (by omega)) rfl rfl
  have c12 : 0 < 0 + (0 + 0 + 0 + 0 + 0) + (0 + w 1 0 + 0 + 0 + w 1 3) + (0 + w 2 0 + 0 + 0 + w 2 3) + (0 + 0 + 0 + 0 + 0) := cut_pos (T := fun s => Nat.beq s 1 || Nat.beq s 2) hw (hs.2.2 1 3 (by omega) (by omega)) rfl rfl
  have c012 : 0 < 0 + (0 + 0 + 0 + 0 + w 0 3) + (0 + 0 + 0 + 0 + w 1 3) + (0 + 0 + 0 + 0 + w 2 3) + (0 + 0 + 0 + 0 + 0) := cut_pos (T := fun s => Nat.beq s 0 || Nat.beq s 1 || Nat.beq s 2) hw (hs.2.2 0 3 (by omega) (by omega)) rfl rfl
  have e1 : x_dt (x_A w 3) 1 = x_P1 (w 0 1 + w 0 2 + w 0 3) := by
    simp only [x_dt, A00]
    rw [show (12 : Int) - w 0 0 = w 0 1 + w 0 2 + w 0 3 by omega]
    unfold x_P1
    grind
  have m1 : 0 < x_dt (x_A w 3) 1 := by rw [e1]; apply pp1 <;> omega
  have e2 : x_dt (x_A w 3) 2 = x_P2 (w 0 2 + w 0 3) (w 1 2 + w 1 3) (w 0 1) (w 1 0) := by
    simp only [x_dt, A00, A01, A10, A11]
    rw [show (12 : Int) - w 0 0 = w 0 1 + w 0 2 + w 0 3 by omega]
    rw [show (12 : Int) - w 1 1 = w 1 0 + w 1 2 + w 1 3 by omega]
    unfold x_P2
    grind
  have m2 : 0 < x_dt (x_A w 3) 2 := by rw [e2]; apply pp2 <;> omega
  have e3 : x_dt (x_A w 3) 3 = x_P3 (w 0 3) (w 1 3) (w 2 3) (w 0 1) (w 0 2) (w 1 0) (w 1 2) (w 2 0) (w 2 1) := by
    simp only [x_dt, A00, A01, A02, A10, A11, A12, A20, A21, A22]
    rw [show (12 : Int) - w 0 0 = w 0 1 + w 0 2 + w 0 3 by omega]
    rw [show (12 : Int) - w 1 1 = w 1 0 + w 1 2 + w 1 3 by omega]
    rw [show (12 : Int) - w 2 2 = w 2 0 + w 2 1 + w 2 3 by omega]
    unfold x_P3
    grind
  have m3 : 0 < x_dt (x_A w 3) 3 := by rw [e3]; apply pp3 <;> omega
  refine ⟨fun k hk => ?_, ?_, ?_⟩
  · have hk2 : k = 0 ∨ k = 1 ∨ k = 2 ∨ k = 3 := by omega
    rcases hk2 with e | e | e | e
    · subst e
      show (0 : Int) < 1
      omega
    · subst e; exact m1
    · subst e; exact m2
    · subst e; exact m3
  · show x_dt (x_A w 3) 3 = y_ws w 4 3 64
    rw [ws_sl, cl_4_3]
    show _ = 0 + 1 * w 0 3 * w 1 0 * w 2 0 * 1 + 1 * w 0 3 * w 1 2 * w 2 0 * 1 + 1 * w 0 1 * w 1 3 * w 2 0 * 1 + 1 * w 0 3 * w 1 3 * w 2 0 * 1 + 1 * w 0 3 * w 1 0 * w 2 1 * 1 + 1 * w 0 1 * w 1 3 * w 2 1 * 1 + 1 * w 0 2 * w 1 3 * w 2 1 * 1 + 1 * w 0 3 * w 1 3 * w 2 1 * 1 + 1 * w 0 2 * w 1 0 * w 2 3 * 1 + 1 * w 0 3 * w 1 0 * w 2 3 * 1 + 1 * w 0 1 * w 1 2 * w 2 3 * 1 + 1 * w 0 2 * w 1 2 * w 2 3 * 1 + 1 * w 0 3 * w 1 2 * w 2 3 * 1 + 1 * w 0 1 * w 1 3 * w 2 3 * 1 + 1 * w 0 2 * w 1 3 * w 2 3 * 1 + 1 * w 0 3 * w 1 3 * w 2 3 * 1
    simp only [x_dt, A00, A01, A02, A10, A11, A12, A20, A21, A22]
    rw [show (12 : Int) - w 0 0 = w 0 1 + w 0 2 + w 0 3 by omega]
    rw [show (12 : Int) - w 1 1 = w 1 0 + w 1 2 + w 1 3 by omega]
    rw [show (12 : Int) - w 2 2 = w 2 0 + w 2 1 + w 2 3 by omega]
    clear c0 c1 c2 c01 c02 c12 c012 m1 m2 m3 e1 e2 e3 r0 r1 r2 r3 n00 n01 n02 n03 n10 n11 n12 n13 n20 n21 n22 n23 n30 n31 n32 n33 A00 A01 A02 A10 A11 A12 A20 A21 A22 hs hw
    grind
  · show x_dt (x_A w 3) 3 ≤ 20736
    rw [e3]
    have b : 0 ≤ x_P3 (w 0 3) (w 1 3) (w 2 3) (w 0 1) (w 0 2) (w 1 0) (w 1 2) (w 2 0) (w 2 1) ∧ x_P3 (w 0 3) (w 1 3) (w 2 3) (w 0 1) (w 0 2) (w 1 0) (w 1 2) (w 2 0) (w 2 1) ≤ 1728 := by apply pb3 <;> omega
    omega
theorem cl_5_0 : y_cl 5 0 625 = [430, 429, 428, 427, 425, 420, 415, 405, 402, 400, 399, 398, 397, 395, 394, 393, 392, 390, 384, 383, 380, 379, 378, 377, 375, 355, 354, 353, 352, 350, 305, 304, 303, 302, 300, 290, 280, 279, 277, 275, 269, 268, 267, 265, 258, 255, 254, 253, 252, 250, 245, 240, 230, 227, 225, 195, 180, 178, 177, 175, 170, 165, 155, 152, 150, 148, 145, 143, 142, 140, 133, 130, 128, 127, 125, 124, 123, 122, 120, 119, 118, 117, 115, 109, 108, 105, 104, 103, 102, 100, 74, 73, 72, 70, 59, 55, 54, 53, 52, 50, 49, 47, 45, 44, 40, 34, 30, 29, 27, 25, 24, 23, 22, 20, 19, 18, 17, 15, 9, 8, 5, 4, 3, 2, 0] := by decide +kernel
set_option maxRecDepth 20000 in
theorem fin_5_0 {w : Nat → Nat → Int} (hs : x_Snd 5 w) (hw : ∀ a b : Nat, a < 5 → b < 5 → 0 ≤ w a b) : x_fin 5 0 w := by
  have r0 : 0 + w 0 0 + w 0 1 + w 0 2 + w 0 3 + w 0 4 = 12 := hs.2.1 0 (by omega)
  have n00 := hw 0 0 (by omega) (by omega)
  have n01 := hw 0 1 (by omega) (by omega)
  have n02 := hw 0 2 (by omega) (by omega)
  have n03 := hw 0 3 (by omega) (by omega)
  have n04 := hw 0 4 (by omega) (by omega)
  have r1 : 0 + w 1 0 + w 1 1 + w 1 2 + w 1 3 + w 1 4 = 12 := hs.2.1 1 (by omega)
  have n10 := hw 1 0 (by omega) (by omega)
  have n11 := hw 1 1 (by omega) (by omega)
  have n12 := hw 1 2 (by omega) (by omega)
  have n13 := hw 1 3 (by omega) (by omega)
  have n14 := hw 1 4 (by omega) (by omega)
  have r2 : 0 + w 2 0 + w 2 1 + w 2 2 + w 2 3 + w 2 4 = 12 := hs.2.1 2 (by omega)
  have n20 := hw 2 0 (by omega) (by omega)
  have n21 := hw 2 1 (by omega) (by omega)
  have n22 := hw 2 2 (by omega) (by omega)
  have n23 := hw 2 3 (by omega) (by omega)
  have n24 := hw 2 4 (by omega) (by omega)
  have r3 : 0 + w 3 0 + w 3 1 + w 3 2 + w 3 3 + w 3 4 = 12 := hs.2.1 3 (by omega)
  have n30 := hw 3 0 (by omega) (by omega)
  have n31 := hw 3 1 (by omega) (by omega)
  have n32 := hw 3 2 (by omega) (by omega)
  have n33 := hw 3 3 (by omega) (by omega)
  have n34 := hw 3 4 (by omega) (by omega)
  have r4 : 0 + w 4 0 + w 4 1 + w 4 2 + w 4 3 + w 4 4 = 12 := hs.2.1 4 (by omega)
  have n40 := hw 4 0 (by omega) (by omega)
  have n41 := hw 4 1 (by omega) (by omega)
  have n42 := hw 4 2 (by omega) (by omega)
  have n43 := hw 4 3 (by omega) (by omega)
  have n44 := hw 4 4 (by omega) (by omega)
  have A00 : x_A w 0 0 0 = 12 - w 1 1 := rfl
  have A01 : x_A w 0 0 1 = 0 - w 1 2 := rfl
  have A02 : x_A w 0 0 2 = 0 - w 1 3 := rfl
  have A03 : x_A w 0 0 3 = 0 - w 1 4 := rfl
  have A10 : x_A w 0 1 0 = 0 - w 2 1 := rfl
  have A11 : x_A w 0 1 1 = 12 - w 2 2 := rfl
  have A12 : x_A w 0 1 2 = 0 - w 2 3 := rfl
  have A13 : x_A w 0 1 3 = 0 - w 2 4 := rfl
  have A20 : x_A w 0 2 0 = 0 - w 3 1 := rfl
  have A21 : x_A w 0 2 1 = 0 - w 3 2 := rfl
  have A22 : x_A w 0 2 2 = 12 - w 3 3 := rfl
  have A23 : x_A w 0 2 3 = 0 - w 3 4 := rfl
  have A30 : x_A w 0 3 0 = 0 - w 4 1 := rfl
  have A31 : x_A w 0 3 1 = 0 - w 4 2 := rfl
  have A32 : x_A w 0 3 2 = 0 - w 4 3 := rfl
  have A33 : x_A w 0 3 3 = 12 - w 4 4 := rfl
  have c0 : 0 < 0 + (0 + 0 + 0 + 0 + 0 + 0) + (0 + w 1 0 + 0 + w 1 2 + w 1 3 + w 1 4) + (0 + 0 + 0 + 0 + 0 + 0) + (0 + 0 + 0 + 0 + 0 + 0) + (0 + 0 + 0 + 0 + 0 + 0) := cut_pos (T := fun s => Nat.beq s 1) hw (hs.2.2 1 0 (by omega) (by omega)) rfl rfl
  have c1 : 0 < 0 + (0 + 0 + 0 + 0 + 0 + 0) + (0 + 0 + 0 + 0 + 0 + 0) + (0 + w 2 0 + w 2 1 + 0 + w 2 3 + w 2 4) + (0 + 0 + 0 + 0 + 0 + 0) + (0 + 0 + 0 + 0 + 0 + 0) := cut_pos (T := fun s => Nat.beq s 2) hw (hs.2.2 2 0 (by omega) (by omega)) rfl rfl
  have c2 : 0 < 0 + (0 + 0 + 0 + 0 + 0 + 0) + (0 + 0 + 0 + 0 + 0 + 0) + (0 + 0 + 0 + 0 + 0 + 0) + (0 + w 3 0 + w 3 1 + w 3 2 + 0 + w 3 4) + (0 + 0 + 0 + 0 + 0 + 0) := cut_pos (T := fun s => Nat.beq s 3) hw (hs.2.2 3 0 (by omega) (by omega)) rfl rfl
  have c3 : 0 < 0 + (0 + 0 + 0 + 0 + 0 + 0) + (0 + 0 + 0 + 0 + 0 + 0) + (0 + 0 + 0 + 0 + 0 + 0) + (0 + 0 + 0 + 0 + 0 + 0) + (0 + w 4 0 + w 4 1 + w 4 2 + w 4 3 + 0) := cut_pos (T := fun s => Nat.beq s 4) hw (hs.2.2 4 0 (by omega) (by omega)) rfl rfl
  have c01 : 0 < 0 + (0 + 0 + 0 + 0 + 0 + 0) + (0 + w 1 0 + 0 + 0 + w 1 3 + w 1 4) + (0 + w 2 0 + 0 + 0 + w 2 3 + w 2 4) + (0 + 0 + 0 + 0 + 0 + 0) + (0 + 0 + 0 + 0 + 0 + 0) := cut_pos (T := fun s => Nat.beq s 1 || Nat.beq s 2) hw (hs.2.2 1 0 (by omega) (by omega)) rfl rfl
  have c02 : 0 < 0 + (0 + 0 + 0 + 0 + 0 + 0) + (0 + w 1 0 + 0 + w 1 2 + 0 + w 1 4) + (0 + 0 + 0 + 0 + 0 + 0) + (0 + w 3 0 + 0 + w 3 2 + 0 + w 3 4) + (0 + 0 + 0 + 0 + 0 + 0) := cut_pos (T := fun s => Nat.beq s 1 || Nat.beq s 3) hw (hs.2.2 1 0 (by omega) (by omega)) rfl rfl
  have c03 : 0 < 0 + (0 + 0 + 0 + 0 + 0 + 0) + (0 + w 1 0 + 0 + w 1 2 + w 1 3 + 0) + (0 + 0 + 0 + 0 + 0 + 0) + (0 + 0 + 0 + 0 + 0 + 0) + (0 + w 4 0 + 0 + w 4 2 + w 4 3 + 0) := cut_pos (T := fun s => Nat.beq s 1 || Nat.beq s 4) hw (hs.2.2 1 0 (by omega) (by omega)) rfl rfl
  have c12 : 0 < 0 + (0 + 0 + 0 + 0 + 0 + 0) + (0 + 0 + 0 + 0 + 0 + 0) + (0 + w 2 0 + w 2 1 + 0 + 0 + w 2 4) + (0 + w 3 0 + w 3 1 + 0 + 0 + w 3 4) + (0 + 0 + 0 + 0 + 0 + 0) := cut_pos (T := fun s => Nat.beq s 2 || Nat.beq s 3) hw (hs.2.2 2 0 (by omega) (by omega)) rfl rfl
  have c13 : 0 < 0 + (0 + 0 + 0 + 0 + 0 + 0) + (0 + 0 + 0 + 0 + 0 + 0) + (0 + w 2 0 + w 2 1 + 0 + w 2 3 + 0) + (0 + 0 + 0 + 0 + 0 + 0) + (0 + w 4 0 + w 4 1 + 0 + w 4 3 + 0) := cut_pos (T := fun s => Nat.beq s 2 || Nat.beq s 4) hw (hs.2.2 2 0 (by omega) (by omega)) rfl rfl
  have c23 : 0 < 0 + (0 + 0 + 0 + 0 + 0 + 0) + (0 + 0 + 0 + 0 + 0 + 0) + (0 + 0 + 0 + 0 + 0 + 0) + (0 + w 3 0 + w 3 1 + w 3 2 + 0 + 0) + (0 + w 4 0 + w 4 1 + w 4 2 + 0 + 0) := cut_pos (T := fun s => Nat.beq s 3 || Nat.beq s 4) hw (hs.2.2 3 0 (by omega) (by omega)) rfl rfl
  have c012 : 0 < 0 + (0 + 0 + 0 + 0 + 0 + 0) + (0 + w 1 0 + 0 + 0 + 0 + w 1 4) + (0 + w 2 0 + 0 + 0 + 0 + w 2 4) + (0 + w 3 0 + 0 + 0 + 0 + w 3 4) + (0 + 0 + 0 + 0 + 0 + 0) := cut_pos (T := fun s => Nat.beq s 1 || Nat.beq s 2 || Nat.beq s 3) hw (hs.2.2 1 0 (by omega) (by omega)) rfl rfl
  have c013 : 0 < 0 + (0 + 0 + 0 + 0 + 0 + 0) + (0 + w 1 0 + 0 + 0 + w 1 3 + 0) + (0 + w 2 0 + 0 + 0 + w 2 3 + 0) + (0 + 0 + 0 + 0 + 0 + 0) + (0 + w 4 0 + 0 + 0 + w 4 3 + 0) := cut_pos (T := fun s => Nat.beq s 1 || Nat.beq s 2 || Nat.beq s 4) hw (hs.2.2 1 0 (by omega) (by omega)) rfl rfl
  have c023 : 0 < 0 + (0 + 0 + 0 + 0 + 0 + 0) + (0 + w 1 0 + 0 + w 1 2 + 0 + 0) + (0 + 0 + 0 + 0 + 0 + 0) + (0 + w 3 0 + 0 + w 3 2 + 0 + 0) + (0 + w 4 0 + 0 + w 4 2 + 0 + 0) := cut_pos (T := fun s => Nat.beq s 1 || Nat.beq s 3 || Nat.beq s 4) hw (hs.2.2 1 0 (by omega) (by omega)) rfl rfl
  have c123 : 0 < 0 + (0 + 0 + 0 + 0 + 0 + 0) + (0 + 0 + 0 + 0 + 0 + 0) + (0 + w 2 0 + w 2 1 + 0 + 0 + 0) + (0 + w 3 0 + w 3 1 + 0 + 0 + 0) + (0 + w 4 0 + w 4 1 + 0 + 0 + 0) := cut_pos (T := fun s => Nat.beq s 2 || Nat.beq s 3 || Nat.beq s 4) hw (hs.2.2 2 0 (by omega) (by omega)) rfl rfl
  have c0123 : 0 < 0 + (0 + 0 + 0 + 0 + 0 + 0) + (0 + w 1 0 + 0 + 0 + 0 + 0) + (0 + w 2 0 + 0 + 0 + 0 + 0) + (0 + w 3 0 + 0 + 0 + 0 + 0) + (0 + w 4 0 + 0 + 0 + 0 + 0) := cut_pos (T := fun s => Nat.beq s 1 || Nat.beq s 2 || Nat.beq s 3 || Nat.beq s 4) hw (hs.2.2 1 0 (by omega) (by omega)) rfl rfl
  have e1 : x_dt (x_A w 0) 1 = x_P1 (w 1 0 + w 1 2 + w 1 3 + w 1 4) := by
    simp only [x_dt, A00]
    rw [show (12 : Int) - w 1 1 = w 1 0 + w 1 2 + w 1 3 + w 1 4 by omega]
    unfold x_P1
    grind
  have m1 : 0 < x_dt (x_A w 0) 1 := by rw [e1]; apply pp1 <;> omega
  have e2 : x_dt (x_A w 0) 2 = x_P2 (w 1 0 + w 1 3 + w 1 4) (w 2 0 + w 2 3 + w 2 4) (w 1 2) (w 2 1) := by
    simp only [x_dt, A00, A01, A10, A11]
    rw [show (12 : Int) - w 1 1 = w 1 0 + w 1 2 + w 1 3 + w 1 4 by omega]
    rw [show (12 : Int) - w 2 2 = w 2 0 + w 2 1 + w 2 3 + w 2 4 by omega]
    unfold x_P2
    grind
  have m2 : 0 < x_dt (x_A w 0) 2 := by rw [e2]; apply pp2 <;> omega
  have e3 : x_dt (x_A w 0) 3 = x_P3 (w 1 0 + w 1 4) (w 2 0 + w 2 4) (w 3 0 + w 3 4) (w 1 2) (w 1 3) (w 2 1) (w 2 3) (w 3 1) (w 3 2) := by
    simp only [x_dt, A00, A01, A02, A10, A11, A12, A20, A21, A22]
    rw [show (12 : Int) - w 1 1 = w 1 0 + w 1 2 + w 1 3 + w 1 4 by omega]
    rw [show (12 : Int) - w 2 2 = w 2 0 + w 2 1 + w 2 3 + w 2 4 by omega]
    rw [show (12 : Int) - w 3 3 = w 3 0 + w 3 1 + w 3 2 + w 3 4 by omega]
    unfold x_P3
    grind
  have m3 : 0 < x_dt (x_A w 0) 3 := by rw [e3]; apply pp3 <;> omega
  have e4 : x_dt (x_A w 0) 4 = x_P4 (w 1 0) (w 2 0) (w 3 0) (w 4 0) (w 1 2) (w 1 3) (w 1 4) (w 2 1) (w 2 3) (w 2 4) (w 3 1) (w 3 2) (w 3 4) (w 4 1) (w 4 2) (w 4 3) := by
    simp only [x_dt, A00, A01, A02, A03, A10, A11, A12, A13, A20, A21, A22, A23, A30, A31, A32, A33]
    rw [show (12 : Int) - w 1 1 = w 1 0 + w 1 2 + w 1 3 + w 1 4 by omega]
    rw [show (12 : Int) - w 2 2 = w 2 0 + w 2 1 + w 2 3 + w 2 4 by omega]
    rw [show (12 : Int) - w 3 3 = w 3 0 + w 3 1 + w 3 2 + w 3 4 by omega]
    rw [show (12 : Int) - w 4 4 = w 4 0 + w 4 1 + w 4 2 + w 4 3 by omega]
    unfold x_P4
    grind
  have m4 : 0 < x_dt (x_A w 0) 4 := by rw [e4]; apply pp4 <;> omega
  refine ⟨fun k hk => ?_, ?_, ?_⟩
  · have hk2 : k = 0 ∨ k = 1 ∨ k = 2 ∨ k = 3 ∨ k = 4 := by omega
    rcases hk2 with e | e | e | e | e
    · subst e
      show (0 : Int) < 1
      omega
    · subst e; exact m1
    · subst e; exact m2
    · subst e; exact m3
    · subst e; exact m4
  · show x_dt (x_A w 0) 4 = y_ws w 5 0 625
    rw [ws_sl, cl_5_0]
    show _ = 0 + 1 * 1 * w 1 0 * w 2 0 * w 3 0 * w 4 0 + 1 * 1 * w 1 2 * w 2 0 * w 3 0 * w 4 0 + 1 * 1 * w 1 3 * w 2 0 * w 3 0 * w 4 0 + 1 * 1 * w 1 4 * w 2 0 * w 3 0 * w 4 0 + 1 * 1 * w 1 0 * w 2 1 * w 3 0 * w 4 0 + 1 * 1 * w 1 3 * w 2 1 * w 3 0 * w 4 0 + 1 * 1 * w 1 4 * w 2 1 * w 3 0 * w 4 0 + 1 * 1 * w 1 0 * w 2 3 * w 3 0 * w 4 0 + 1 * 1 * w 1 2 * w 2 3 * w 3 0 * w 4 0 + 1 * 1 * w 1 3 * w 2 3 * w 3 0 * w 4 0 + 1 * 1 * w 1 4 * w 2 3 * w 3 0 * w 4 0 + 1 * 1 * w 1 0 * w 2 4 * w 3 0 * w 4 0 + 1 * 1 * w 1 2 * w 2 4 * w 3 0 * w 4 0 + 1 * 1 * w 1 3 * w 2 4 * w 3 0 * w 4 0 + 1 * 1 * w 1 4 * w 2 4 * w 3 0 * w 4 0 + 1 * 1 * w 1 0 * w 2 0 * w 3 1 * w 4 0 + 1 * 1 * w 1 2 * w 2 0 * w 3 1 * w 4 0 + 1 * 1 * w 1 4 * w 2 0 * w 3 1 * w 4 0 + 1 * 1 * w 1 0 * w 2 1 * w 3 1 * w 4 0 + 1 * 1 * w 1 4 * w 2 1 * w 3 1 * w 4 0 + 1 * 1 * w 1 0 * w 2 3 * w 3 1 * w 4 0 + 1 * 1 * w 1 4 * w 2 3 * w 3 1 * w 4 0 + 1 * 1 * w 1 0 * w 2 4 * w 3 1 * w 4 0 + 1 * 1 * w 1 2 * w 2 4 * w 3 1 * w 4 0 + 1 * 1 * w 1 4 * w 2 4 * w 3 1 * w 4 0 + 1 * 1 * w 1 0 * w 2 0 * w 3 2 * w 4 0 + 1 * 1 * w 1 2 * w 2 0 * w 3 2 * w 4 0 + 1 * 1 * w 1 3 * w 2 0 * w 3 2 * w 4 0 + 1 * 1 * w 1 4 * w 2 0 * w 3 2 * w 4 0 + 1 * 1 * w 1 0 * w 2 1 * w 3 2 * w 4 0 + 1 * 1 * w 1 4 * w 2 1 * w 3 2 * w 4 0 + 1 * 1 * w 1 0 * w 2 4 * w 3 2 * w 4 0 + 1 * 1 * w 1 2 * w 2 4 * w 3 2 * w 4 0 + 1 * 1 * w 1 3 * w 2 4 * w 3 2 * w 4 0 + 1 * 1 * w 1 4 * w 2 4 * w 3 2 * w 4 0 + 1 * 1 * w 1 0 * w 2 0 * w 3 4 * w 4 0 + 1 * 1 * w 1 2 * w 2 0 * w 3 4 * w 4 0 + 1 * 1 * w 1 3 * w 2 0 * w 3 4 * w 4 0 + 1 * 1 * w 1 4 * w 2 0 * w 3 4 * w 4 0 + 1 * 1 * w 1 0 * w 2 1 * w 3 4 * w 4 0 + 1 * 1 * w 1 3 * w 2 1 * w 3 4 * w 4 0 + 1 * 1 * w 1 4 * w 2 1 * w 3 4 * w 4 0 + 1 * 1 * w 1 0 * w 2 3 * w 3 4 * w 4 0 + 1 * 1 * w 1 2 * w 2 3 * w 3 4 * w 4 0 + 1 * 1 * w 1 3 * w 2 3 * w 3 4 * w 4 0 + 1 * 1 * w 1 4 * w 2 3 * w 3 4 * w 4 0 + 1 * 1 * w 1 0 * w 2 4 * w 3 4 * w 4 0 + 1 * 1 * w 1 2 * w 2 4 * w 3 4 * w 4 0 + 1 * 1 * w 1 3 * w 2 4 * w 3 4 * w 4 0 + 1 * 1 * w 1 4 * w 2 4 * w 3 4 * w 4 0 + 1 * 1 * w 1 0 * w 2 0 * w 3 0 * w 4 1 + 1 * 1 * w 1 2 * w 2 0 * w 3 0 * w 4 1 + 1 * 1 * w 1 3 * w 2 0 * w 3 0 * w 4 1 + 1 * 1 * w 1 0 * w 2 1 * w 3 0 * w 4 1 + 1 * 1 * w 1 3 * w 2 1 * w 3 0 * w 4 1 + 1 * 1 * w 1 0 * w 2 3 * w 3 0 * w 4 1 + 1 * 1 * w 1 2 * w 2 3 * w 3 0 * w 4 1 + 1 * 1 * w 1 3 * w 2 3 * w 3 0 * w 4 1 + 1 * 1 * w 1 0 * w 2 4 * w 3 0 * w 4 1 + 1 * 1 * w 1 3 * w 2 4 * w 3 0 * w 4 1 + 1 * 1 * w 1 0 * w 2 0 * w 3 1 * w 4 1 + 1 * 1 * w 1 2 * w 2 0 * w 3 1 * w 4 1 + 1 * 1 * w 1 0 * w 2 1 * w 3 1 * w 4 1 + 1 * 1 * w 1 0 * w 2 3 * w 3 1 * w 4 1 + 1 * 1 * w 1 0 * w 2 4 * w 3 1 * w 4 1 + 1 * 1 * w 1 0 * w 2 0 * w 3 2 * w 4 1 + 1 * 1 * w 1 2 * w 2 0 * w 3 2 * w 4 1 + 1 * 1 * w 1 3 * w 2 0 * w 3 2 * w 4 1 + 1 * 1 * w 1 0 * w 2 1 * w 3 2 * w 4 1 + 1 * 1 * w 1 0 * w 2 4 * w 3 2 * w 4 1 + 1 * 1 * w 1 0 * w 2 0 * w 3 4 * w 4 1 + 1 * 1 * w 1 2 * w 2 0 * w 3 4 * w 4 1 + 1 * 1 * w 1 0 * w 2 1 * w 3 4 * w 4 1 + 1 * 1 * w 1 0 * w 2 3 * w 3 4 * w 4 1 + 1 * 1 * w 1 0 * w 2 4 * w 3 4 * w 4 1 + 1 * 1 * w 1 0 * w 2 0 * w 3 0 * w 4 2 + 1 * 1 * w 1 2 * w 2 0 * w 3 0 * w 4 2 + 1 * 1 * w 1 3 * w 2 0 * w 3 0 * w 4 2 + 1 * 1 * w 1 4 * w 2 0 * w 3 0 * w 4 2 + 1 * 1 * w 1 0 * w 2 1 * w 3 0 * w 4 2 + 1 * 1 * w 1 3 * w 2 1 * w 3 0 * w 4 2 + 1 * 1 * w 1 0 * w 2 3 * w 3 0 * w 4 2 + 1 * 1 * w 1 2 * w 2 3 * w 3 0 * w 4 2 + 1 * 1 * w 1 3 * w 2 3 * w 3 0 * w 4 2 + 1 * 1 * w 1 4 * w 2 3 * w 3 0 * w 4 2 + 1 * 1 * w 1 0 * w 2 0 * w 3 1 * w 4 2 + 1 * 1 * w 1 2 * w 2 0 * w 3 1 * w 4 2 + 1 * 1 * w 1 4 * w 2 0 * w 3 1 * w 4 2 + 1 * 1 * w 1 0 * w 2 1 * w 3 1 * w 4 2 + 1 * 1 * w 1 0 * w 2 3 * w 3 1 * w 4 2 + 1 * 1 * w 1 0 * w 2 0 * w 3 2 * w 4 2 + 1 * 1 * w 1 2 * w 2 0 * w 3 2 * w 4 2 + 1 * 1 * w 1 3 * w 2 0 * w 3 2 * w 4 2 + 1 * 1 * w 1 4 * w 2 0 * w 3 2 * w 4 2 + 1 * 1 * w 1 0 * w 2 1 * w 3 2 * w 4 2 + 1 * 1 * w 1 0 * w 2 0 * w 3 4 * w 4 2 + 1 * 1 * w 1 2 * w 2 0 * w 3 4 * w 4 2 + 1 * 1 * w 1 3 * w 2 0 * w 3 4 * w 4 2 + 1 * 1 * w 1 4 * w 2 0 * w 3 4 * w 4 2 + 1 * 1 * w 1 0 * w 2 1 * w 3 4 * w 4 2 + 1 * 1 * w 1 0 * w 2 0 * w 3 0 * w 4 3 + 1 * 1 * w 1 2 * w 2 0 * w 3 0 * w 4 3 + 1 * 1 * w 1 3 * w 2 0 * w 3 0 * w 4 3 + 1 * 1 * w 1 4 * w 2 0 * w 3 0 * w 4 3 + 1 * 1 * w 1 0 * w 2 1 * w 3 0 * w 4 3 + 1 * 1 * w 1 3 * w 2 1 * w 3 0 * w 4 3 + 1 * 1 * w 1 4 * w 2 1 * w 3 0 * w 4 3 + 1 * 1 * w 1 0 * w 2 3 * w 3 0 * w 4 3 + 1 * 1 * w 1 2 * w 2 3 * w 3 0 * w 4 3 + 1 * 1 * w 1 3 * w 2 3 * w 3 0 * w 4 3 + 1 * 1 * w 1 4 * w 2 3 * w 3 0 * w 4 3 + 1 * 1 * w 1 0 * w 2 4 * w 3 0 * w 4 3 + 1 * 1 * w 1 2 * w 2 4 * w 3 0 * w 4 3 + 1 * 1 * w 1 3 * w 2 4 * w 3 0 * w 4 3 + 1 * 1 * w 1 4 * w 2 4 * w 3 0 * w 4 3 + 1 * 1 * w 1 0 * w 2 0 * w 3 1 * w 4 3 + 1 * 1 * w 1 2 * w 2 0 * w 3 1 * w 4 3 + 1 * 1 * w 1 0 * w 2 1 * w 3 1 * w 4 3 + 1 * 1 * w 1 0 * w 2 3 * w 3 1 * w 4 3 + 1 * 1 * w 1 0 * w 2 4 * w 3 1 * w 4 3 + 1 * 1 * w 1 0 * w 2 0 * w 3 2 * w 4 3 + 1 * 1 * w 1 2 * w 2 0 * w 3 2 * w 4 3 + 1 * 1 * w 1 3 * w 2 0 * w 3 2 * w 4 3 + 1 * 1 * w 1 4 * w 2 0 * w 3 2 * w 4 3 + 1 * 1 * w 1 0 * w 2 1 * w 3 2 * w 4 3
    simp only [x_dt, A00, A01, A02, A03, A10, A11, A12, A13, A20, A21, A22, A23, A30, A31, A32, A33]
    rw [show (12 : Int) - w 1 1 = w 1 0 + w 1 2 + w 1 3 + w 1 4 by omega]
    rw [show (12 : Int) - w 2 2 = w 2 0 + w 2 1 + w 2 3 + w 2 4 by omega]
    rw [show (12 : Int) - w 3 3 = w 3 0 + w 3 1 + w 3 2 + w 3 4 by omega]
    rw [show (12 : Int) - w 4 4 = w 4 0 + w 4 1 + w 4 2 + w 4 3 by omega]
    clear c0 c1 c2 c3 c01 c02 c03 c12 c13 c23 c012 c013 c023 c123 c0123 m1 m2 m3 m4 e1 e2 e3 e4 r0 r1 r2 r3 r4 n00 n01 n02 n03 n04 n10 n11 n12 n13 n14 n20 n21 n22 n23 n24 n30 n31 n32 n33 n34 n40 n41 n42 n43 n44 A00 A01 A02 A03 A10 A11 A12 A13 A20 A21 A22 A23 A30 A31 A32 A33 hs hw
    grind
  · show x_dt (x_A w 0) 4 ≤ 20736
    rw [e4]
    have b : 0 ≤ x_P4 (w 1 0) (w 2 0) (w 3 0) (w 4 0) (w 1 2) (w 1 3) (w 1 4) (w 2 1) (w 2 3) (w 2 4) (w 3 1) (w 3 2) (w 3 4) (w 4 1) (w 4 2) (w 4 3) ∧ x_P4 (w 1 0) (w 2 0) (w 3 0) (w 4 0) (w 1 2) (w 1 3) (w 1 4) (w 2 1) (w 2 3) (w 2 4) (w 3 1) (w 3 2) (w 3 4) (w 4 1) (w 4 2) (w 4 3) ≤ 20736 := by apply pb4 <;> omega
    omega
theorem cl_5_1 : y_cl 5 1 625 = [434, 433, 432, 431, 426, 424, 423, 422, 421, 419, 418, 417, 416, 409, 408, 407, 406, 404, 403, 401, 396, 391, 382, 381, 376, 359, 358, 357, 356, 351, 309, 308, 307, 306, 301, 294, 293, 292, 291, 284, 283, 282, 281, 278, 276, 266, 259, 257, 256, 251, 249, 248, 247, 246, 244, 243, 242, 241, 234, 233, 232, 231, 229, 228, 226, 199, 198, 197, 196, 184, 183, 182, 181, 179, 176, 174, 173, 172, 171, 169, 168, 167, 166, 159, 158, 157, 156, 154, 153, 151, 149, 147, 146, 144, 141, 134, 132, 131, 129, 126, 121, 116, 107, 106, 101, 71, 58, 57, 56, 51, 48, 46, 43, 42, 41, 33, 32, 31, 28, 26, 21, 16, 7, 6, 1] := by decide +kernel
set_option maxRecDepth 20000 in
theorem fin_5_1 {w : Nat → Nat → Int} (hs : x_Snd 5 w) (hw : ∀ a b : Nat, a < 5 → b < 5 → 0 ≤ w a b) : x_fin 5 1 w := by
  have r0 : 0 + w 0 0 + w 0 1 + w 0 2 + w 0 3 + w 0 4 = 12 := hs.2.1 0 (by omega)
  have n00 := hw 0 0 (by omega) (by omega)
  have n01 := hw 0 1 (by omega) (by omega)
  have n02 := hw 0 2 (by omega) (by omega)
  have n03 := hw 0 3 (by omega) (by omega)
  have n04 := hw 0 4 (by omega) (by omega)
  have r1 : 0 + w 1 0 + w 1 1 + w 1 2 + w 1 3 + w 1 4 = 12 := hs.2.1 1 (by omega)
  have n10 := hw 1 0 (by omega) (by omega)
  have n11 := hw 1 1 (by omega) (by omega)
  have n12 := hw 1 2 (by omega) (by omega)
  have n13 := hw 1 3 (by omega) (by omega)
  have n14 := hw 1 4 (by omega) (by omega)
  have r2 : 0 + w 2 0 + w 2 1 + w 2 2 + w 2 3 + w 2 4 = 12 := hs.2.1 2 (by omega)
  have n20 := hw 2 0 (by omega) (by omega)
  have n21 := hw 2 1 (by omega) (by omega)
  have n22 := hw 2 2 (by omega) (by omega)
  have n23 := hw 2 3 (by omega) (by omega)
  have n24 := hw 2 4 (by omega) (by omega)
  have r3 : 0 + w 3 0 + w 3 1 + w 3 2 + w 3 3 + w 3 4 = 12 := hs.2.1 3 (by omega)
  have n30 := hw 3 0 (by omega) (by omega)
  have n31 := hw 3 1 (by omega) (by omega)
  have n32 := hw 3 2 (by omega) (by omega)
  have n33 := hw 3 3 (by omega) (by omega)
  have n34 := hw 3 4 (by omega) (by omega)
  have r4 : 0 + w 4 0 + w 4 1 + w 4 2 + w 4 3 + w 4 4 = 12 := hs.2.1 4 (by omega)
  have n40 := hw 4 0 (by omega) (by omega)
  have n41 := hw 4 1 (by omega) (by omega)
  have n42 := hw 4 2 (by omega) (by omega)
  have n43 := hw 4 3 (by omega) (by omega)
  have n44 := hw 4 4 (by omega) (by omega)
  have A00 : x_A w 1 0 0 = 12 - w 0 0 := rfl
  have A01 : x_A w 1 0 1 = 0 - w 0 2 := rfl
  have A02 : x_A w 1 0 2 = 0 - w 0 3 := rfl
  have A03 : x_A w 1 0 3 = 0 - w 0 4 := rfl
  have A10 : x_A w 1 1 0 = 0 - w 2 0 := rfl
  have A11 : x_A w 1 1 1 = 12 - w 2 2 := rfl
  have A12 : x_A w 1 1 2 = 0 - w 2 3 := rfl
  have A13 : x_A w 1 1 3 = 0 - w 2 4 := rfl
  have A20 : x_A w 1 2 0 = 0 - w 3 0 := rfl
  have A21 : x_A w 1 2 1 = 0 - w 3 2 := rfl
  have A22 : x_A w 1 2 2 = 12 - w 3 3 := rfl
  have A23 : x_A w 1 2 3 = 0 - w 3 4 := rfl
  have A30 : x_A w 1 3 0 = 0 - w 4 0 := rfl
  have A31 : x_A w 1 3 1 = 0 - w 4 2 := rfl
  have A32 : x_A w 1 3 2 = 0 - w 4 3 := rfl
  have A33 : x_A w 1 3 3 = 12 - w 4 4 := rfl
  have c0 : 0 < 0 + (0 + 0 + w 0 1 + w 0 2 + w 0 3 + w 0 4) + (0 + 0 + 0 + 0 + 0 + 0) + (0 + 0 + 0 + 0 + 0 + 0) + (0 + 0 + 0 + 0 + 0 + 0) + (0 + 0 + 0 + 0 + 0 + 0) := cut_pos (T := fun s => Nat.beq s 0) hw (hs.2.2 0 1 (by omega) (by omega)) rfl rfl
  have c1 : 0 < 0 + (0 + 0 + 0 + 0 + 0 + 0) + (0 + 0 + 0 + 0 + 0 + 0) + (0 + w 2 0 + w 2 1 + 0 + w 2 3 + w 2 4) + (0 + 0 + 0 + 0 + 0 + 0) + (0 + 0 + 0 + 0 + 0 + 0) := cut_pos (T := fun s => Nat.beq s 2) hw (hs.2.2 2 1 (by omega) (by omega)) rfl rfl
  have c2 : 0 < 0 + (0 + 0 + 0 + 0 + 0 + 0) + (0 + 0 + 0 + 0 + 0 + 0) + (0 + 0 + 0 + 0 + 0 + 0) + (0 + w 3 0 + w 3 1 + w 3 2 + 0 + w 3 4) + (0 + 0 + 0 + 0 + 0 + 0) := cut_pos (T := fun s => Nat.beq s 3) hw (hs.2.2 3 1 (by omega) (by omega)) rfl rfl
  have c3 : 0 < 0 + (0 + 0 + 0 + 0 + 0 + 0) + (0 + 0 + 0 + 0 + 0 + 0) + (0 + 0 + 0 + 0 + 0 + 0) + (0 + 0 + 0 + 0 + 0 + 0) + (0 + w 4 0 + w 4 1 + w 4 2 + w 4 3 + 0) := cut_pos (T := fun s => Nat.beq s 4) hw (hs.2.2 4 1 (by omega) (by omega)) rfl rfl
  have c01 : 0 < 0 + (0 + 0 + w 0 1 + 0 + w 0 3 + w 0 4) + (0 + 0 + 0 + 0 + 0 + 0) + (0 + 0 + w 2 1 + 0 + w 2 3 + w 2 4) + (0 + 0 + 0 + 0 + 0 + 0) + (0 + 0 + 0 + 0 + 0 + 0) := cut_pos (T := fun s => Nat.beq s 0 || Nat.beq s 2) hw (hs.2.2 0 1 (by omega) (by omega)) rfl rfl
  have c02 : 0 < 0 + (0 + 0 + w 0 1 + w 0 2 + 0 + w 0 4) + (0 + 0 + 0 + 0 + 0 + 0) + (0 + 0 + 0 + 0 + 0 + 0) + (0 + 0 + w 3 1 + w 3 2 + 0 + w 3 4) + (0 + 0 + 0 + 0 + 0 + 0) := cut_pos (T := fun s => Nat.beq s 0 || Nat.beq s 3) hw (hs.2.2 0 1 (by omega) (by omega)) rfl rfl
  have c03 : 0 < 0 + (0 + 0 + w 0 1 + w 0 2 + w 0 3 + 0) + (0 + 0 + 0 + 0 + 0 + 0) + (0 + 0 + 0 + 0 + 0 + 0) + (0 + 0 + 0 + 0 + 0 + 0) + (0 + 0 + w 4 1 + w 4 2 + w 4 3 + 0) := cut_pos (T := fun s => Nat.beq s 0 || Nat.beq s 4) hw (hs.2.2 0 1 (by omega) (by omega)) rfl rfl
  have c12 : 0 < 0 + (0 + 0 + 0 + 0 + 0 + 0) + (0 + 0 + 0 + 0 + 0 + 0) + (0 + w 2 0 + w 2 1 + 0 + 0 + w 2 4) + (0 + w 3 0 + w 3 1 + 0 + 0 + w 3 4) + (0 + 0 + 0 + 0 + 0 + 0) := cut_pos (T := fun s => Nat.beq s 2 || Nat.beq s 3) hw (hs.2.2 2 1 (by omega) (by omega)) rfl rfl
  have c13 : 0 < 0 + (0 + 0 + 0 + 0 + 0 + 0) + (0 + 0 + 0 + 0 + 0 + 0) + (0 + w 2 0 + w 2 1 + 0 + w 2 3 + 0) + (0 + 0 + 0 + 0 + 0 + 0) + (0 + w 4 0 + w 4 1 + 0 + w 4 3 + 0) := cut_pos (T := fun s => Nat.beq s 2 || Nat.beq s 4) hw (hs.2.2 2 1 (by omega) (by omega)) rfl rfl
  have c23 : 0 < 0 + (0 + 0 + 0 + 0 + 0 + 0) + (0 + 0 + 0 + 0 + 0 + 0) + (0 + 0 + 0 + 0 + 0 + 0) + (0 + w 3 0 + w 3 1 + w 3 2 + 0 + 0) + (0 + w 4 0 + w 4 1 + w 4 2 + 0 + 0) := cut_pos (T := fun s => Nat.beq s 3 || Nat.beq s 4) hw (hs.2.2 3 1 (by omega) (by omega)) rfl rfl
  have c012 : 0 < 0 + (0 + 0 + w 0 1 + 0 + 0 + w 0 4) + (0 + 0 + 0 + 0 + 0 + 0) + (0 + 0 + w 2 1 + 0 + 0 + w 2 4) + (0 + 0 + w 3 1 + 0 + 0 + w 3 4) + (0 + 0 + 0 + 0 + 0 + 0) := cut_pos (T := fun s => Nat.beq s 0 || Nat.beq s 2 || Nat.beq s 3) hw (hs.2.2 0 1 (by omega) (by omega)) rfl rfl
  have c013 : 0 < 0 + (0 + 0 + w 0 1 + 0 + w 0 3 + 0) + (0 + 0 + 0 + 0 + 0 + 0) + (0 + 0 + w 2 1 + 0 + w 2 3 + 0) + (0 + 0 + 0 + 0 + 0 + 0) + (0 + 0 + w 4 1 + 0 + w 4 3 + 0) := cut_pos (T := fun s => Nat.beq s 0 || Nat.beq s 2 || Nat.beq s 4) hw (hs.2.2 0 1 (by omega) (by omega)) rfl rfl
  have c023 : 0 < 0 + (0 + 0 + w 0 1 + w 0 2 + 0 + 0) + (0 + 0 + 0 + 0 + 0 + 0) + (0 + 0 + 0 + 0 + 0 + 0) + (0 + 0 + w 3 1 + w 3 2 + 0 + 0) + (0 + 0 + w 4 1 + w 4 2 + 0 + 0) := cut_pos (T := fun s => Nat.beq s 0 || Nat.beq s 3 || Nat.beq s 4) hw (hs.2.2 0 1 (by omega) (by omega)) rfl rfl
  have c123 : 0 < 0 + (0 + 0 + 0 + 0 + 0 + 0) + (0 + 0 + 0 + 0 + 0 + 0) + (0 + w 2 0 + w 2 1 + 0 + 0 + 0) + (0 + w 3 0 + w 3 1 + 0 + 0 + 0) + (0 + w 4 0 + w 4 1 + 0 + 0 + 0) := cut_pos (T := fun s => Nat.beq s 2 || Nat.beq s 3 || Nat.beq s 4) hw (hs.2.2 2 1 (by omega) (by omega)) rfl rfl
  have c0123 : 0 < 0 + (0 + 0 + w 0 1 + 0 + 0 + 0) + (0 + 0 + 0 + 0 + 0 + 0) + (0 + 0 + w 2 1 + 0 + 0 + 0) + (0 + 0 + w 3 1 + 0 + 0 + 0) + (0 + 0 + w 4 1 + 0 + 0 + 0) := cut_pos (T := fun s => Nat.beq s 0 || Nat.beq s 2 || Nat.beq s 3 || Nat.beq s 4) hw (hs.2.2 0 1 (by omega) (by omega)) rfl rfl
  have e1 : x_dt (x_A w 1) 1 = x_P1 (w 0 1 + w 0 2 + w 0 3 + w 0 4) := by
    simp only [x_dt, A00]
    rw [show (12 : Int) - w 0 0 = w 0 1 + w 0 2 + w 0 3 + w 0 4 by omega]
    unfold x_P1
    grind
  have m1 : 0 < x_dt (x_A w 1) 1 := by rw [e1]; apply pp1 <;> omega
  have e2 : x_dt (x_A w 1) 2 = x_P2 (w 0 1 + w 0 3 + w 0 4) (w 2 1 + w 2 3 + w 2 4) (w 0 2) (w 2 0) := by
    simp only [x_dt, A00, A01, A10, A11]
    rw [show (12 : Int) - w 0 0 = w 0 1 + w 0 2 + w 0 3 + w 0 4 by omega]
    rw [show (12 : Int) - w 2 2 = w 2 0 + w 2 1 + w 2 3 + w 2 4 by omega]
    unfold x_P2
    grind
  have m2 : 0 < x_dt (x_A w 1) 2 := by rw [e2]; apply pp2 <;> omega
  have e3 : x_dt (x_A w 1) 3 = x_P3 (w 0 1 + w 0 4) (w 2 1 + w 2 4) (w 3 1 + w 3 4) (w 0 2) (w 0 3) (w 2 0) (w 2 3) (w 3 0) (w 3 2) := by
    simp only [x_dt, A00, A01, A02, A10, A11, A12, A20, A21, A22]
    rw [show (12 : Int) - w 0 0 = w 0 1 + w 0 2 + w 0 3 + w 0 4 by omega]
    rw [show (12 : Int) - w 2 2 = w 2 0 + w 2 1 + w 2 3 + w 2 4 by omega]
    rw [show (12 : Int) - w 3 3 = w 3 0 + w 3 1 + w 3 2 + w 3 4 by omega]
    unfold x_P3
    grind
  have m3 : 0 < x_dt (x_A w 1) 3 := by rw [e3]; apply pp3 <;> omega
  have e4 : x_dt (x_A w 1) 4 = x_P4 (w 0 1) (w 2 1) (w 3 1) (w 4 1) (w 0 2) (w 0 3) (w 0 4) (w 2 0) (w 2 3) (w 2 4) (w 3 0) (w 3 2) (w 3 4) (w 4 0) (w 4 2) (w 4 3) := by
    simp only [x_dt, A00, A01, A02, A03, A10, A11, A12, A13, A20, A21, A22, A23, A30, A31, A32, A33]
    rw [show (12 : Int) - w 0 0 = w 0 1 + w 0 2 + w 0 3 + w 0 4 by omega]
    rw [show (12 : Int) - w 2 2 = w 2 0 + w 2 1 + w 2 3 + w 2 4 by omega]
    rw [show (12 : Int) - w 3 3 = w 3 0 + w 3 1 + w 3 2 + w 3 4 by omega]
    rw [show (12 : Int) - w 4 4 = w 4 0 + w 4 1 + w 4 2 + w 4 3 by omega]
    unfold x_P4
    grind
  have m4 : 0 < x_dt (x_A w 1) 4 := by rw [e4]; apply pp4 <;> omega
  refine ⟨fun k hk => ?_, ?_, ?_⟩
  · have hk2 : k = 0 ∨ k = 1 ∨ k = 2 ∨ k = 3 ∨ k = 4 := by omega
    rcases hk2 with e | e | e | e | e
    · subst e
      show (0 : Int) < 1
      omega
    · subst e; exact m1
    · subst e; exact m2
    · subst e; exact m3
    · subst e; exact m4
  · show x_dt (x_A w 1) 4 = y_ws w 5 1 625
    rw [ws_sl, cl_5_1]
    show _ = 0 + 1 * w 0 1 * 1 * w 2 0 * w 3 0 * w 4 0 + 1 * w 0 1 * 1 * w 2 1 * w 3 0 * w 4 0 + 1 * w 0 2 * 1 * w 2 1 * w 3 0 * w 4 0 + 1 * w 0 1 * 1 * w 2 3 * w 3 0 * w 4 0 + 1 * w 0 1 * 1 * w 2 4 * w 3 0 * w 4 0 + 1 * w 0 1 * 1 * w 2 0 * w 3 1 * w 4 0 + 1 * w 0 3 * 1 * w 2 0 * w 3 1 * w 4 0 + 1 * w 0 1 * 1 * w 2 1 * w 3 1 * w 4 0 + 1 * w 0 2 * 1 * w 2 1 * w 3 1 * w 4 0 + 1 * w 0 3 * 1 * w 2 1 * w 3 1 * w 4 0 + 1 * w 0 1 * 1 * w 2 3 * w 3 1 * w 4 0 + 1 * w 0 2 * 1 * w 2 3 * w 3 1 * w 4 0 + 1 * w 0 3 * 1 * w 2 3 * w 3 1 * w 4 0 + 1 * w 0 1 * 1 * w 2 4 * w 3 1 * w 4 0 + 1 * w 0 3 * 1 * w 2 4 * w 3 1 * w 4 0 + 1 * w 0 1 * 1 * w 2 0 * w 3 2 * w 4 0 + 1 * w 0 1 * 1 * w 2 1 * w 3 2 * w 4 0 + 1 * w 0 2 * 1 * w 2 1 * w 3 2 * w 4 0 + 1 * w 0 3 * 1 * w 2 1 * w 3 2 * w 4 0 + 1 * w 0 1 * 1 * w 2 4 * w 3 2 * w 4 0 + 1 * w 0 1 * 1 * w 2 0 * w 3 4 * w 4 0 + 1 * w 0 1 * 1 * w 2 1 * w 3 4 * w 4 0 + 1 * w 0 2 * 1 * w 2 1 * w 3 4 * w 4 0 + 1 * w 0 1 * 1 * w 2 3 * w 3 4 * w 4 0 + 1 * w 0 1 * 1 * w 2 4 * w 3 4 * w 4 0 + 1 * w 0 1 * 1 * w 2 0 * w 3 0 * w 4 1 + 1 * w 0 4 * 1 * w 2 0 * w 3 0 * w 4 1 + 1 * w 0 1 * 1 * w 2 1 * w 3 0 * w 4 1 + 1 * w 0 2 * 1 * w 2 1 * w 3 0 * w 4 1 + 1 * w 0 4 * 1 * w 2 1 * w 3 0 * w 4 1 + 1 * w 0 1 * 1 * w 2 3 * w 3 0 * w 4 1 + 1 * w 0 4 * 1 * w 2 3 * w 3 0 * w 4 1 + 1 * w 0 1 * 1 * w 2 4 * w 3 0 * w 4 1 + 1 * w 0 2 * 1 * w 2 4 * w 3 0 * w 4 1 + 1 * w 0 4 * 1 * w 2 4 * w 3 0 * w 4 1 + 1 * w 0 1 * 1 * w 2 0 * w 3 1 * w 4 1 + 1 * w 0 3 * 1 * w 2 0 * w 3 1 * w 4 1 + 1 * w 0 4 * 1 * w 2 0 * w 3 1 * w 4 1 + 1 * w 0 1 * 1 * w 2 1 * w 3 1 * w 4 1 + 1 * w 0 2 * 1 * w 2 1 * w 3 1 * w 4 1 + 1 * w 0 3 * 1 * w 2 1 * w 3 1 * w 4 1 + 1 * w 0 4 * 1 * w 2 1 * w 3 1 * w 4 1 + 1 * w 0 1 * 1 * w 2 3 * w 3 1 * w 4 1 + 1 * w 0 2 * 1 * w 2 3 * w 3 1 * w 4 1 + 1 * w 0 3 * 1 * w 2 3 * w 3 1 * w 4 1 + 1 * w 0 4 * 1 * w 2 3 * w 3 1 * w 4 1 + 1 * w 0 1 * 1 * w 2 4 * w 3 1 * w 4 1 + 1 * w 0 2 * 1 * w 2 4 * w 3 1 * w 4 1 + 1 * w 0 3 * 1 * w 2 4 * w 3 1 * w 4 1 + 1 * w 0 4 * 1 * w 2 4 * w 3 1 * w 4 1 + 1 * w 0 1 * 1 * w 2 0 * w 3 2 * w 4 1 + 1 * w 0 4 * 1 * w 2 0 * w 3 2 * w 4 1 + 1 * w 0 1 * 1 * w 2 1 * w 3 2 * w 4 1 + 1 * w 0 2 * 1 * w 2 1 * w 3 2 * w 4 1 + 1 * w 0 3 * 1 * w 2 1 * w 3 2 * w 4 1 + 1 * w 0 4 * 1 * w 2 1 * w 3 2 * w 4 1 + 1 * w 0 1 * 1 * w 2 4 * w 3 2 * w 4 1 + 1 * w 0 2 * 1 * w 2 4 * w 3 2 * w 4 1 + 1 * w 0 3 * 1 * w 2 4 * w 3 2 * w 4 1 + 1 * w 0 4 * 1 * w 2 4 * w 3 2 * w 4 1 + 1 * w 0 1 * 1 * w 2 0 * w 3 4 * w 4 1 + 1 * w 0 3 * 1 * w 2 0 * w 3 4 * w 4 1 + 1 * w 0 4 * 1 * w 2 0 * w 3 4 * w 4 1 + 1 * w 0 1 * 1 * w 2 1 * w 3 4 * w 4 1 + 1 * w 0 2 * 1 * w 2 1 * w 3 4 * w 4 1 + 1 * w 0 3 * 1 * w 2 1 * w 3 4 * w 4 1 + 1 * w 0 4 * 1 * w 2 1 * w 3 4 * w 4 1 + 1 * w 0 1 * 1 * w 2 3 * w 3 4 * w 4 1 + 1 * w 0 2 * 1 * w 2 3 * w 3 4 * w 4 1 + 1 * w 0 3 * 1 * w 2 3 * w 3 4 * w 4 1 + 1 * w 0 4 * 1 * w 2 3 * w 3 4 * w 4 1 + 1 * w 0 1 * 1 * w 2 4 * w 3 4 * w 4 1 + 1 * w 0 2 * 1 * w 2 4 * w 3 4 * w 4 1 + 1 * w 0 3 * 1 * w 2 4 * w 3 4 * w 4 1 + 1 * w 0 4 * 1 * w 2 4 * w 3 4 * w 4 1 + 1 * w 0 1 * 1 * w 2 0 * w 3 0 * w 4 2 + 1 * w 0 1 * 1 * w 2 1 * w 3 0 * w 4 2 + 1 * w 0 2 * 1 * w 2 1 * w 3 0 * w 4 2 + 1 * w 0 4 * 1 * w 2 1 * w 3 0 * w 4 2 + 1 * w 0 1 * 1 * w 2 3 * w 3 0 * w 4 2 + 1 * w 0 1 * 1 * w 2 0 * w 3 1 * w 4 2 + 1 * w 0 3 * 1 * w 2 0 * w 3 1 * w 4 2 + 1 * w 0 1 * 1 * w 2 1 * w 3 1 * w 4 2 + 1 * w 0 2 * 1 * w 2 1 * w 3 1 * w 4 2 + 1 * w 0 3 * 1 * w 2 1 * w 3 1 * w 4 2 + 1 * w 0 4 * 1 * w 2 1 * w 3 1 * w 4 2 + 1 * w 0 1 * 1 * w 2 3 * w 3 1 * w 4 2 + 1 * w 0 2 * 1 * w 2 3 * w 3 1 * w 4 2 + 1 * w 0 3 * 1 * w 2 3 * w 3 1 * w 4 2 + 1 * w 0 4 * 1 * w 2 3 * w 3 1 * w 4 2 + 1 * w 0 1 * 1 * w 2 0 * w 3 2 * w 4 2 + 1 * w 0 1 * 1 * w 2 1 * w 3 2 * w 4 2 + 1 * w 0 2 * 1 * w 2 1 * w 3 2 * w 4 2 + 1 * w 0 3 * 1 * w 2 1 * w 3 2 * w 4 2 + 1 * w 0 4 * 1 * w 2 1 * w 3 2 * w 4 2 + 1 * w 0 1 * 1 * w 2 0 * w 3 4 * w 4 2 + 1 * w 0 1 * 1 * w 2 1 * w 3 4 * w 4 2 + 1 * w 0 2 * 1 * w 2 1 * w 3 4 * w 4 2 + 1 * w 0 3 * 1 * w 2 1 * w 3 4 * w 4 2 + 1 * w 0 4 * 1 * w 2 1 * w 3 4 * w 4 2 + 1 * w 0 1 * 1 * w 2 0 * w 3 0 * w 4 3 + 1 * w 0 1 * 1 * w 2 1 * w 3 0 * w 4 3 + 1 * w 0 2 * 1 * w 2 1 * w 3 0 * w 4 3 + 1 * w 0 1 * 1 * w 2 3 * w 3 0 * w 4 3 + 1 * w 0 1 * 1 * w 2 4 * w 3 0 * w 4 3 + 1 * w 0 1 * 1 * w 2 0 * w 3 1 * w 4 3 + 1 * w 0 3 * 1 * w 2 0 * w 3 1 * w 4 3 + 1 * w 0 4 * 1 * w 2 0 * w 3 1 * w 4 3 + 1 * w 0 1 * 1 * w 2 1 * w 3 1 * w 4 3 + 1 * w 0 2 * 1 * w 2 1 * w 3 1 * w 4 3 + 1 * w 0 3 * 1 * w 2 1 * w 3 1 * w 4 3 + 1 * w 0 4 * 1 * w 2 1 * w 3 1 * w 4 3 + 1 * w 0 1 * 1 * w 2 3 * w 3 1 * w 4 3 + 1 * w 0 2 * 1 * w 2 3 * w 3 1 * w 4 3 + 1 * w 0 3 * 1 * w 2 3 * w 3 1 * w 4 3 + 1 * w 0 4 * 1 * w 2 3 * w 3 1 * w 4 3 + 1 * w 0 1 * 1 * w 2 4 * w 3 1 * w 4 3 + 1 * w 0 2 * 1 * w 2 4 * w 3 1 * w 4 3 + 1 * w 0 3 * 1 * w 2 4 * w 3 1 * w 4 3 + 1 * w 0 4 * 1 * w 2 4 * w 3 1 * w 4 3 + 1 * w 0 1 * 1 * w 2 0 * w 3 2 * w 4 3 + 1 * w 0 1 * 1 * w 2 1 * w 3 2 * w 4 3 + 1 * w 0 2 * 1 * w 2 1 * w 3 2 * w 4 3 + 1 * w 0 3 * 1 * w 2 1 * w 3 2 * w 4 3 + 1 * w 0 4 * 1 * w 2 1 * w 3 2 * w 4 3
    simp only [x_dt, A00, A01, A02, A03, A10, A11, A12, A13, A20, A21, A22, A23, A30, A31, A32, A33]
    rw [show (12 : Int) - w 0 0 = w 0 1 + w 0 2 + w 0 3 + w 0 4 by omega]
    rw [show (12 : Int) - w 2 2 = w 2 0 + w 2 1 + w 2 3 + w 2 4 by omega]
    rw [show (12 : Int) - w 3 3 = w 3 0 + w 3 1 + w 3 2 + w 3 4 by omega]
    rw [show (12 : Int) - w 4 4 = w 4 0 + w 4 1 + w 4 2 + w 4 3 by omega]
    clear c0 c1 c2 c3 c01 c02 c03 c12 c13 c23 c012 c013 c023 c123 c0123 m1 m2 m3 m4 e1 e2 e3 e4 r0 r1 r2 r3 r4 n00 n01 n02 n03 n04 n10 n11 n12 n13 n14 n20 n21 n22 n23 n24 n30 n31 n32 n33 n34 n40 n41 n42 n43 n44 A00 A01 A02 A03 A10 A11 A12 A13 A20 A21 A22 A23 A30 A31 A32 A33 hs hw
    grind
  · show x_dt (x_A w 1) 4 ≤ 20736
    rw [e4]
    have b : 0 ≤ x_P4 (w 0 1) (w 2 1) (w 3 1) (w 4 1) (w 0 2) (w 0 3) (w 0 4) (w 2 0) (w 2 3) (w 2 4) (w 3 0) (w 3 2) (w 3 4) (w 4 0) (w 4 2) (w 4 3) ∧ x_P4 (w 0 1) (w 2 1) (w 3 1) (w 4 1) (w 0 2) (w 0 3) (w 0 4) (w 2 0) (w 2 3) (w 2 4) (w 3 0) (w 3 2) (w 3 4) (w 4 0) (w 4 2) (w 4 3) ≤ 20736 := by apply pb4 <;> omega
    omega
theorem cl_5_2 : y_cl 5 2 625 = [449, 448, 447, 446, 444, 443, 442, 441, 439, 438, 437, 436, 429, 428, 427, 414, 413, 412, 411, 402, 397, 392, 387, 386, 377, 374, 373, 372, 371, 369, 368, 367, 366, 364, 363, 362, 361, 354, 353, 352, 324, 323, 322, 321, 319, 318, 317, 316, 314, 313, 312, 311, 304, 303, 302, 299, 298, 297, 296, 289, 288, 287, 286, 279, 277, 274, 272, 271, 269, 267, 264, 262, 261, 254, 252, 239, 238, 237, 236, 227, 194, 193, 192, 191, 189, 188, 187, 186, 178, 177, 164, 163, 162, 161, 152, 142, 139, 137, 136, 127, 122, 117, 112, 111, 102, 73, 72, 68, 67, 66, 63, 62, 61, 53, 52, 47, 38, 37, 36, 27, 22, 17, 12, 11, 2] := by decide +kernel
set_option maxRecDepth 20000 in
theorem fin_5_2 {w : Nat → Nat → Int} (hs : x_Snd 5 w) (hw : ∀ a b : Nat, a < 5 → b < 5 → 0 ≤ w a b) : x_fin 5 2 w := by
  have r0 : 0 + w 0 0 + w 0 1 + w 0 2 + w 0 3 + w 0 4 = 12 := hs.2.1 0 (by omega)
  have n00 := hw 0 0 (by omega) (by omega)
  have n01 := hw 0 1 (by omega) (by omega)
  have n02 := hw 0 2 (by omega) (by omega)
  have n03 := hw 0 3 (by omega) (by omega)
  have n04 := hw 0 4 (by omega) (by omega)
  have r1 : 0 + w 1 0 + w 1 1 + w 1 2 + w 1 3 + w 1 4 = 12 := hs.2.1 1 (by omega)
  have n10 := hw 1 0 (by omega) (by omega)
  have n11 := hw 1 1 (by omega) (by omega)
  have n12 := hw 1 2 (by omega) (by omega)
  have n13 := hw 1 3 (by omega) (by omega)
  have n14 := hw 1 4 (by omega) (by omega)
  have r2 : 0 + w 2 0 + w 2 1 + w 2 2 + w 2 3 + w 2 4 = 12 := hs.2.1 2 (by omega)
  have n20 := hw 2 0 (by omega) (by omega)
  have n21 := hw 2 1 (by omega) (by omega)
  have n22 := hw 2 2 (by omega) (by omega)
  have n23 := hw 2 3 (by omega) (by omega)
  have n24 := hw 2 4 (by omega) (by omega)
  have r3 : 0 + w 3 0 + w 3 1 + w 3 2 + w 3 3 + w 3 4 = 12 := hs.2.1 3 (by omega)
  have n30 := hw 3 0 (by omega) (by omega)
  have n31 := hw 3 1 (by omega) (by omega)
  have n32 := hw 3 2 (by omega) (by omega)
  have n33 := hw 3 3 (by omega) (by omega)
  have n34 := hw 3 4 (by omega) (by omega)
  have r4 : 0 + w 4 0 + w 4 1 + w 4 2 + w 4 3 + w 4 4 = 12 := hs.2.1 4 (by omega)
  have n40 := hw 4 0 (by omega) (by omega)
  have n41 := hw 4 1 (by omega) (by omega)
  have n42 := hw 4 2 (by omega) (by omega)
  have n43 := hw 4 3 (by omega) (by omega)
  have n44 := hw 4 4 (by omega) (by omega)
  have A00 : x_A w 2 0 0 = 12 - w 0 0 := rfl
  have A01 : x_A w 2 0 1 = 0 - w 0 1 := rfl
  have A02 : x_A w 2 0 2 = 0 - w 0 3 := rfl
  have A03 : x_A w 2 0 3 = 0 - w 0 4 := rfl
  have A10 : x_A w 2 1 0 = 0 - w 1 0 := rfl
  have A11 : x_A w 2 1 1 = 12 - w 1 1 := rfl
  have A12 : x_A w 2 1 2 = 0 - w 1 3 := rfl
  have A13 : x_A w 2 1 3 = 0 - w 1 4 := rfl
  have A20 : x_A w 2 2 0 = 0 - w 3 0 := rfl
  have A21 : x_A w 2 2 1 = 0 - w 3 1 := rfl
  have A22 : x_A w 2 2 2 = 12 - w 3 3 := rfl
  have A23 : x_A w 2 2 3 = 0 - w 3 4 := rfl
  have A30 : x_A w 2 3 0 = 0 - w 4 0 := rfl
  have A31 : x_A w 2 3 1 = 0 - w 4 1 := rfl
  have A32 : x_A w 2 3 2 = 0 - w 4 3 := rfl
  have A33 : x_A w 2 3 3 = 12 - w 4 4 := rfl
  have c0 : 0 < 0 + (0 + 0 + w 0 1 + w 0 2 + w 0 3 + w 0 4) + (0 + 0 + 0 + 0 + 0 + 0) + (0 + 0 + 0 + 0 + 0 + 0) + (0 + 0 + 0 + 0 + 0 + 0) + (0 + 0 + 0 + 0 + 0 + 0) := cut_pos (T := fun s => Nat.beq s 0) hw (hs.2.2 0 2 (by omega) (by omega)) rfl rfl
  have c1 : 0 < 0 + (0 + 0 + 0 + 0 + 0 + 0) + (0 + w 1 0 + 0 + w 1 2 + w 1 3 + w 1 4) + (0 + 0 + 0 + 0 + 0 + 0) + (0 + 0 + 0 + 0 + 0 + 0) + (0 + 0 + 0 + 0 + 0 + 0) := cut_pos (T := fun s => Nat.beq s 1) hw (hs.2.2 1 2 (by omega) (by omega)) rfl rfl
  have c2 : 0 < 0 + (0 + 0 + 0 + 0 + 0 + 0) + (0 + 0 + 0 + 0 + 0 + 0) + (0 + 0 + 0 + 0 + 0 + 0) + (0 + w 3 0 + w 3 1 + w 3 2 + 0 + w 3 4) + (0 + 0 + 0 + 0 + 0 + 0) := cut_pos (T := fun s => Nat.beq s 3) hw (hs.2.2 3 2 (by omega) (by omega)) rfl rfl
  have c3 : 0 < 0 + (0 + 0 + 0 + 0 + 0 + 0) + (0 + 0 + 0 + 0 + 0 + 0) + (0 + 0 + 0 + 0 + 0 + 0) + (0 + 0 + 0 + 0 + 0 + 0) + (0 + w 4 0 + w 4 1 + w 4 2 + w 4 3 + 0) := cut_pos (T := fun s => Nat.beq s 4) hw (hs.2.2 4 2 (by omega) (by omega)) rfl rfl
  have c01 : 0 < 0 + (0 + 0 + 0 + w 0 2 + w 0 3 + w 0 4) + (0 + 0 + 0 + w 1 2 + w 1 3 + w 1 4) + (0 + 0 + 0 + 0 + 0 + 0) + (0 + 0 + 0 + 0 + 0 + 0) + (0 + 0 + 0 + 0 + 0 + 0) := cut_pos (T := fun s => Nat.beq s 0 || Nat.beq s 1) hw (hs.2.2 0 2 (by omega) (by omega)) rfl rfl
  have c02 : 0 < 0 + (0 + 0 + w 0 1 + w 0 2 + 0 + w 0 4) + (0 + 0 + 0 + 0 + 0 + 0) + (0 + 0 + 0 + 0 + 0 + 0) + (0 + 0 + w 3 1 + w 3 2 + 0 + w 3 4) + (0 + 0 + 0 + 0 + 0 + 0) := cut_pos (T := fun s => Nat.beq s 0 || Nat.beq s 3) hw (hs.2.2 0 2 (by omega) (by omega)) rfl rfl
  have c03 : 0 < 0 + (0 + 0 + w 0 1 + w 0 2 + w 0 3 + 0) + (0 + 0 + 0 + 0 + 0 + 0) + (0 + 0 + 0 + 0 + 0 + 0) + (0 + 0 + 0 + 0 + 0 + 0) + (0 + 0 + w 4 1 + w 4 2 + w 4 3 + 0) := cut_pos (T := fun s => Nat.beq s 0 || Nat.beq s 4) hw (hs.2.2 0 2 (by omega) (by omega)) rfl rfl
  have c12 : 0 < 0 + (0 + 0 + 0 + 0 + 0 + 0) + (0 + w 1 0 + 0 + w 1 2 + 0 + w 1 4) + (0 + 0 + 0 + 0 + 0 + 0) + (0 + w 3 0 + 0 + w 3 2 + 0 + w 3 4) + (0 + 0 + 0 + 0 + 0 + 0) := cut_pos (T := fun s => Nat.beq s 1 || Nat.beq s 3) hw (hs.2.2 1 2 (by omega) (by omega)) rfl rfl
  have c13 : 0 < 0 + (0 + 0 + 0 + 0 + 0 + 0) + (0 + w 1 0 + 0 + w 1 2 + w 1 3 + 0) + (0 + 0 + 0 + 0 + 0 + 0) + (0 + 0 + 0 + 0 + 0 + 0) + (0 + w 4 0 + 0 + w 4 2 + w 4 3 + 0) := cut_pos (T := fun s => Nat.beq s 1 || Nat.beq s 4) hw (hs.2.2 1 2 (by omega) (by omega)) rfl rfl
  have c23 : 0 < 0 + (0 + 0 + 0 + 0 + 0 + 0) + (0 + 0 + 0 + 0 + 0 + 0) + (0 + 0 + 0 + 0 + 0 + 0) + (0 + w 3 0 + w 3 1 + w 3 2 + 0 + 0) + (0 + w 4 0 + w 4 1 + w 4 2 + 0 + 0) := cut_pos (T := fun s => Nat.beq s 3 || Nat.beq s 4) hw (hs.2.2 3 2 (by omega) (by omega)) rfl rfl
  have c012 : 0 < 0 + (0 + 0 + 0 + w 0 2 + 0 + w 0 4) + (0 + 0 + 0 + w 1 2 + 0 + w 1 4) + (0 + 0 + 0 + 0 + 0 + 0) + (0 + 0 + 0 + w 3 2 + 0 + w 3 4) + (0 + 0 + 0 + 0 + 0 + 0) := cut_pos (T := fun s => Nat.beq s 0 || Nat.beq s 1 || Nat.beq s 3) hw (hs.2.2 0 2 (by omega) (by omega)) rfl rfl
  have c013 : 0 < 0 + (0 + 0 + 0 + w 0 2 + w 0 3 + 0) + (0 + 0 + 0 + w 1 2 + w 1 3 + 0) + (0 + 0 + 0 + 0 + 0 + 0) + (0 + 0 + 0 + 0 + 0 + 0) + (0 + 0 + 0 + w 4 2 + w 4 3 + 0) := cut_pos (T := fun s => Nat.beq s 0 || Nat.beq s 1 || Nat.beq s 4) hw (hs.2.2 0 2 (by omega) (by omega)) rfl rfl
  have c023 : 0 < 0 + (0 + 0 + w 0 1 + w 0 2 + 0 + 0) + (0 + 0 + 0 + 0 + 0 + 0) + (0 + 0 + 0 + 0 + 0 + 0) + (0 + 0 + w 3 1 + w 3 2 + 0 + 0) + (0 + 0 + w 4 1 + w 4 2 + 0 + 0) := cut_pos (T := fun s => Nat.beq s 0 || Nat.beq s 3 || Nat.beq s 4) hw (hs.2.2 0 2 (by omega) (by omega)) rfl rfl
  have c123 : 0 < 0 + (0 + 0 + 0 + 0 + 0 + 0) + (0 + w 1 0 + 0 + w 1 2 + 0 + 0) + (0 + 0 + 0 + 0 + 0 + 0) + (0 + w 3 0 + 0 + w 3 2 + 0 + 0) + (0 + w 4 0 + 0 + w 4 2 + 0 + 0) := cut_pos (T := fun s => Nat.beq s 1 || Nat.beq s 3 || Nat.beq s 4) hw (hs.2.2 1 2 (by omega) (by omega)) rfl rfl
  have c0123 : 0 < 0 + (0 + 0 + 0 + w 0 2 + 0 + 0) + (0 + 0 + 0 + w 1 2 + 0 + 0) + (0 + 0 + 0 + 0 + 0 + 0) + (0 + 0 + 0 + w 3 2 + 0 + 0) + (0 + 0 + 0 + w 4 2 + 0 + 0) := cut_pos (T := fun s => Nat.beq s 0 || Nat.beq s 1 || Nat.beq s 3 || Nat.beq s 4) hw (hs.2.2 0 2 (by omega) (by omega)) rfl rfl
  have e1 : x_dt (x_A w 2) 1 = x_P1 (w 0 1 + w 0 2 + w 0 3 + w 0 4) := by
    simp only [x_dt, A00]
    rw [show (12 : Int) - w 0 0 = w 0 1 + w 0 2 + w 0 3 + w 0 4 by omega]
    unfold x_P1
    grind
  have m1 : 0 < x_dt (x_A w 2) 1 := by rw [e1]; apply pp1 <;> omega
  have e2 : x_dt (x_A w 2) 2 = x_P2 (w 0 2 + w 0 3 + w 0 4) (w 1 2 + w 1 3 + w 1 4) (w 0 1) (w 1 0) := by
    simp only [x_dt, A00, A01, A10, A11]
    rw [show (12 : Int) - w 0 0 = w 0 1 + w 0 2 + w 0 3 + w 0 4 by omega]
    rw [show (12 : Int) - w 1 1 = w 1 0 + w 1 2 + w 1 3 + w 1 4 by omega]
    unfold x_P2
    grind
  have m2 : 0 < x_dt (x_A w 2) 2 := by rw [e2]; apply pp2 <;> omega
  have e3 : x_dt (x_A w 2) 3 = x_P3 (w 0 2 + w 0 4) (w 1 2 + w 1 4) (w 3 2 + w 3 4) (w 0 1) (w 0 3) (w 1 0) (w 1 3) (w 3 0) (w 3 1) := by
    simp only [x_dt, A00, A01, A02, A10, A11, A12, A20, A21, A22]
    rw [show (12 : Int) - w 0 0 = w 0 1 + w 0 2 + w 0 3 + w 0 4 by omega]
    rw [show (12 : Int) - w 1 1 = w 1 0 + w 1 2 + w 1 3 + w 1 4 by omega]
    rw [show (12 : Int) - w 3 3 = w 3 0 + w 3 1 + w 3 2 + w 3 4 by omega]
    unfold x_P3
    grind
  have m3 : 0 < x_dt (x_A w 2) 3 := by rw [e3]; apply pp3 <;> omega
  have e4 : x_dt (x_A w 2) 4 = x_P4 (w 0 2) (w 1 2) (w 3 2) (w 4 2) (w 0 1) (w 0 3) (w 0 4) (w 1 0) (w 1 3) (w 1 4) (w 3 0) (w 3 1) (w 3 4) (w 4 0) (w 4 1) (w 4 3) := by
    simp only [x_dt, A00, A01, A02, A03, A10, A11, A12, A13, A20, A21, A22, A23, A30, A31, A32, A33]
    rw [show (12 : Int) - w 0 0 = w 0 1 + w 0 2 + w 0 3 + w 0 4 by omega]
    rw [show (12 : Int) - w 1 1 = w 1 0 + w 1 2 + w 1 3 + w 1 4 by omega]
    rw [show (12 : Int) - w 3 3 = w 3 0 + w 3 1 + w 3 2 + w 3 4 by omega]
    rw [show (12 : Int) - w 4 4 = w 4 0 + w 4 1 + w 4 2 + w 4 3 by omega]
    unfold x_P4
    grind
  have m4 : 0 < x_dt (x_A w 2) 4 := by rw [e4]; apply pp4 <;> omega
  refine ⟨fun k hk => ?_, ?_, ?_⟩
  · have hk2 : k = 0 ∨ k = 1 ∨ k = 2 ∨ k = 3 ∨ k = 4 := by omega
    rcases hk2 with e | e | e | e | e
    · subst e
      show (0 : Int) < 1
      omega
    · subst e; exact m1
    · subst e; exact m2
    · subst e; exact m3
    · subst e; exact m4
  · show x_dt (x_A w 2) 4 = y_ws w 5 2 625
    rw [ws_sl, cl_5_2]
    show _ = 0 + 1 * w 0 2 * w 1 0 * 1 * w 3 0 * w 4 0 + 1 * w 0 1 * w 1 2 * 1 * w 3 0 * w 4 0 + 1 * w 0 2 * w 1 2 * 1 * w 3 0 * w 4 0 + 1 * w 0 2 * w 1 3 * 1 * w 3 0 * w 4 0 + 1 * w 0 2 * w 1 4 * 1 * w 3 0 * w 4 0 + 1 * w 0 2 * w 1 0 * 1 * w 3 1 * w 4 0 + 1 * w 0 1 * w 1 2 * 1 * w 3 1 * w 4 0 + 1 * w 0 2 * w 1 2 * 1 * w 3 1 * w 4 0 + 1 * w 0 3 * w 1 2 * 1 * w 3 1 * w 4 0 + 1 * w 0 2 * w 1 4 * 1 * w 3 1 * w 4 0 + 1 * w 0 2 * w 1 0 * 1 * w 3 2 * w 4 0 + 1 * w 0 3 * w 1 0 * 1 * w 3 2 * w 4 0 + 1 * w 0 1 * w 1 2 * 1 * w 3 2 * w 4 0 + 1 * w 0 2 * w 1 2 * 1 * w 3 2 * w 4 0 + 1 * w 0 3 * w 1 2 * 1 * w 3 2 * w 4 0 + 1 * w 0 1 * w 1 3 * 1 * w 3 2 * w 4 0 + 1 * w 0 2 * w 1 3 * 1 * w 3 2 * w 4 0 + 1 * w 0 3 * w 1 3 * 1 * w 3 2 * w 4 0 + 1 * w 0 2 * w 1 4 * 1 * w 3 2 * w 4 0 + 1 * w 0 3 * w 1 4 * 1 * w 3 2 * w 4 0 + 1 * w 0 2 * w 1 0 * 1 * w 3 4 * w 4 0 + 1 * w 0 1 * w 1 2 * 1 * w 3 4 * w 4 0 + 1 * w 0 2 * w 1 2 * 1 * w 3 4 * w 4 0 + 1 * w 0 2 * w 1 3 * 1 * w 3 4 * w 4 0 + 1 * w 0 2 * w 1 4 * 1 * w 3 4 * w 4 0 + 1 * w 0 2 * w 1 0 * 1 * w 3 0 * w 4 1 + 1 * w 0 1 * w 1 2 * 1 * w 3 0 * w 4 1 + 1 * w 0 2 * w 1 2 * 1 * w 3 0 * w 4 1 + 1 * w 0 4 * w 1 2 * 1 * w 3 0 * w 4 1 + 1 * w 0 2 * w 1 3 * 1 * w 3 0 * w 4 1 + 1 * w 0 2 * w 1 0 * 1 * w 3 1 * w 4 1 + 1 * w 0 1 * w 1 2 * 1 * w 3 1 * w 4 1 + 1 * w 0 2 * w 1 2 * 1 * w 3 1 * w 4 1 + 1 * w 0 3 * w 1 2 * 1 * w 3 1 * w 4 1 + 1 * w 0 4 * w 1 2 * 1 * w 3 1 * w 4 1 + 1 * w 0 2 * w 1 0 * 1 * w 3 2 * w 4 1 + 1 * w 0 3 * w 1 0 * 1 * w 3 2 * w 4 1 + 1 * w 0 1 * w 1 2 * 1 * w 3 2 * w 4 1 + 1 * w 0 2 * w 1 2 * 1 * w 3 2 * w 4 1 + 1 * w 0 3 * w 1 2 * 1 * w 3 2 * w 4 1 + 1 * w 0 4 * w 1 2 * 1 * w 3 2 * w 4 1 + 1 * w 0 1 * w 1 3 * 1 * w 3 2 * w 4 1 + 1 * w 0 2 * w 1 3 * 1 * w 3 2 * w 4 1 + 1 * w 0 3 * w 1 3 * 1 * w 3 2 * w 4 1 + 1 * w 0 4 * w 1 3 * 1 * w 3 2 * w 4 1 + 1 * w 0 2 * w 1 0 * 1 * w 3 4 * w 4 1 + 1 * w 0 1 * w 1 2 * 1 * w 3 4 * w 4 1 + 1 * w 0 2 * w 1 2 * 1 * w 3 4 * w 4 1 + 1 * w 0 3 * w 1 2 * 1 * w 3 4 * w 4 1 + 1 * w 0 4 * w 1 2 * 1 * w 3 4 * w 4 1 + 1 * w 0 2 * w 1 0 * 1 * w 3 0 * w 4 2 + 1 * w 0 4 * w 1 0 * 1 * w 3 0 * w 4 2 + 1 * w 0 1 * w 1 2 * 1 * w 3 0 * w 4 2 + 1 * w 0 2 * w 1 2 * 1 * w 3 0 * w 4 2 + 1 * w 0 4 * w 1 2 * 1 * w 3 0 * w 4 2 + 1 * w 0 2 * w 1 3 * 1 * w 3 0 * w 4 2 + 1 * w 0 4 * w 1 3 * 1 * w 3 0 * w 4 2 + 1 * w 0 1 * w 1 4 * 1 * w 3 0 * w 4 2 + 1 * w 0 2 * w 1 4 * 1 * w 3 0 * w 4 2 + 1 * w 0 4 * w 1 4 * 1 * w 3 0 * w 4 2 + 1 * w 0 2 * w 1 0 * 1 * w 3 1 * w 4 2 + 1 * w 0 4 * w 1 0 * 1 * w 3 1 * w 4 2 + 1 * w 0 1 * w 1 2 * 1 * w 3 1 * w 4 2 + 1 * w 0 2 * w 1 2 * 1 * w 3 1 * w 4 2 + 1 * w 0 3 * w 1 2 * 1 * w 3 1 * w 4 2 + 1 * w 0 4 * w 1 2 * 1 * w 3 1 * w 4 2 + 1 * w 0 1 * w 1 4 * 1 * w 3 1 * w 4 2 + 1 * w 0 2 * w 1 4 * 1 * w 3 1 * w 4 2 + 1 * w 0 3 * w 1 4 * 1 * w 3 1 * w 4 2 + 1 * w 0 4 * w 1 4 * 1 * w 3 1 * w 4 2 + 1 * w 0 2 * w 1 0 * 1 * w 3 2 * w 4 2 + 1 * w 0 3 * w 1 0 * 1 * w 3 2 * w 4 2 + 1 * w 0 4 * w 1 0 * 1 * w 3 2 * w 4 2 + 1 * w 0 1 * w 1 2 * 1 * w 3 2 * w 4 2 + 1 * w 0 2 * w 1 2 * 1 * w 3 2 * w 4 2 + 1 * w 0 3 * w 1 2 * 1 * w 3 2 * w 4 2 + 1 * w 0 4 * w 1 2 * 1 * w 3 2 * w 4 2 + 1 * w 0 1 * w 1 3 * 1 * w 3 2 * w 4 2 + 1 * w 0 2 * w 1 3 * 1 * w 3 2 * w 4 2 + 1 * w 0 3 * w 1 3 * 1 * w 3 2 * w 4 2 + 1 * w 0 4 * w 1 3 * 1 * w 3 2 * w 4 2 + 1 * w 0 1 * w 1 4 * 1 * w 3 2 * w 4 2 + 1 * w 0 2 * w 1 4 * 1 * w 3 2 * w 4 2 + 1 * w 0 3 * w 1 4 * 1 * w 3 2 * w 4 2 + 1 * w 0 4 * w 1 4 * 1 * w 3 2 * w 4 2 + 1 * w 0 2 * w 1 0 * 1 * w 3 4 * w 4 2 + 1 * w 0 3 * w 1 0 * 1 * w 3 4 * w 4 2 + 1 * w 0 4 * w 1 0 * 1 * w 3 4 * w 4 2 + 1 * w 0 1 * w 1 2 * 1 * w 3 4 * w 4 2 + 1 * w 0 2 * w 1 2 * 1 * w 3 4 * w 4 2 + 1 * w 0 3 * w 1 2 * 1 * w 3 4 * w 4 2 + 1 * w 0 4 * w 1 2 * 1 * w 3 4 * w 4 2 + 1 * w 0 1 * w 1 3 * 1 * w 3 4 * w 4 2 + 1 * w 0 2 * w 1 3 * 1 * w 3 4 * w 4 2 + 1 * w 0 3 * w 1 3 * 1 * w 3 4 * w 4 2 + 1 * w 0 4 * w 1 3 * 1 * w 3 4 * w 4 2 + 1 * w 0 1 * w 1 4 * 1 * w 3 4 * w 4 2 + 1 * w 0 2 * w 1 4 * 1 * w 3 4 * w 4 2 + 1 * w 0 3 * w 1 4 * 1 * w 3 4 * w 4 2 + 1 * w 0 4 * w 1 4 * 1 * w 3 4 * w 4 2 + 1 * w 0 2 * w 1 0 * 1 * w 3 0 * w 4 3 + 1 * w 0 1 * w 1 2 * 1 * w 3 0 * w 4 3 + 1 * w 0 2 * w 1 2 * 1 * w 3 0 * w 4 3 + 1 * w 0 2 * w 1 3 * 1 * w 3 0 * w 4 3 + 1 * w 0 2 * w 1 4 * 1 * w 3 0 * w 4 3 + 1 * w 0 2 * w 1 0 * 1 * w 3 1 * w 4 3 + 1 * w 0 1 * w 1 2 * 1 * w 3 1 * w 4 3 + 1 * w 0 2 * w 1 2 * 1 * w 3 1 * w 4 3 + 1 * w 0 3 * w 1 2 * 1 * w 3 1 * w 4 3 + 1 * w 0 4 * w 1 2 * 1 * w 3 1 * w 4 3 + 1 * w 0 2 * w 1 0 * 1 * w 3 2 * w 4 3 + 1 * w 0 3 * w 1 0 * 1 * w 3 2 * w 4 3 + 1 * w 0 4 * w 1 0 * 1 * w 3 2 * w 4 3 + 1 * w 0 1 * w 1 2 * 1 * w 3 2 * w 4 3 + 1 * w 0 2 * w 1 2 * 1 * w 3 2 * w 4 3 + 1 * w 0 3 * w 1 2 * 1 * w 3 2 * w 4 3 + 1 * w 0 4 * w 1 2 * 1 * w 3 2 * w 4 3 + 1 * w 0 1 * w 1 3 * 1 * w 3 2 * w 4 3 + 1 * w 0 2 * w 1 3 * 1 * w 3 2 * w 4 3 + 1 * w 0 3 * w 1 3 * 1 * w 3 2 * w 4 3 + 1 * w 0 4 * w 1 3 * 1 * w 3 2 * w 4 3 + 1 * w 0 1 * w 1 4 * 1 * w 3 2 * w 4 3 + 1 * w 0 2 * w 1 4 * 1 * w 3 2 * w 4 3 + 1 * w 0 3 * w 1 4 * 1 * w 3 2 * w 4 3 + 1 * w 0 4 * w 1 4 * 1 * w 3 2 * w 4 3
    simp only [x_dt, A00, A01, A02, A03, A10, A11, A12, A13, A20, A21, A22, A23, A30, A31, A32, A33]
    rw [show (12 : Int) - w 0 0 = w 0 1 + w 0 2 + w 0 3 + w 0 4 by omega]
    rw [show (12 : Int) - w 1 1 = w 1 0 + w 1 2 + w 1 3 + w 1 4 by omega]
    rw [show (12 : Int) - w 3 3 = w 3 0 + w 3 1 + w 3 2 + w 3 4 by omega]
    rw [show (12 : Int) - w 4 4 = w 4 0 + w 4 1 + w 4 2 + w 4 3 by omega]
    clear c0 c1 c2 c3 c01 c02 c03 c12 c13 c23 c012 c013 c023 c123 c0123 m1 m2 m3 m4 e1 e2 e3 e4 r0 r1 r2 r3 r4 n00 n01 n02 n03 n04 n10 n11 n12 n13 n14 n20 n21 n22 n23 n24 n30 n31 n32 n33 n34 n40 n41 n42 n43 n44 A00 A01 A02 A03 A10 A11 A12 A13 A20 A21 A22 A23 A30 A31 A32 A33 hs hw
    grind
  · show x_dt (x_A w 2) 4 ≤ 20736
    rw [e4]
    have b : 0 ≤ x_P4 (w 0 2) (w 1 2) (w 3 2) (w 4 2) (w 0 1) (w 0 3) (w 0 4) (w 1 0) (w 1 3) (w 1 4) (w 3 0) (w 3 1) (w 3 4) (w 4 0) (w 4 1) (w 4 3) ∧ x_P4 (w 0 2) (w 1 2) (w 3 2) (w 4 2) (w 0 1) (w 0 3) (w 0 4) (w 1 0) (w 1 3) (w 1 4) (w 3 0) (w 3 1) (w 3 4) (w 4 0) (w 4 1) (w 4 3) ≤ 20736 := by apply pb4 <;> omega
    omega
theorem cl_5_3 : y_cl 5 3 625 = [499, 498, 497, 496, 494, 493, 492, 491, 489, 488, 487, 486, 479, 478, 477, 474, 473, 472, 471, 469, 468, 467, 466, 464, 463, 462, 461, 454, 453, 452, 424, 423, 422, 421, 419, 418, 417, 416, 404, 403, 399, 398, 396, 394, 393, 391, 389, 388, 379, 378, 349, 348, 347, 346, 344, 343, 342, 341, 339, 338, 337, 336, 329, 328, 327, 294, 293, 292, 291, 278, 273, 268, 266, 263, 253, 244, 243, 242, 241, 228, 219, 218, 217, 216, 214, 213, 212, 211, 203, 202, 169, 168, 167, 166, 153, 144, 143, 141, 138, 128, 123, 118, 116, 113, 103, 98, 97, 93, 92, 91, 88, 87, 86, 78, 77, 48, 43, 42, 41, 28, 23, 18, 16, 13, 3] := by decide +kernel
set_option maxRecDepth 20000 in
theorem fin_5_3 {w : Nat → Nat → Int} (hs : x_Snd 5 w) (hw : ∀ a b : Nat, a < 5 → b < 5 → 0 ≤ w a b) : x_fin 5 3 w := by
  have r0 : 0 + w 0 0 + w 0 1 + w 0 2 + w 0 3 + w 0 4 = 12 := hs.2.1 0 (by omega)
  have n00 := hw 0 0 (by omega) (by omega)
  have n01 := hw 0 1 (by omega) (by omega)
  have n02 := hw 0 2 (by omega) (by omega)
  have n03 := hw 0 3 (by omega) (by omega)
  have n04 := hw 0 4 (by omega) (by omega)
  have r1 : 0 + w 1 0 + w 1 1 + w 1 2 + w 1 3 + w 1 4 = 12 := hs.2.1 1 (by omega)
  have n10 := hw 1 0 (by omega) (by omega)
  have n11 := hw 1 1 (by omega) (by omega)
  have n12 := hw 1 2 (by omega) (by omega)
  have n13 := hw 1 3 (by omega) (by omega)
  have n14 := hw 1 4 (by omega) (by omega)
  have r2 : 0 + w 2 0 + w 2 1 + w 2 2 + w 2 3 + w 2 4 = 12 := hs.2.1 2 (by omega)
  have n20 := hw 2 0 (by omega) (by omega)
  have n21 := hw 2 1 (by omega) (by omega)
  have n22 := hw 2 2 (by omega) (by omega)
  have n23 := hw 2 3 (by omega) (by omega)
  have n24 := hw 2 4 (by omega) (by omega)
  have r3 : 0 + w 3 0 + w 3 1 + w 3 2 + w 3 3 + w 3 4 = 12 := hs.2.1 3 (by omega)
  have n30 := hw 3 0 (by omega) (by omega)
  have n31 := hw 3 1 (by omega) (by omega)
  have n32 := hw 3 2 (by omega) (by omega)
  have n33 := hw 3 3 (by omega) (by omega)
  have n34 := hw 3 4 (by omega) (by omega)
  have r4 : 0 + w 4 0 + w 4 1 + w 4 2 + w 4 3 + w 4 4 = 12 := hs.2.1 4 (by omega)
  have n40 := hw 4 0 (by omega) (by omega)
  have n41 := hw 4 1 (by omega) (by omega)
  have n42 := hw 4 2 (by omega) (by omega)
  have n43 := hw 4 3 (by omega) (by omega)
  have n44 := hw 4 4 (by omega) (by omega)
  have A00 : x_A w 3 0 0 = 12 - w 0 0 := rfl
  have A01 : x_A w 3 0 1 = 0 - w 0 1 := rfl
  have A02 : x_A w 3 0 2 = 0 - w 0 2 := rfl
  have A03 : x_A w 3 0 3 = 0 - w 0 4 := rfl
  have A10 : x_A w 3 1 0 = 0 - w 1 0 := rfl
  have A11 : x_A w 3 1 1 = 12 - w 1 1 := rfl
  have A12 : x_A w 3 1 2 = 0 - w 1 2 := rfl
  have A13 : x_A w 3 1 3 = 0 - w 1 4 := rfl
  have A20 : x_A w 3 2 0 = 0 - w 2 0 := rfl
  have A21 : x_A w 3 2 1 = 0 - w 2 1 := rfl
  have A22 : x_A w 3 2 2 = 12 - w 2 2 := rfl
  have A23 : x_A w 3 2 3 = 0 - w 2 4 := rfl
  have A30 : x_A w 3 3 0 = 0 - w 4 0 := rfl
  have A31 : x_A w 3 3 1 = 0 - w 4 1 := rfl
  have A32 : x_A w 3 3 2 = 0 - w 4 2 := rfl
  have A33 : x_A w 3 3 3 = 12 - w 4 4 := rfl
  have c0 : 0 < 0 + (0 + 0 + w 0 1 + w 0 2 + w 0 3 + w 0 4) + (0 + 0 + 0 + 0 + 0 + 0) + (0 + 0 + 0 + 0 + 0 + 0) + (0 + 0 + 0 + 0 + 0 + 0) + (0 + 0 + 0 + 0 + 0 + 0) := cut_pos (T := fun s => Nat.beq s 0) hw (hs.2.2 0 3 (by omega) (by omega)) rfl rfl
  have c1 : 0 < 0 + (0 + 0 + 0 + 0 + 0 + 0) + (0 + w 1 0 + 0 + w 1 2 + w 1 3 + w 1 4) + (0 + 0 + 0 + 0 + 0 + 0) + (0 + 0 + 0 + 0 + 0 + 0) + (0 + 0 + 0 + 0 + 0 + 0) := cut_pos (T := fun s => Nat.beq s 1) hw (hs.2.2 1 3 (by omega) (by omega)) rfl rfl
  have c2 : 0 < 0 + (0 + 0 + 0 + 0 + 0 + 0) + (0 + 0 + 0 + 0 + 0 + 0) + (0 + w 2 0 + w 2 1 + 0 + w 2 3 + w 2 4) + (0 + 0 + 0 + 0 + 0 + 0) + (0 + 0 + 0 + 0 + 0 + 0) := cut_pos (T := fun s => Nat.beq s 2) hw (hs.2.2 2 3 (by omega) (by omega)) rfl rfl
  have c3 : 0 < 0 + (0 + 0 + 0 + 0 + 0 + 0) + (0 + 0 + 0 + 0 + 0 + 0) + (0 + 0 + 0 + 0 + 0 + 0) + (0 + 0 + 0 + 0 + 0 + 0) + (0 + w 4 0 + w 4 1 + w 4 2 + w 4 3 + 0) := cut_pos (T := fun s => Nat.beq s 4) hw (hs.2.2 4 3 (by omega) (by omega)) rfl rfl
  have c01 : 0 < 0 + (0 + 0 + 0 + w 0 2 + w 0 3 + w 0 4) + (0 + 0 + 0 + w 1 2 + w 1 3 + w 1 4) + (0 + 0 + 0 + 0 + 0 + 0) + (0 + 0 + 0 + 0 + 0 + 0) + (0 + 0 + 0 + 0 + 0 + 0) := cut_pos (T := fun s => Nat.beq s 0 || Nat.beq s 1) hw (hs.2.2 0 3 (by omega) (by omega)) rfl rfl
  have c02 : 0 < 0 + (0 + 0 + w 0 1 + 0 + w 0 3 + w 0 4) + (0 + 0 + 0 + 0 + 0 + 0) + (0 + 0 + w 2 1 + 0 + w 2 3 + w 2 4) + (0 + 0 + 0 + 0 + 0 + 0) + (0 + 0 + 0 + 0 + 0 + 0) := cut_pos (T := fun s => Nat.beq s 0 || Nat.beq s 2) hw (hs.2.2 0 3 (by omega) (by omega)) rfl rfl
  have c03 : 0 < 0 + (0 + 0 + w 0 1 + w 0 2 + w 0 3 + 0) + (0 + 0 + 0 + 0 + 0 + 0) + (0 + 0 + 0 + 0 + 0 + 0) + (0 + 0 + 0 + 0 + 0 + 0) + (0 + 0 + w 4 1 + w 4 2 + w 4 3 + 0) := cut_pos (T := fun s => Nat.beq s 0 || Nat.beq s 4) hw (hs.2.2 0 3 (by omega) (by omega)) rfl rfl
  have c12 : 0 < 0 + (0 + 0 + 0 + 0 + 0 + 0) + (0 + w 1 0 + 0 + 0 + w 1 3 + w 1 4) + (0 + w 2 0 + 0 + 0 + w 2 3 + w 2 4) + (0 + 0 + 0 + 0 + 0 + 0) + (0 + 0 + 0 + 0 + 0 + 0) := cut_pos (T := fun s => Nat.beq s 1 || Nat.beq s 2) hw (hs.2.2 1 3 (by omega) (by omega)) rfl rfl
  have c13 : 0 < 0 + (0 + 0 + 0 + 0 + 0 + 0) + (0 + w 1 0 + 0 + w 1 2 + w 1 3 + 0) + (0 + 0 + 0 + 0 + 0 + 0) + (0 + 0 + 0 + 0 + 0 + 0) + (0 + w 4 0 + 0 + w 4 2 + w 4 3 + 0) := cut_pos (T := fun s => Nat.beq s 1 || Nat.beq s 4) hw (hs.2.2 1 3 (by omega) (by omega)) rfl rfl
  have c23 : 0 < 0 + (0 + 0 + 0 + 0 + 0 + 0) + (0 + 0 + 0 + 0 + 0 + 0) + (0 + w 2 0 + w 2 1 + 0 + w 2 3 + 0) + (0 + 0 + 0 + 0 + 0 + 0) + (0 + w 4 0 + w 4 1 + 0 + w 4 3 + 0) := cut_pos (T := fun s => Nat.beq s 2 || Nat.beq s 4) hw (hs.2.2 2 3 (by omega) (by omega)) rfl rfl
  have c012 : 0 < 0 + (0 + 0 + 0 + 0 + w 0 3 + w 0 4) + (0 + 0 + 0 + 0 + w 1 3 + w 1 4) + (0 + 0 + 0 + 0 + w 2 3 + w 2 4) + (0 + 0 + 0 + 0 + 0 + 0) + (0 + 0 + 0 + 0 + 0 + 0) := cut_pos (T := fun s => Nat.beq s 0 || Nat.beq s 1 || Nat.beq s 2) hw (hs.2.2 0 3 (by omega) (by omega)) rfl rfl
  have c013 : 0 < 0 + (0 + 0 + 0 + w 0 2 + w 0 3 + 0) + (0 + 0 + 0 + w 1 2 + w 1 3 + 0) + (0 + 0 + 0 + 0 + 0 + 0) + (0 + 0 + 0 + 0 + 0 + 0) + (0 + 0 + 0 + w 4 2 + w 4 3 + 0) := cut_pos (T := fun s => Nat.beq s 0 || Nat.beq s 1 || Nat.beq s 4) hw (hs.2.2 0 3 (by omega) (by omega)) rfl rfl
  have c023 : 0 < 0 + (0 + 0 + w 0 1 + 0 + w 0 3 + 0) + (0 + 0 + 0 + 0 + 0 + 0) + (0 + 0 + w 2 1 + 0 + w 2 3 + 0) + (0 + 0 + 0 + 0 + 0 + 0) + (0 + 0 + w 4 1 + 0 + w 4 3 + 0) := cut_pos (T := fun s => Nat.beq s 0 || Nat.beq s 2 || Nat.beq s 4) hw (hs.2.2 0 3 (by omega) (by omega)) rfl rfl
  have c123 : 0 < 0 + (0 + 0 + 0 + 0 + 0 + 0) + (0 + w 1 0 + 0 + 0 + w 1 3 + 0) + (0 + w 2 0 + 0 + 0 + w 2 3 + 0) + (0 + 0 + 0 + 0 + 0 + 0) + (0 + w 4 0 + 0 + 0 + w 4 3 + 0) := cut_pos (T := fun s => Nat.beq s 1 || Nat.beq s 2 || Nat.beq s 4) hw (hs.2.2 1 3 (by omega) (by omega)) rfl rfl
  have c0123 : 0 < 0 + (0 + 0 + 0 + 0 + w 0 3 + 0) + (0 + 0 + 0 + 0 + w 1 3 + 0) + (0 + 0 + 0 + 0 + w 2 3 + 0) + (0 + 0 + 0 + 0 + 0 + 0) + (0 + 0 + 0 + 0 + w 4 3 + 0) := cut_pos (T := fun s => Nat.beq s 0 || Nat.beq s 1 || Nat.beq s 2 || Nat.beq s 4) hw (hs.2.2 0 3 (by omega) (by omega)) rfl rfl
  have e1 : x_dt (x_A w 3) 1 = x_P1 (w 0 1 + w 0 2 + w 0 3 + w 0 4) := by
    simp only [x_dt, A00]
    rw [show (12 : Int) - w 0 0 = w 0 1 + w 0 2 + w 0 3 + w 0 4 by omega]
    unfold x_P1
    grind
  have m1 : 0 < x_dt (x_A w 3) 1 := by rw [e1]; apply pp1 <;> omega
  have e2 : x_dt (x_A w 3) 2 = x_P2 (w 0 2 + w 0 3 + w 0 4) (w 1 2 + w 1 3 + w 1 4) (w 0 1) (w 1 0) := by
    simp only [x_dt, A00, A01, A10, A11]
    rw [show (12 : Int) - w 0 0 = w 0 1 + w 0 2 + w 0 3 + w 0 4 by omega]
    rw [show (12 : Int) - w 1 1 = w 1 0 + w 1 2 + w 1 3 + w 1 4 by omega]
    unfold x_P2
    grind
  have m2 : 0 < x_dt (x_A w 3) 2 := by rw [e2]; apply pp2 <;> omega
  have e3 : x_dt (x_A w 3) 3 = x_P3 (w 0 3 + w 0 4) (w 1 3 + w 1 4) (w 2 3 + w 2 4) (w 0 1) (w 0 2) (w 1 0) (w 1 2) (w 2 0) (w 2 1) := by
    simp only [x_dt, A00, A01, A02, A10, A11, A12, A20, A21, A22]
    rw [show (12 : Int) - w 0 0 = w 0 1 + w 0 2 + w 0 3 + w 0 4 by omega]
    rw [show (12 : Int) - w 1 1 = w 1 0 + w 1 2 + w 1 3 + w 1 4 by omega]
    rw [show (12 : Int) - w 2 2 = w 2 0 + w 2 1 + w 2 3 + w 2 4 by omega]
    unfold x_P3
    grind
  have m3 : 0 < x_dt (x_A w 3) 3 := by rw [e3]; apply pp3 <;> omega
  have e4 : x_dt (x_A w 3) 4 = x_P4 (w 0 3) (w 1 3) (w 2 3) (w 4 3) (w 0 1) (w 0 2) (w 0 4) (w 1 0) (w 1 2) (w 1 4) (w 2 0) (w 2 1) (w 2 4) (w 4 0) (w 4 1) (w 4 2) := by
    simp only [x_dt, A00, A01, A02, A03, A10, A11, A12, A13, A20, A21, A22, A23, A30, A31, A32, A33]
    rw [show (12 : Int) - w 0 0 = w 0 1 + w 0 2 + w 0 3 + w 0 4 by omega]
    rw [show (12 : Int) - w 1 1 = w 1 0 + w 1 2 + w 1 3 + w 1 4 by omega]
    rw [show (12 : Int) - w 2 2 = w 2 0 + w 2 1 + w 2 3 + w 2 4 by omega]
    rw [show (12 : Int) - w 4 4 = w 4 0 + w 4 1 + w 4 2 + w 4 3 by omega]
    unfold x_P4
    grind
  have m4 : 0 < x_dt (x_A w 3) 4 := by rw [e4]; apply pp4 <;> omega
  refine ⟨fun k hk => ?_, ?_, ?_⟩
  · have hk2 : k = 0 ∨ k = 1 ∨ k = 2 ∨ k = 3 ∨ k = 4 := by omega
    rcases hk2 with e | e | e | e | e
    · subst e
      show (0 : Int) < 1
      omega
    · subst e; exact m1
    · subst e; exact m2
    · subst e; exact m3
    · subst e; exact m4
  · show x_dt (x_A w 3) 4 = y_ws w 5 3 625
    rw [ws_sl, cl_5_3]
    show _ = 0 + 1 * w 0 3 * w 1 0 * w 2 0 * 1 * w 4 0 + 1 * w 0 3 * w 1 2 * w 2 0 * 1 * w 4 0 + 1 * w 0 1 * w 1 3 * w 2 0 * 1 * w 4 0 + 1 * w 0 3 * w 1 3 * w 2 0 * 1 * w 4 0 + 1 * w 0 3 * w 1 4 * w 2 0 * 1 * w 4 0 + 1 * w 0 3 * w 1 0 * w 2 1 * 1 * w 4 0 + 1 * w 0 1 * w 1 3 * w 2 1 * 1 * w 4 0 + 1 * w 0 2 * w 1 3 * w 2 1 * 1 * w 4 0 + 1 * w 0 3 * w 1 3 * w 2 1 * 1 * w 4 0 + 1 * w 0 3 * w 1 4 * w 2 1 * 1 * w 4 0 + 1 * w 0 2 * w 1 0 * w 2 3 * 1 * w 4 0 + 1 * w 0 3 * w 1 0 * w 2 3 * 1 * w 4 0 + 1 * w 0 1 * w 1 2 * w 2 3 * 1 * w 4 0 + 1 * w 0 2 * w 1 2 * w 2 3 * 1 * w 4 0 + 1 * w 0 3 * w 1 2 * w 2 3 * 1 * w 4 0 + 1 * w 0 1 * w 1 3 * w 2 3 * 1 * w 4 0 + 1 * w 0 2 * w 1 3 * w 2 3 * 1 * w 4 0 + 1 * w 0 3 * w 1 3 * w 2 3 * 1 * w 4 0 + 1 * w 0 2 * w 1 4 * w 2 3 * 1 * w 4 0 + 1 * w 0 3 * w 1 4 * w 2 3 * 1 * w 4 0 + 1 * w 0 3 * w 1 0 * w 2 4 * 1 * w 4 0 + 1 * w 0 3 * w 1 2 * w 2 4 * 1 * w 4 0 + 1 * w 0 1 * w 1 3 * w 2 4 * 1 * w 4 0 + 1 * w 0 3 * w 1 3 * w 2 4 * 1 * w 4 0 + 1 * w 0 3 * w 1 4 * w 2 4 * 1 * w 4 0 + 1 * w 0 3 * w 1 0 * w 2 0 * 1 * w 4 1 + 1 * w 0 3 * w 1 2 * w 2 0 * 1 * w 4 1 + 1 * w 0 1 * w 1 3 * w 2 0 * 1 * w 4 1 + 1 * w 0 3 * w 1 3 * w 2 0 * 1 * w 4 1 + 1 * w 0 4 * w 1 3 * w 2 0 * 1 * w 4 1 + 1 * w 0 3 * w 1 0 * w 2 1 * 1 * w 4 1 + 1 * w 0 1 * w 1 3 * w 2 1 * 1 * w 4 1 + 1 * w 0 2 * w 1 3 * w 2 1 * 1 * w 4 1 + 1 * w 0 3 * w 1 3 * w 2 1 * 1 * w 4 1 + 1 * w 0 4 * w 1 3 * w 2 1 * 1 * w 4 1 + 1 * w 0 2 * w 1 0 * w 2 3 * 1 * w 4 1 + 1 * w 0 3 * w 1 0 * w 2 3 * 1 * w 4 1 + 1 * w 0 1 * w 1 2 * w 2 3 * 1 * w 4 1 + 1 * w 0 2 * w 1 2 * w 2 3 * 1 * w 4 1 + 1 * w 0 3 * w 1 2 * w 2 3 * 1 * w 4 1 + 1 * w 0 4 * w 1 2 * w 2 3 * 1 * w 4 1 + 1 * w 0 1 * w 1 3 * w 2 3 * 1 * w 4 1 + 1 * w 0 2 * w 1 3 * w 2 3 * 1 * w 4 1 + 1 * w 0 3 * w 1 3 * w 2 3 * 1 * w 4 1 + 1 * w 0 4 * w 1 3 * w 2 3 * 1 * w 4 1 + 1 * w 0 3 * w 1 0 * w 2 4 * 1 * w 4 1 + 1 * w 0 1 * w 1 3 * w 2 4 * 1 * w 4 1 + 1 * w 0 2 * w 1 3 * w 2 4 * 1 * w 4 1 + 1 * w 0 3 * w 1 3 * w 2 4 * 1 * w 4 1 + 1 * w 0 4 * w 1 3 * w 2 4 * 1 * w 4 1 + 1 * w 0 3 * w 1 0 * w 2 0 * 1 * w 4 2 + 1 * w 0 3 * w 1 2 * w 2 0 * 1 * w 4 2 + 1 * w 0 1 * w 1 3 * w 2 0 * 1 * w 4 2 + 1 * w 0 3 * w 1 3 * w 2 0 * 1 * w 4 2 + 1 * w 0 3 * w 1 4 * w 2 0 * 1 * w 4 2 + 1 * w 0 3 * w 1 0 * w 2 1 * 1 * w 4 2 + 1 * w 0 1 * w 1 3 * w 2 1 * 1 * w 4 2 + 1 * w 0 2 * w 1 3 * w 2 1 * 1 * w 4 2 + 1 * w 0 3 * w 1 3 * w 2 1 * 1 * w 4 2 + 1 * w 0 4 * w 1 3 * w 2 1 * 1 * w 4 2 + 1 * w 0 2 * w 1 0 * w 2 3 * 1 * w 4 2 + 1 * w 0 3 * w 1 0 * w 2 3 * 1 * w 4 2 + 1 * w 0 4 * w 1 0 * w 2 3 * 1 * w 4 2 + 1 * w 0 1 * w 1 2 * w 2 3 * 1 * w 4 2 + 1 * w 0 2 * w 1 2 * w 2 3 * 1 * w 4 2 + 1 * w 0 3 * w 1 2 * w 2 3 * 1 * w 4 2 + 1 * w 0 4 * w 1 2 * w 2 3 * 1 * w 4 2 + 1 * w 0 1 * w 1 3 * w 2 3 * 1 * w 4 2 + 1 * w 0 2 * w 1 3 * w 2 3 * 1 * w 4 2 + 1 * w 0 3 * w 1 3 * w 2 3 * 1 * w 4 2 + 1 * w 0 4 * w 1 3 * w 2 3 * 1 * w 4 2 + 1 * w 0 1 * w 1 4 * w 2 3 * 1 * w 4 2 + 1 * w 0 2 * w 1 4 * w 2 3 * 1 * w 4 2 + 1 * w 0 3 * w 1 4 * w 2 3 * 1 * w 4 2 + 1 * w 0 4 * w 1 4 * w 2 3 * 1 * w 4 2 + 1 * w 0 3 * w 1 0 * w 2 0 * 1 * w 4 3 + 1 * w 0 4 * w 1 0 * w 2 0 * 1 * w 4 3 + 1 * w 0 3 * w 1 2 * w 2 0 * 1 * w 4 3 + 1 * w 0 4 * w 1 2 * w 2 0 * 1 * w 4 3 + 1 * w 0 1 * w 1 3 * w 2 0 * 1 * w 4 3 + 1 * w 0 3 * w 1 3 * w 2 0 * 1 * w 4 3 + 1 * w 0 4 * w 1 3 * w 2 0 * 1 * w 4 3 + 1 * w 0 1 * w 1 4 * w 2 0 * 1 * w 4 3 + 1 * w 0 3 * w 1 4 * w 2 0 * 1 * w 4 3 + 1 * w 0 4 * w 1 4 * w 2 0 * 1 * w 4 3 + 1 * w 0 3 * w 1 0 * w 2 1 * 1 * w 4 3 + 1 * w 0 4 * w 1 0 * w 2 1 * 1 * w 4 3 + 1 * w 0 1 * w 1 3 * w 2 1 * 1 * w 4 3 + 1 * w 0 2 * w 1 3 * w 2 1 * 1 * w 4 3 + 1 * w 0 3 * w 1 3 * w 2 1 * 1 * w 4 3 + 1 * w 0 4 * w 1 3 * w 2 1 * 1 * w 4 3 + 1 * w 0 1 * w 1 4 * w 2 1 * 1 * w 4 3 + 1 * w 0 2 * w 1 4 * w 2 1 * 1 * w 4 3 + 1 * w 0 3 * w 1 4 * w 2 1 * 1 * w 4 3 + 1 * w 0 4 * w 1 4 * w 2 1 * 1 * w 4 3 + 1 * w 0 2 * w 1 0 * w 2 3 * 1 * w 4 3 + 1 * w 0 3 * w 1 0 * w 2 3 * 1 * w 4 3 + 1 * w 0 4 * w 1 0 * w 2 3 * 1 * w 4 3 + 1 * w 0 1 * w 1 2 * w 2 3 * 1 * w 4 3 + 1 * w 0 2 * w 1 2 * w 2 3 * 1 * w 4 3 + 1 * w 0 3 * w 1 2 * w 2 3 * 1 * w 4 3 + 1 * w 0 4 * w 1 2 * w 2 3 * 1 * w 4 3 + 1 * w 0 1 * w 1 3 * w 2 3 * 1 * w 4 3 + 1 * w 0 2 * w 1 3 * w 2 3 * 1 * w 4 3 + 1 * w 0 3 * w 1 3 * w 2 3 * 1 * w 4 3 + 1 * w 0 4 * w 1 3 * w 2 3 * 1 * w 4 3 + 1 * w 0 1 * w 1 4 * w 2 3 * 1 * w 4 3 + 1 * w 0 2 * w 1 4 * w 2 3 * 1 * w 4 3 + 1 * w 0 3 * w 1 4 * w 2 3 * 1 * w 4 3 + 1 * w 0 4 * w 1 4 * w 2 3 * 1 * w 4 3 + 1 * w 0 2 * w 1 0 * w 2 4 * 1 * w 4 3 + 1 * w 0 3 * w 1 0 * w 2 4 * 1 * w 4 3 + 1 * w 0 4 * w 1 0 * w 2 4 * 1 * w 4 3 + 1 * w 0 1 * w 1 2 * w 2 4 * 1 * w 4 3 + 1 * w 0 2 * w 1 2 * w 2 4 * 1 * w 4 3 + 1 * w 0 3 * w 1 2 * w 2 4 * 1 * w 4 3 + 1 * w 0 4 * w 1 2 * w 2 4 * 1 * w 4 3 + 1 * w 0 1 * w 1 3 * w 2 4 * 1 * w 4 3 + 1 * w 0 2 * w 1 3 * w 2 4 * 1 * w 4 3 + 1 * w 0 3 * w 1 3 * w 2 4 * 1 * w 4 3 + 1 * w 0 4 * w 1 3 * w 2 4 * 1 * w 4 3 + 1 * w 0 1 * w 1 4 * w 2 4 * 1 * w 4 3 + 1 * w 0 2 * w 1 4 * w 2 4 * 1 * w 4 3 + 1 * w 0 3 * w 1 4 * w 2 4 * 1 * w 4 3 + 1 * w 0 4 * w 1 4 * w 2 4 * 1 * w 4 3
    simp only [x_dt, A00, A01, A02, A03, A10, A11, A12, A13, A20, A21, A22, A23, A30, A31, A32, A33]
    rw [show (12 : Int) - w 0 0 = w 0 1 + w 0 2 + w 0 3 + w 0 4 by omega]
    rw [show (12 : Int) - w 1 1 = w 1 0 + w 1 2 + w 1 3 + w 1 4 by omega]
    rw [show (12 : Int) - w 2 2 = w 2 0 + w 2 1 + w 2 3 + w 2 4 by omega]
    rw [show (12 : Int) - w 4 4 = w 4 0 + w 4 1 + w 4 2 + w 4 3 by omega]
    clear c0 c1 c2 c3 c01 c02 c03 c12 c13 c23 c012 c013 c023 c123 c0123 m1 m2 m3 m4 e1 e2 e3 e4 r0 r1 r2 r3 r4 n00 n01 n02 n03 n04 n10 n11 n12 n13 n14 n20 n21 n22 n23 n24 n30 n31 n32 n33 n34 n40 n41 n42 n43 n44 A00 A01 A02 A03 A10 A11 A12 A13 A20 A21 A22 A23 A30 A31 A32 A33 hs hw
    grind
  · show x_dt (x_A w 3) 4 ≤ 20736
    rw [e4]
    have b : 0 ≤ x_P4 (w 0 3) (w 1 3) (w 2 3) (w 4 3) (w 0 1) (w 0 2) (w 0 4) (w 1 0) (w 1 2) (w 1 4) (w 2 0) (w 2 1) (w 2 4) (w 4 0) (w 4 1) (w 4 2) ∧ x_P4 (w 0 3) (w 1 3) (w 2 3) (w 4 3) (w 0 1) (w 0 2) (w 0 4) (w 1 0) (w 1 2) (w 1 4) (w 2 0) (w 2 1) (w 2 4) (w 4 0) (w 4 1) (w 4 2) ≤ 20736 := by apply pb4 <;> omega
    omega
theorem cl_5_4 : y_cl 5 4 625 = [624, 623, 622, 621, 619, 618, 617, 616, 614, 613, 612, 611, 604, 603, 602, 599, 598, 597, 596, 594, 593, 592, 591, 589, 588, 587, 586, 579, 578, 577, 549, 548, 547, 546, 544, 543, 542, 541, 529, 528, 524, 523, 521, 519, 518, 516, 514, 513, 504, 503, 374, 373, 372, 371, 369, 368, 367, 366, 364, 363, 362, 361, 354, 353, 352, 299, 298, 297, 296, 279, 274, 271, 269, 264, 254, 249, 248, 247, 246, 239, 238, 237, 236, 229, 227, 224, 223, 222, 221, 204, 174, 173, 172, 171, 154, 149, 148, 146, 139, 129, 124, 122, 121, 119, 117, 114, 112, 111, 104, 102, 99, 96, 94, 89, 79, 49, 47, 46, 44, 29, 24, 21, 19, 14, 4] := by decide +kernel
set_option maxRecDepth 20000 in
theorem fin_5_4 {w : Nat → Nat → Int} (hs : x_Snd 5 w) (hw : ∀ a b : Nat, a < 5 → b < 5 → 0 ≤ w a b) : x_fin 5 4 w := by
  have r0 : 0 + w 0 0 + w 0 1 + w 0 2 + w 0 3 + w 0 4 = 12 := hs.2.1 0 (by omega)
  have n00 := hw 0 0 (by omega) (by omega)
  have n01 := hw 0 1 (by omega) (by omega)
  have n02 := hw 0 2 (by omega) (by omega)
  have n03 := hw 0 3 (by omega) (by omega)
  have n04 := hw 0 4 (by omega) (by omega)
  have r1 : 0 + w 1 0 + w 1 1 + w 1 2 + w 1 3 + w 1 4 = 12 := hs.2.1 1 (by omega)
  have n10 := hw 1 0 (by omega) (by omega)
  have n11 := hw 1 1 (by omega) (by omega)
  have n12 := hw 1 2 (by omega) (by omega)
  have n13 := hw 1 3 (by omega) (by omega)
  have n14 := hw 1 4 (by omega) (by omega)
  have r2 : 0 + w 2 0 + w 2 1 + w 2 2 + w 2 3 + w 2 4 = 12 := hs.2.1 2 (by omega)
  have n20 := hw 2 0 (by omega) (by omega)
  have n21 := hw 2 1 (by omega) (by omega)
  have n22 := hw 2 2 (by omega) (by omega)
  have n23 := hw 2 3 (by omega) (by omega)
  have n24 := hw 2 4 (by omega) (by omega)
  have r3 : 0 + w 3 0 + w 3 1 + w 3 2 + w 3 3 + w 3 4 = 12 := hs.2.1 3 (by omega)
  have n30 := hw 3 0 (by omega) (by omega)
  have n31 := hw 3 1 (by omega) (by omega)
  have n32 := hw 3 2 (by omega) (by omega)
  have n33 := hw 3 3 (by omega) (by omega)
  have n34 := hw 3 4 (by omega) (by omega)
  have r4 : 0 + w 4 0 + w 4 1 + w 4 2 + w 4 3 + w 4 4 = 12 := hs.2.1 4 (by omega)
  have n40 := hw 4 0 (by omega) (by omega)
  have n41 := hw 4 1 (by omega) (by omega)
  have n42 := hw 4 2 (by omega) (by omega)
  have n43 := hw 4 3 (by omega) (by omega)
  have n44 := hw 4 4 (by omega) (by omega)
  have A00 : x_A w 4 0 0 = 12 - w 0 0 := rfl
  have A01 : x_A w 4 0 1 = 0 - w 0 1 := rfl
  have A02 : x_A w 4 0 2 = 0 - w 0 2 := rfl
  have A03 : x_A w 4 0 3 = 0 - w 0 3 := rfl
  have A10 : x_A w 4 1 0 = 0 - w 1 0 := rfl
  have A11 : x_A w 4 1 1 = 12 - w 1 1 := rfl
  have A12 : x_A w 4 1 2 = 0 - w 1 2 := rfl
  have A13 : x_A w 4 1 3 = 0 - w 1 3 := rfl
  have A20 : x_A w 4 2 0 = 0 - w 2 0 := rfl
  have A21 : x_A w 4 2 1 = 0 - w 2 1 := rfl
  have A22 : x_A w 4 2 2 = 12 - w 2 2 := rfl
  have A23 : x_A w 4 2 3 = 0 - w 2 3 := rfl
  have A30 : x_A w 4 3 0 = 0 - w 3 0 := rfl
  have A31 : x_A w 4 3 1 = 0 - w 3 1 := rfl
  have A32 : x_A w 4 3 2 = 0 - w 3 2 := rfl
  have A33 : x_A w 4 3 3 = 12 - w 3 3 := rfl
  have c0 : 0 < 0 + (0 + 0 + w 0 1 + w 0 2 + w 0 3 + w 0 4) + (0 + 0 + 0 + 0 + 0 + 0) + (0 + 0 + 0 + 0 + 0 + 0) + (0 + 0 + 0 + 0 + 0 + 0) + (0 + 0 + 0 + 0 + 0 + 0) := cut_pos (T := fun s => Nat.beq s 0) hw (hs.2.2 0 4 (by omega) (by omega)) rfl rfl
  have c1 : 0 < 0 + (0 + 0 + 0 + 0 + 0 + 0) + (0 + w 1 0 + 0 + w 1 2 + w 1 3 + w 1 4) + (0 + 0 + 0 + 0 + 0 + 0) + (0 + 0 + 0 + 0 + 0 + 0) + (0 + 0 + 0 + 0 + 0 + 0) := cut_pos (T := fun s => Nat.beq s 1) hw (hs.2.2 1 4 (by omega) (by omega)) rfl rfl
  have c2 : 0 < 0 + (0 + 0 + 0 + 0 + 0 + 0) + (0 + 0 + 0 + 0 + 0 + 0) + (0 + w 2 0 + w 2 1 + 0 + w 2 3 + w 2 4) + (0 + 0 + 0 + 0 + 0 + 0) + (0 + 0 + 0 + 0 + 0 + 0) := cut_pos (T := fun s => Nat.beq s 2) hw (hs.2.2 2 4 (by omega) (by omega)) rfl rfl
  have c3 : 0 < 0 + (0 + 0 + 0 + 0 + 0 + 0) + (0 + 0 + 0 + 0 + 0 + 0) + (0 + 0 + 0 + 0 + 0 + 0) + (0 + w 3 0 + w 3 1 + w 3 2 + 0 + w 3 4) + (0 + 0 + 0 + 0 + 0 + 0) := cut_pos (T := fun s => Nat.beq s 3) hw (hs.2.2 3 4 (by omega) (by omega)) rfl rfl
  have c01 : 0 < 0 + (0 + 0 + 0 + w 0 2 + w 0 3 + w 0 4) + (0 + 0 + 0 + w 1 2 + w 1 3 + w 1 4) + (0 + 0 + 0 + 0 + 0 + 0) + (0 + 0 + 0 + 0 + 0 + 0) + (0 + 0 + 0 + 0 + 0 + 0) := cut_pos (T := fun s => Nat.beq s 0 || Nat.beq s 1) hw (hs.2.2 0 4 (by omega) (by omega)) rfl rfl
  have c02 : 0 < 0 + (0 + 0 + w 0 1 + 0 + w 0 3 + w 0 4) + (0 + 0 + 0 + 0 + 0 + 0) + (0 + 0 + w 2 1 + 0 + w 2 3 + w 2 4) + (0 + 0 + 0 + 0 + 0 + 0) + (0 + 0 + 0 + 0 + 0 + 0) := cut_pos (T := fun s => Nat.beq s 0 || Nat.beq s 2) hw (hs.2.2 0 4 (by omega) (by omega)) rfl rfl
  have c03 : 0 < 0 + (0 + 0 + w 0 1 + w 0 2 + 0 + w 0 4) + (0 + 0 + 0 + 0 + 0 + 0) + (0 + 0 + 0 + 0 + 0 + 0) + (0 + 0 + w 3 1 + w 3 2 + 0 + w 3 4) + (0 + 0 + 0 + 0 + 0 + 0) := cut_pos (T := fun s => Nat.beq s 0 || Nat.beq s 3) hw (hs.2.2 0 4 (by omega) (by omega)) rfl rfl
  have c12 : 0 < 0 + (0 + 0 + 0 + 0 + 0 + 0) + (0 + w 1 0 + 0 + 0 + w 1 3 + w 1 4) + (0 + w 2 0 + 0 + 0 + w 2 3 + w 2 4) + (0 + 0 + 0 + 0 + 0 + 0) + (0 + 0 + 0 + 0 + 0 + 0) := cut_pos (T := fun s => Nat.beq s 1 || Nat.beq s 2) hw (hs.2.2 1 4 (by omega) (by omega)) rfl rfl
  have c13 : 0 < 0 + (0 + 0 + 0 + 0 + 0 + 0) + (0 + w 1 0 + 0 + w 1 2 + 0 + w 1 4) + (0 + 0 + 0 + 0 + 0 + 0) + (0 + w 3 0 + 0 + w 3 2 + 0 + w 3 4) + (0 + 0 + 0 + 0 + 0 + 0) := cut_pos (T := fun s => Nat.beq s 1 || Nat.beq s 3) hw (hs.2.2 1 4 (by omega) (by omega)) rfl rfl
  have c23 : 0 < 0 + (0 + 0 + 0 + 0 + 0 + 0) + (0 + 0 + 0 + 0 + 0 + 0) + (0 + w 2 0 + w 2 1 + 0 + 0 + w 2 4) + (0 + w 3 0 + w 3 1 + 0 + 0 + w 3 4) + (0 + 0 + 0 + 0 + 0 + 0) := cut_pos (T := fun s => Nat.beq s 2 || Nat.beq s 3) hw (hs.2.2 2 4 (by omega) (by omega)) rfl rfl
  have c012 : 0 < 0 + (0 + 0 + 0 + 0 + w 0 3 + w 0 4) + (0 + 0 + 0 + 0 + w 1 3 + w 1 4) + (0 + 0 + 0 + 0 + w 2 3 + w 2 4) + (0 + 0 + 0 + 0 + 0 + 0) + (0 + 0 + 0 + 0 + 0 + 0) := cut_pos (T := fun s => Nat.beq s 0 || Nat.beq s 1 || Nat.beq s 2) hw (hs.2.2 0 4 (by omega) (by omega)) rfl rfl
  have c013 : 0 < 0 + (0 + 0 + 0 + w 0 2 + 0 + w 0 4) + (0 + 0 + 0 + w 1 2 + 0 + w 1 4) + (0 + 0 + 0 + 0 + 0 + 0) + (0 + 0 + 0 + w 3 2 + 0 + w 3 4) + (0 + 0 + 0 + 0 + 0 + 0) := cut_pos (T := fun s => Nat.beq s 0 || Nat.beq s 1 || Nat.beq s 3) hw (hs.2.2 0 4 (by omega) (by omega)) rfl rfl
  have c023 : 0 < 0 + (0 + 0 + w 0 1 + 0 + 0 + w 0 4) + (0 + 0 + 0 + 0 + 0 + 0) + (0 + 0 + w 2 1 + 0 + 0 + w 2 4) + (0 + 0 + w 3 1 + 0 + 0 + w 3 4) + (0 + 0 + 0 + 0 + 0 + 0) := cut_pos (T := fun s => Nat.beq s 0 || Nat.beq s 2 || Nat.beq s 3) hw (hs.2.2 0 4 (by omega) (by omega)) rfl rfl
  have c123 : 0 < 0 + (0 + 0 + 0 + 0 + 0 + 0) + (0 + w 1 0 + 0 + 0 + 0 + w 1 4) + (0 + w 2 0 + 0 + 0 + 0 + w 2 4) + (0 + w 3 0 + 0 + 0 + 0 + w 3 4) + (0 + 0 + 0 + 0 + 0 + 0) := cut_pos (T := fun s => Nat.beq s 1 || Nat.beq s 2 || Nat.beq s 3) hw (hs.2.2 1 4 (by omega) (by omega)) rfl rfl
  have c0123 : 0 < 0 + (0 + 0 + 0 + 0 + 0 + w 0 4) + (0 + 0 + 0 + 0 + 0 + w 1 4) + (0 + 0 + 0 + 0 + 0 + w 2 4) + (0 + 0 + 0 + 0 + 0 + w 3 4) + (0 + 0 + 0 + 0 + 0 + 0) := cut_pos (T := fun s => Nat.beq s 0 || Nat.beq s 1 || Nat.beq s 2 || Nat.beq s 3) hw (hs.2.2 0 4 (by omega) (by omega)) rfl rfl
  have e1 : x_dt (x_A w 4) 1 = x_P1 (w 0 1 + w 0 2 + w 0 3 + w 0 4) := by
    simp only [x_dt, A00]
    rw [show (12 : Int) - w 0 0 = w 0 1 + w 0 2 + w 0 3 + w 0 4 by omega]
    unfold x_P1
    grind
  have m1 : 0 < x_dt (x_A w 4) 1 := by rw [e1]; apply pp1 <;> omega
  have e2 : x_dt (x_A w 4) 2 = x_P2 (w 0 2 + w 0 3 + w 0 4) (w 1 2 + w 1 3 + w 1 4) (w 0 1) (w 1 0) := by
    simp only [x_dt, A00, A01, A10, A11]
    rw [show (12 : Int) - w 0 0 = w 0 1 + w 0 2 + w 0 3 + w 0 4 by omega]
    rw [show (12 : Int) - w 1 1 = w 1 0 + w 1 2 + w 1 3 + w 1 4 by omega]
    unfold x_P2
    grind
  have m2 : 0 < x_dt (x_A w 4) 2 := by rw [e2]; apply pp2 <;> omega
  have e3 : x_dt (x_A w 4) 3 = x_P3 (w 0 3 + w 0 4) (w 1 3 + w 1 4) (w 2 3 + w 2 4) (w 0 1) (w 0 2) (w 1 0) (w 1 2) (w 2 0) (w 2 1) := by
    simp only [x_dt, A00, A01, A02, A10, A11, A12, A20, A21, A22]
    rw [show (12 : Int) - w 0 0 = w 0 1 + w 0 2 + w 0 3 + w 0 4 by omega]
    rw [show (12 : Int) - w 1 1 = w 1 0 + w 1 2 + w 1 3 + w 1 4 by omega]
    rw [show (12 : Int) - w 2 2 = w 2 0 + w 2 1 + w 2 3 + w 2 4 by omega]
    unfold x_P3
    grind
  have m3 : 0 < x_dt (x_A w 4) 3 := by rw [e3]; apply pp3 <;> omega
  have e4 : x_dt (x_A w 4) 4 = x_P4 (w 0 4) (w 1 4) (w 2 4) (w 3 4) (w 0 1) (w 0 2) (w 0 3) (w 1 0) (w 1 2) (w 1 3) (w 2 0) (w 2 1) (w 2 3) (w 3 0) (w 3 1) (w 3 2) := by
    simp only [x_dt, A00, A01, A02, A03, A10, A11, A12, A13, A20, A21, A22, A23, A30, A31, A32, A33]
    rw [show (12 : Int) - w 0 0 = w 0 1 + w 0 2 + w 0 3 + w 0 4 by omega]
    rw [show (12 : Int) - w 1 1 = w 1 0 + w 1 2 + w 1 3 + w 1 4 by omega]
    rw [show (12 : Int) - w 2 2 = w 2 0 + w 2 1 + w 2 3 + w 2 4 by omega]
    rw [show (12 : Int) - w 3 3 = w 3 0 + w 3 1 + w 3 2 + w 3 4 by omega]
    unfold x_P4
    grind
  have m4 : 0 < x_dt (x_A w 4) 4 := by rw [e4]; apply pp4 <;> omega
  refine ⟨fun k hk => ?_, ?_, ?_⟩
  · have hk2 : k = 0 ∨ k = 1 ∨ k = 2 ∨ k = 3 ∨ k = 4 := by omega
    rcases hk2 with e | e | e | e | e
    · subst e
      show (0 : Int) < 1
      omega
    · subst e; exact m1
    · subst e; exact m2
    · subst e; exact m3
    · subst e; exact m4
  · show x_dt (x_A w 4) 4 = y_ws w 5 4 625
    rw [ws_sl, cl_5_4]
    show _ = 0 + 1 * w 0 4 * w 1 0 * w 2 0 * w 3 0 * 1 + 1 * w 0 4 * w 1 2 * w 2 0 * w 3 0 * 1 + 1 * w 0 4 * w 1 3 * w 2 0 * w 3 0 * 1 + 1 * w 0 1 * w 1 4 * w 2 0 * w 3 0 * 1 + 1 * w 0 4 * w 1 4 * w 2 0 * w 3 0 * 1 + 1 * w 0 4 * w 1 0 * w 2 1 * w 3 0 * 1 + 1 * w 0 4 * w 1 3 * w 2 1 * w 3 0 * 1 + 1 * w 0 1 * w 1 4 * w 2 1 * w 3 0 * 1 + 1 * w 0 2 * w 1 4 * w 2 1 * w 3 0 * 1 + 1 * w 0 4 * w 1 4 * w 2 1 * w 3 0 * 1 + 1 * w 0 4 * w 1 0 * w 2 3 * w 3 0 * 1 + 1 * w 0 4 * w 1 2 * w 2 3 * w 3 0 * 1 + 1 * w 0 4 * w 1 3 * w 2 3 * w 3 0 * 1 + 1 * w 0 1 * w 1 4 * w 2 3 * w 3 0 * 1 + 1 * w 0 4 * w 1 4 * w 2 3 * w 3 0 * 1 + 1 * w 0 2 * w 1 0 * w 2 4 * w 3 0 * 1 + 1 * w 0 4 * w 1 0 * w 2 4 * w 3 0 * 1 + 1 * w 0 1 * w 1 2 * w 2 4 * w 3 0 * 1 + 1 * w 0 2 * w 1 2 * w 2 4 * w 3 0 * 1 + 1 * w 0 4 * w 1 2 * w 2 4 * w 3 0 * 1 + 1 * w 0 2 * w 1 3 * w 2 4 * w 3 0 * 1 + 1 * w 0 4 * w 1 3 * w 2 4 * w 3 0 * 1 + 1 * w 0 1 * w 1 4 * w 2 4 * w 3 0 * 1 + 1 * w 0 2 * w 1 4 * w 2 4 * w 3 0 * 1 + 1 * w 0 4 * w 1 4 * w 2 4 * w 3 0 * 1 + 1 * w 0 4 * w 1 0 * w 2 0 * w 3 1 * 1 + 1 * w 0 4 * w 1 2 * w 2 0 * w 3 1 * 1 + 1 * w 0 1 * w 1 4 * w 2 0 * w 3 1 * 1 + 1 * w 0 3 * w 1 4 * w 2 0 * w 3 1 * 1 + 1 * w 0 4 * w 1 4 * w 2 0 * w 3 1 * 1 + 1 * w 0 4 * w 1 0 * w 2 1 * w 3 1 * 1 + 1 * w 0 1 * w 1 4 * w 2 1 * w 3 1 * 1 + 1 * w 0 2 * w 1 4 * w 2 1 * w 3 1 * 1 + 1 * w 0 3 * w 1 4 * w 2 1 * w 3 1 * 1 + 1 * w 0 4 * w 1 4 * w 2 1 * w 3 1 * 1 + 1 * w 0 4 * w 1 0 * w 2 3 * w 3 1 * 1 + 1 * w 0 1 * w 1 4 * w 2 3 * w 3 1 * 1 + 1 * w 0 2 * w 1 4 * w 2 3 * w 3 1 * 1 + 1 * w 0 3 * w 1 4 * w 2 3 * w 3 1 * 1 + 1 * w 0 4 * w 1 4 * w 2 3 * w 3 1 * 1 + 1 * w 0 2 * w 1 0 * w 2 4 * w 3 1 * 1 + 1 * w 0 4 * w 1 0 * w 2 4 * w 3 1 * 1 + 1 * w 0 1 * w 1 2 * w 2 4 * w 3 1 * 1 + 1 * w 0 2 * w 1 2 * w 2 4 * w 3 1 * 1 + 1 * w 0 3 * w 1 2 * w 2 4 * w 3 1 * 1 + 1 * w 0 4 * w 1 2 * w 2 4 * w 3 1 * 1 + 1 * w 0 1 * w 1 4 * w 2 4 * w 3 1 * 1 + 1 * w 0 2 * w 1 4 * w 2 4 * w 3 1 * 1 + 1 * w 0 3 * w 1 4 * w 2 4 * w 3 1 * 1 + 1 * w 0 4 * w 1 4 * w 2 4 * w 3 1 * 1 + 1 * w 0 4 * w 1 0 * w 2 0 * w 3 2 * 1 + 1 * w 0 4 * w 1 2 * w 2 0 * w 3 2 * 1 + 1 * w 0 4 * w 1 3 * w 2 0 * w 3 2 * 1 + 1 * w 0 1 * w 1 4 * w 2 0 * w 3 2 * 1 + 1 * w 0 4 * w 1 4 * w 2 0 * w 3 2 * 1 + 1 * w 0 4 * w 1 0 * w 2 1 * w 3 2 * 1 + 1 * w 0 1 * w 1 4 * w 2 1 * w 3 2 * 1 + 1 * w 0 2 * w 1 4 * w 2 1 * w 3 2 * 1 + 1 * w 0 3 * w 1 4 * w 2 1 * w 3 2 * 1 + 1 * w 0 4 * w 1 4 * w 2 1 * w 3 2 * 1 + 1 * w 0 2 * w 1 0 * w 2 4 * w 3 2 * 1 + 1 * w 0 3 * w 1 0 * w 2 4 * w 3 2 * 1 + 1 * w 0 4 * w 1 0 * w 2 4 * w 3 2 * 1 + 1 * w 0 1 * w 1 2 * w 2 4 * w 3 2 * 1 + 1 * w 0 2 * w 1 2 * w 2 4 * w 3 2 * 1 + 1 * w 0 3 * w 1 2 * w 2 4 * w 3 2 * 1 + 1 * w 0 4 * w 1 2 * w 2 4 * w 3 2 * 1 + 1 * w 0 1 * w 1 3 * w 2 4 * w 3 2 * 1 + 1 * w 0 2 * w 1 3 * w 2 4 * w 3 2 * 1 + 1 * w 0 3 * w 1 3 * w 2 4 * w 3 2 * 1 + 1 * w 0 4 * w 1 3 * w 2 4 * w 3 2 * 1 + 1 * w 0 1 * w 1 4 * w 2 4 * w 3 2 * 1 + 1 * w 0 2 * w 1 4 * w 2 4 * w 3 2 * 1 + 1 * w 0 3 * w 1 4 * w 2 4 * w 3 2 * 1 + 1 * w 0 4 * w 1 4 * w 2 4 * w 3 2 * 1 + 1 * w 0 3 * w 1 0 * w 2 0 * w 3 4 * 1 + 1 * w 0 4 * w 1 0 * w 2 0 * w 3 4 * 1 + 1 * w 0 3 * w 1 2 * w 2 0 * w 3 4 * 1 + 1 * w 0 4 * w 1 2 * w 2 0 * w 3 4 * 1 + 1 * w 0 1 * w 1 3 * w 2 0 * w 3 4 * 1 + 1 * w 0 3 * w 1 3 * w 2 0 * w 3 4 * 1 + 1 * w 0 4 * w 1 3 * w 2 0 * w 3 4 * 1 + 1 * w 0 1 * w 1 4 * w 2 0 * w 3 4 * 1 + 1 * w 0 3 * w 1 4 * w 2 0 * w 3 4 * 1 + 1 * w 0 4 * w 1 4 * w 2 0 * w 3 4 * 1 + 1 * w 0 3 * w 1 0 * w 2 1 * w 3 4 * 1 + 1 * w 0 4 * w 1 0 * w 2 1 * w 3 4 * 1 + 1 * w 0 1 * w 1 3 * w 2 1 * w 3 4 * 1 + 1 * w 0 2 * w 1 3 * w 2 1 * w 3 4 * 1 + 1 * w 0 3 * w 1 3 * w 2 1 * w 3 4 * 1 + 1 * w 0 4 * w 1 3 * w 2 1 * w 3 4 * 1 + 1 * w 0 1 * w 1 4 * w 2 1 * w 3 4 * 1 + 1 * w 0 2 * w 1 4 * w 2 1 * w 3 4 * 1 + 1 * w 0 3 * w 1 4 * w 2 1 * w 3 4 * 1 + 1 * w 0 4 * w 1 4 * w 2 1 * w 3 4 * 1 + 1 * w 0 2 * w 1 0 * w 2 3 * w 3 4 * 1 + 1 * w 0 3 * w 1 0 * w 2 3 * w 3 4 * 1 + 1 * w 0 4 * w 1 0 * w 2 3 * w 3 4 * 1 + 1 * w 0 1 * w 1 2 * w 2 3 * w 3 4 * 1 + 1 * w 0 2 * w 1 2 * w 2 3 * w 3 4 * 1 + 1 * w 0 3 * w 1 2 * w 2 3 * w 3 4 * 1 + 1 * w 0 4 * w 1 2 * w 2 3 * w 3 4 * 1 + 1 * w 0 1 * w 1 3 * w 2 3 * w 3 4 * 1 + 1 * w 0 2 * w 1 3 * w 2 3 * w 3 4 * 1 + 1 * w 0 3 * w 1 3 * w 2 3 * w 3 4 * 1 + 1 * w 0 4 * w 1 3 * w 2 3 * w 3 4 * 1 + 1 * w 0 1 * w 1 4 * w 2 3 * w 3 4 * 1 + 1 * w 0 2 * w 1 4 * w 2 3 * w 3 4 * 1 + 1 * w 0 3 * w 1 4 * w 2 3 * w 3 4 * 1 + 1 * w 0 4 * w 1 4 * w 2 3 * w 3 4 * 1 + 1 * w 0 2 * w 1 0 * w 2 4 * w 3 4 * 1 + 1 * w 0 3 * w 1 0 * w 2 4 * w 3 4 * 1 + 1 * w 0 4 * w 1 0 * w 2 4 * w 3 4 * 1 + 1 * w 0 1 * w 1 2 * w 2 4 * w 3 4 * 1 + 1 * w 0 2 * w 1 2 * w 2 4 * w 3 4 * 1 + 1 * w 0 3 * w 1 2 * w 2 4 * w 3 4 * 1 + 1 * w 0 4 * w 1 2 * w 2 4 * w 3 4 * 1 + 1 * w 0 1 * w 1 3 * w 2 4 * w 3 4 * 1 + 1 * w 0 2 * w 1 3 * w 2 4 * w 3 4 * 1 + 1 * w 0 3 * w 1 3 * w 2 4 * w 3 4 * 1 + 1 * w 0 4 * w 1 3 * w 2 4 * w 3 4 * 1 + 1 * w 0 1 * w 1 4 * w 2 4 * w 3 4 * 1 + 1 * w 0 2 * w 1 4 * w 2 4 * w 3 4 * 1 + 1 * w 0 3 * w 1 4 * w 2 4 * w 3 4 * 1 + 1 * w 0 4 * w 1 4 * w 2 4 * w 3 4 * 1
    simp only [x_dt, A00, A01, A02, A03, A10, A11, A12, A13, A20, A21, A22, A23, A30, A31, A32, A33]
    rw [show (12 : Int) - w 0 0 = w 0 1 + w 0 2 + w 0 3 + w 0 4 by omega]
    rw [show (12 : Int) - w 1 1 = w 1 0 + w 1 2 + w 1 3 + w 1 4 by omega]
    rw [show (12 : Int) - w 2 2 = w 2 0 + w 2 1 + w 2 3 + w 2 4 by omega]
    rw [show (12 : Int) - w 3 3 = w 3 0 + w 3 1 + w 3 2 + w 3 4 by omega]
    clear c0 c1 c2 c3 c01 c02 c03 c12 c13 c23 c012 c013 c023 c123 c0123 m1 m2 m3 m4 e1 e2 e3 e4 r0 r1 r2 r3 r4 n00 n01 n02 n03 n04 n10 n11 n12 n13 n14 n20 n21 n22 n23 n24 n30 n31 n32 n33 n34 n40 n41 n42 n43 n44 A00 A01 A02 A03 A10 A11 A12 A13 A20 A21 A22 A23 A30 A31 A32 A33 hs hw
    grind
  · show x_dt (x_A w 4) 4 ≤ 20736
    rw [e4]
    have b : 0 ≤ x_P4 (w 0 4) (w 1 4) (w 2 4) (w 3 4) (w 0 1) (w 0 2) (w 0 3) (w 1 0) (w 1 2) (w 1 3) (w 2 0) (w 2 1) (w 2 3) (w 3 0) (w 3 1) (w 3 2) ∧ x_P4 (w 0 4) (w 1 4) (w 2 4) (w 3 4) (w 0 1) (w 0 2) (w 0 3) (w 1 0) (w 1 2) (w 1 3) (w 2 0) (w 2 1) (w 2 3) (w 3 0) (w 3 1) (w 3 2) ≤ 20736 := by apply pb4 <;> omega
    omega
theorem fin_all {n t : Nat} {w : Nat → Nat → Int} (hn : n ≤ 5) (ht : t < n) (hs : x_Snd n w) (hw : ∀ a b : Nat, a < n → b < n → 0 ≤ w a b) : x_fin n t w := by
  have h : n = 1 ∧ t = 0 ∨ n = 2 ∧ t = 0 ∨ n = 2 ∧ t = 1 ∨ n = 3 ∧ t = 0 ∨ n = 3 ∧ t = 1 ∨ n = 3 ∧ t = 2 ∨ n = 4 ∧ t = 0 ∨ n = 4 ∧ t = 1 ∨ n = 4 ∧ t = 2 ∨ n = 4 ∧ t = 3 ∨ n = 5 ∧ t = 0 ∨ n = 5 ∧ t = 1 ∨ n = 5 ∧ t = 2 ∨ n = 5 ∧ t = 3 ∨ n = 5 ∧ t = 4 := by omega
  rcases h with ⟨rfl, rfl⟩ | ⟨rfl, rfl⟩ | ⟨rfl, rfl⟩ | ⟨rfl, rfl⟩ | ⟨rfl, rfl⟩ | ⟨rfl, rfl⟩ | ⟨rfl, rfl⟩ | ⟨rfl, rfl⟩ | ⟨rfl, rfl⟩ | ⟨rfl, rfl⟩ | ⟨rfl, rfl⟩ | ⟨rfl, rfl⟩ | ⟨rfl, rfl⟩ | ⟨rfl, rfl⟩ | ⟨rfl, rfl⟩
  · exact fin_1_0 hs hw
  · exact fin_2_0 hs hw
  · exact fin_2_1 hs hw
  · exact fin_3_0 hs hw
  · exact fin_3_1 hs hw
  · exact fin_3_2 hs hw
  · exact fin_4_0 hs hw
  · exact fin_4_1 hs hw
  · exact fin_4_2 hs hw
  · exact fin_4_3 hs hw
  · exact fin_5_0 hs hw
  · exact fin_5_1 hs hw
  · exact fin_5_2 hs hw
  · exact fin_5_3 hs hw
  · exact fin_5_4 hs hw
