/-! the text that is typed, and its tokens -/
def x_kn (c : Int) : Int := if c < 0 then 0 else if 97 ≤ c ∧ c ≤ 122 then 1 else if 48 ≤ c ∧ c ≤ 57 then 2 else if c = 40 then 3 else if c = 41 then 4 else if c = 59 then 5 else 6
def x_co (t : Int → Int) (n p : Int) : Int := if 0 ≤ p ∧ p < n then t p else -1
/-- blanks alone -/
def x_gap (t : Int → Int) (a b : Int) : Prop := a ≤ b ∧ ∀ q : Int, a ≤ q → q < b → t q = 32
/-- the token that starts at s ends at e -/
def x_te (t : Int → Int) (n s e : Int) : Prop := s < e ∧ e ≤ n ∧ (x_kn (t s) = 1 ∨ x_kn (t s) = 2 → (∀ j : Int, s ≤ j → j < e → x_kn (t j) = x_kn (t s)) ∧ x_kn (x_co t n e) ≠ x_kn (t s)) ∧ (x_kn (t s) ≠ 1 → x_kn (t s) ≠ 2 → e = s + 1)
def x_nv (t : Int → Int) (s e : Int) : Int := if e - s = 1 then t s - 48 else if 2 < e - s ∨ t s = 48 then -1 else 10 * (t s - 48) + t (s + 1) - 48
/-- a word stands here -/
def x_say (t : Int → Int) (n s e : Int) (l : List Int) : Prop := e - s = l.length ∧ ∀ k : Nat, k < l.length → x_co t n (s + k) = l.getD k 0
def x_wv (t : Int → Int) (n s e w : Int) : Prop := (w = -1 ∧ ∀ i : Nat, i < 6 → ¬ x_say t n s e (xm_sby.getD i [])) ∨ (0 ≤ w ∧ w < 6 ∧ x_say t n s e (xm_sby.getD w.toNat []))
def x_val (t : Int → Int) (n s e v : Int) : Prop := (x_kn (t s) = 2 → v = x_nv t s e) ∧ (x_kn (t s) = 1 → x_wv t n s e v)
def x_txt (n : Int) (t : Int → Int) : Prop := 0 ≤ n ∧ n ≤ 200 ∧ ∀ i : Int, 0 ≤ i → i < n → 0 ≤ t i ∧ t i ≤ 255
theorem say_one {t : Int → Int} {n s e : Int} {i j : Nat} (hi : i < 6) (hj : j < 6) (h1 : x_say t n s e (xm_sby.getD i [])) (h2 : x_say t n s e (xm_sby.getD j [])) : i = j := by
  have hi' : i = 0 ∨ i = 1 ∨ i = 2 ∨ i = 3 ∨ i = 4 ∨ i = 5 := by omega
  have hj' : j = 0 ∨ j = 1 ∨ j = 2 ∨ j = 3 ∨ j = 4 ∨ j = 5 := by omega
  obtain ⟨a1, a2⟩ := h1
  obtain ⟨b1, b2⟩ := h2
  have a1' := a2 1
  have a0' := a2 0
  have b1' := b2 1
  have b0' := b2 0
  have la : ∀ k : Nat, k < 6 → (xm_sby.getD k []).length = [4, 4, 4, 6, 4, 5].getD k 0 := by decide
  rcases hi' with rfl | rfl | rfl | rfl | rfl | rfl <;> rcases hj' with rfl | rfl | rfl | rfl | rfl | rfl <;> first | rfl | (exfalso; simp only [xm_sby, List.getD_cons_zero, List.getD_cons_succ, List.length_cons, List.length_nil] at *; omega)
section TX
variable {d : Nat} {Q : xm_K} {M : xm_Mem}
theorem sp179 {x : Int} (hx : xm_in x) (hT : x_txt (M 2 1) (M 3)) (h : Q [.inl (x_co (M 3) (M 2 1) x)] M) : xm_call true (d + 1) 179 [.inr (.inr 2), .inl x] M Q := by
  obtain ⟨t1, t2, -⟩ := hT
  unfold x_co at h
  refine en179r2 (rg179r2_0 ⟨hx, fun g => ?_, fun g => ⟨⟨hx, by omega⟩, fun g2 => ?_, fun g2 => ⟨⟨hx, by omega⟩, fun _ => by omega, fun _ => ⟨by omega, ?_⟩⟩⟩⟩)
  · rw [if_neg (by omega)] at h; exact h
  · rw [if_neg (by omega)] at h; exact h
  · rw [if_pos (by omega)] at h; exact h
theorem co_in {t : Int → Int} {n p : Int} (hT : x_txt n t) : -1 ≤ x_co t n p ∧ x_co t n p ≤ 255 := by
  unfold x_co
  split
  · rename_i g
    have := hT.2.2 p g.1 g.2
    omega
  · omega
theorem sp184 {c : Int} (hc : xm_in c) (h : Q [.inl (x_kn c)] M) : xm_call true (d + 1) 184 [.inl c] M Q := by
  unfold x_kn at h
  refine en184 (rg184_0 ?_)
  (repeat' (first | (with_reducible exact True.intro) | (with_reducible refine And.intro ?_ ?_) | (with_reducible intro) | (with_reducible refine xq_ki ?_) | (with_reducible refine xq_kl ?_) | (with_reducible refine xq_kv ?_) | (with_reducible refine xq_kq ?_)))
  all_goals (try omega)
  all_goals
    repeat rw [if_neg (by omega)] at h
    repeat rw [if_pos (by omega)] at h
    exact h
theorem kn_in (c : Int) : 0 ≤ x_kn c ∧ x_kn c ≤ 6 := by
  unfold x_kn
  repeat' split
  all_goals omega
theorem kn_neg : x_kn (-1) = 0 := rfl
theorem co_lt {t : Int → Int} {n p : Int} (h : 0 ≤ p ∧ p < n) : x_co t n p = t p := by unfold x_co; rw [if_pos h]
theorem co_ge {t : Int → Int} {n p : Int} (h : n ≤ p) : x_co t n p = -1 := by unfold x_co; rw [if_neg (by omega)]
theorem lo183 {s k : Int} (hT : x_txt (M 2 1) (M 3)) (hs : 0 ≤ s ∧ s < M 2 1) (hk : k = x_kn (M 3 s) ∧ (k = 1 ∨ k = 2)) (h : ∀ e : Int, x_te (M 3) (M 2 1) s e → Q [.inl e] M) : ∀ (m : Nat) (e i : Int), e + m = M 2 1 → s < e → i + s + 1 = e → (∀ j : Int, s ≤ j → j < e → x_kn (M 3 j) = k) → wp183r2_28 (xm_call true (d + 1)) Q s k e i M := by
  intro m
  induction m with
  | zero =>
    intro e i e0 h1 h2 h3
    have hT' := hT
    obtain ⟨t1, t2, t3⟩ := hT'
    refine rg183r2_28 ⟨⟨by omega, by omega⟩, fun _ => by omega, fun _ => sp179 (by omega) hT (xq_ki (sp184 (by rw [co_ge (by omega)]; omega) (xq_ki ?_)))⟩
    rw [co_ge (by omega), kn_neg]
    refine ⟨⟨by omega, by omega⟩, fun _ => h e ⟨h1, by omega, fun _ => ⟨fun j a b => by rw [h3 j a b, hk.1], ?_⟩, fun a b => by omega⟩, fun g => by omega⟩
    rw [co_ge (by omega), kn_neg]
    omega
  | succ m ih =>
    intro e i e0 h1 h2 h3
    have hT' := hT
    obtain ⟨t1, t2, t3⟩ := hT'
    have t3 := t3 e (by omega) (by omega)
    have kb := kn_in (M 3 e)
    refine rg183r2_28 ⟨⟨by omega, by omega⟩, fun _ => by omega, fun _ => sp179 (by omega) hT (xq_ki (sp184 (by rw [co_lt (by omega)]; omega) (xq_ki ?_)))⟩
    rw [co_lt (by omega)]
    refine ⟨⟨by omega, by omega⟩, fun g => h e ⟨h1, by omega, fun _ => ⟨fun j a b => by rw [h3 j a b, hk.1], ?_⟩, fun a b => by omega⟩, fun g => ih (e + 1) (i + 1) (by omega) (by omega) (by omega) (fun j a b => ?_)⟩
    · rw [co_lt (by omega)]
      omega
    · by_cases q : j = e
      · rw [q]; exact g
      · exact h3 j a (by omega)
theorem sp183 {s : Int} (hT : x_txt (M 2 1) (M 3)) (hs : 0 ≤ s ∧ s < M 2 1) (h : ∀ e : Int, x_te (M 3) (M 2 1) s e → Q [.inl e] M) : xm_call true (d + 2) 183 [.inr (.inr 2), .inl s] M Q := by
  have hT' := hT
  obtain ⟨t1, t2, t3⟩ := hT'
  have t3 := t3 s hs.1 hs.2
  have kb := kn_in (M 3 s)
  have go : (x_kn (M 3 s) = 1 ∨ x_kn (M 3 s) = 2) → wp183r2_28 (xm_call true (d + 1)) Q s (x_kn (M 3 s)) (s + 1) 0 M := fun g => by
    refine lo183 hT hs ⟨rfl, g⟩ h (M 2 1 - (s + 1)).toNat (s + 1) 0 (by omega) (by omega) (by omega) (fun j a b => ?_)
    rw [show j = s by omega]
  refine en183r2 (rg183r2_0 (sp179 (by omega) hT (xq_ki (sp184 (by rw [co_lt (by omega)]; omega) (xq_ki ?_)))))
  rw [co_lt (by omega)]
  refine ⟨⟨by omega, by omega⟩, fun g => go (Or.inl g), fun g => ⟨⟨by omega, by omega⟩, fun g2 => go (Or.inr g2), fun g2 => h (s + 1) ⟨by omega, by omega, fun q => by omega, fun _ _ => rfl⟩⟩⟩
theorem sp186 {s e : Int} (hT : x_txt (M 2 1) (M 3)) (hs : 0 ≤ s ∧ s < e ∧ e ≤ M 2 1) (h : Q [.inl (x_nv (M 3) s e)] M) : xm_call true (d + 2) 186 [.inr (.inr 2), .inl s, .inl e] M Q := by
  have hT' := hT
  obtain ⟨t1, t2, t3⟩ := hT'
  have a := t3 s hs.1 (by omega)
  unfold x_nv at h
  refine en186r2 (rg186r2_0 (sp179 (by omega) hT (xq_ki ?_)))
  rw [co_lt (by omega)]
  refine ⟨⟨by omega, by omega⟩, fun g => ⟨⟨by omega, by omega⟩, fun g2 => ?_, fun g2 => ⟨by omega, fun g3 => sp179 (by omega) hT (xq_ki ?_), fun g3 => ?_⟩⟩, fun g => ?_⟩
  · rw [if_neg (by omega), if_pos (by omega)] at h; exact h
  · rw [if_neg (by omega), if_neg (by omega)] at h
    rw [co_lt (by omega)]
    exact h
  · rw [if_neg (by omega), if_pos (by omega)] at h; exact h
  · rw [if_pos (by omega)] at h; exact h
theorem sp901_1000 (h : Q [.inl 4] M) : xm_call true (d + 5) 901 [.inr (.inr 1000)] M Q := ⟨⟨by omega, by omega, by omega⟩, h⟩
theorem sp902_1000 {j : Int} (hj : 0 ≤ j ∧ j < 4) (h : Q [.inl ((xm_sby.getD 0 []).getD j.toNat 0)] M) : xm_call true (d + 5) 902 [.inr (.inr 1000), .inl j] M Q := ⟨⟨by omega, by omega, by omega, hj.1, hj.2⟩, h⟩
theorem lo180_1000 {s e : Int} (hT : x_txt (M 2 1) (M 3)) (hs : 0 ≤ s ∧ s < e ∧ e ≤ M 2 1) (he : e - s = 4) (h1 : x_say (M 3) (M 2 1) s e (xm_sby.getD 0 []) → Q [.inl 1] M) (h0 : ¬ x_say (M 3) (M 2 1) s e (xm_sby.getD 0 []) → Q [.inl 0] M) : ∀ (m k : Nat), k + m = 4 → (∀ j : Nat, j < k → x_co (M 3) (M 2 1) (s + j) = (xm_sby.getD 0 []).getD j 0) → wp180r2r1000_15 (xm_call true (d + 5)) Q s e k M
  | 0, k, e0, hk => by
    refine rg180r2r1000_15 (sp901_1000 (xq_ki ⟨⟨by omega, by omega⟩, fun _ => ⟨Or.inr rfl, h1 ⟨he, fun j hj => hk j ?_⟩⟩, fun _ => by omega⟩))
    have : (xm_sby.getD 0 []).length = 4 := rfl
    omega
  | m + 1, k, e0, hk => by
    have ih := lo180_1000 hT hs he h1 h0 m (k + 1) (by omega)
    have hT' := hT
    obtain ⟨t1, t2, -⟩ := hT'
    have b := co_in (p := s + k) hT
    have ch : ∀ k : Nat, k < 4 → 97 ≤ (xm_sby.getD 0 []).getD k 0 ∧ (xm_sby.getD 0 []).getD k 0 ≤ 122 := by decide
    have ck := ch k (by omega)
    refine rg180r2r1000_15 (sp901_1000 (xq_ki ⟨⟨by omega, by omega⟩, fun _ => by omega, fun _ => sp179 (by omega) hT (xq_ki (sp902_1000 (by omega) (xq_ki ?_)))⟩))
    rw [Int.toNat_natCast]
    refine ⟨⟨by omega, by omega⟩, fun g => ih (fun j hj => ?_), fun g => ⟨Or.inl rfl, h0 (fun q => g (q.2 k ?_))⟩⟩
    · by_cases q : j = k
      · rw [q]; exact g
      · exact hk j (by omega)
    · have : (xm_sby.getD 0 []).length = 4 := rfl
      omega
theorem sp180_1000 {s e : Int} (hT : x_txt (M 2 1) (M 3)) (hs : 0 ≤ s ∧ s < e ∧ e ≤ M 2 1) (h1 : x_say (M 3) (M 2 1) s e (xm_sby.getD 0 []) → Q [.inl 1] M) (h0 : ¬ x_say (M 3) (M 2 1) s e (xm_sby.getD 0 []) → Q [.inl 0] M) : xm_call true (d + 6) 180 [.inr (.inr 2), .inr (.inr 1000), .inl s, .inl e] M Q := by
  have hT' := hT
  obtain ⟨t1, t2, -⟩ := hT'
  refine en180r2r1000 (rg180r2r1000_0 (sp901_1000 (xq_ki ⟨⟨by omega, by omega⟩, fun g => ?_, fun g => ⟨Or.inl rfl, h0 (fun q => g ?_)⟩⟩)))
  · exact lo180_1000 hT hs g h1 h0 4 0 (by omega) (fun j hj => by omega)
  · exact q.1
theorem sp901_1001 (h : Q [.inl 4] M) : xm_call true (d + 5) 901 [.inr (.inr 1001)] M Q := ⟨⟨by omega, by omega, by omega⟩, h⟩
theorem sp902_1001 {j : Int} (hj : 0 ≤ j ∧ j < 4) (h : Q [.inl ((xm_sby.getD 1 []).getD j.toNat 0)] M) : xm_call true (d + 5) 902 [.inr (.inr 1001), .inl j] M Q := ⟨⟨by omega, by omega, by omega, hj.1, hj.2⟩, h⟩
theorem lo180_1001 {s e : Int} (hT : x_txt (M 2 1) (M 3)) (hs : 0 ≤ s ∧ s < e ∧ e ≤ M 2 1) (he : e - s = 4) (h1 : x_say (M 3) (M 2 1) s e (xm_sby.getD 1 []) → Q [.inl 1] M) (h0 : ¬ x_say (M 3) (M 2 1) s e (xm_sby.getD 1 []) → Q [.inl 0] M) : ∀ (m k : Nat), k + m = 4 → (∀ j : Nat, j < k → x_co (M 3) (M 2 1) (s + j) = (xm_sby.getD 1 []).getD j 0) → wp180r2r1001_15 (xm_call true (d + 5)) Q s e k M
  | 0, k, e0, hk => by
    refine rg180r2r1001_15 (sp901_1001 (xq_ki ⟨⟨by omega, by omega⟩, fun _ => ⟨Or.inr rfl, h1 ⟨he, fun j hj => hk j ?_⟩⟩, fun _ => by omega⟩))
    have : (xm_sby.getD 1 []).length = 4 := rfl
    omega
  | m + 1, k, e0, hk => by
    have ih := lo180_1001 hT hs he h1 h0 m (k + 1) (by omega)
    have hT' := hT
    obtain ⟨t1, t2, -⟩ := hT'
    have b := co_in (p := s + k) hT
    have ch : ∀ k : Nat, k < 4 → 97 ≤ (xm_sby.getD 1 []).getD k 0 ∧ (xm_sby.getD 1 []).getD k 0 ≤ 122 := by decide
    have ck := ch k (by omega)
    refine rg180r2r1001_15 (sp901_1001 (xq_ki ⟨⟨by omega, by omega⟩, fun _ => by omega, fun _ => sp179 (by omega) hT (xq_ki (sp902_1001 (by omega) (xq_ki ?_)))⟩))
    rw [Int.toNat_natCast]
    refine ⟨⟨by omega, by omega⟩, fun g => ih (fun j hj => ?_), fun g => ⟨Or.inl rfl, h0 (fun q => g (q.2 k ?_))⟩⟩
    · by_cases q : j = k
      · rw [q]; exact g
      · exact hk j (by omega)
    · have : (xm_sby.getD 1 []).length = 4 := rfl
      omega
theorem sp180_1001 {s e : Int} (hT : x_txt (M 2 1) (M 3)) (hs : 0 ≤ s ∧ s < e ∧ e ≤ M 2 1) (h1 : x_say (M 3) (M 2 1) s e (xm_sby.getD 1 []) → Q [.inl 1] M) (h0 : ¬ x_say (M 3) (M 2 1) s e (xm_sby.getD 1 []) → Q [.inl 0] M) : xm_call true (d + 6) 180 [.inr (.inr 2), .inr (.inr 1001), .inl s, .inl e] M Q := by
  have hT' := hT
  obtain ⟨t1, t2, -⟩ := hT'
  refine en180r2r1001 (rg180r2r1001_0 (sp901_1001 (xq_ki ⟨⟨by omega, by omega⟩, fun g => ?_, fun g => ⟨Or.inl rfl, h0 (fun q => g ?_)⟩⟩)))
  · exact lo180_1001 hT hs g h1 h0 4 0 (by omega) (fun j hj => by omega)
  · exact q.1
theorem sp901_1002 (h : Q [.inl 4] M) : xm_call true (d + 5) 901 [.inr (.inr 1002)] M Q := ⟨⟨by omega, by omega, by omega⟩, h⟩
theorem sp902_1002 {j : Int} (hj : 0 ≤ j ∧ j < 4) (h : Q [.inl ((xm_sby.getD 2 []).getD j.toNat 0)] M) : xm_call true (d + 5) 902 [.inr (.inr 1002), .inl j] M Q := ⟨⟨by omega, by omega, by omega, hj.1, hj.2⟩, h⟩
theorem lo180_1002 {s e : Int} (hT : x_txt (M 2 1) (M 3)) (hs : 0 ≤ s ∧ s < e ∧ e ≤ M 2 1) (he : e - s = 4) (h1 : x_say (M 3) (M 2 1) s e (xm_sby.getD 2 []) → Q [.inl 1] M) (h0 : ¬ x_say (M 3) (M 2 1) s e (xm_sby.getD 2 []) → Q [.inl 0] M) : ∀ (m k : Nat), k + m = 4 → (∀ j : Nat, j < k → x_co (M 3) (M 2 1) (s + j) = (xm_sby.getD 2 []).getD j 0) → wp180r2r1002_15 (xm_call true (d + 5)) Q s e k M
  | 0, k, e0, hk => by
    refine rg180r2r1002_15 (sp901_1002 (xq_ki ⟨⟨by omega, by omega⟩, fun _ => ⟨Or.inr rfl, h1 ⟨he, fun j hj => hk j ?_⟩⟩, fun _ => by omega⟩))
    have : (xm_sby.getD 2 []).length = 4 := rfl
    omega
  | m + 1, k, e0, hk => by
    have ih := lo180_1002 hT hs he h1 h0 m (k + 1) (by omega)
    have hT' := hT
    obtain ⟨t1, t2, -⟩ := hT'
    have b := co_in (p := s + k) hT
    have ch : ∀ k : Nat, k < 4 → 97 ≤ (xm_sby.getD 2 []).getD k 0 ∧ (xm_sby.getD 2 []).getD k 0 ≤ 122 := by decide
    have ck := ch k (by omega)
    refine rg180r2r1002_15 (sp901_1002 (xq_ki ⟨⟨by omega, by omega⟩, fun _ => by omega, fun _ => sp179 (by omega) hT (xq_ki (sp902_1002 (by omega) (xq_ki ?_)))⟩))
    rw [Int.toNat_natCast]
    refine ⟨⟨by omega, by omega⟩, fun g => ih (fun j hj => ?_), fun g => ⟨Or.inl rfl, h0 (fun q => g (q.2 k ?_))⟩⟩
    · by_cases q : j = k
      · rw [q]; exact g
      · exact hk j (by omega)
    · have : (xm_sby.getD 2 []).length = 4 := rfl
      omega
theorem sp180_1002 {s e : Int} (hT : x_txt (M 2 1) (M 3)) (hs : 0 ≤ s ∧ s < e ∧ e ≤ M 2 1) (h1 : x_say (M 3) (M 2 1) s e (xm_sby.getD 2 []) → Q [.inl 1] M) (h0 : ¬ x_say (M 3) (M 2 1) s e (xm_sby.getD 2 []) → Q [.inl 0] M) : xm_call true (d + 6) 180 [.inr (.inr 2), .inr (.inr 1002), .inl s, .inl e] M Q := by
  have hT' := hT
  obtain ⟨t1, t2, -⟩ := hT'
  refine en180r2r1002 (rg180r2r1002_0 (sp901_1002 (xq_ki ⟨⟨by omega, by omega⟩, fun g => ?_, fun g => ⟨Or.inl rfl, h0 (fun q => g ?_)⟩⟩)))
  · exact lo180_1002 hT hs g h1 h0 4 0 (by omega) (fun j hj => by omega)
  · exact q.1
theorem sp901_1003 (h : Q [.inl 6] M) : xm_call true (d + 5) 901 [.inr (.inr 1003)] M Q := ⟨⟨by omega, by omega, by omega⟩, h⟩
theorem sp902_1003 {j : Int} (hj : 0 ≤ j ∧ j < 6) (h : Q [.inl ((xm_sby.getD 3 []).getD j.toNat 0)] M) : xm_call true (d + 5) 902 [.inr (.inr 1003), .inl j] M Q := ⟨⟨by omega, by omega, by omega, hj.1, hj.2⟩, h⟩
theorem lo180_1003 {s e : Int} (hT : x_txt (M 2 1) (M 3)) (hs : 0 ≤ s ∧ s < e ∧ e ≤ M 2 1) (he : e - s = 6) (h1 : x_say (M 3) (M 2 1) s e (xm_sby.getD 3 []) → Q [.inl 1] M) (h0 : ¬ x_say (M 3) (M 2 1) s e (xm_sby.getD 3 []) → Q [.inl 0] M) : ∀ (m k : Nat), k + m = 6 → (∀ j : Nat, j < k → x_co (M 3) (M 2 1) (s + j) = (xm_sby.getD 3 []).getD j 0) → wp180r2r1003_15 (xm_call true (d + 5)) Q s e k M
  | 0, k, e0, hk => by
    refine rg180r2r1003_15 (sp901_1003 (xq_ki ⟨⟨by omega, by omega⟩, fun _ => ⟨Or.inr rfl, h1 ⟨he, fun j hj => hk j ?_⟩⟩, fun _ => by omega⟩))
    have : (xm_sby.getD 3 []).length = 6 := rfl
    omega
  | m + 1, k, e0, hk => by
    have ih := lo180_1003 hT hs he h1 h0 m (k + 1) (by omega)
    have hT' := hT
    obtain ⟨t1, t2, -⟩ := hT'
    have b := co_in (p := s + k) hT
    have ch : ∀ k : Nat, k < 6 → 97 ≤ (xm_sby.getD 3 []).getD k 0 ∧ (xm_sby.getD 3 []).getD k 0 ≤ 122 := by decide
    have ck := ch k (by omega)
    refine rg180r2r1003_15 (sp901_1003 (xq_ki ⟨⟨by omega, by omega⟩, fun _ => by omega, fun _ => sp179 (by omega) hT (xq_ki (sp902_1003 (by omega) (xq_ki ?_)))⟩))
    rw [Int.toNat_natCast]
    refine ⟨⟨by omega, by omega⟩, fun g => ih (fun j hj => ?_), fun g => ⟨Or.inl rfl, h0 (fun q => g (q.2 k ?_))⟩⟩
    · by_cases q : j = k
      · rw [q]; exact g
      · exact hk j (by omega)
    · have : (xm_sby.getD 3 []).length = 6 := rfl
      omega
theorem sp180_1003 {s e : Int} (hT : x_txt (M 2 1) (M 3)) (hs : 0 ≤ s ∧ s < e ∧ e ≤ M 2 1) (h1 : x_say (M 3) (M 2 1) s e (xm_sby.getD 3 []) → Q [.inl 1] M) (h0 : ¬ x_say (M 3) (M 2 1) s e (xm_sby.getD 3 []) → Q [.inl 0] M) : xm_call true (d + 6) 180 [.inr (.inr 2), .inr (.inr 1003), .inl s, .inl e] M Q := by
  have hT' := hT
  obtain ⟨t1, t2, -⟩ := hT'
  refine en180r2r1003 (rg180r2r1003_0 (sp901_1003 (xq_ki ⟨⟨by omega, by omega⟩, fun g => ?_, fun g => ⟨Or.inl rfl, h0 (fun q => g ?_)⟩⟩)))
  · exact lo180_1003 hT hs g h1 h0 6 0 (by omega) (fun j hj => by omega)
  · exact q.1
theorem sp901_1004 (h : Q [.inl 4] M) : xm_call true (d + 5) 901 [.inr (.inr 1004)] M Q := ⟨⟨by omega, by omega, by omega⟩, h⟩
theorem sp902_1004 {j : Int} (hj : 0 ≤ j ∧ j < 4) (h : Q [.inl ((xm_sby.getD 4 []).getD j.toNat 0)] M) : xm_call true (d + 5) 902 [.inr (.inr 1004), .inl j] M Q := ⟨⟨by omega, by omega, by omega, hj.1, hj.2⟩, h⟩
theorem lo180_1004 {s e : Int} (hT : x_txt (M 2 1) (M 3)) (hs : 0 ≤ s ∧ s < e ∧ e ≤ M 2 1) (he : e - s = 4) (h1 : x_say (M 3) (M 2 1) s e (xm_sby.getD 4 []) → Q [.inl 1] M) (h0 : ¬ x_say (M 3) (M 2 1) s e (xm_sby.getD 4 []) → Q [.inl 0] M) : ∀ (m k : Nat), k + m = 4 → (∀ j : Nat, j < k → x_co (M 3) (M 2 1) (s + j) = (xm_sby.getD 4 []).getD j 0) → wp180r2r1004_15 (xm_call true (d + 5)) Q s e k M
  | 0, k, e0, hk => by
    refine rg180r2r1004_15 (sp901_1004 (xq_ki ⟨⟨by omega, by omega⟩, fun _ => ⟨Or.inr rfl, h1 ⟨he, fun j hj => hk j ?_⟩⟩, fun _ => by omega⟩))
    have : (xm_sby.getD 4 []).length = 4 := rfl
    omega
  | m + 1, k, e0, hk => by
    have ih := lo180_1004 hT hs he h1 h0 m (k + 1) (by omega)
    have hT' := hT
    obtain ⟨t1, t2, -⟩ := hT'
    have b := co_in (p := s + k) hT
    have ch : ∀ k : Nat, k < 4 → 97 ≤ (xm_sby.getD 4 []).getD k 0 ∧ (xm_sby.getD 4 []).getD k 0 ≤ 122 := by decide
    have ck := ch k (by omega)
    refine rg180r2r1004_15 (sp901_1004 (xq_ki ⟨⟨by omega, by omega⟩, fun _ => by omega, fun _ => sp179 (by omega) hT (xq_ki (sp902_1004 (by omega) (xq_ki ?_)))⟩))
    rw [Int.toNat_natCast]
    refine ⟨⟨by omega, by omega⟩, fun g => ih (fun j hj => ?_), fun g => ⟨Or.inl rfl, h0 (fun q => g (q.2 k ?_))⟩⟩
    · by_cases q : j = k
      · rw [q]; exact g
      · exact hk j (by omega)
    · have : (xm_sby.getD 4 []).length = 4 := rfl
      omega
theorem sp180_1004 {s e : Int} (hT : x_txt (M 2 1) (M 3)) (hs : 0 ≤ s ∧ s < e ∧ e ≤ M 2 1) (h1 : x_say (M 3) (M 2 1) s e (xm_sby.getD 4 []) → Q [.inl 1] M) (h0 : ¬ x_say (M 3) (M 2 1) s e (xm_sby.getD 4 []) → Q [.inl 0] M) : xm_call true (d + 6) 180 [.inr (.inr 2), .inr (.inr 1004), .inl s, .inl e] M Q := by
  have hT' := hT
  obtain ⟨t1, t2, -⟩ := hT'
  refine en180r2r1004 (rg180r2r1004_0 (sp901_1004 (xq_ki ⟨⟨by omega, by omega⟩, fun g => ?_, fun g => ⟨Or.inl rfl, h0 (fun q => g ?_)⟩⟩)))
  · exact lo180_1004 hT hs g h1 h0 4 0 (by omega) (fun j hj => by omega)
  · exact q.1
theorem sp901_1005 (h : Q [.inl 5] M) : xm_call true (d + 5) 901 [.inr (.inr 1005)] M Q := ⟨⟨by omega, by omega, by omega⟩, h⟩
theorem sp902_1005 {j : Int} (hj : 0 ≤ j ∧ j < 5) (h : Q [.inl ((xm_sby.getD 5 []).getD j.toNat 0)] M) : xm_call true (d + 5) 902 [.inr (.inr 1005), .inl j] M Q := ⟨⟨by omega, by omega, by omega, hj.1, hj.2⟩, h⟩
theorem lo180_1005 {s e : Int} (hT : x_txt (M 2 1) (M 3)) (hs : 0 ≤ s ∧ s < e ∧ e ≤ M 2 1) (he : e - s = 5) (h1 : x_say (M 3) (M 2 1) s e (xm_sby.getD 5 []) → Q [.inl 1] M) (h0 : ¬ x_say (M 3) (M 2 1) s e (xm_sby.getD 5 []) → Q [.inl 0] M) : ∀ (m k : Nat), k + m = 5 → (∀ j : Nat, j < k → x_co (M 3) (M 2 1) (s + j) = (xm_sby.getD 5 []).getD j 0) → wp180r2r1005_15 (xm_call true (d + 5)) Q s e k M
  | 0, k, e0, hk => by
    refine rg180r2r1005_15 (sp901_1005 (xq_ki ⟨⟨by omega, by omega⟩, fun _ => ⟨Or.inr rfl, h1 ⟨he, fun j hj => hk j ?_⟩⟩, fun _ => by omega⟩))
    have : (xm_sby.getD 5 []).length = 5 := rfl
    omega
  | m + 1, k, e0, hk => by
    have ih := lo180_1005 hT hs he h1 h0 m (k + 1) (by omega)
    have hT' := hT
    obtain ⟨t1, t2, -⟩ := hT'
    have b := co_in (p := s + k) hT
    have ch : ∀ k : Nat, k < 5 → 97 ≤ (xm_sby.getD 5 []).getD k 0 ∧ (xm_sby.getD 5 []).getD k 0 ≤ 122 := by decide
    have ck := ch k (by omega)
    refine rg180r2r1005_15 (sp901_1005 (xq_ki ⟨⟨by omega, by omega⟩, fun _ => by omega, fun _ => sp179 (by omega) hT (xq_ki (sp902_1005 (by omega) (xq_ki ?_)))⟩))
    rw [Int.toNat_natCast]
    refine ⟨⟨by omega, by omega⟩, fun g => ih (fun j hj => ?_), fun g => ⟨Or.inl rfl, h0 (fun q => g (q.2 k ?_))⟩⟩
    · by_cases q : j = k
      · rw [q]; exact g
      · exact hk j (by omega)
    · have : (xm_sby.getD 5 []).length = 5 := rfl
      omega
theorem sp180_1005 {s e : Int} (hT : x_txt (M 2 1) (M 3)) (hs : 0 ≤ s ∧ s < e ∧ e ≤ M 2 1) (h1 : x_say (M 3) (M 2 1) s e (xm_sby.getD 5 []) → Q [.inl 1] M) (h0 : ¬ x_say (M 3) (M 2 1) s e (xm_sby.getD 5 []) → Q [.inl 0] M) : xm_call true (d + 6) 180 [.inr (.inr 2), .inr (.inr 1005), .inl s, .inl e] M Q := by
  have hT' := hT
  obtain ⟨t1, t2, -⟩ := hT'
  refine en180r2r1005 (rg180r2r1005_0 (sp901_1005 (xq_ki ⟨⟨by omega, by omega⟩, fun g => ?_, fun g => ⟨Or.inl rfl, h0 (fun q => g ?_)⟩⟩)))
  · exact lo180_1005 hT hs g h1 h0 5 0 (by omega) (fun j hj => by omega)
  · exact q.1
theorem sp187 {s e : Int} (hT : x_txt (M 2 1) (M 3)) (hs : 0 ≤ s ∧ s < e ∧ e ≤ M 2 1) (h : ∀ w : Int, x_wv (M 3) (M 2 1) s e w → Q [.inl w] M) : xm_call true (d + 7) 187 [.inr (.inr 2), .inl s, .inl e] M Q := by
  refine en187r2 (rg187r2_0 ?_)
  refine sp180_1000 hT hs (fun g => xq_ki ⟨by omega, fun q => by omega, fun _ => h 0 (Or.inr ⟨by omega, by omega, g⟩)⟩) (fun g0 => xq_ki (xq_b3 ?_))
  refine sp180_1001 hT hs (fun g => xq_ki ⟨by omega, fun q => by omega, fun _ => h 1 (Or.inr ⟨by omega, by omega, g⟩)⟩) (fun g1 => xq_ki (xq_b3 ?_))
  refine sp180_1002 hT hs (fun g => xq_ki ⟨by omega, fun q => by omega, fun _ => h 2 (Or.inr ⟨by omega, by omega, g⟩)⟩) (fun g2 => xq_ki (xq_b3 ?_))
  refine sp180_1003 hT hs (fun g => xq_ki ⟨by omega, fun q => by omega, fun _ => h 3 (Or.inr ⟨by omega, by omega, g⟩)⟩) (fun g3 => xq_ki (xq_b3 ?_))
  refine sp180_1004 hT hs (fun g => xq_ki ⟨by omega, fun q => by omega, fun _ => h 4 (Or.inr ⟨by omega, by omega, g⟩)⟩) (fun g4 => xq_ki (xq_b3 ?_))
  refine sp180_1005 hT hs (fun g => xq_ki ⟨by omega, fun q => by omega, fun _ => h 5 (Or.inr ⟨by omega, by omega, g⟩)⟩) (fun g5 => xq_ki (xq_b3 ?_))
  refine h (-1) (Or.inl ⟨rfl, fun i hi => ?_⟩)
  have hi' : i = 0 ∨ i = 1 ∨ i = 2 ∨ i = 3 ∨ i = 4 ∨ i = 5 := by omega
  rcases hi' with rfl | rfl | rfl | rfl | rfl | rfl
  · exact g0
  · exact g1
  · exact g2
  · exact g3
  · exact g4
  · exact g5
/-- a token is put at the end -/
def x_app (M N : xm_Mem) (k s v : Int) : Prop := (∀ c : Nat, c ≠ 4 → c ≠ 5 → c ≠ 6 → c ≠ 7 → N c = M c) ∧ (N 4 3 = M 4 3 + 1 ∧ ∀ j : Int, j ≠ 3 → N 4 j = M 4 j) ∧ (∀ j : Int, j ≠ M 4 3 → N 5 j = M 5 j ∧ N 6 j = M 6 j ∧ N 7 j = M 7 j) ∧ N 5 (M 4 3) = k ∧ N 6 (M 4 3) = s ∧ N 7 (M 4 3) = v
theorem app_of {k s v : Int} : x_app M (xm_up (xm_up (xm_up (xm_up M 5 (M 4 3) k) 6 (M 4 3) s) 7 (M 4 3) v) 4 3 (M 4 3 + 1)) k s v := by
  refine ⟨fun c a b e f => ?_, ⟨xu_s, fun j a => ?_⟩, fun j a => ⟨?_, ?_, ?_⟩, ?_, ?_, ?_⟩
  · rw [xu_c a, xu_c f, xu_c e, xu_c b]
  · rw [xu_k a, xu_c (by omega), xu_c (by omega), xu_c (by omega)]
  · rw [xu_c (by omega), xu_c (by omega), xu_c (by omega), xu_k a]
  · rw [xu_c (by omega), xu_c (by omega), xu_k a, xu_c (by omega)]
  · rw [xu_c (by omega), xu_k a, xu_c (by omega), xu_c (by omega)]
  · rw [xu_c (by omega), xu_c (by omega), xu_c (by omega), xu_s]
  · rw [xu_c (by omega), xu_c (by omega), xu_s]
  · rw [xu_c (by omega), xu_s]
theorem app_of2 {k s u v : Int} : x_app M (xm_up (xm_up (xm_up (xm_up (xm_up M 5 (M 4 3) k) 6 (M 4 3) s) 7 (M 4 3) u) 7 (M 4 3) v) 4 3 (M 4 3 + 1)) k s v := by
  have e : xm_up (xm_up (xm_up (xm_up M 5 (M 4 3) k) 6 (M 4 3) s) 7 (M 4 3) u) 7 (M 4 3) v = xm_up (xm_up (xm_up M 5 (M 4 3) k) 6 (M 4 3) s) 7 (M 4 3) v := by
    funext c j
    simp only [xm_up]
    repeat' split
    all_goals first | rfl | (exfalso; omega)
  rw [e]
  exact app_of
theorem sp185 {s e : Int} (hT : x_txt (M 2 1) (M 3)) (hm : 0 ≤ M 4 3 ∧ M 4 3 < 201) (hs : (0 ≤ s ∧ s < e ∧ e ≤ M 2 1) ∨ s = M 2 1) (h : ∀ (N : xm_Mem) (v : Int), x_app M N (x_kn (x_co (M 3) (M 2 1) s)) s v → (s < M 2 1 → x_val (M 3) (M 2 1) s e v) → Q [] N) : xm_call true (d + 8) 185 [.inr (.inr 4), .inr (.inr 2), .inl s, .inl e] M Q := by
  have hT' := hT
  obtain ⟨t1, t2, t3⟩ := hT'
  have b := co_in (p := s) hT
  have kb := kn_in (x_co (M 3) (M 2 1) s)
  have hc : s < M 2 1 → x_co (M 3) (M 2 1) s = M 3 s := fun g => co_lt (by omega)
  have hend : s = M 2 1 → x_kn (x_co (M 3) (M 2 1) s) = 0 := fun g => by rw [co_ge (by omega), kn_neg]
  refine en185r4r2 (rg185r4r2_0 ⟨⟨by omega, by omega⟩, fun _ => sp179 (by omega) hT (xq_ki (sp184 (by omega) (xq_ki ⟨hm, hm, hm, ⟨by omega, by omega⟩, fun g => ⟨⟨by omega, by omega⟩, fun g2 => ?_, fun g2 => ?_⟩, fun g => ?_⟩))), fun _ => by omega⟩)
  · refine h _ (-1) app_of (fun q => ⟨fun r => ?_, fun r => ?_⟩)
    · rw [hc q] at g; exact absurd r g
    · rw [hc q] at g2; exact absurd r g2
  · have lt : s < M 2 1 := by
      rcases hs with q | q
      · omega
      · have := hend q; omega
    have hs' : 0 ≤ s ∧ s < e ∧ e ≤ M 2 1 := by omega
    refine sp187 (M := xm_up (xm_up (xm_up M 5 (M 4 3) (x_kn (x_co (M 3) (M 2 1) s))) 6 (M 4 3) s) 7 (M 4 3) (-1)) ?_ ?_ (fun v hv => xq_ki ⟨hm, ?_⟩)
    · simp only [xu_c, xu_s, xu_k, ne_eq, Nat.reduceEqDiff, Int.reduceEq, not_false_eq_true]; exact hT
    · simp only [xu_c, xu_s, xu_k, ne_eq, Nat.reduceEqDiff, Int.reduceEq, not_false_eq_true]; exact hs'
    · simp only [xu_c, xu_s, xu_k, ne_eq, Nat.reduceEqDiff, Int.reduceEq, not_false_eq_true] at hv ⊢
      refine h _ v app_of2 (fun q => ⟨fun r => ?_, fun r => hv⟩)
      rw [hc q] at g
      exact absurd r g
  · have lt : s < M 2 1 := by
      rcases hs with q | q
      · omega
      · have := hend q; omega
    have hs' : 0 ≤ s ∧ s < e ∧ e ≤ M 2 1 := by omega
    refine sp186 (M := xm_up (xm_up (xm_up M 5 (M 4 3) (x_kn (x_co (M 3) (M 2 1) s))) 6 (M 4 3) s) 7 (M 4 3) (-1)) ?_ ?_ (xq_ki ⟨hm, ⟨by omega, by omega⟩, fun g2 => ?_, fun g2 => by omega⟩)
    · simp only [xu_c, xu_s, xu_k, ne_eq, Nat.reduceEqDiff, Int.reduceEq, not_false_eq_true]; exact hT
    · simp only [xu_c, xu_s, xu_k, ne_eq, Nat.reduceEqDiff, Int.reduceEq, not_false_eq_true]; exact hs'
    · simp only [xu_c, xu_s, xu_k, ne_eq, Nat.reduceEqDiff, Int.reduceEq, not_false_eq_true]
      refine h _ _ app_of2 (fun q => ⟨fun r => rfl, fun r => ?_⟩)
      rw [hc q] at g2
      exact absurd r g2
/-- the first m tokens of the text; E: where they end -/
def x_tks (t : Int → Int) (n m : Int) (K S V E : Int → Int) : Prop := E (-1) = 0 ∧ ∀ j : Int, 0 ≤ j → j < m → x_gap t (E (j - 1)) (S j) ∧ (0 ≤ S j ∧ S j < n) ∧ t (S j) ≠ 32 ∧ x_te t n (S j) (E j) ∧ K j = x_kn (t (S j)) ∧ x_val t n (S j) (E j) (V j)
theorem tks_end {t K S V E : Int → Int} {n m : Int} (h : x_tks t n m K S V E) (hm : 0 ≤ m) : m ≤ E (m - 1) := by
  have key : ∀ k : Nat, (k : Int) ≤ m → (k : Int) ≤ E ((k : Int) - 1) := by
    intro k
    induction k with
    | zero => intro _; have := h.1; simp only [Int.ofNat_zero, Int.natCast_zero, Int.zero_sub] at *; omega
    | succ k ih =>
      intro hk
      have i := ih (by omega)
      have g := h.2 k (by omega) (by omega)
      have g1 := g.1.1
      have g2 := g.2.2.2.1.1
      rw [show (((k + 1 : Nat) : Int)) - 1 = (k : Int) by omega]
      omega
  have := key m.toNat (by omega)
  rw [show ((m.toNat : Nat) : Int) = m by omega] at this
  exact this
theorem tks_app {t K S V E K' S' V' : Int → Int} {n m e s k v : Int} (h : x_tks t n m K S V E) (hm : 0 ≤ m) (hj : ∀ j : Int, j ≠ m → K' j = K j ∧ S' j = S j ∧ V' j = V j) (hk : K' m = k ∧ S' m = s ∧ V' m = v) (h1 : x_gap t (E (m - 1)) s ∧ (0 ≤ s ∧ s < n) ∧ t s ≠ 32 ∧ x_te t n s e ∧ k = x_kn (t s) ∧ x_val t n s e v) : x_tks t n (m + 1) K' S' V' (fun j => if j = m then e else E j) := by
  refine ⟨?_, fun j a b => ?_⟩
  · show (if (-1 : Int) = m then e else E (-1)) = 0
    rw [if_neg (by omega)]; exact h.1
  · show x_gap t (if j - 1 = m then e else E (j - 1)) (S' j) ∧ (0 ≤ S' j ∧ S' j < n) ∧ t (S' j) ≠ 32 ∧ x_te t n (S' j) (if j = m then e else E j) ∧ K' j = x_kn (t (S' j)) ∧ x_val t n (S' j) (if j = m then e else E j) (V' j)
    by_cases c : j = m
    · subst c
      rw [if_pos rfl, if_neg (by omega), hk.1, hk.2.1, hk.2.2]
      exact h1
    · have g := hj j c
      rw [if_neg c, if_neg (by omega), g.1, g.2.1, g.2.2]
      exact h.2 j a (by omega)
/-- the text is split -/
def x_spl (N : xm_Mem) (t : Int → Int) (n m : Int) (E : Int → Int) : Prop := N 4 3 = m + 1 ∧ (0 ≤ m ∧ m ≤ 200) ∧ x_tks t n m (N 5) (N 6) (N 7) E ∧ x_gap t (E (m - 1)) n ∧ N 6 m = n ∧ N 5 m = 0
theorem gap_to {t : Int → Int} {a b c : Int} (h : x_gap t a b) (h1 : b ≤ c) (h2 : ∀ q : Int, b ≤ q → q < c → t q = 32) : x_gap t a c := ⟨Int.le_trans h.1 h1, fun q u v => by
  by_cases g : q < b
  · exact h.2 q u g
  · exact h2 q (by omega) v⟩
theorem lo182 {t : Int → Int} {n : Int} (hT : x_txt n t) (hM : M 2 1 = n ∧ M 3 = t) (h : ∀ (N : xm_Mem) (m : Int) (E : Int → Int), (∀ c : Nat, c ≠ 4 → c ≠ 5 → c ≠ 6 → c ≠ 7 → N c = M c) → x_spl N t n m E → N 4 4 = 0 → Q [] N) : ∀ (r : Nat) (N : xm_Mem) (p i m : Int) (E : Int → Int) (o : Option xm_V), p + r = n ∨ (p ≤ n ∧ n ≤ p + r) → 0 ≤ i → i ≤ p → p ≤ n → 0 ≤ p → (∀ c : Nat, c ≠ 4 → c ≠ 5 → c ≠ 6 → c ≠ 7 → N c = M c) → N 4 3 = m → 0 ≤ m → x_tks t n m (N 5) (N 6) (N 7) E → x_gap t (E (m - 1)) p → N 4 4 = 0 → wp182r4r2_14 (xm_call true (d + 8)) Q p i o N := by
  have fin : ∀ (N : xm_Mem) (m : Int) (E : Int → Int), (∀ c : Nat, c ≠ 4 → c ≠ 5 → c ≠ 6 → c ≠ 7 → N c = M c) → N 4 3 = m → 0 ≤ m → x_tks t n m (N 5) (N 6) (N 7) E → x_gap t (E (m - 1)) n → N 4 4 = 0 → xm_call true (d + 8) 185 [.inr (.inr 4), .inr (.inr 2), .inl n, .inl n] N (fun v1 M2 => xm_kv (Q [] M2) v1) := by
    intro N m E hb h3 hm hk hg h4
    have le := tks_end hk hm
    have hg1 := hg.1
    have hn := hT.2.1
    have n2 : N 2 1 = n := by rw [hb 2 (by omega) (by omega) (by omega) (by omega)]; exact hM.1
    have n3 : N 3 = t := by rw [hb 3 (by omega) (by omega) (by omega) (by omega)]; exact hM.2
    refine sp185 (by rw [n2, n3]; exact hT) (by omega) (Or.inr n2.symm) (fun N2 v ha hv => xq_kv ?_)
    obtain ⟨a1, ⟨a2, a3⟩, a4, a5, a6, a7⟩ := ha
    rw [h3] at a2 a4 a5 a6 a7
    refine h N2 m E (fun c q1 q2 q3 q4 => (a1 c q1 q2 q3 q4).trans (hb c q1 q2 q3 q4)) ⟨a2, by omega, ?_, hg, a6, ?_⟩ (by rw [a3 4 (by omega)]; exact h4)
    · refine ⟨hk.1, fun j u w => ?_⟩
      have g := a4 j (by omega)
      rw [g.1, g.2.1, g.2.2]
      exact hk.2 j u w
    · rw [a5, n2, n3, co_ge (by omega), kn_neg]
  intro r
  induction r with
  | zero =>
    intro N p i m E o hr hi hip hp hp0 hb h3 hm hk hg h4
    have e : p = n := by omega
    subst e
    have hn := hT.2.1
    have n2 : N 2 1 = p := by rw [hb 2 (by omega) (by omega) (by omega) (by omega)]; exact hM.1
    refine rg182r4r2_14 ⟨⟨by omega, by omega⟩, fun _ => fin N m E hb h3 hm hk hg h4, fun _ => en176r2 (rg176r2_0 (xq_ki ⟨⟨by omega, by omega⟩, fun _ => fin N m E hb h3 hm hk hg h4, fun q => by omega⟩))⟩
  | succ r ih =>
    intro N p i m E o hr hi hip hp hp0 hb h3 hm hk hg h4
    have hn := hT.2.1
    have n2 : N 2 1 = n := by rw [hb 2 (by omega) (by omega) (by omega) (by omega)]; exact hM.1
    have n3 : N 3 = t := by rw [hb 3 (by omega) (by omega) (by omega) (by omega)]; exact hM.2
    by_cases e : p = n
    · subst e
      refine rg182r4r2_14 ⟨⟨by omega, by omega⟩, fun _ => fin N m E hb h3 hm hk hg h4, fun _ => en176r2 (rg176r2_0 (xq_ki ⟨⟨by omega, by omega⟩, fun _ => fin N m E hb h3 hm hk hg h4, fun q => by omega⟩))⟩
    · refine rg182r4r2_14 ⟨⟨by omega, by omega⟩, fun _ => by omega, fun _ => en176r2 (rg176r2_0 (xq_ki ⟨⟨by omega, by omega⟩, fun _ => by omega, fun _ => ?_⟩))⟩
      have hTN : x_txt (N 2 1) (N 3) := by rw [n2, n3]; exact hT
      refine sp183 hTN (by omega) (fun f hf => xq_ki (sp179 (by omega) hTN (xq_ki ?_)))
      rw [n2, n3] at hf ⊢
      have tb := hT.2.2 p hp0 (by omega)
      rw [co_lt (by omega)]
      have f1 := hf.1
      have f2 := hf.2.1
      refine ⟨⟨by omega, by omega⟩, fun g => ?_, fun g => ?_⟩
      · have kp : x_kn (t p) = 6 := by rw [g]; rfl
        have f3 := hf.2.2.2 (by omega) (by omega)
        refine ih N f (i + 1) m E _ (by omega) (by omega) (by omega) f2 (by omega) hb h3 hm hk (gap_to hg (by omega) (fun q u w => ?_)) h4
        rw [show q = p by omega]; exact g
      · have le := tks_end hk hm
        have hg1 := hg.1
        refine sp185 hTN (by omega) (Or.inl ⟨hp0, f1, by omega⟩) (fun N2 v ha hv => xq_kv ?_)
        rw [n2, n3] at ha hv
        obtain ⟨a1, ⟨a2, a3⟩, a4, a5, a6, a7⟩ := ha
        rw [h3] at a2 a4 a5 a6 a7
        have hv := hv (by omega)
        rw [co_lt (by omega)] at a5
        refine ih N2 f (i + 1) (m + 1) (fun j => if j = m then f else E j) _ (by omega) (by omega) (by omega) f2 (by omega) (fun c q1 q2 q3 q4 => (a1 c q1 q2 q3 q4).trans (hb c q1 q2 q3 q4)) a2 (by omega) (tks_app hk hm a4 ⟨a5, a6, a7⟩ ⟨hg, ⟨hp0, by omega⟩, g, hf, rfl, hv⟩) ?_ (by rw [a3 4 (by omega)]; exact h4)
        rw [show m + 1 - 1 = m by omega]
        show x_gap t (if m = m then f else E m) f
        rw [if_pos rfl]
        exact ⟨Int.le_refl _, fun q u w => by omega⟩
theorem sp182 {t : Int → Int} {n : Int} (hT : x_txt n t) (hM : M 2 1 = n ∧ M 3 = t) (h : ∀ (N : xm_Mem) (m : Int) (E : Int → Int), (∀ c : Nat, c ≠ 4 → c ≠ 5 → c ≠ 6 → c ≠ 7 → N c = M c) → x_spl N t n m E → N 4 4 = 0 → Q [] N) : xm_call true (d + 9) 182 [.inr (.inr 4), .inr (.inr 2)] M Q := by
  have hn := hT.1
  refine en182r4r2 (rg182r4r2_0 ?_)
  refine lo182 hT hM h n.toNat _ 0 0 0 (fun _ => 0) none (by omega) (by omega) (by omega) hn (by omega) (fun c q1 q2 q3 q4 => ?_) ?_ (by omega) ⟨rfl, fun j u w => by omega⟩ ⟨Int.le_refl _, fun q u w => by omega⟩ ?_
  · rw [xu_c q1, xu_c q1]
  · rw [xu_k (by omega), xu_s]
  · rw [xu_s]
end TX
