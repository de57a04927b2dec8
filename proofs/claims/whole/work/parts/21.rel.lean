/-! the relation between the class's memory (cells below 50) and the reference's (cells from 50 on) -/
def R_txt (n m : Int) (t u : Int → Int) : Prop := n = m ∧ 0 ≤ n ∧ n ≤ 200 ∧ ∀ i : Int, 0 ≤ i → i < n → t i = u i ∧ 0 ≤ t i ∧ t i ≤ 255
/-- a route's cell f (capacity, rate, mark, budget, window, sources), its numbers nu and lengths le; the reference's cell g, rows ro and lengths rl -/
def R_rtA (f nu le g ro rl : Int → Int) : Prop :=
  (f 0 = g 0 ∧ 1 ≤ f 0 ∧ f 0 ≤ 40) ∧ (f 1 = g 1 ∧ 1 ≤ f 1 ∧ f 1 ≤ 9) ∧ (f 2 = g 2 ∧ 0 ≤ f 2 ∧ f 2 ≤ 40) ∧ (f 3 = g 3 ∧ 0 ≤ f 3 ∧ f 3 ≤ 20) ∧ (f 4 = g 4 ∧ 1 ≤ f 4 ∧ f 4 ≤ 16) ∧ (f 5 = g 5 ∧ 0 ≤ f 5 ∧ f 5 ≤ 4) ∧
  (∀ s : Int, 0 ≤ s → s ≤ 4 → le s = rl s ∧ 0 ≤ le s ∧ le s ≤ 400) ∧ (∀ s : Int, 0 ≤ s → s < 4 → (s < f 5 ↔ 0 < le s)) ∧
  (∀ s i : Int, 0 ≤ s → s ≤ 4 → 0 ≤ i → i < le s → nu (s * 400 + i) = ro (400 * s + i) ∧ 0 ≤ nu (s * 400 + i) ∧ nu (s * 400 + i) ≤ 20) ∧
  (∀ i : Int, 0 ≤ i → i < le 4 → nu (1600 + i) = 0 ∨ nu (1600 + i) = 2 ∨ nu (1600 + i) = 3)
def R_rt (M : xm_Mem) : Prop := (M 1 3 = 11 ∧ M 1 4 = 14 ∧ R_rtA (M 11) (M 12) (M 13) (M 50) (M 51) (M 52)) ∨ (M 1 3 = 14 ∧ M 1 4 = 11 ∧ R_rtA (M 14) (M 15) (M 16) (M 50) (M 51) (M 52))
/-- how many of the first n slots are lossy -/
def x_cnt (f : Int → Int) : Nat → Int
  | 0 => 0
  | n + 1 => x_cnt f n + if 0 < f n then 1 else 0
/-- an episode begins in this slot -/
def x_beg (f : Int → Int) (n : Nat) : Prop := 0 < f n ∧ (n = 0 ∨ ¬ 0 < f ((n : Int) - 1))
/-- the number of episodes in the first n slots, the first and the last slot of each -/
def x_epN (f : Int → Int) : Nat → Int
  | 0 => 0
  | n + 1 => if 0 < f n ∧ (n = 0 ∨ ¬ 0 < f ((n : Int) - 1)) then x_epN f n + 1 else x_epN f n
def x_epF (f : Int → Int) : Nat → Int → Int
  | 0 => fun _ => 0
  | n + 1 => fun k => if (0 < f n ∧ (n = 0 ∨ ¬ 0 < f ((n : Int) - 1))) ∧ k = x_epN f n then (n : Int) else x_epF f n k
def x_epL (f : Int → Int) : Nat → Int → Int
  | 0 => fun _ => 0
  | n + 1 => fun k => if 0 < f n ∧ k = x_epN f (n + 1) - 1 then (n : Int) else x_epL f n k
/-- slots that have passed, losses, sights, lossy slots, episodes -/
def R_rec (p q : Int) (lo si lq sq : Int → Int) (ls ne : Int) (fi en : Int → Int) : Prop :=
  p = q ∧ 0 ≤ p ∧ p ≤ 2000 ∧ (∀ s : Int, 0 ≤ s → s < p → lo s = lq s ∧ si s = sq s ∧ 0 ≤ lo s ∧ lo s ≤ 1000 ∧ 0 ≤ si s ∧ si s ≤ 100) ∧ (∀ s : Int, p ≤ s → s < 2000 → lo s = 0 ∧ si s = 0) ∧
  ls = x_cnt lo p.toNat ∧ ne = x_epN lo p.toNat ∧ ∀ k : Int, 0 ≤ k → k < ne → fi k = x_epF lo p.toNat k ∧ en k = x_epL lo p.toNat k
/-- how many of the first n experiments send a probe in slot s -/
def x_due (bg kd : Int → Int) (s : Int) : Nat → Int
  | 0 => 0
  | n + 1 => x_due bg kd s n + if bg n ≤ s ∧ s < bg n + kd n then 1 else 0
def x_sum (f : Int → Int) (a : Int) : Nat → Int
  | 0 => 0
  | n + 1 => x_sum f a n + f (a + n)
/-- active experiments -/
def R_exp (p w b act actM : Int) (kd bg bt kdM bgM btM : Int → Int) (pr prM : Int → Int) : Prop :=
  act = actM ∧ 0 ≤ act ∧ act ≤ 20 ∧
  (∀ k : Int, 0 ≤ k → k < act → kd k = kdM k ∧ bg k = bgM k ∧ bt k = btM k ∧ (kd k = 2 ∨ kd k = 3) ∧ 0 ≤ bg k ∧ bg k < p ∧ p < bg k + kd k ∧ 0 ≤ bt k ∧ (bt k ≤ 1 ∨ (bt k ≤ 3 ∧ p = bg k + 2))) ∧
  (∀ s : Int, 0 ≤ s → s < p → pr s = prM s) ∧ (∀ s : Int, 0 ≤ s → s < 2003 → 0 ≤ pr s ∧ pr s ≤ 20) ∧ (∀ s : Int, p ≤ s → s < 2003 → pr s = x_due bg kd s act.toNat) ∧
  (∀ a : Int, 0 ≤ a → a + w ≤ 2003 → x_sum pr a w.toNat ≤ b)
/-- requests, chance, draw, counts -/
def R_ask (f g rq rqM : Int → Int) : Prop :=
  (f 5 = g 39 ∧ 0 ≤ f 5 ∧ f 5 ≤ 4) ∧ (∀ k : Int, 0 ≤ k → k < f 5 → rq k = rqM k ∧ (rq k = 2 ∨ rq k = 3)) ∧ (f 6 = g 41 ∧ 0 ≤ f 6 ∧ f 6 ≤ 16) ∧ f 7 = g 42 ∧ f 8 = g 36 ∧ f 9 = g 37 ∧ f 10 = g 38
def x_of (wh : Int → Int) (s : Int) : Nat → Int
  | 0 => 0
  | n + 1 => x_of wh s n + if wh n = s then 1 else 0
/-- the queue -/
def R_lin (p cap : Int) (f sd sn ar lo le g wh si arM loM leM : Int → Int) : Prop :=
  (f 6 = g 24 ∧ 0 ≤ f 6 ∧ f 6 ≤ 40 ∧ f 6 ≤ cap) ∧ (0 ≤ f 5 ∧ f 5 < 40) ∧ (∀ i : Int, 0 ≤ i → i < f 6 → sd ((f 5 + i) % 40) = wh i ∧ sn ((f 5 + i) % 40) = si i ∧ 0 ≤ wh i ∧ wh i ≤ 4 ∧ 0 ≤ si i ∧ si i < p) ∧
  (∀ s : Int, 0 ≤ s → s ≤ 4 → ar s = arM s ∧ lo s = loM s ∧ le s = leM s ∧ ar s - lo s - le s = x_of wh s (f 6).toNat) ∧ f 7 = g 30 ∧ (f 8 = g 31 ∧ 0 ≤ f 8 ∧ f 8 ≤ 2000)
def R_pat (p : Int) (pa tr ct : Int → Int) : Prop :=
  (∀ k : Int, 0 ≤ k → k < 4 → pa k = ct k ∧ 0 ≤ pa k ∧ pa k ≤ 20 * p) ∧ ∀ k : Int, 0 ≤ k → k < 8 → tr k = ct (4 + k) ∧ 0 ≤ tr k ∧ tr k ≤ 20 * p
def R_tol (t u : Int → Int) : Prop := ∀ k : Int, 0 ≤ k → k < 4 → t k = u k ∧ 0 ≤ t k ∧ t k ≤ 9999
def R_chn (n m : Int) (ls lm w v : Int → Int) : Prop :=
  n = m ∧ 0 ≤ n ∧ n ≤ 5 ∧ (∀ s : Int, 0 ≤ s → s < n → ls s = lm s ∧ (ls s = 0 ∨ ls s = 1)) ∧ (∀ a b : Int, 0 ≤ a → a < n → 0 ≤ b → b < n → w (a * 5 + b) = v (5 * a + b) ∧ 0 ≤ w (a * 5 + b) ∧ w (a * 5 + b) ≤ 12) ∧
  (∀ a b : Int, 0 ≤ a → a < 5 → 0 ≤ b → b < 5 → n ≤ a ∨ n ≤ b → w (a * 5 + b) = 0) ∧ ∀ s : Int, 0 ≤ s → s < 5 → ls s = 0 ∨ ls s = 1
def R_all (M : xm_Mem) : Prop :=
  R_txt (M 2 1) (M 50 9) (M 3) (M 53) ∧ R_rt M ∧ R_rec (M 29 2) (M 50 20) (M 30) (M 31) (M 61) (M 60) (M 29 3) (M 29 4) (M 32) (M 33) ∧
  R_exp (M 29 2) (M 50 4) (M 50 3) (M 23 3) (M 50 32) (M 24) (M 25) (M 26) (M 67) (M 68) (M 69) (M 28) (M 59) ∧ R_ask (M 23) (M 50) (M 27) (M 70) ∧
  R_lin (M 29 2) (M 50 0) (M 17) (M 18) (M 19) (M 20) (M 21) (M 22) (M 50) (M 62) (M 63) (M 64) (M 65) (M 66) ∧ R_pat (M 29 2) (M 35) (M 36) (M 71) ∧ R_tol (M 37) (M 72) ∧ R_chn (M 38 0) (M 50 48) (M 39) (M 75) (M 40) (M 76)
def R_end (v w : List xm_V) (M : xm_Mem) : Prop := v = w ∧ R_all M
/-- a call on the class and the same one on the reference: they answer alike, and stay so -/
def R_pair (a a' : Nat) (xs : List xm_V) : Prop := ∀ M : xm_Mem, R_all M → xm_call true 11 a (.inr (.inr 1) :: xs) M (fun v M1 => xm_call true 11 a' (.inr (.inr 50) :: xs) M1 (fun w M2 => R_end v w M2))
/-- the reference's part is as it was -/
def x_fr (M M1 : xm_Mem) : Prop := ∀ c : Nat, 50 ≤ c → M1 c = M c
