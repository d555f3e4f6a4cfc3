/-! L3: HULL, the plane -/
def dqI (X Y : Nat → Int) (a b : Nat) : Int := (X a - X b) * (X a - X b) + (Y a - Y b) * (Y a - Y b)
def dotI (X Y : Nat → Int) (a b p : Nat) : Int := (X p - X a) * (X p - X b) + (Y p - Y a) * (Y p - Y b)
def LI (X Y : Nat → Int) (u v : Int) (c p : Nat) : Int := u * (X p - X c) + v * (Y p - Y c)
def ExpI (n : Nat) (X Y : Nat → Int) (c : Nat) : Prop := ∃ u v : Int, ∀ p, p < n → p ≠ c → 0 < LI X Y u v c p
def EdgI (n : Nat) (X Y : Nat → Int) (a b : Nat) : Prop := ∀ p, p < n → p ≠ a → p ≠ b → 0 < crI X Y a b p ∨ (crI X Y a b p = 0 ∧ dotI X Y a b p < 0)
def DomI (X Y : Nat → Int) (c q p : Nat) : Prop := 0 < crI X Y c q p ∨ (crI X Y c q p = 0 ∧ dqI X Y c p ≤ dqI X Y c q)
def DisI (n : Nat) (X Y : Nat → Int) : Prop := ∀ a b, a < n → b < n → a ≠ b → X a ≠ X b ∨ Y a ≠ Y b
def BndI (n : Nat) (X Y : Nat → Int) : Prop := ∀ a, a < n → -99 ≤ X a ∧ X a ≤ 99 ∧ -99 ≤ Y a ∧ Y a ≤ 99
theorem mp_pos {a L : Int} (hL : 0 < L) (h : 0 < a * L) : 0 < a := by
  refine Int.not_le.mp (fun z => ?_)
  have : 0 ≤ (-a) * L := Int.mul_nonneg (by omega) (by omega)
  rw [Int.neg_mul] at this; omega
theorem mp_nn {a L : Int} (hL : 0 < L) (h : 0 ≤ a * L) : 0 ≤ a := by
  refine Int.not_lt.mp (fun z => ?_)
  have : 0 < (-a) * L := Int.mul_pos (by omega) hL
  rw [Int.neg_mul] at this; omega
theorem mp_z {a L : Int} (hL : 0 < L) (h : a * L = 0) : a = 0 := by
  rcases Int.mul_eq_zero.mp h with z | z
  · exact z
  · omega
theorem sq_nn (a : Int) : 0 ≤ a * a := by
  rcases Int.le_total 0 a with z | z
  · exact Int.mul_nonneg z z
  · have : 0 ≤ (-a) * (-a) := Int.mul_nonneg (by omega) (by omega)
    rw [Int.neg_mul_neg] at this; exact this
theorem sq_pos {a b : Int} (h : a ≠ 0 ∨ b ≠ 0) : 0 < a * a + b * b := by
  have h1 := sq_nn a
  have h2 := sq_nn b
  rcases h with z | z
  · have : a * a ≠ 0 := fun y => by rcases Int.mul_eq_zero.mp y with q | q <;> exact z q
    omega
  · have : b * b ≠ 0 := fun y => by rcases Int.mul_eq_zero.mp y with q | q <;> exact z q
    omega
theorem plu (X Y : Nat → Int) (α β : Int) (c u v w : Nat) : crI X Y c u w * LI X Y α β c v = crI X Y c u v * LI X Y α β c w + crI X Y c v w * LI X Y α β c u := by
  unfold crI LI; grind
theorem cr_anti (X Y : Nat → Int) (a b p : Nat) : crI X Y a p b = - crI X Y a b p := by unfold crI; grind
theorem cr_cyc (X Y : Nat → Int) (a b p : Nat) : crI X Y b p a = crI X Y a b p := by unfold crI; grind
theorem cr_cc (X Y : Nat → Int) (a b : Nat) : crI X Y a b a = 0 := by unfold crI; grind
theorem cr_qq (X Y : Nat → Int) (a b : Nat) : crI X Y a b b = 0 := by unfold crI; grind
theorem dq_nn (X Y : Nat → Int) (a b : Nat) : 0 ≤ dqI X Y a b := by
  have := sq_nn (X a - X b)
  have := sq_nn (Y a - Y b)
  unfold dqI; omega
theorem dq_cc (X Y : Nat → Int) (a : Nat) : dqI X Y a a = 0 := by unfold dqI; grind
theorem dom_trans {X Y : Nat → Int} {α β : Int} {c q r p : Nat} (h1 : DomI X Y c r q) (h2 : DomI X Y c q p) (lr : 0 < LI X Y α β c r) (lq : 0 < LI X Y α β c q) (lp : 0 < LI X Y α β c p) : DomI X Y c r p := by
  have e := plu X Y α β c r q p
  unfold DomI at *
  have n1 : 0 ≤ crI X Y c r q := by omega
  have n2 : 0 ≤ crI X Y c q p := by omega
  have m1 : 0 ≤ crI X Y c r q * LI X Y α β c p := Int.mul_nonneg n1 (by omega)
  have m2 : 0 ≤ crI X Y c q p * LI X Y α β c r := Int.mul_nonneg n2 (by omega)
  by_cases z : crI X Y c r q = 0 ∧ crI X Y c q p = 0
  · right
    rw [z.1, z.2, Int.zero_mul, Int.zero_mul] at e
    exact ⟨mp_z lq (by omega), by omega⟩
  · left
    refine mp_pos lq ?_
    by_cases y : crI X Y c r q = 0
    · have : 0 < crI X Y c q p * LI X Y α β c r := Int.mul_pos (by omega) lr
      omega
    · have : 0 < crI X Y c r q * LI X Y α β c p := Int.mul_pos (by omega) lp
      omega
theorem par_lt {P Q a1 a2 b1 b2 : Int} (hP : 0 < P) (hQ : 0 < Q) (e1 : Q * a1 = P * b1) (e2 : Q * a2 = P * b2) (hd : a1 * a1 + a2 * a2 ≤ b1 * b1 + b2 * b2) (hu : a1 ≠ 0 ∨ a2 ≠ 0) (hne : a1 ≠ b1 ∨ a2 ≠ b2) : a1 * (a1 - b1) + a2 * (a2 - b2) < 0 := by
  have hN := sq_pos hu
  have k1 : Q * Q * (a1 * a1 + a2 * a2) = P * P * (b1 * b1 + b2 * b2) := by
    have f1 : Q * Q * (a1 * a1 + a2 * a2) = (Q * a1) * (Q * a1) + (Q * a2) * (Q * a2) := by grind
    rw [f1, e1, e2]; grind
  have k2 : 0 ≤ P * P * ((b1 * b1 + b2 * b2) - (a1 * a1 + a2 * a2)) := Int.mul_nonneg (sq_nn P) (by omega)
  have hPQ : P < Q := by
    refine Int.not_le.mp (fun z => ?_)
    by_cases y : P = Q
    · subst y
      have g1 : a1 = b1 := Int.eq_of_mul_eq_mul_left (by omega) e1
      have g2 : a2 = b2 := Int.eq_of_mul_eq_mul_left (by omega) e2
      rcases hne with q | q
      · exact q g1
      · exact q g2
    · have k3 : 0 < ((P - Q) * (P + Q)) * (a1 * a1 + a2 * a2) := Int.mul_pos (Int.mul_pos (by omega) (by omega)) hN
      have k4 : ((P - Q) * (P + Q)) * (a1 * a1 + a2 * a2) = P * P * (a1 * a1 + a2 * a2) - Q * Q * (a1 * a1 + a2 * a2) := by grind
      have k5 : P * P * ((b1 * b1 + b2 * b2) - (a1 * a1 + a2 * a2)) = P * P * (b1 * b1 + b2 * b2) - P * P * (a1 * a1 + a2 * a2) := by grind
      omega
  have k6 : P * (a1 * (a1 - b1) + a2 * (a2 - b2)) = a1 * (P * a1 - P * b1) + a2 * (P * a2 - P * b2) := by grind
  have k7 : P * (a1 * (a1 - b1) + a2 * (a2 - b2)) = -((Q - P) * (a1 * a1 + a2 * a2)) := by rw [k6, ← e1, ← e2]; grind
  have k8 : 0 < (Q - P) * (a1 * a1 + a2 * a2) := Int.mul_pos (by omega) hN
  refine Int.not_le.mp (fun z => ?_)
  have : 0 ≤ P * (a1 * (a1 - b1) + a2 * (a2 - b2)) := Int.mul_nonneg (by omega) z
  omega
theorem dom_between {X Y : Nat → Int} {α β : Int} {c q p : Nat} (lq : 0 < LI X Y α β c q) (lp : 0 < LI X Y α β c p) (h0 : crI X Y c q p = 0) (hd : dqI X Y c p ≤ dqI X Y c q) (hpc : X p ≠ X c ∨ Y p ≠ Y c) (hpq : X p ≠ X q ∨ Y p ≠ Y q) : dotI X Y c q p < 0 := by
  unfold LI at lq lp
  unfold crI at h0
  unfold dqI at hd
  unfold dotI
  have := par_lt (P := α * (X p - X c) + β * (Y p - Y c)) (Q := α * (X q - X c) + β * (Y q - Y c)) (a1 := X p - X c) (a2 := Y p - Y c) (b1 := X q - X c) (b2 := Y q - Y c) lp lq (by grind) (by grind) (by grind) (by omega) (by omega)
  have e : (X p - X c) * (X p - X q) + (Y p - Y c) * (Y p - Y q) = (X p - X c) * (X p - X c - (X q - X c)) + (Y p - Y c) * (Y p - Y c - (Y q - Y c)) := by grind
  rw [e]; exact this
theorem between_dq {X Y : Nat → Int} {c b p : Nat} (h : dotI X Y c b p < 0) : dqI X Y c p < dqI X Y c b := by
  have e : dqI X Y c b = dqI X Y c p - 2 * dotI X Y c b p + ((X b - X p) * (X b - X p) + (Y b - Y p) * (Y b - Y p)) := by unfold dqI dotI; grind
  have h1 := sq_nn (X b - X p)
  have h2 := sq_nn (Y b - Y p)
  omega
/-- two points seen from a corner on one line with it lie on one side -/
theorem exp_side {X Y : Nat → Int} {α β : Int} {a c s : Nat} (lc : 0 < LI X Y α β a c) (ls : 0 < LI X Y α β a s) (h0 : crI X Y c s a = 0) : 0 ≤ dotI X Y c s a := by
  refine mp_nn ls ?_
  have e : dotI X Y c s a * LI X Y α β a s = LI X Y α β a c * ((X s - X a) * (X s - X a) + (Y s - Y a) * (Y s - Y a)) + crI X Y c s a * (β * (X s - X a) - α * (Y s - Y a)) := by unfold dotI LI crI; grind
  rw [e, h0, Int.zero_mul, Int.add_zero]
  refine Int.mul_nonneg (by omega) ?_
  have h1 := sq_nn (X s - X a)
  have h2 := sq_nn (Y s - Y a)
  omega
theorem tri_no {X Y : Nat → Int} {α β : Int} {a s c b : Nat} (ls : 0 < LI X Y α β a s) (lc : 0 < LI X Y α β a c) (lb : 0 < LI X Y α β a b) (h1 : 0 ≤ crI X Y c b a) (h2 : 0 < crI X Y b s a) (h3 : 0 ≤ crI X Y s c a) : False := by
  have e : crI X Y c b a * LI X Y α β a s + crI X Y b s a * LI X Y α β a c + crI X Y s c a * LI X Y α β a b = 0 := by unfold crI LI; grind
  have m1 : 0 ≤ crI X Y c b a * LI X Y α β a s := Int.mul_nonneg h1 (by omega)
  have m2 : 0 < crI X Y b s a * LI X Y α β a c := Int.mul_pos h2 lc
  have m3 : 0 ≤ crI X Y s c a * LI X Y α β a b := Int.mul_nonneg h3 (by omega)
  omega
