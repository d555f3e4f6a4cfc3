/-! L3: HULL, corners and edges -/
def bstI (X Y : Nat → Int) (c : Nat) : Nat → Nat
  | 0 => if c = 0 then 1 else 0
  | k + 1 => if crI X Y c (bstI X Y c k) k < 0 ∨ (crI X Y c (bstI X Y c k) k = 0 ∧ dqI X Y c (bstI X Y c k) < dqI X Y c k) then k else bstI X Y c k
theorem bst_ne {X Y : Nat → Int} {n c : Nat} (hn : 2 ≤ n) : ∀ k, k ≤ n → bstI X Y c k ≠ c ∧ bstI X Y c k < n := by
  intro k
  induction k with
  | zero =>
    intro _
    show (if c = 0 then 1 else 0) ≠ c ∧ (if c = 0 then 1 else 0) < n
    by_cases z : c = 0
    · rw [if_pos z]; omega
    · rw [if_neg z]; omega
  | succ k ih =>
    intro hk
    obtain ⟨h1, h2⟩ := ih (by omega)
    have e : bstI X Y c (k + 1) = if crI X Y c (bstI X Y c k) k < 0 ∨ (crI X Y c (bstI X Y c k) k = 0 ∧ dqI X Y c (bstI X Y c k) < dqI X Y c k) then k else bstI X Y c k := rfl
    rw [e]
    by_cases z : crI X Y c (bstI X Y c k) k < 0 ∨ (crI X Y c (bstI X Y c k) k = 0 ∧ dqI X Y c (bstI X Y c k) < dqI X Y c k)
    · rw [if_pos z]
      refine ⟨fun y => ?_, by omega⟩
      subst y
      have := cr_cc X Y k (bstI X Y k k)
      have := dq_cc X Y k
      have := dq_nn X Y k (bstI X Y k k)
      omega
    · rw [if_neg z]; exact ⟨h1, h2⟩
theorem bst_dom {X Y : Nat → Int} {n c : Nat} (hn : 2 ≤ n) {α β : Int} (hL : ∀ p, p < n → p ≠ c → 0 < LI X Y α β c p) : ∀ k, k ≤ n → ∀ p, p < k → p ≠ c → DomI X Y c (bstI X Y c k) p := by
  intro k
  induction k with
  | zero => intro _ p hp; omega
  | succ k ih =>
    intro hk p hp hpc
    obtain ⟨h1, h2⟩ := bst_ne (X := X) (Y := Y) (c := c) hn k (by omega)
    have h3 := bst_ne (X := X) (Y := Y) (c := c) hn (k + 1) hk
    have e : bstI X Y c (k + 1) = if crI X Y c (bstI X Y c k) k < 0 ∨ (crI X Y c (bstI X Y c k) k = 0 ∧ dqI X Y c (bstI X Y c k) < dqI X Y c k) then k else bstI X Y c k := rfl
    rw [e] at h3 ⊢
    have ih' := ih (by omega)
    generalize bstI X Y c k = q at *
    by_cases z : crI X Y c q k < 0 ∨ (crI X Y c q k = 0 ∧ dqI X Y c q < dqI X Y c k)
    · rw [if_pos z] at h3 ⊢
      have ha := cr_anti X Y c q k
      have hkq : DomI X Y c k q := by unfold DomI; omega
      by_cases y : p = k
      · subst y; right; exact ⟨cr_qq X Y c p, Int.le_refl _⟩
      · exact dom_trans hkq (ih' p (by omega) hpc) (hL k (by omega) h3.1) (hL q h2 h1) (hL p (by omega) hpc)
    · rw [if_neg z]
      by_cases y : p = k
      · subst y; unfold DomI; omega
      · exact ih' p (by omega) hpc
/-- from a corner that sees all on one side an edge goes to the next one -/
theorem next_edge {X Y : Nat → Int} {n c : Nat} (hn : 2 ≤ n) (hc : c < n) (hd : DisI n X Y) (h : ExpI n X Y c) : EdgI n X Y c (bstI X Y c n) := by
  obtain ⟨α, β, hL⟩ := h
  obtain ⟨h1, h2⟩ := bst_ne (X := X) (Y := Y) (c := c) hn n (Nat.le_refl _)
  intro p hp hpc hpq
  rcases bst_dom hn hL n (Nat.le_refl _) p hp hpc with z | ⟨z, y⟩
  · exact Or.inl z
  · exact Or.inr ⟨z, dom_between (hL _ h2 h1) (hL p hp hpc) z y (hd p c hp hc hpc) (hd p _ hp h2 hpq)⟩
/-- an edge from a corner goes to the next one -/
theorem edge_next {X Y : Nat → Int} {n c b : Nat} (hn : 2 ≤ n) (hb : b < n) (hbc : b ≠ c) (hE : EdgI n X Y c b) : bstI X Y c n = b := by
  have key : ∀ k, k ≤ n → b < k → bstI X Y c k = b := by
    intro k
    induction k with
    | zero => intro _ h; omega
    | succ k ih =>
      intro hk hbk
      obtain ⟨h1, h2⟩ := bst_ne (X := X) (Y := Y) (c := c) hn k (by omega)
      have e : bstI X Y c (k + 1) = if crI X Y c (bstI X Y c k) k < 0 ∨ (crI X Y c (bstI X Y c k) k = 0 ∧ dqI X Y c (bstI X Y c k) < dqI X Y c k) then k else bstI X Y c k := rfl
      rw [e]
      have n0 := dq_nn X Y c (bstI X Y c k)
      by_cases y : b = k
      · subst y
        by_cases w : bstI X Y c b = b
        · rw [w]; split <;> rfl
        · rw [if_pos]
          have ha := cr_anti X Y c b (bstI X Y c b)
          rcases hE _ h2 h1 w with q | ⟨q1, q2⟩
          · left; omega
          · right; exact ⟨by omega, between_dq q2⟩
      · have eb := ih (by omega) (by omega)
        rw [eb] at n0 ⊢
        rw [if_neg]
        by_cases w : k = c
        · subst w
          have := cr_cc X Y k b
          have := dq_cc X Y k
          omega
        · rcases hE k (by omega) w (fun z => y z.symm) with q | ⟨q1, q2⟩
          · omega
          · have := between_dq q2; omega
  exact key n (Nat.le_refl _) hb
theorem exp_head {X Y : Nat → Int} {n a b : Nat} (ha : a < n) (hb : b < n) (hab : a ≠ b) (hd : DisI n X Y) (hB : BndI n X Y) (hE : EdgI n X Y a b) : ExpI n X Y b := by
  refine ⟨78409 * (Y a - Y b) + (X a - X b), -(78409 * (X a - X b)) + (Y a - Y b), fun p hp hpb => ?_⟩
  have e : LI X Y (78409 * (Y a - Y b) + (X a - X b)) (-(78409 * (X a - X b)) + (Y a - Y b)) b p = 78409 * crI X Y a b p + ((X p - X b) * (X a - X b) + (Y p - Y b) * (Y a - Y b)) := by unfold LI crI; grind
  rw [e]
  obtain ⟨a1, a2, a3, a4⟩ := hB a ha
  obtain ⟨b1, b2, b3, b4⟩ := hB b hb
  obtain ⟨p1, p2, p3, p4⟩ := hB p hp
  by_cases y : p = a
  · subst y
    rw [cr_cc]
    have := sq_pos (a := X p - X b) (b := Y p - Y b) (by rcases hd p b hp hb hab with q | q <;> omega)
    omega
  · rcases hE p hp y hpb with q | ⟨q1, q2⟩
    · have m1 := mul_le198 (a := X p - X b) (b := X a - X b) (by omega) (by omega) (by omega) (by omega)
      have m2 := mul_le198 (a := Y p - Y b) (b := Y a - Y b) (by omega) (by omega) (by omega) (by omega)
      omega
    · rw [q1]
      have f : (X p - X b) * (X a - X b) + (Y p - Y b) * (Y a - Y b) = ((X p - X b) * (X p - X b) + (Y p - Y b) * (Y p - Y b)) - dotI X Y a b p := by unfold dotI; grind
      have h1 := sq_nn (X p - X b)
      have h2 := sq_nn (Y p - Y b)
      omega
theorem exp_tail {X Y : Nat → Int} {n a b : Nat} (ha : a < n) (hb : b < n) (hab : a ≠ b) (hd : DisI n X Y) (hB : BndI n X Y) (hE : EdgI n X Y a b) : ExpI n X Y a := by
  refine ⟨-(78409 * (Y b - Y a)) + (X b - X a), 78409 * (X b - X a) + (Y b - Y a), fun p hp hpa => ?_⟩
  have e : LI X Y (-(78409 * (Y b - Y a)) + (X b - X a)) (78409 * (X b - X a) + (Y b - Y a)) a p = 78409 * crI X Y a b p + ((X p - X a) * (X b - X a) + (Y p - Y a) * (Y b - Y a)) := by unfold LI crI; grind
  rw [e]
  obtain ⟨a1, a2, a3, a4⟩ := hB a ha
  obtain ⟨b1, b2, b3, b4⟩ := hB b hb
  obtain ⟨p1, p2, p3, p4⟩ := hB p hp
  by_cases y : p = b
  · subst y
    rw [cr_qq]
    have := sq_pos (a := X p - X a) (b := Y p - Y a) (by rcases hd p a hp ha hpa with q | q <;> omega)
    omega
  · rcases hE p hp hpa y with q | ⟨q1, q2⟩
    · have m1 := mul_le198 (a := X p - X a) (b := X b - X a) (by omega) (by omega) (by omega) (by omega)
      have m2 := mul_le198 (a := Y p - Y a) (b := Y b - Y a) (by omega) (by omega) (by omega) (by omega)
      omega
    · rw [q1]
      have f : (X p - X a) * (X b - X a) + (Y p - Y a) * (Y b - Y a) = ((X p - X a) * (X p - X a) + (Y p - Y a) * (Y p - Y a)) - dotI X Y a b p := by unfold dotI; grind
      have h1 := sq_nn (X p - X a)
      have h2 := sq_nn (Y p - Y a)
      omega
/-- an edge past the lowest goes round it -/
theorem edge_round {X Y : Nat → Int} {n c b s : Nat} (hs : s < n) (hE : EdgI n X Y c b) (hS : ExpI n X Y s) (hc : c < n) (hb : b < n) (cs : s ≠ c) (bs : s ≠ b) : 0 < crI X Y s c b := by
  obtain ⟨α, β, hL⟩ := hS
  have e : crI X Y s c b = crI X Y c b s := by unfold crI; grind
  rw [e]
  rcases hE s hs cs bs with q | ⟨q1, q2⟩
  · exact q
  · have := exp_side (hL c hc (fun z => cs z.symm)) (hL b hb (fun z => bs z.symm)) q1
    omega
/-- no corner lies between the two ends of an edge as the lowest sees them -/
theorem edge_gap {X Y : Nat → Int} {n c b s a : Nat} (hE : EdgI n X Y c b) (hc : c < n) (hb : b < n) (hs : s < n) (ha : a < n) (hA : ExpI n X Y a) (as : a ≠ s) (ac : a ≠ c) (hb2 : b ≠ s) (h : 0 ≤ crI X Y s c a) : 0 ≤ crI X Y s b a := by
  by_cases y : a = b
  · subst y; rw [cr_qq]; exact Int.le_refl _
  obtain ⟨α, β, hL⟩ := hA
  refine Int.not_lt.mp (fun z => ?_)
  have h1 : 0 ≤ crI X Y c b a := by rcases hE a ha ac y with q | q <;> omega
  have e : crI X Y b s a = - crI X Y s b a := by unfold crI; grind
  exact tri_no (hL s hs (fun q => as q.symm)) (hL c hc (fun q => ac q.symm)) (hL b hb (fun q => y q.symm)) h1 (by omega) h
theorem edge_last {X Y : Nat → Int} {n c s a : Nat} (hE : EdgI n X Y c s) (hc : c < n) (hs : s < n) (ha : a < n) (hA : ExpI n X Y a) (as : a ≠ s) (ac : a ≠ c) : ¬ 0 ≤ crI X Y s c a := by
  intro h
  obtain ⟨α, β, hL⟩ := hA
  have e : crI X Y c s a = - crI X Y s c a := by unfold crI; grind
  rcases hE a ha ac as with q | ⟨q1, q2⟩
  · omega
  · have := exp_side (hL c hc (fun z => ac z.symm)) (hL s hs (fun z => as z.symm)) q1
    omega
theorem round_trans {X Y : Nat → Int} {n s c b a : Nat} (hS : ExpI n X Y s) (hc : c < n) (hb : b < n) (ha : a < n) (cs : c ≠ s) (bs : b ≠ s) (as : a ≠ s) (h1 : 0 < crI X Y s c b) (h2 : 0 ≤ crI X Y s b a) : 0 < crI X Y s c a := by
  obtain ⟨α, β, hL⟩ := hS
  have e := plu X Y α β s c b a
  have m1 : 0 < crI X Y s c b * LI X Y α β s a := Int.mul_pos h1 (hL a ha as)
  have m2 : 0 ≤ crI X Y s b a * LI X Y α β s c := Int.mul_nonneg h2 (Int.le_of_lt (hL c hc cs))
  exact mp_pos (hL b hb bs) (by omega)
