/-! L3: TOKENS, the spec -/
/-- the end of the run from p on of places that are so -/
def rE (c : Nat → Bool) (n p : Nat) : Nat := p + fa_first (fun i => !c (p + i)) (n - p)
theorem rE_ge (c : Nat → Bool) (n p : Nat) : p ≤ rE c n p := Nat.le_add_right _ _
theorem rE_le {c : Nat → Bool} {n p : Nat} (h : p ≤ n) : rE c n p ≤ n := by
  have h1 := fa_first_le (fun i => !c (p + i)) (n - p)
  unfold rE; omega
theorem rE_in {c : Nat → Bool} {n p i : Nat} (h1 : p ≤ i) (h2 : i < rE c n p) : c i = true := by
  unfold rE at h2
  have h3 := fa_first_no (fun i => !c (p + i)) (n - p) (i - p) (by omega)
  have h4 : (!c (p + (i - p))) = false := h3
  rw [show p + (i - p) = i by omega] at h4
  cases h5 : c i with
  | true => rfl
  | false => rw [h5] at h4; cases h4
theorem rE_end {c : Nat → Bool} {n p : Nat} (h : rE c n p < n) : c (rE c n p) = false := by
  unfold rE at h ⊢
  have h3 : (!c (p + fa_first (fun i => !c (p + i)) (n - p))) = true := fa_first_yes (fun i => !c (p + i)) (n - p) (by omega)
  cases h5 : c (p + fa_first (fun i => !c (p + i)) (n - p)) with
  | false => rfl
  | true => rw [h5] at h3; cases h3
def blk (T : Nat → Nat) (i : Nat) : Bool := decide (T i = 32 ∨ T i = 10)
def dgt (T : Nat → Nat) (i : Nat) : Bool := decide (48 ≤ T i ∧ T i ≤ 57)
def ltr (T : Nat → Nat) (i : Nat) : Bool := decide ((97 ≤ T i ∧ T i ≤ 122) ∨ (65 ≤ T i ∧ T i ≤ 90))
def sgL : List Nat := [59, 43, 45, 42, 47, 40, 41, 60, 61, 62]
def valD (T : Nat → Nat) (f : Nat) : Nat → Nat
  | 0 => 0
  | k + 1 => 10 * valD T f k + (T (f + k) - 48)
theorem valD_lt {T : Nat → Nat} {f : Nat} : ∀ {k : Nat}, (∀ i, i < k → dgt T (f + i) = true) → valD T f k < 10 ^ k
  | 0, _ => by show (0 : Nat) < 10 ^ 0; decide
  | k + 1, h => by
    have h1 := valD_lt (T := T) (f := f) (k := k) (fun i hi => h i (by omega))
    have h2 := h k (by omega)
    simp only [dgt, decide_eq_true_eq] at h2
    show 10 * valD T f k + (T (f + k) - 48) < 10 ^ (k + 1)
    have h3 : 10 ^ (k + 1) = 10 * 10 ^ k := by rw [Nat.pow_succ, Nat.mul_comm]
    omega
/-- keywords, in the class's order -/
def KW : List (List Nat) := [[115, 112, 105, 108, 108, 115], [116, 104, 114, 111, 119, 115], [114, 117, 110, 115], [119, 104, 101, 110], [111, 114], [97, 110, 100], [110, 111, 116], [98, 101, 108, 105, 101, 102], [115, 97, 108, 116], [115, 112, 105, 108, 116], [116, 104, 114, 111, 119, 110], [108, 105, 99, 107, 101, 100], [115, 101, 97, 116], [119, 101, 116], [98, 101, 115, 105, 100, 101], [104, 101, 105, 114, 115], [100, 97, 121], [112, 101, 114, 115, 111, 110], [111, 110], [99, 97, 116, 116, 108, 101], [102, 101, 97, 115, 116], [115, 99, 111, 108, 100], [100, 105, 101], [104, 101, 105, 114]]
/-- in the reference's -/
def KWr : List (List Nat) := [[115, 112, 105, 108, 108, 115], [116, 104, 114, 111, 119, 115], [114, 117, 110, 115], [119, 104, 101, 110], [111, 114], [97, 110, 100], [110, 111, 116], [98, 101, 108, 105, 101, 102], [115, 97, 108, 116], [119, 101, 116], [115, 101, 97, 116], [115, 112, 105, 108, 116], [116, 104, 114, 111, 119, 110], [108, 105, 99, 107, 101, 100], [98, 101, 115, 105, 100, 101], [104, 101, 105, 114, 115], [100, 97, 121], [112, 101, 114, 115, 111, 110], [111, 110], [99, 97, 116, 116, 108, 101], [102, 101, 97, 115, 116], [115, 99, 111, 108, 100], [100, 105, 101], [104, 101, 105, 114]]
def flatW (ws : List (List Nat)) : List Nat := ws.flatMap (fun w => w ++ [32])
/-- the bytes from i on, k of them -/
def seg (T : Nat → Nat) (i : Nat) : Nat → List Nat
  | 0 => []
  | k + 1 => T i :: seg T (i + 1) k
/-- the place of a word among words -/
def wrdN (L : List Nat) : List (List Nat) → Nat → Option Nat
  | [], _ => none
  | w :: r, k => if w = L then some k else wrdN L r (k + 1)
def kwN (T : Nat → Nat) (f e : Nat) : Nat := match wrdN (seg T f (e - f)) KW 1 with | some k => k | none => 31
/-- the reference's number for it -/
def rwn (k : Nat) : Nat := if 8 ≤ k ∧ k < 18 then 7 + permW (k - 8) else k - 1
theorem wrdN_in {L : List Nat} : ∀ {ws : List (List Nat)} {k j : Nat}, wrdN L ws k = some j → k ≤ j ∧ j < k + ws.length ∧ ws.getD (j - k) [] = L
  | [], k, j, h => by cases h
  | w :: r, k, j, h => by
    unfold wrdN at h
    split at h
    · rename_i c; cases h
      refine ⟨Nat.le_refl _, ?_, ?_⟩
      · show k < k + (r.length + 1); omega
      · rw [Nat.sub_self]; exact c
    · obtain ⟨h1, h2, h3⟩ := wrdN_in (ws := r) (k := k + 1) h
      refine ⟨by omega, by show j < k + (r.length + 1); omega, ?_⟩
      rw [show j - k = (j - (k + 1)) + 1 by omega]; exact h3
theorem wrdN_no {L : List Nat} : ∀ {ws : List (List Nat)} {k : Nat}, wrdN L ws k = none → ∀ w, w ∈ ws → w ≠ L
  | [], k, h => fun w hw => absurd hw List.not_mem_nil
  | w :: r, k, h => by
    unfold wrdN at h
    split at h
    · cases h
    · rename_i c
      intro u hu
      rcases List.mem_cons.mp hu with e | e
      · rw [e]; exact c
      · exact wrdN_no (ws := r) (k := k + 1) h u e
theorem wrdN_of_no {L : List Nat} : ∀ {ws : List (List Nat)} {k : Nat}, (∀ w, w ∈ ws → w ≠ L) → wrdN L ws k = none
  | [], k, h => rfl
  | w :: r, k, h => by
    unfold wrdN
    rw [if_neg (h w List.mem_cons_self)]
    exact wrdN_of_no (ws := r) (fun u hu => h u (List.mem_cons_of_mem _ hu))
theorem kw_both : ∀ j, j < 24 → wrdN (KW.getD j []) KW 1 = some (j + 1) ∧ wrdN (KW.getD j []) KWr 0 = some (rwn (j + 1)) := by decide +kernel
theorem kw_sub : ∀ w, w ∈ KWr → w ∈ KW := by decide +kernel
/-- what the reference calls a word, by what the class calls it -/
theorem kw_ref (L : List Nat) : wrdN L KWr 0 = (wrdN L KW 1).map rwn := by
  cases h : wrdN L KW 1 with
  | none => exact wrdN_of_no (fun w hw => wrdN_no h w (kw_sub w hw))
  | some k =>
    obtain ⟨h1, h2, h3⟩ := wrdN_in h
    have h4 : k < 1 + 24 := h2
    have h5 := (kw_both (k - 1) (by omega)).2
    rw [h3, show k - 1 + 1 = k by omega] at h5
    exact h5
theorem kwN_rng (T : Nat → Nat) (f e : Nat) : (1 ≤ kwN T f e ∧ kwN T f e ≤ 24) ∨ kwN T f e = 31 := by
  unfold kwN
  split
  · rename_i k h
    obtain ⟨h1, h2, h3⟩ := wrdN_in h
    have h4 : k < 1 + 24 := h2
    exact Or.inl ⟨h1, by omega⟩
  · exact Or.inr rfl
/-- the token that comes from p on: its kind (0 the end, 1 .. 24 a keyword, 30 a number, 31 none, 40 .. a sign), its value, where it begins, where it ends -/
def tkF (T : Nat → Nat) (n p : Nat) : Nat := rE (blk T) n p
def tk (T : Nat → Nat) (n p : Nat) : Nat × Nat × Nat × Nat :=
  if n ≤ tkF T n p then (0, 0, n, n)
  else if dgt T (tkF T n p) = true then (if rE (dgt T) n (tkF T n p + 1) - tkF T n p ≤ 4 then 30 else 31, valD T (tkF T n p) (rE (dgt T) n (tkF T n p + 1) - tkF T n p), tkF T n p, rE (dgt T) n (tkF T n p + 1))
  else if ltr T (tkF T n p) = true then (kwN T (tkF T n p) (rE (ltr T) n (tkF T n p + 1)), 0, tkF T n p, rE (ltr T) n (tkF T n p + 1))
  else (if T (tkF T n p) ∈ sgL then T (tkF T n p) else 31, 0, tkF T n p, tkF T n p + 1)
theorem tk_end {T : Nat → Nat} {n p : Nat} (h : n ≤ tkF T n p) : tk T n p = (0, 0, n, n) := if_pos h
theorem tk_rng {T : Nat → Nat} {n p : Nat} (hp : p ≤ n) : ((tk T n p).1 = 0 ∧ (tk T n p).2.2.1 = n ∧ (tk T n p).2.2.2 = n) ∨ ((1 ≤ (tk T n p).1 ∧ (tk T n p).1 < 63) ∧ p ≤ (tk T n p).2.2.1 ∧ (tk T n p).2.2.1 < (tk T n p).2.2.2 ∧ (tk T n p).2.2.2 ≤ n ∧ ((tk T n p).1 = 30 → (tk T n p).2.1 < 10000) ∧ ((tk T n p).1 = 30 ∨ (tk T n p).1 = 31 ∨ (tk T n p).1 ≤ 24 ∨ (tk T n p).1 ∈ sgL)) := by
  have hf1 : p ≤ tkF T n p := rE_ge _ _ _
  have hf2 : tkF T n p ≤ n := rE_le hp
  unfold tk
  by_cases h : n ≤ tkF T n p
  · rw [if_pos h]; exact Or.inl ⟨rfl, rfl, rfl⟩
  rw [if_neg h]
  refine Or.inr ?_
  by_cases hd : dgt T (tkF T n p) = true
  · rw [if_pos hd]
    have g1 := rE_ge (dgt T) n (tkF T n p + 1)
    have g2 : rE (dgt T) n (tkF T n p + 1) ≤ n := rE_le (by omega)
    have g3 : ∀ i, i < rE (dgt T) n (tkF T n p + 1) - tkF T n p → dgt T (tkF T n p + i) = true := by
      intro i hi
      by_cases e : i = 0
      · rw [e]; exact hd
      · exact rE_in (n := n) (p := tkF T n p + 1) (by omega) (by omega)
    have g4 := valD_lt g3
    refine ⟨?_, hf1, by show tkF T n p < rE (dgt T) n (tkF T n p + 1); omega, g2, ?_, ?_⟩
    · show 1 ≤ (if rE (dgt T) n (tkF T n p + 1) - tkF T n p ≤ 4 then 30 else 31) ∧ (if rE (dgt T) n (tkF T n p + 1) - tkF T n p ≤ 4 then 30 else 31) < 63
      split <;> omega
    · show (if rE (dgt T) n (tkF T n p + 1) - tkF T n p ≤ 4 then 30 else 31) = 30 → valD T (tkF T n p) (rE (dgt T) n (tkF T n p + 1) - tkF T n p) < 10000
      intro z
      split at z
      · rename_i c
        exact Nat.lt_of_lt_of_le g4 (show 10 ^ (rE (dgt T) n (tkF T n p + 1) - tkF T n p) ≤ 10 ^ 4 from Nat.pow_le_pow_right (by decide) c)
      · cases z
    · show (if rE (dgt T) n (tkF T n p + 1) - tkF T n p ≤ 4 then 30 else 31) = 30 ∨ (if rE (dgt T) n (tkF T n p + 1) - tkF T n p ≤ 4 then 30 else 31) = 31 ∨ _
      split
      · exact Or.inl rfl
      · exact Or.inr (Or.inl rfl)
  rw [if_neg hd]
  by_cases hl : ltr T (tkF T n p) = true
  · rw [if_pos hl]
    have g1 := rE_ge (ltr T) n (tkF T n p + 1)
    have g2 : rE (ltr T) n (tkF T n p + 1) ≤ n := rE_le (by omega)
    have g3 := kwN_rng T (tkF T n p) (rE (ltr T) n (tkF T n p + 1))
    refine ⟨?_, hf1, by show tkF T n p < rE (ltr T) n (tkF T n p + 1); omega, g2, ?_, ?_⟩
    · show 1 ≤ kwN T (tkF T n p) (rE (ltr T) n (tkF T n p + 1)) ∧ kwN T (tkF T n p) (rE (ltr T) n (tkF T n p + 1)) < 63
      omega
    · intro _; show (0 : Nat) < 10000; decide
    · rcases g3 with g3 | g3
      · exact Or.inr (Or.inr (Or.inl g3.2))
      · exact Or.inr (Or.inl g3)
  rw [if_neg hl]
  have key : ∀ c : Nat, c ∈ sgL → 1 ≤ c ∧ c < 63 := by decide
  refine ⟨?_, hf1, by show tkF T n p < tkF T n p + 1; omega, by show tkF T n p + 1 ≤ n; omega, fun _ => by show (0 : Nat) < 10000; decide, ?_⟩
  · show 1 ≤ (if T (tkF T n p) ∈ sgL then T (tkF T n p) else 31) ∧ (if T (tkF T n p) ∈ sgL then T (tkF T n p) else 31) < 63
    split
    · rename_i c; exact key _ c
    · omega
  · show (if T (tkF T n p) ∈ sgL then T (tkF T n p) else 31) = 30 ∨ (if T (tkF T n p) ∈ sgL then T (tkF T n p) else 31) = 31 ∨ _ ∨ (if T (tkF T n p) ∈ sgL then T (tkF T n p) else 31) ∈ sgL
    split
    · rename_i c; exact Or.inr (Or.inr (Or.inr c))
    · exact Or.inr (Or.inl rfl)
