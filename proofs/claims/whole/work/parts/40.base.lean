/-! L3: PURE FACTS ABOUT THE MODELS' WORDS -/
theorem lp_up {α : Type} {F : α → α} {z : α} (e : Nat) (Q : Nat → α → Prop) (hx : ∀ A, Q e (F A)) (hs : ∀ k A, k < e → Q (k + 1) A → Q k (F A)) : ∀ d k n, k + d = e → d < n → Q k (lp F z n) := by
  intro d
  induction d with
  | zero =>
    intro k n hk hn
    cases n with
    | zero => omega
    | succ n =>
      have : k = e := by omega
      subst this
      exact hx _
  | succ d ih =>
    intro k n hk hn
    cases n with
    | zero => omega
    | succ n => exact hs k _ (by omega) (ih (k + 1) n (by omega) (by omega))
theorem lp_ms {α σ : Type} {F : α → α} {z : α} (w : σ → Nat) (Q : σ → α → Prop) (hs : ∀ s A, (∀ s', w s' < w s → Q s' A) → Q s (F A)) : ∀ n s, w s < n → Q s (lp F z n) := by
  intro n
  induction n with
  | zero => intro s h; omega
  | succ n ih => intro s h; exact hs s _ (fun s' h' => ih s' (by omega))
theorem FU_big : 100000 < FU := by unfold FU; omega
/-- a counting loop from k up to e, with FU -/
theorem lp_fu {α : Type} {F : α → α} {z : α} (e : Nat) (Q : Nat → α → Prop) (he : e ≤ 100000) (hx : ∀ A, Q e (F A)) (hs : ∀ k A, k < e → Q (k + 1) A → Q k (F A)) (k : Nat) (hk : k ≤ e) : Q k (lp F z FU) :=
  lp_up e Q hx hs (e - k) k FU (by omega) (by have := FU_big; omega)
theorem lp_fm {α σ : Type} {F : α → α} {z : α} (w : σ → Nat) (Q : σ → α → Prop) (hs : ∀ s A, (∀ s', w s' < w s → Q s' A) → Q s (F A)) (s : σ) (h : w s ≤ 100000) : Q s (lp F z FU) :=
  lp_ms w Q hs FU s (by have := FU_big; omega)
theorem gF_eq {α : Type} (μ : Mu) (a k : Nat) (f : Int32 → Option α) : gF μ a k f = f (μ a k) := rfl
theorem pF_eq {α : Type} (μ : Mu) (a k : Nat) (v : Int32) (f : Mu → Option α) : pF μ a k v f = f (up2 μ a k v) := rfl
theorem cl_eq {α ρ υ : Type} (r : ρ) (u : υ) (f : ρ → υ → Option α) : cl (some (r, u)) f = f r u := rfl
theorem zg_eq {α : Type} {v : Int32} {k : Option α} (h : v = 0 ∨ v = 1) : zg v k = k := if_pos h
theorem nz_eq {α : Type} {v : Int32} {k : Option α} (h : ¬ v = 0) : nz v k = k := if_neg h
theorem up2_same (μ : Mu) (a i : Nat) (v : Int32) : up2 μ a i v a i = v := by simp [up2]
theorem up2_off {μ : Mu} {a i k j : Nat} {v : Int32} (h : k ≠ a ∨ j ≠ i) : up2 μ a i v k j = μ k j := by
  unfold up2
  rw [if_neg]
  rintro ⟨h1, h2⟩
  rcases h with h | h
  · exact h h1
  · exact h h2
theorem up2_self {μ : Mu} {a i : Nat} {v : Int32} (h : μ a i = v) : up2 μ a i v = μ := by
  funext k j
  unfold up2
  split
  · rename_i hc
    rw [hc.1, hc.2, h]
  · rfl
theorem inB_nI {k n : Nat} (hk : k < 2 ^ 31) : inB (nI k) n = true ↔ k < n := by
  have h0 : ¬ nI k < 0 := nI_pos hk
  have hc : (nI k).toNatClampNeg = k := nI_clamp hk
  simp [inB, h0, hc]
theorem ldA_nI {α : Type} {μ : Mu} {a n k : Nat} {f : Int32 → Option α} (hk : k < n) (hn : n < 2 ^ 31) : ldA μ a n (nI k) f = f (μ a k) := by
  have h : inB (nI k) n = true := (inB_nI (by omega)).mpr hk
  unfold ldA
  rw [if_pos h, nI_clamp (by omega)]
theorem stA_nI {α : Type} {μ : Mu} {a n k : Nat} {v : Int32} {f : Mu → Option α} (hk : k < n) (hn : n < 2 ^ 31) : stA μ a n (nI k) v f = f (up2 μ a k v) := by
  have h : inB (nI k) n = true := (inB_nI (by omega)).mpr hk
  unfold stA
  rw [if_pos h, nI_clamp (by omega)]
/-- with the place named -/
theorem ldA_at {α : Type} {μ : Mu} {a n : Nat} {i : Int32} {f : Int32 → Option α} (k : Nat) (hi : i = nI k) (hk : k < n) (hn : n < 2 ^ 31) : ldA μ a n i f = f (μ a k) := by rw [hi]; exact ldA_nI hk hn
theorem stA_at {α : Type} {μ : Mu} {a n : Nat} {i v : Int32} {f : Mu → Option α} (k : Nat) (hi : i = nI k) (hk : k < n) (hn : n < 2 ^ 31) : stA μ a n i v f = f (up2 μ a k v) := by rw [hi]; exact stA_nI hk hn
theorem jrem_nI {a b : Nat} (ha : a < 2 ^ 31) (h0 : 0 < b) (hb : b < 2 ^ 31) : jrem (nI a) (nI b) = nI (a % b) := pk_rem ha h0 hb
theorem jmin_nI {a b : Nat} (ha : a < 2 ^ 31) (hb : b < 2 ^ 31) : jmin (nI a) (nI b) = nI (min a b) := by
  unfold jmin
  by_cases h : b < a
  · rw [if_pos (nI_lt h ha)]; congr 1; omega
  · rw [if_neg (nI_nlt (by omega) hb)]; congr 1; omega
theorem jmax_nI {a b : Nat} (ha : a < 2 ^ 31) (hb : b < 2 ^ 31) : jmax (nI a) (nI b) = nI (max a b) := by
  unfold jmax
  by_cases h : a < b
  · rw [if_pos (nI_lt h hb)]; congr 1; omega
  · rw [if_neg (nI_nlt (by omega) ha)]; congr 1; omega
/-- an int within small bounds is a number -/
theorem nI_between {v : Int32} {n : Nat} (hn : n < 2 ^ 31) (h0 : ¬ v < 0) (h1 : ¬ nI n < v) : ∃ k, k ≤ n ∧ v = nI k := by
  obtain ⟨j, hj, e⟩ := nI_of h0
  refine ⟨j, ?_, e⟩
  rw [e] at h1
  by_cases q : n < j
  · exact absurd (nI_lt q hj) h1
  · omega
