/-! L3: EXECUTION: literals, loads and stores for simp -/
theorem li_le {n k : Nat} (hn : (OfNat.ofNat n : Nat) < 2 ^ 31) (hk : k < 2 ^ 31) : (no_index (OfNat.ofNat n : Int32)) ≤ nI k ↔ (OfNat.ofNat n : Nat) ≤ k := nI_leI hn hk
theorem le_li {n k : Nat} (hn : (OfNat.ofNat n : Nat) < 2 ^ 31) (hk : k < 2 ^ 31) : nI k ≤ (no_index (OfNat.ofNat n : Int32)) ↔ k ≤ (OfNat.ofNat n : Nat) := nI_leI hk hn
theorem li_lt {n k : Nat} (hn : (OfNat.ofNat n : Nat) < 2 ^ 31) (hk : k < 2 ^ 31) : (no_index (OfNat.ofNat n : Int32)) < nI k ↔ (OfNat.ofNat n : Nat) < k := nI_ltI hn hk
theorem lt_li {n k : Nat} (hn : (OfNat.ofNat n : Nat) < 2 ^ 31) (hk : k < 2 ^ 31) : nI k < (no_index (OfNat.ofNat n : Int32)) ↔ k < (OfNat.ofNat n : Nat) := nI_ltI hk hn
theorem eq_li {n k : Nat} (hn : (OfNat.ofNat n : Nat) < 2 ^ 31) (hk : k < 2 ^ 31) : nI k = (no_index (OfNat.ofNat n : Int32)) ↔ k = (OfNat.ofNat n : Nat) := nI_eq hk hn
theorem li_eq {n k : Nat} (hn : (OfNat.ofNat n : Nat) < 2 ^ 31) (hk : k < 2 ^ 31) : (no_index (OfNat.ofNat n : Int32)) = nI k ↔ (OfNat.ofNat n : Nat) = k := nI_eq hn hk
theorem li_add (n k : Nat) : (no_index (OfNat.ofNat n : Int32)) + nI k = nI ((OfNat.ofNat n : Nat) + k) := nI_add n k
theorem add_li (n k : Nat) : nI k + (no_index (OfNat.ofNat n : Int32)) = nI (k + (OfNat.ofNat n : Nat)) := nI_add k n
theorem li_mul (n k : Nat) : (no_index (OfNat.ofNat n : Int32)) * nI k = nI ((OfNat.ofNat n : Nat) * k) := pk_mul n k
theorem mul_li (n k : Nat) : nI k * (no_index (OfNat.ofNat n : Int32)) = nI (k * (OfNat.ofNat n : Nat)) := pk_mul k n
theorem sub_li {n k : Nat} (h : (OfNat.ofNat n : Nat) ≤ k) : nI k - (no_index (OfNat.ofNat n : Int32)) = nI (k - (OfNat.ofNat n : Nat)) := pk_sub h
theorem div_li {n k : Nat} (hk : k < 2 ^ 31) (h0 : 0 < (OfNat.ofNat n : Nat)) (hn : (OfNat.ofNat n : Nat) < 2 ^ 31) : nI k / (no_index (OfNat.ofNat n : Int32)) = nI (k / (OfNat.ofNat n : Nat)) := pk_div hk h0 hn
theorem rem_li {n k : Nat} (hk : k < 2 ^ 31) (h0 : 0 < (OfNat.ofNat n : Nat)) (hn : (OfNat.ofNat n : Nat) < 2 ^ 31) : jrem (nI k) (no_index (OfNat.ofNat n : Int32)) = nI (k % (OfNat.ofNat n : Nat)) := pk_rem hk h0 hn
theorem ldA_li {α : Type} {μ : Mu} {a n i : Nat} {f : Int32 → Option α} (hk : (OfNat.ofNat i : Nat) < n) (hn : n < 2 ^ 31) : ldA μ a n (no_index (OfNat.ofNat i : Int32)) f = f (μ a (OfNat.ofNat i : Nat)) := ldA_nI hk hn
theorem stA_li {α : Type} {μ : Mu} {a n i : Nat} {v : Int32} {f : Mu → Option α} (hk : (OfNat.ofNat i : Nat) < n) (hn : n < 2 ^ 31) : stA μ a n (no_index (OfNat.ofNat i : Int32)) v f = f (up2 μ a (OfNat.ofNat i : Nat) v) := stA_nI hk hn
theorem n1_lt0 : ((-1 : Int32) < 0) = True := by decide
theorem n1_ne {k : Nat} (hk : k < 2 ^ 31) : (nI k = (-1 : Int32)) = False := by
  refine eq_false (fun h => ?_)
  have h1 : (nI k).toInt = (-1 : Int32).toInt := by rw [h]
  rw [nI_toInt hk] at h1
  have h2 : (-1 : Int32).toInt = -1 := by decide
  omega
theorem lt0_nI {k : Nat} (hk : k < 2 ^ 31) : (nI k < (0 : Int32)) = False := eq_false (nI_pos hk)
theorem sub1_eq (x y : Int32) : x - 1 = y ↔ x = y + 1 := by
  constructor
  · intro h; rw [← h, Int32.sub_add_cancel]
  · intro h; rw [h, Int32.add_sub_cancel]
/-- rows -/
theorem fu_same (N : Nat → Int32) (i : Nat) (v : Int32) : upd N i v i = v := by simp [upd]
theorem fu_off {N : Nat → Int32} {i k : Nat} {v : Int32} (h : k ≠ i) : upd N i v k = N k := by simp [upd, h]
theorem up2_get (μ : Mu) (a i k : Nat) (v : Int32) : up2 μ a i v a k = upd (μ a) i v k := by rw [up2_row]
/-- what a run gives -/
def Ev {ρ : Type} (o : Option (ρ × Mu)) (Q : ρ → Mu → Prop) : Prop := ∃ r μ', o = some (r, μ') ∧ Q r μ'
theorem ev_some {ρ : Type} {r : ρ} {μ : Mu} {Q : ρ → Mu → Prop} (h : Q r μ) : Ev (some (r, μ)) Q := ⟨r, μ, rfl, h⟩
theorem ev_cl {ρ ρ' : Type} {o : Option (ρ' × Mu)} {f : ρ' → Mu → Option (ρ × Mu)} {Q : ρ → Mu → Prop} (h : Ev o (fun r μ => Ev (f r μ) Q)) : Ev (cl o f) Q := by
  obtain ⟨r, μ', e, h⟩ := h
  rw [e, cl_eq]; exact h
theorem ev_mono {ρ : Type} {o : Option (ρ × Mu)} {P Q : ρ → Mu → Prop} (h : Ev o P) (hq : ∀ r μ, P r μ → Q r μ) : Ev o Q := by
  obtain ⟨r, μ', e, h⟩ := h
  exact ⟨r, μ', e, hq _ _ h⟩
theorem ev_eq {ρ : Type} {o : Option (ρ × Mu)} {r : ρ} {μ' : Mu} {Q : ρ → Mu → Prop} (e : o = some (r, μ')) (h : Q r μ') : Ev o Q := ⟨r, μ', e, h⟩
theorem ev_of {ρ : Type} {o o' : Option (ρ × Mu)} {Q : ρ → Mu → Prop} (e : o = o') (h : Ev o' Q) : Ev o Q := e ▸ h
theorem ev_ite {ρ : Type} {c : Prop} {d : Decidable c} {A B : Option (ρ × Mu)} {Q : ρ → Mu → Prop} (h1 : c → Ev A Q) (h2 : ¬ c → Ev B Q) : Ev (@ite _ c d A B) Q := by
  by_cases h : c
  · rw [if_pos h]; exact h1 h
  · rw [if_neg h]; exact h2 h
theorem one_sub1 (x : Int32) : (1 : Int32) - x = 1 ↔ x = 0 := by
  constructor
  · intro h; grind
  · intro h; subst h; decide
theorem ring_t1 (a b c : Int32) : a + (b - c) = a + b - c := by grind
theorem ring_t2 (a b c : Int32) : a + (b - c) + c = a + b := by grind
theorem ring_t3 (a b : Int) : (a + b) * (a - b) = a * a - b * b := by grind
