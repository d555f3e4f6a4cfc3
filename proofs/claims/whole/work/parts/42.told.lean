/-! L3: TOLD ROWS, as lists -/
def RwC (μ : Mu) (r n : Nat) (lo hi : Int32) (l : List Int32) : Prop := μ r 0 = lo ∧ μ r 1 = hi ∧ μ r 3 = nI l.length ∧ l.length ≤ n ∧ n ≤ 10 ∧ ∀ j, j < l.length → μ (r + 1) j = l.getD j 0
def RwM (μ : Mu) (a kf g n : Nat) (l : List Int32) : Prop := μ a kf = nI l.length ∧ l.length ≤ n ∧ n ≤ 10 ∧ ∀ j, j < l.length → μ g j = l.getD j 0
def RwOk (lo hi : Int32) (l : List Int32) : Prop := ∀ v ∈ l, ¬ v < lo ∧ ¬ hi < v
/-- a number told to a row: the row then, the answer -/
def tl (lo hi : Int32) (n : Nat) (l : List Int32) (v : Int32) : List Int32 × Int32 := if v < lo ∨ hi < v ∨ n ≤ l.length then (l, -1) else (l ++ [v], nI (l.length + 1))
def tl0 (lo hi : Int32) (n : Nat) (l : List Int32) (v : Int32) : List Int32 × Int32 := if v = -1 then ([], 0) else tl lo hi n l v
theorem tl_ok {lo hi : Int32} {n : Nat} {l : List Int32} {v : Int32} (h : RwOk lo hi l) : RwOk lo hi (tl lo hi n l v).1 := by
  unfold tl
  split
  · exact h
  · rename_i hc
    intro w hw
    rcases List.mem_append.mp hw with h1 | h1
    · exact h w h1
    · rw [List.mem_singleton.mp h1]
      exact ⟨fun z => hc (Or.inl z), fun z => hc (Or.inr (Or.inl z))⟩
theorem tl0_ok {lo hi : Int32} {n : Nat} {l : List Int32} {v : Int32} (h : RwOk lo hi l) : RwOk lo hi (tl0 lo hi n l v).1 := by
  unfold tl0
  split
  · intro w hw; exact absurd hw List.not_mem_nil
  · exact tl_ok h
theorem rwC_congr {μ μ' : Mu} {r n : Nat} {lo hi : Int32} {l : List Int32} (h1 : μ' r = μ r) (h2 : μ' (r + 1) = μ (r + 1)) (h : RwC μ r n lo hi l) : RwC μ' r n lo hi l := by
  unfold RwC at *
  rw [h1, h2]; exact h
theorem rw_append {μ : Mu} {r n : Nat} {lo hi : Int32} {l : List Int32} (h : RwC μ r n lo hi l) (v : Int32) : ∃ μ1, Rw_append r n v μ = some ((tl lo hi n l v).2, μ1) ∧ RwC μ1 r n lo hi (tl lo hi n l v).1 := by
  obtain ⟨h0, h1, h3, hl, hn, hv⟩ := id h
  unfold Rw_append tl
  simp only [gF_eq, pF_eq, h0, h1, h3]
  by_cases c1 : v < lo
  · rw [if_pos c1, if_pos (Or.inl c1)]; exact ⟨μ, rfl, h⟩
  rw [if_neg c1]
  by_cases c2 : hi < v
  · rw [if_pos c2, if_pos (Or.inr (Or.inl c2))]; exact ⟨μ, rfl, h⟩
  rw [if_neg c2, if_neg (nI_pos (by omega)), show Int32.ofNat n = nI n from rfl]
  by_cases c3 : n ≤ l.length
  · rw [if_neg (nI_nlt c3 (by omega)), if_pos (Or.inr (Or.inr c3))]; exact ⟨μ, rfl, h⟩
  rw [if_pos (nI_lt (show l.length < n by omega) (by omega)), if_neg (by rintro (z | z | z); exact c1 z; exact c2 z; exact c3 z), stA_nI (by omega) (by omega)]
  have e3 : up2 μ (r + 1) l.length v r 3 = nI l.length := by rw [up2_off (Or.inl (by omega)), h3]
  rw [e3, nI_1, up2_same]
  refine ⟨_, rfl, ?_⟩
  refine ⟨?_, ?_, ?_, ?_, hn, fun j hj => ?_⟩
  · rw [up2_off (Or.inr (by omega)), up2_off (Or.inl (by omega)), h0]
  · rw [up2_off (Or.inr (by omega)), up2_off (Or.inl (by omega)), h1]
  · rw [up2_same, List.length_append]; rfl
  · rw [List.length_append]; simp; omega
  · rw [up2_off (Or.inl (by omega))]
    rw [List.length_append] at hj
    simp at hj
    by_cases e : j = l.length
    · subst e; rw [up2_same]; simp
    · rw [up2_off (Or.inr e), hv j (by omega), List.getD_eq_getElem?_getD, List.getD_eq_getElem?_getD, List.getElem?_append_left (by omega)]
theorem rw_clear {μ : Mu} {r n : Nat} {lo hi : Int32} {l : List Int32} (h : RwC μ r n lo hi l) : ∃ μ1, Rw_clear r n μ = some (0, μ1) ∧ RwC μ1 r n lo hi [] := by
  obtain ⟨h0, h1, h3, hl, hn, hv⟩ := id h
  unfold Rw_clear
  simp only [gF_eq, pF_eq, up2_same]
  refine ⟨_, rfl, ?_, ?_, ?_, by simp, hn, fun j hj => absurd hj (by simp)⟩
  · rw [up2_off (Or.inr (by omega)), h0]
  · rw [up2_off (Or.inr (by omega)), h1]
  · rw [up2_same]; rfl
theorem rw_tell {μ : Mu} {r n : Nat} {lo hi : Int32} {l : List Int32} (h : RwC μ r n lo hi l) (v : Int32) : ∃ μ1, Rw_tell r n v μ = some ((tl0 lo hi n l v).2, μ1) ∧ RwC μ1 r n lo hi (tl0 lo hi n l v).1 := by
  unfold Rw_tell tl0
  by_cases c : v = -1
  · rw [if_pos c, if_pos c]
    obtain ⟨μ1, e, h1⟩ := rw_clear h
    rw [e, cl_eq]; exact ⟨μ1, rfl, h1⟩
  · rw [if_neg c, if_neg c]
    obtain ⟨μ1, e, h1⟩ := rw_append h v
    rw [e, cl_eq]; exact ⟨μ1, rfl, h1⟩
theorem rw_at {μ : Mu} {r n : Nat} {lo hi : Int32} {l : List Int32} (h : RwC μ r n lo hi l) (j : Nat) (hj : j < l.length) : Rw_at r n (nI j) μ = some (l.getD j 0, μ) := by
  obtain ⟨h0, h1, h3, hl, hn, hv⟩ := id h
  unfold Rw_at
  rw [if_neg (nI_pos (by omega)), gF_eq, h3, if_neg (nI_ge hj (by omega)), show Int32.ofNat n = nI n from rfl, if_neg (nI_ge (by omega) (by omega)), ldA_nI (by omega) (by omega), hv j hj]
theorem rw_takes {μ : Mu} {r n : Nat} {lo hi : Int32} {l : List Int32} (h : RwC μ r n lo hi l) (v : Int32) : Rw_takes r n v μ = some (if v < lo ∨ hi < v ∨ n ≤ l.length then 0 else 1, μ) := by
  obtain ⟨h0, h1, h3, hl, hn, hv⟩ := id h
  unfold Rw_takes
  simp only [gF_eq, h0, h1, h3]
  by_cases c1 : v < lo
  · rw [if_pos c1, if_pos (Or.inl c1)]
  rw [if_neg c1]
  by_cases c2 : hi < v
  · rw [if_pos c2, if_pos (Or.inr (Or.inl c2))]
  rw [if_neg c2, show Int32.ofNat n = nI n from rfl]
  by_cases c3 : n ≤ l.length
  · rw [if_pos (nI_le c3 (by omega)), if_pos (Or.inr (Or.inr c3))]
  · rw [if_neg (nI_ge (by omega) (by omega)), if_neg (by rintro (z | z | z); exact c1 z; exact c2 z; exact c3 z)]
theorem rw_has {μ : Mu} {r n : Nat} {lo hi : Int32} {l : List Int32} (h : RwC μ r n lo hi l) (v : Int32) : Rw_has r n v μ = some (if v < 0 ∨ nI l.length ≤ v then 0 else 1, μ) := by
  obtain ⟨h0, h1, h3, hl, hn, hv⟩ := id h
  unfold Rw_has
  rw [gF_eq, h3]
  by_cases c1 : v < 0
  · rw [if_pos c1, if_pos (Or.inl c1)]
  rw [if_neg c1]
  by_cases c2 : nI l.length ≤ v
  · rw [if_pos c2, if_pos (Or.inr c2)]
  · rw [if_neg c2, if_neg (by rintro (z | z); exact c1 z; exact c2 z)]
theorem within_eq (v a b : Int32) (μ : Mu) : Sf_within v a b μ = some (if v < a ∨ b < v then 0 else 1, μ) := by
  unfold Sf_within
  by_cases c1 : v < a
  · rw [if_pos c1, if_pos (Or.inl c1)]
  · by_cases c2 : b < v
    · rw [if_neg c1, if_pos c2, if_pos (Or.inr c2)]
    · rw [if_neg c1, if_neg c2, if_neg (by rintro (z | z); exact c1 z; exact c2 z)]
theorem isIn_eq (q : Nat) (v a b : Int32) (μ : Mu) : Mo_isIn q v a b μ = some (if v < a ∨ b < v then 0 else 1, μ) := by
  unfold Mo_isIn
  by_cases c1 : v < a
  · rw [if_pos c1, if_pos (Or.inl c1)]
  · by_cases c2 : b < v
    · rw [if_neg c1, if_pos c2, if_pos (Or.inr c2)]
    · rw [if_neg c1, if_neg c2, if_neg (by rintro (z | z); exact c1 z; exact c2 z)]
