/-! L3: TELLING ROWS, the reference's side and both -/
def MoTell (a kf g n : Nat) (lo hi : Int32) (v : Int32) (μ : Mu) : Option (Int32 × Mu) := pF μ a 0 0 (fun μ1 => (if v = ((-1)) then pF μ1 a kf 0 (fun μ10 => some (0, μ10)) else cl (Mo_isIn a v lo hi μ1) (fun x3 μ2 => (if x3 = 0 then some ((-1), μ2) else gF μ2 a kf (fun x4 => (if x4 = Int32.ofNat n then some ((-1), μ2) else gF μ2 a kf (fun x5 => stA μ2 g n x5 v (fun μ6 => gF μ6 a kf (fun x7 => pF μ6 a kf (x7 + 1) (fun μ8 => gF μ8 a kf (fun x9 => some (x9, μ8))))))))))))
theorem mo_weight (a : Nat) (v : Int32) (μ : Mu) : Mo_weight a v μ = MoTell a 45 (a + 24) 6 1 60 v μ := rfl
theorem mo_drip (a : Nat) (v : Int32) (μ : Mu) : Mo_drip a v μ = MoTell a 51 (a + 29) 6 2 30 v μ := rfl
theorem mo_heap (a : Nat) (v : Int32) (μ : Mu) : Mo_heap a v μ = MoTell a 61 (a + 36) 8 0 99 v μ := rfl
theorem tl_in {lo hi : Int32} {n : Nat} {l : List Int32} {v : Int32} (c : v < lo ∨ hi < v ∨ n ≤ l.length) : tl lo hi n l v = (l, -1) := if_pos c
theorem tl_out {lo hi : Int32} {n : Nat} {l : List Int32} {v : Int32} (c1 : ¬ (v < lo ∨ hi < v)) (c2 : ¬ n ≤ l.length) : tl lo hi n l v = (l ++ [v], nI (l.length + 1)) := if_neg (fun z => z.elim (fun z => c1 (Or.inl z)) (fun z => z.elim (fun z => c1 (Or.inr z)) c2))
theorem rwM_congr {μ μ' : Mu} {a kf g n : Nat} {l : List Int32} (h1 : μ' a kf = μ a kf) (h2 : μ' g = μ g) (h : RwM μ a kf g n l) : RwM μ' a kf g n l := by
  unfold RwM at *
  rw [h1, h2]; exact h
theorem rwM_push {μ : Mu} {a kf g n : Nat} {l : List Int32} {v : Int32} (hg : g ≠ a) (h : RwM μ a kf g n l) (hl : l.length < n) : RwM (up2 (up2 μ g l.length v) a kf (nI (l.length + 1))) a kf g n (l ++ [v]) := by
  obtain ⟨h1, h2, h3, h4⟩ := h
  refine ⟨?_, ?_, h3, fun j hj => ?_⟩
  · rw [up2_same, List.length_append]; rfl
  · rw [List.length_append]; simp; omega
  · rw [up2_off (Or.inl hg)]
    rw [List.length_append] at hj
    simp at hj
    by_cases e : j = l.length
    · subst e; rw [up2_same]; simp
    · rw [up2_off (Or.inr e), h4 j (by omega), List.getD_eq_getElem?_getD, List.getD_eq_getElem?_getD, List.getElem?_append_left (by omega)]
theorem mo_tell {μ : Mu} {a kf g n : Nat} {l : List Int32} {lo hi : Int32} (hk : kf ≠ 0) (hg : g ≠ a) (h : RwM μ a kf g n l) (v : Int32) : ∃ μ1, MoTell a kf g n lo hi v μ = some ((tl0 lo hi n l v).2, μ1) ∧ RwM μ1 a kf g n (tl0 lo hi n l v).1 := by
  have h' : RwM (up2 μ a 0 0) a kf g n l := rwM_congr (up2_off (Or.inr hk)) (up2_ne hg) h
  unfold MoTell tl0
  rw [pF_eq]
  generalize up2 μ a 0 0 = μ1 at h' ⊢
  obtain ⟨h1, h2, h3, h4⟩ := id h'
  by_cases c : v = -1
  · rw [if_pos c, if_pos c, pF_eq]
    exact ⟨_, rfl, by rw [up2_same]; rfl, by simp, h3, fun j hj => absurd hj (by simp)⟩
  rw [if_neg c, if_neg c, isIn_eq, cl_eq]
  by_cases c1 : v < lo ∨ hi < v
  · rw [if_pos c1, if_pos rfl, tl_in (by rcases c1 with z | z; exact Or.inl z; exact Or.inr (Or.inl z))]
    exact ⟨_, rfl, h'⟩
  rw [if_neg c1, if_neg (show ¬ (1 : Int32) = 0 by decide), gF_eq, h1, show Int32.ofNat n = nI n from rfl]
  by_cases c2 : n ≤ l.length
  · rw [if_pos ((nI_eq (by omega) (by omega)).mpr (by omega)), tl_in (Or.inr (Or.inr c2))]
    exact ⟨_, rfl, h'⟩
  rw [if_neg (fun z => c2 (by have := (nI_eq (by omega) (by omega)).mp z; omega)), tl_out c1 c2, gF_eq, h1, stA_nI (by omega) (by omega), gF_eq]
  have e3 : up2 μ1 g l.length v a kf = nI l.length := by rw [up2_off (Or.inl (Ne.symm hg)), h1]
  rw [e3, pF_eq, gF_eq, nI_1, up2_same]
  exact ⟨_, rfl, rwM_push hg h' (by omega)⟩
/-- row(which, v): the reference's two rows in one -/
theorem mo_row0 {μ : Mu} {a : Nat} {l : List Int32} (h : RwM μ (a + 26) 0 (a + 27) 10 l) (v : Int32) : ∃ μ1, Mo_row a 0 v μ = some ((tl0 0 9 10 l v).2, μ1) ∧ RwM μ1 (a + 26) 0 (a + 27) 10 (tl0 0 9 10 l v).1 ∧ μ1 (a + 26) 1 = μ (a + 26) 1 ∧ ∀ j, 10 ≤ j → μ1 (a + 27) j = μ (a + 27) j := by
  have h' : RwM (up2 μ a 0 0) (a + 26) 0 (a + 27) 10 l := rwM_congr (by rw [up2_ne (by omega)]) (up2_ne (by omega)) h
  have f1 : (up2 μ a 0 0) (a + 26) 1 = μ (a + 26) 1 := by rw [up2_ne (by omega)]
  have f2 : (up2 μ a 0 0) (a + 27) = μ (a + 27) := up2_ne (by omega)
  unfold Mo_row tl0
  rw [pF_eq, ← f1, ← f2]
  generalize up2 μ a 0 0 = μ1 at h' ⊢
  obtain ⟨h1, h2, h3, h4⟩ := id h'
  rw [isIn_eq, cl_eq, if_neg (show ¬ ((0 : Int32) < 0 ∨ (1 : Int32) < 0) by decide), if_neg (show ¬ (1 : Int32) = 0 by decide)]
  by_cases c : v = -1
  · rw [if_pos c, if_pos c, stA_at 0 nI_0.symm (by omega) (by omega)]
    exact ⟨_, rfl, ⟨by rw [up2_same]; rfl, by simp, h3, fun j hj => absurd hj (by simp)⟩, up2_off (Or.inr (by omega)), fun j _ => by rw [up2_off (Or.inl (by omega))]⟩
  rw [if_neg c, if_neg c, isIn_eq, cl_eq]
  by_cases c1 : v < 0 ∨ 9 < v
  · rw [if_pos c1, if_pos rfl, tl_in (by rcases c1 with z | z; exact Or.inl z; exact Or.inr (Or.inl z))]
    exact ⟨_, rfl, h', rfl, fun _ _ => rfl⟩
  rw [if_neg c1, if_neg (show ¬ (1 : Int32) = 0 by decide), ldA_at 0 nI_0.symm (by omega) (by omega), h1]
  by_cases c2 : 10 ≤ l.length
  · rw [if_pos (show nI l.length = 10 by rw [show l.length = 10 by omega]; rfl), tl_in (Or.inr (Or.inr c2))]
    exact ⟨_, rfl, h', rfl, fun _ _ => rfl⟩
  rw [if_neg (fun z : nI l.length = 10 => c2 (by have := (nI_eq (a := l.length) (b := 10) (by omega) (by omega)).mp z; omega)), tl_out c1 c2, ldA_at 0 nI_0.symm (by omega) (by omega), h1]
  rw [stA_at l.length (by show (10 : Int32) * 0 + nI l.length = _; rw [show (10 : Int32) * 0 = nI 0 by decide, nI_add]; congr 1; omega) (by omega) (by omega), ldA_at 0 nI_0.symm (by omega) (by omega)]
  have e3 : up2 μ1 (a + 27) l.length v (a + 26) 0 = nI l.length := by rw [up2_off (Or.inl (by omega)), h1]
  rw [e3, stA_at 0 nI_0.symm (by omega) (by omega), ldA_at 0 nI_0.symm (by omega) (by omega), nI_1, up2_same]
  exact ⟨_, rfl, rwM_push (by omega) h' (by omega), by rw [up2_off (Or.inr (by omega)), up2_off (Or.inl (by omega))], fun j hj => by rw [up2_off (Or.inl (by omega)), up2_off (Or.inr (by omega))]⟩
